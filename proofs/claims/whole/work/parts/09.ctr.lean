theorem cpy_va (n : Nat) (f h : zF) : va_cpy f h 0 0 n = cpy n f h := by
  funext k
  simp [va_cpy, cpy]
theorem min_self (n : Nat) : i_min (nI n) (nI n) = nI n := by
  unfold i_min
  split <;> rfl
set_option maxHeartbeats 4000000 in
set_option maxRecDepth 100000 in
theorem c_X7_copyRow (l : Launch) (g : zG) (h1 : Nat) (n : Nat) (hn : n < 2 ^ 31) (f1 : zF) (h2 : Nat) (f2 : zF) (r : zF) (h : f_X7_copyRow n f1 f2 = r) : Ctr l g true yX7_copyRow cX7_copyRow 2 none 1 40 0 0 [.ref h1, .ref h2] ([[(h1, .inl (g.2.1, n, .inl f1))], [(h2, .inl (g.2.1, n, .inl f2))]]) ([[(h1, .inl (g.2.1, n, .inl f1))], [(h2, .inl (g.2.1, n, .inl r))]]) none := by
  refine ctr_of (by decide) (Nat.le_of_ble_eq_true rfl) (fun X hl _ _ _ hQ => ?_)
  unfold f_X7_copyRow at h
  refine z_lv (lv' := [(0, .ref h1), (1, .ref h2)]) [0, 1] rfl ?_
  refine z_aload_n 0 rfl rfl dX7_copyRow_0 ?_
  refine z_iconst (v := 0) (by decide) dX7_copyRow_1 ?_
  refine z_aload_n 1 rfl rfl dX7_copyRow_2 ?_
  refine z_iconst (v := 0) (by decide) dX7_copyRow_3 ?_
  refine z_aload_n 0 rfl rfl dX7_copyRow_4 ?_
  refine z_alen 0 rfl 0 rfl (v := nI n) rfl dX7_copyRow_5 ?_
  refine z_aload_n 1 rfl rfl dX7_copyRow_6 ?_
  refine z_alen 1 rfl 0 rfl (v := nI n) rfl dX7_copyRow_7 ?_
  refine z_mmin zlX7_301 ⟨Nat.le_of_ble_eq_true rfl, Nat.le_of_ble_eq_true rfl⟩ ⟨Nat.zero_le _, Nat.zero_le _⟩ dX7_copyRow_8 ?_
  rw [min_self]
  subst h
  refine z_acopy (w' := [[(h1, .inl (g.2.1, n, .inl f1))], [(h2, .inl (g.2.1, n, .inl (cpy n f1 f2)))]]) zlX7_306 hn 0 0 1 0 rfl rfl rfl rfl (by rw [cpy_va]; rfl) ⟨Nat.le_of_ble_eq_true rfl, Nat.le_of_ble_eq_true rfl⟩ dX7_copyRow_11 ?_
  exact z_vret dX7_copyRow_14 hQ
set_option maxHeartbeats 400000 in
set_option maxRecDepth 100000 in
theorem c_X0_copyFrom (l : Launch) (g : zG) (a : Nat → Nat) (u : tX0) (b : Nat → Nat) (v : tX0) (r : tX0) (h : f_X0_copyFrom u v = some r) : Ctr l g true yX0_copyFrom cX0_copyFrom 2 none 2 61 0 0 [.ref (a 0), .ref (b 0)] ([cX0 g a u, cX0 g b v]) ([cX0 g a r, cX0 g b v]) none := by
  refine ctr_of (by decide) (Nat.le_of_ble_eq_true rfl) (fun X hl _ _ _ hQ => ?_)
  unfold f_X0_copyFrom at h
  refine z_lv (lv' := [(0, .ref (a 0)), (1, .ref (b 0))]) [0, 1] rfl ?_
  refine z_aload_n 1 rfl rfl dX0_copyFrom_0 ?_
  refine z_get zcX0 1 rfl 0 rfl 0 (Nat.le_of_ble_eq_true rfl) zfX0_9 (v := .ref (b 1)) rfl dX0_copyFrom_1 ?_
  refine z_aload_n 0 rfl rfl dX0_copyFrom_4 ?_
  refine z_get zcX0 0 rfl 0 rfl 0 (Nat.le_of_ble_eq_true rfl) zfX0_9 (v := .ref (a 1)) rfl dX0_copyFrom_5 ?_
  obtain ⟨r1, er1, h⟩ := zb h
  refine z_callNW (rest := []) hl (c_X7_copyRow l g (b 1) 12 (by decide) v.1 (a 1) u.1 _ (Option.some.inj er1)) zyX7_copyRow zsX7_copyRow zlX0_18 [(1, some (1, 1)), (0, some (1, 1))] rfl (by decide) rfl (w' := [dX0 g a r1 u.2, cX0 g b v]) rfl rfl rfl (by decide) (Nat.le_of_ble_eq_true rfl) ⟨Nat.zero_le _, Nat.zero_le _⟩ dX0_copyFrom_8 (st2 := []) rfl ?_
  refine z_aload_n 1 rfl rfl dX0_copyFrom_11 ?_
  refine z_get zcX0 1 rfl 0 rfl 1 (Nat.le_of_ble_eq_true rfl) zfX0_15 (v := .ref (b 2)) rfl dX0_copyFrom_12 ?_
  refine z_aload_n 0 rfl rfl dX0_copyFrom_15 ?_
  refine z_get zcX0 0 rfl 0 rfl 1 (Nat.le_of_ble_eq_true rfl) zfX0_15 (v := .ref (a 2)) rfl dX0_copyFrom_16 ?_
  obtain ⟨r2, er2, h⟩ := zb h
  refine z_callNW (rest := []) hl (c_X7_copyRow l g (b 2) 12 (by decide) v.2 (a 2) u.2 _ (Option.some.inj er2)) zyX7_copyRow zsX7_copyRow zlX0_18 [(1, some (2, 1)), (0, some (2, 1))] rfl (by decide) rfl (w' := [dX0 g a r1 r2, cX0 g b v]) rfl rfl rfl (by decide) (Nat.le_of_ble_eq_true rfl) ⟨Nat.zero_le _, Nat.zero_le _⟩ dX0_copyFrom_19 (st2 := []) rfl ?_
  cases h
  exact z_vret dX0_copyFrom_22 hQ
set_option maxHeartbeats 400000 in
set_option maxRecDepth 100000 in
theorem c_X3_copyFrom (l : Launch) (g : zG) (a : Nat → Nat) (u : tX3) (b : Nat → Nat) (v : tX3) (r : tX3) (h : f_X3_copyFrom u v = some r) : Ctr l g true yX3_copyFrom cX3_copyFrom 2 none 2 61 0 0 [.ref (a 0), .ref (b 0)] ([cX3 g a u, cX3 g b v]) ([cX3 g a r, cX3 g b v]) none := by
  refine ctr_of (by decide) (Nat.le_of_ble_eq_true rfl) (fun X hl _ _ _ hQ => ?_)
  unfold f_X3_copyFrom at h
  refine z_lv (lv' := [(0, .ref (a 0)), (1, .ref (b 0))]) [0, 1] rfl ?_
  refine z_aload_n 1 rfl rfl dX3_copyFrom_0 ?_
  refine z_get zcX3 1 rfl 0 rfl 0 (Nat.le_of_ble_eq_true rfl) zfX3_9 (v := .ref (b 1)) rfl dX3_copyFrom_1 ?_
  refine z_aload_n 0 rfl rfl dX3_copyFrom_4 ?_
  refine z_get zcX3 0 rfl 0 rfl 0 (Nat.le_of_ble_eq_true rfl) zfX3_9 (v := .ref (a 1)) rfl dX3_copyFrom_5 ?_
  obtain ⟨r1, er1, h⟩ := zb h
  refine z_callNW (rest := []) hl (c_X7_copyRow l g (b 1) 40 (by decide) v.1 (a 1) u.1 _ (Option.some.inj er1)) zyX7_copyRow zsX7_copyRow zlX3_21 [(1, some (1, 1)), (0, some (1, 1))] rfl (by decide) rfl (w' := [dX3 g a r1 u.2.1 u.2.2.1 u.2.2.2.1 u.2.2.2.2, cX3 g b v]) rfl rfl rfl (by decide) (Nat.le_of_ble_eq_true rfl) ⟨Nat.zero_le _, Nat.zero_le _⟩ dX3_copyFrom_8 (st2 := []) rfl ?_
  refine z_aload_n 1 rfl rfl dX3_copyFrom_11 ?_
  refine z_get zcX3 1 rfl 0 rfl 1 (Nat.le_of_ble_eq_true rfl) zfX3_15 (v := .ref (b 2)) rfl dX3_copyFrom_12 ?_
  refine z_aload_n 0 rfl rfl dX3_copyFrom_15 ?_
  refine z_get zcX3 0 rfl 0 rfl 1 (Nat.le_of_ble_eq_true rfl) zfX3_15 (v := .ref (a 2)) rfl dX3_copyFrom_16 ?_
  obtain ⟨r2, er2, h⟩ := zb h
  refine z_callNW (rest := []) hl (c_X7_copyRow l g (b 2) 40 (by decide) v.2.1 (a 2) u.2.1 _ (Option.some.inj er2)) zyX7_copyRow zsX7_copyRow zlX3_21 [(1, some (2, 1)), (0, some (2, 1))] rfl (by decide) rfl (w' := [dX3 g a r1 r2 u.2.2.1 u.2.2.2.1 u.2.2.2.2, cX3 g b v]) rfl rfl rfl (by decide) (Nat.le_of_ble_eq_true rfl) ⟨Nat.zero_le _, Nat.zero_le _⟩ dX3_copyFrom_19 (st2 := []) rfl ?_
  refine z_aload_n 1 rfl rfl dX3_copyFrom_22 ?_
  refine z_get zcX3 1 rfl 0 rfl 2 (Nat.le_of_ble_eq_true rfl) zfX3_18 (v := .ref (b 3)) rfl dX3_copyFrom_23 ?_
  refine z_aload_n 0 rfl rfl dX3_copyFrom_26 ?_
  refine z_get zcX3 0 rfl 0 rfl 2 (Nat.le_of_ble_eq_true rfl) zfX3_18 (v := .ref (a 3)) rfl dX3_copyFrom_27 ?_
  obtain ⟨r3, er3, h⟩ := zb h
  refine z_callNW (rest := []) hl (c_X7_copyRow l g (b 3) 40 (by decide) v.2.2.1 (a 3) u.2.2.1 _ (Option.some.inj er3)) zyX7_copyRow zsX7_copyRow zlX3_21 [(1, some (3, 1)), (0, some (3, 1))] rfl (by decide) rfl (w' := [dX3 g a r1 r2 r3 u.2.2.2.1 u.2.2.2.2, cX3 g b v]) rfl rfl rfl (by decide) (Nat.le_of_ble_eq_true rfl) ⟨Nat.zero_le _, Nat.zero_le _⟩ dX3_copyFrom_30 (st2 := []) rfl ?_
  refine z_aload_n 0 rfl rfl dX3_copyFrom_33 ?_
  refine z_aload_n 1 rfl rfl dX3_copyFrom_34 ?_
  refine z_get zcX3 1 rfl 0 rfl 3 (Nat.le_of_ble_eq_true rfl) zfX3_25 (v := .int v.2.2.2.1) rfl dX3_copyFrom_35 ?_
  refine z_put (t := .int) ([dX3 g a r1 r2 r3 v.2.2.2.1 u.2.2.2.2, cX3 g b v]) zcX3 0 rfl 0 rfl 3 (Nat.le_of_ble_eq_true rfl) zfX3_25 zpX3_3 (zn_i _) (zf_i _) (Nat.le_of_ble_eq_true rfl) rfl dX3_copyFrom_38 ?_
  refine z_aload_n 0 rfl rfl dX3_copyFrom_41 ?_
  refine z_aload_n 1 rfl rfl dX3_copyFrom_42 ?_
  refine z_get zcX3 1 rfl 0 rfl 4 (Nat.le_of_ble_eq_true rfl) zfX3_29 (v := .int v.2.2.2.2) rfl dX3_copyFrom_43 ?_
  refine z_put (t := .int) ([dX3 g a r1 r2 r3 v.2.2.2.1 v.2.2.2.2, cX3 g b v]) zcX3 0 rfl 0 rfl 4 (Nat.le_of_ble_eq_true rfl) zfX3_29 zpX3_4 (zn_i _) (zf_i _) (Nat.le_of_ble_eq_true rfl) rfl dX3_copyFrom_46 ?_
  cases h
  exact z_vret dX3_copyFrom_49 hQ
set_option maxHeartbeats 400000 in
set_option maxRecDepth 100000 in
theorem c_X6_copyFrom (l : Launch) (g : zG) (a : Nat → Nat) (u : tX6) (b : Nat → Nat) (v : tX6) (r : tX6) (h : f_X6_copyFrom u v = some r) : Ctr l g true yX6_copyFrom cX6_copyFrom 2 none 3 82 0 0 [.ref (a 0), .ref (b 0)] ([cX6 g a u, cX6 g b v]) ([cX6 g a r, cX6 g b v]) none := by
  refine ctr_of (by decide) (Nat.le_of_ble_eq_true rfl) (fun X hl _ _ _ hQ => ?_)
  unfold f_X6_copyFrom at h
  refine z_lv (lv' := [(0, .ref (a 0)), (1, .ref (b 0))]) [0, 1] rfl ?_
  refine z_aload_n 0 rfl rfl dX6_copyFrom_0 ?_
  refine z_get zcX6 0 rfl 0 rfl 0 (Nat.le_of_ble_eq_true rfl) zfX6_12 (v := .ref (a 1)) rfl dX6_copyFrom_1 ?_
  refine z_aload_n 1 rfl rfl dX6_copyFrom_4 ?_
  refine z_get zcX6 1 rfl 0 rfl 0 (Nat.le_of_ble_eq_true rfl) zfX6_12 (v := .ref (b 1)) rfl dX6_copyFrom_5 ?_
  obtain ⟨r1, er1, h⟩ := zb h
  refine z_callVW (rest := []) hl (c_X0_copyFrom l g (fun i => a (i + 1)) u.1 (fun i => b (i + 1)) v.1 _ er1) zyX0_copyFrom zvX0_copyFrom rfl zlX6_40 zcX0.1 ⟨_, _, rfl⟩ [(0, some (1, 3)), (1, some (1, 3))] rfl (by decide) rfl (w' := [dX6 g a r1.1 r1.2 u.2.1.1 u.2.1.2.1 u.2.1.2.2.1 u.2.1.2.2.2.1 u.2.1.2.2.2.2 u.2.2.1 u.2.2.2.1 u.2.2.2.2.1 u.2.2.2.2.2.1 u.2.2.2.2.2.2.1 u.2.2.2.2.2.2.2.1 u.2.2.2.2.2.2.2.2, cX6 g b v]) rfl rfl rfl (by decide) (Nat.le_of_ble_eq_true rfl) ⟨Nat.zero_le _, Nat.zero_le _⟩ dX6_copyFrom_8 (st2 := []) rfl ?_
  refine z_aload_n 0 rfl rfl dX6_copyFrom_11 ?_
  refine z_get zcX6 0 rfl 0 rfl 1 (Nat.le_of_ble_eq_true rfl) zfX6_21 (v := .ref (a 4)) rfl dX6_copyFrom_12 ?_
  refine z_aload_n 1 rfl rfl dX6_copyFrom_15 ?_
  refine z_get zcX6 1 rfl 0 rfl 1 (Nat.le_of_ble_eq_true rfl) zfX6_21 (v := .ref (b 4)) rfl dX6_copyFrom_16 ?_
  obtain ⟨r2, er2, h⟩ := zb h
  refine z_callVW (rest := []) hl (c_X3_copyFrom l g (fun i => a (i + 4)) u.2.1 (fun i => b (i + 4)) v.2.1 _ er2) zyX3_copyFrom zvX3_copyFrom rfl zlX6_44 zcX3.1 ⟨_, _, rfl⟩ [(0, some (4, 4)), (1, some (4, 4))] rfl (by decide) rfl (w' := [dX6 g a r1.1 r1.2 r2.1 r2.2.1 r2.2.2.1 r2.2.2.2.1 r2.2.2.2.2 u.2.2.1 u.2.2.2.1 u.2.2.2.2.1 u.2.2.2.2.2.1 u.2.2.2.2.2.2.1 u.2.2.2.2.2.2.2.1 u.2.2.2.2.2.2.2.2, cX6 g b v]) rfl rfl rfl (by decide) (Nat.le_of_ble_eq_true rfl) ⟨Nat.zero_le _, Nat.zero_le _⟩ dX6_copyFrom_19 (st2 := []) rfl ?_
  refine z_aload_n 1 rfl rfl dX6_copyFrom_22 ?_
  refine z_get zcX6 1 rfl 0 rfl 2 (Nat.le_of_ble_eq_true rfl) zfX6_25 (v := .ref (b 8)) rfl dX6_copyFrom_23 ?_
  refine z_aload_n 0 rfl rfl dX6_copyFrom_26 ?_
  refine z_get zcX6 0 rfl 0 rfl 2 (Nat.le_of_ble_eq_true rfl) zfX6_25 (v := .ref (a 8)) rfl dX6_copyFrom_27 ?_
  obtain ⟨r3, er3, h⟩ := zb h
  refine z_callNW (rest := []) hl (c_X7_copyRow l g (b 8) 12 (by decide) v.2.2.1 (a 8) u.2.2.1 _ (Option.some.inj er3)) zyX7_copyRow zsX7_copyRow zlX6_47 [(1, some (8, 1)), (0, some (8, 1))] rfl (by decide) rfl (w' := [dX6 g a r1.1 r1.2 r2.1 r2.2.1 r2.2.2.1 r2.2.2.2.1 r2.2.2.2.2 r3 u.2.2.2.1 u.2.2.2.2.1 u.2.2.2.2.2.1 u.2.2.2.2.2.2.1 u.2.2.2.2.2.2.2.1 u.2.2.2.2.2.2.2.2, cX6 g b v]) rfl rfl rfl (by decide) (Nat.le_of_ble_eq_true rfl) ⟨Nat.zero_le _, Nat.zero_le _⟩ dX6_copyFrom_30 (st2 := []) rfl ?_
  refine z_aload_n 1 rfl rfl dX6_copyFrom_33 ?_
  refine z_get zcX6 1 rfl 0 rfl 3 (Nat.le_of_ble_eq_true rfl) zfX6_37 (v := .ref (b 9)) rfl dX6_copyFrom_34 ?_
  refine z_aload_n 0 rfl rfl dX6_copyFrom_37 ?_
  refine z_get zcX6 0 rfl 0 rfl 3 (Nat.le_of_ble_eq_true rfl) zfX6_37 (v := .ref (a 9)) rfl dX6_copyFrom_38 ?_
  obtain ⟨r4, er4, h⟩ := zb h
  refine z_callNW (rest := []) hl (c_X7_copyRow l g (b 9) 3 (by decide) v.2.2.2.1 (a 9) u.2.2.2.1 _ (Option.some.inj er4)) zyX7_copyRow zsX7_copyRow zlX6_47 [(1, some (9, 1)), (0, some (9, 1))] rfl (by decide) rfl (w' := [dX6 g a r1.1 r1.2 r2.1 r2.2.1 r2.2.2.1 r2.2.2.2.1 r2.2.2.2.2 r3 r4 u.2.2.2.2.1 u.2.2.2.2.2.1 u.2.2.2.2.2.2.1 u.2.2.2.2.2.2.2.1 u.2.2.2.2.2.2.2.2, cX6 g b v]) rfl rfl rfl (by decide) (Nat.le_of_ble_eq_true rfl) ⟨Nat.zero_le _, Nat.zero_le _⟩ dX6_copyFrom_41 (st2 := []) rfl ?_
  refine z_aload_n 0 rfl rfl dX6_copyFrom_44 ?_
  refine z_aload_n 1 rfl rfl dX6_copyFrom_45 ?_
  refine z_get zcX6 1 rfl 0 rfl 4 (Nat.le_of_ble_eq_true rfl) zfX6_51 (v := .int v.2.2.2.2.1) rfl dX6_copyFrom_46 ?_
  refine z_put (t := .int) ([dX6 g a r1.1 r1.2 r2.1 r2.2.1 r2.2.2.1 r2.2.2.2.1 r2.2.2.2.2 r3 r4 v.2.2.2.2.1 u.2.2.2.2.2.1 u.2.2.2.2.2.2.1 u.2.2.2.2.2.2.2.1 u.2.2.2.2.2.2.2.2, cX6 g b v]) zcX6 0 rfl 0 rfl 4 (Nat.le_of_ble_eq_true rfl) zfX6_51 zpX6_4 (zn_i _) (zf_i _) (Nat.le_of_ble_eq_true rfl) rfl dX6_copyFrom_49 ?_
  refine z_aload_n 0 rfl rfl dX6_copyFrom_52 ?_
  refine z_aload_n 1 rfl rfl dX6_copyFrom_53 ?_
  refine z_get zcX6 1 rfl 0 rfl 5 (Nat.le_of_ble_eq_true rfl) zfX6_55 (v := .int v.2.2.2.2.2.1) rfl dX6_copyFrom_54 ?_
  refine z_put (t := .int) ([dX6 g a r1.1 r1.2 r2.1 r2.2.1 r2.2.2.1 r2.2.2.2.1 r2.2.2.2.2 r3 r4 v.2.2.2.2.1 v.2.2.2.2.2.1 u.2.2.2.2.2.2.1 u.2.2.2.2.2.2.2.1 u.2.2.2.2.2.2.2.2, cX6 g b v]) zcX6 0 rfl 0 rfl 5 (Nat.le_of_ble_eq_true rfl) zfX6_55 zpX6_5 (zn_i _) (zf_i _) (Nat.le_of_ble_eq_true rfl) rfl dX6_copyFrom_57 ?_
  refine z_aload_n 0 rfl rfl dX6_copyFrom_60 ?_
  refine z_aload_n 1 rfl rfl dX6_copyFrom_61 ?_
  refine z_get zcX6 1 rfl 0 rfl 6 (Nat.le_of_ble_eq_true rfl) zfX6_58 (v := .int v.2.2.2.2.2.2.1) rfl dX6_copyFrom_62 ?_
  refine z_put (t := .int) ([dX6 g a r1.1 r1.2 r2.1 r2.2.1 r2.2.2.1 r2.2.2.2.1 r2.2.2.2.2 r3 r4 v.2.2.2.2.1 v.2.2.2.2.2.1 v.2.2.2.2.2.2.1 u.2.2.2.2.2.2.2.1 u.2.2.2.2.2.2.2.2, cX6 g b v]) zcX6 0 rfl 0 rfl 6 (Nat.le_of_ble_eq_true rfl) zfX6_58 zpX6_6 (zn_i _) (zf_i _) (Nat.le_of_ble_eq_true rfl) rfl dX6_copyFrom_65 ?_
  refine z_aload_n 0 rfl rfl dX6_copyFrom_68 ?_
  refine z_aload_n 1 rfl rfl dX6_copyFrom_69 ?_
  refine z_get zcX6 1 rfl 0 rfl 7 (Nat.le_of_ble_eq_true rfl) zfX6_61 (v := .int v.2.2.2.2.2.2.2.1) rfl dX6_copyFrom_70 ?_
  refine z_put (t := .int) ([dX6 g a r1.1 r1.2 r2.1 r2.2.1 r2.2.2.1 r2.2.2.2.1 r2.2.2.2.2 r3 r4 v.2.2.2.2.1 v.2.2.2.2.2.1 v.2.2.2.2.2.2.1 v.2.2.2.2.2.2.2.1 u.2.2.2.2.2.2.2.2, cX6 g b v]) zcX6 0 rfl 0 rfl 7 (Nat.le_of_ble_eq_true rfl) zfX6_61 zpX6_7 (zn_i _) (zf_i _) (Nat.le_of_ble_eq_true rfl) rfl dX6_copyFrom_73 ?_
  refine z_aload_n 0 rfl rfl dX6_copyFrom_76 ?_
  refine z_aload_n 1 rfl rfl dX6_copyFrom_77 ?_
  refine z_get zcX6 1 rfl 0 rfl 8 (Nat.le_of_ble_eq_true rfl) zfX6_64 (v := .int v.2.2.2.2.2.2.2.2) rfl dX6_copyFrom_78 ?_
  refine z_put (t := .int) ([dX6 g a r1.1 r1.2 r2.1 r2.2.1 r2.2.2.1 r2.2.2.2.1 r2.2.2.2.2 r3 r4 v.2.2.2.2.1 v.2.2.2.2.2.1 v.2.2.2.2.2.2.1 v.2.2.2.2.2.2.2.1 v.2.2.2.2.2.2.2.2, cX6 g b v]) zcX6 0 rfl 0 rfl 8 (Nat.le_of_ble_eq_true rfl) zfX6_64 zpX6_8 (zn_i _) (zf_i _) (Nat.le_of_ble_eq_true rfl) rfl dX6_copyFrom_81 ?_
  cases h
  exact z_vret dX6_copyFrom_84 hQ
set_option maxHeartbeats 4000000 in
set_option maxRecDepth 100000 in
theorem c_X2_stateAt (l : Launch) (g : zG) (a : Nat → Nat) (u : tX2) (p0 : Int32) (r : Nat) (h : f_X2_stateAt u p0 = some r) : Ctr l g false yX2_stateAt cX2_stateAt 3 (some (.object "DrawerRing$State")) 0 0 0 0 [.ref (a 0), .int p0] (kX2 g a u) (kX2 g a u) (some (.ref (a (2 + 10 * r)))) := by
  refine ctr_of (by decide) (Nat.le_of_ble_eq_true rfl) (fun X hl _ _ _ hQ => ?_)
  unfold f_X2_stateAt at h
  refine z_lv (lv' := [(0, .ref (a 0)), (1, .int p0)]) [0, 1] rfl ?_
  refine z_aload_n 0 rfl rfl dX2_stateAt_0 ?_
  refine z_get zcX2 0 rfl 0 rfl 1 (Nat.le_of_ble_eq_true rfl) zfX2_22 (v := .int u.2.1) rfl dX2_stateAt_1 ?_
  refine z_iload_n 1 rfl rfl dX2_stateAt_4 ?_
  refine z_iadd dX2_stateAt_5 ?_
  refine z_bipush (v := 6) (by decide) dX2_stateAt_6 ?_
  refine z_irem (by decide) dX2_stateAt_8 ?_
  refine z_istore_n [(2, .int (i_rem (u.2.1 + p0) 6)), (0, .ref (a 0)), (1, .int p0)] rfl (Nat.le_of_ble_eq_true rfl) rfl dX2_stateAt_9 ?_
  refine z_iload_n 0 rfl rfl dX2_stateAt_10 ?_
  refine z_if_lt (tgt := 32) rfl dX2_stateAt_11 (fun c11 => ?_) (fun c11 => ?_)
  · replace h := (if_pos c11).symm.trans h
    cases h
  · replace h := (if_neg c11).symm.trans h
    refine z_iload_n 0 rfl rfl dX2_stateAt_14 ?_
    refine z_aload_n 1 rfl rfl dX2_stateAt_15 ?_
    refine z_get zcX2 0 rfl 0 rfl 0 (Nat.le_of_ble_eq_true rfl) zfX2_11 (v := .ref (a 1)) rfl dX2_stateAt_16 ?_
    refine z_alenS 0 rfl 1 rfl (v := 6) (by decide) dX2_stateAt_19 ?_
    refine z_icmp_ge (tgt := 32) rfl dX2_stateAt_20 (fun c20 => ?_) (fun c20 => ?_)
    · replace h := (if_pos c20).symm.trans h
      cases h
    · replace h := (if_neg c20).symm.trans h
      refine z_aload_n 1 rfl rfl dX2_stateAt_23 ?_
      refine z_get zcX2 0 rfl 0 rfl 0 (Nat.le_of_ble_eq_true rfl) zfX2_11 (v := .ref (a 1)) rfl dX2_stateAt_24 ?_
      refine z_iload_n 0 rfl rfl dX2_stateAt_27 ?_
      refine z_aald 0 rfl 1 rfl (v := .ref (a (2 + 10 * (i_rem (u.2.1 + p0) 6).toNatClampNeg))) (zin (n := 6) c11 c20 (by decide)) rfl dX2_stateAt_28 ?_
      refine z_goto (tgt := 33) rfl dX2_stateAt_29 ?_
      cases h
      exact z_aret dX2_stateAt_33 hQ
set_option maxHeartbeats 400000 in
set_option maxRecDepth 100000 in
theorem c_X2_keep (l : Launch) (g : zG) (a : Nat → Nat) (u : tX2) (b : Nat → Nat) (v : tX6) (r : tX2) (h : f_X2_keep u v = some r) : Ctr l g true yX2_keep cX2_keep 3 none 4 103 0 0 [.ref (a 0), .ref (b 0)] (kX2 g a u ++ [cX6 g b v]) (kX2 g a r ++ [cX6 g b v]) none := by
  refine ctr_of (by decide) (Nat.le_of_ble_eq_true rfl) (fun X hl _ _ _ hQ => ?_)
  unfold f_X2_keep at h
  refine z_lv (lv' := [(0, .ref (a 0)), (1, .ref (b 0))]) [0, 1] rfl ?_
  refine z_aload_n 0 rfl rfl dX2_keep_0 ?_
  refine z_get zcX2 0 rfl 0 rfl 2 (Nat.le_of_ble_eq_true rfl) zfX2_18 (v := .int u.2.2) rfl dX2_keep_1 ?_
  refine z_bipush (v := 6) (by decide) dX2_keep_4 ?_
  obtain ⟨j1, ej1, h⟩ := zb h
  have Kj1 : Z true RX2 cX2_keep 3 4 103 g X 0 0 (kX2 g a (u.1, j1.1, j1.2) ++ [cX6 g b v]) [(0, .ref (a 0)), (1, .ref (b 0))] 32 [] := by
    refine z_aload_n 0 rfl rfl dX2_keep_32 ?_
    refine z_aload_n 0 rfl rfl dX2_keep_33 ?_
    refine z_get zcX2 0 rfl 0 rfl 2 (Nat.le_of_ble_eq_true rfl) zfX2_18 (v := .int j1.2) rfl dX2_keep_34 ?_
    obtain ⟨r2, er2, h⟩ := zb h
    refine z_callVR (rest := []) hl (c_X2_stateAt l g a (u.1, j1.1, j1.2) j1.2 _ er2) zyX2_stateAt zvX2_stateAt rfl zlX2_25 zcX2.1 ⟨_, _, rfl⟩ [(0, none), (1, none), (2, none), (3, none), (4, none), (5, none), (6, none)] rfl rfl rfl (by decide) (Nat.le_of_ble_eq_true rfl) ⟨Nat.zero_le _, Nat.zero_le _⟩ dX2_keep_37 (st2 := [.ref (a (2 + 10 * r2))]) rfl ?_
    refine z_astore_n [(2, .ref (a (2 + 10 * r2))), (0, .ref (a 0)), (1, .ref (b 0))] rfl (Nat.le_of_ble_eq_true rfl) rfl dX2_keep_40 ?_
    refine z_aload_n 0 rfl rfl dX2_keep_41 ?_
    refine z_ifnull dX2_keep_42 ?_
    refine z_aload_n 0 rfl rfl dX2_keep_45 ?_
    refine z_aload_n 2 rfl rfl dX2_keep_46 ?_
    have or2 : r2 = 0 ∨ r2 = 1 ∨ r2 = 2 ∨ r2 = 3 ∨ r2 = 4 ∨ r2 = 5 := by have := stateAt_lt er2; omega
    rcases or2 with rfl | rfl | rfl | rfl | rfl | rfl
    · obtain ⟨r3, er3, h⟩ := zb h
      refine z_callVW (rest := []) hl (c_X6_copyFrom l g (fun i => a (i + 2)) (u.1 0) b v _ er3) zyX6_copyFrom zvX6_copyFrom rfl zlX2_29 zcX6.1 ⟨_, _, rfl⟩ [(1, none), (7, none)] rfl (by decide) rfl (w' := kX2 g a ((zup u.1 0 r3), j1.1, j1.2) ++ [cX6 g b v]) rfl rfl rfl (by decide) (Nat.le_of_ble_eq_true rfl) ⟨Nat.zero_le _, Nat.zero_le _⟩ dX2_keep_47 (st2 := []) rfl ?_
      refine z_aload_n 1 rfl rfl dX2_keep_50 ?_
      refine z_dup rfl dX2_keep_51 ?_
      refine z_get zcX2 0 rfl 0 rfl 2 (Nat.le_of_ble_eq_true rfl) zfX2_18 (v := .int j1.2) rfl dX2_keep_52 ?_
      refine z_iconst (v := 1) (by decide) dX2_keep_55 ?_
      refine z_iadd dX2_keep_56 ?_
      refine z_put (t := .int) (kX2 g a ((zup u.1 0 r3), j1.1, (j1.2 + 1)) ++ [cX6 g b v]) zcX2 0 rfl 0 rfl 2 (Nat.le_of_ble_eq_true rfl) zfX2_18 zpX2_2 (zn_i _) (zf_i _) (Nat.le_of_ble_eq_true rfl) rfl dX2_keep_57 ?_
      cases h
      exact z_vret dX2_keep_60 hQ
    · obtain ⟨r3, er3, h⟩ := zb h
      refine z_callVW (rest := []) hl (c_X6_copyFrom l g (fun i => a (i + 12)) (u.1 1) b v _ er3) zyX6_copyFrom zvX6_copyFrom rfl zlX2_29 zcX6.1 ⟨_, _, rfl⟩ [(2, none), (7, none)] rfl (by decide) rfl (w' := kX2 g a ((zup u.1 1 r3), j1.1, j1.2) ++ [cX6 g b v]) rfl rfl rfl (by decide) (Nat.le_of_ble_eq_true rfl) ⟨Nat.zero_le _, Nat.zero_le _⟩ dX2_keep_47 (st2 := []) rfl ?_
      refine z_aload_n 1 rfl rfl dX2_keep_50 ?_
      refine z_dup rfl dX2_keep_51 ?_
      refine z_get zcX2 0 rfl 0 rfl 2 (Nat.le_of_ble_eq_true rfl) zfX2_18 (v := .int j1.2) rfl dX2_keep_52 ?_
      refine z_iconst (v := 1) (by decide) dX2_keep_55 ?_
      refine z_iadd dX2_keep_56 ?_
      refine z_put (t := .int) (kX2 g a ((zup u.1 1 r3), j1.1, (j1.2 + 1)) ++ [cX6 g b v]) zcX2 0 rfl 0 rfl 2 (Nat.le_of_ble_eq_true rfl) zfX2_18 zpX2_2 (zn_i _) (zf_i _) (Nat.le_of_ble_eq_true rfl) rfl dX2_keep_57 ?_
      cases h
      exact z_vret dX2_keep_60 hQ
    · obtain ⟨r3, er3, h⟩ := zb h
      refine z_callVW (rest := []) hl (c_X6_copyFrom l g (fun i => a (i + 22)) (u.1 2) b v _ er3) zyX6_copyFrom zvX6_copyFrom rfl zlX2_29 zcX6.1 ⟨_, _, rfl⟩ [(3, none), (7, none)] rfl (by decide) rfl (w' := kX2 g a ((zup u.1 2 r3), j1.1, j1.2) ++ [cX6 g b v]) rfl rfl rfl (by decide) (Nat.le_of_ble_eq_true rfl) ⟨Nat.zero_le _, Nat.zero_le _⟩ dX2_keep_47 (st2 := []) rfl ?_
      refine z_aload_n 1 rfl rfl dX2_keep_50 ?_
      refine z_dup rfl dX2_keep_51 ?_
      refine z_get zcX2 0 rfl 0 rfl 2 (Nat.le_of_ble_eq_true rfl) zfX2_18 (v := .int j1.2) rfl dX2_keep_52 ?_
      refine z_iconst (v := 1) (by decide) dX2_keep_55 ?_
      refine z_iadd dX2_keep_56 ?_
      refine z_put (t := .int) (kX2 g a ((zup u.1 2 r3), j1.1, (j1.2 + 1)) ++ [cX6 g b v]) zcX2 0 rfl 0 rfl 2 (Nat.le_of_ble_eq_true rfl) zfX2_18 zpX2_2 (zn_i _) (zf_i _) (Nat.le_of_ble_eq_true rfl) rfl dX2_keep_57 ?_
      cases h
      exact z_vret dX2_keep_60 hQ
    · obtain ⟨r3, er3, h⟩ := zb h
      refine z_callVW (rest := []) hl (c_X6_copyFrom l g (fun i => a (i + 32)) (u.1 3) b v _ er3) zyX6_copyFrom zvX6_copyFrom rfl zlX2_29 zcX6.1 ⟨_, _, rfl⟩ [(4, none), (7, none)] rfl (by decide) rfl (w' := kX2 g a ((zup u.1 3 r3), j1.1, j1.2) ++ [cX6 g b v]) rfl rfl rfl (by decide) (Nat.le_of_ble_eq_true rfl) ⟨Nat.zero_le _, Nat.zero_le _⟩ dX2_keep_47 (st2 := []) rfl ?_
      refine z_aload_n 1 rfl rfl dX2_keep_50 ?_
      refine z_dup rfl dX2_keep_51 ?_
      refine z_get zcX2 0 rfl 0 rfl 2 (Nat.le_of_ble_eq_true rfl) zfX2_18 (v := .int j1.2) rfl dX2_keep_52 ?_
      refine z_iconst (v := 1) (by decide) dX2_keep_55 ?_
      refine z_iadd dX2_keep_56 ?_
      refine z_put (t := .int) (kX2 g a ((zup u.1 3 r3), j1.1, (j1.2 + 1)) ++ [cX6 g b v]) zcX2 0 rfl 0 rfl 2 (Nat.le_of_ble_eq_true rfl) zfX2_18 zpX2_2 (zn_i _) (zf_i _) (Nat.le_of_ble_eq_true rfl) rfl dX2_keep_57 ?_
      cases h
      exact z_vret dX2_keep_60 hQ
    · obtain ⟨r3, er3, h⟩ := zb h
      refine z_callVW (rest := []) hl (c_X6_copyFrom l g (fun i => a (i + 42)) (u.1 4) b v _ er3) zyX6_copyFrom zvX6_copyFrom rfl zlX2_29 zcX6.1 ⟨_, _, rfl⟩ [(5, none), (7, none)] rfl (by decide) rfl (w' := kX2 g a ((zup u.1 4 r3), j1.1, j1.2) ++ [cX6 g b v]) rfl rfl rfl (by decide) (Nat.le_of_ble_eq_true rfl) ⟨Nat.zero_le _, Nat.zero_le _⟩ dX2_keep_47 (st2 := []) rfl ?_
      refine z_aload_n 1 rfl rfl dX2_keep_50 ?_
      refine z_dup rfl dX2_keep_51 ?_
      refine z_get zcX2 0 rfl 0 rfl 2 (Nat.le_of_ble_eq_true rfl) zfX2_18 (v := .int j1.2) rfl dX2_keep_52 ?_
      refine z_iconst (v := 1) (by decide) dX2_keep_55 ?_
      refine z_iadd dX2_keep_56 ?_
      refine z_put (t := .int) (kX2 g a ((zup u.1 4 r3), j1.1, (j1.2 + 1)) ++ [cX6 g b v]) zcX2 0 rfl 0 rfl 2 (Nat.le_of_ble_eq_true rfl) zfX2_18 zpX2_2 (zn_i _) (zf_i _) (Nat.le_of_ble_eq_true rfl) rfl dX2_keep_57 ?_
      cases h
      exact z_vret dX2_keep_60 hQ
    · obtain ⟨r3, er3, h⟩ := zb h
      refine z_callVW (rest := []) hl (c_X6_copyFrom l g (fun i => a (i + 52)) (u.1 5) b v _ er3) zyX6_copyFrom zvX6_copyFrom rfl zlX2_29 zcX6.1 ⟨_, _, rfl⟩ [(6, none), (7, none)] rfl (by decide) rfl (w' := kX2 g a ((zup u.1 5 r3), j1.1, j1.2) ++ [cX6 g b v]) rfl rfl rfl (by decide) (Nat.le_of_ble_eq_true rfl) ⟨Nat.zero_le _, Nat.zero_le _⟩ dX2_keep_47 (st2 := []) rfl ?_
      refine z_aload_n 1 rfl rfl dX2_keep_50 ?_
      refine z_dup rfl dX2_keep_51 ?_
      refine z_get zcX2 0 rfl 0 rfl 2 (Nat.le_of_ble_eq_true rfl) zfX2_18 (v := .int j1.2) rfl dX2_keep_52 ?_
      refine z_iconst (v := 1) (by decide) dX2_keep_55 ?_
      refine z_iadd dX2_keep_56 ?_
      refine z_put (t := .int) (kX2 g a ((zup u.1 5 r3), j1.1, (j1.2 + 1)) ++ [cX6 g b v]) zcX2 0 rfl 0 rfl 2 (Nat.le_of_ble_eq_true rfl) zfX2_18 zpX2_2 (zn_i _) (zf_i _) (Nat.le_of_ble_eq_true rfl) rfl dX2_keep_57 ?_
      cases h
      exact z_vret dX2_keep_60 hQ
  clear h
  refine z_icmp_ne (tgt := 32) rfl dX2_keep_6 (fun c6 => ?_) (fun c6 => ?_)
  · replace ej1 := (if_neg c6).symm.trans ej1
    cases ej1
    try dsimp only at Kj1
    exact z_lv [0, 1] rfl Kj1
  · replace ej1 := (if_pos c6).symm.trans ej1
    refine z_aload_n 0 rfl rfl dX2_keep_9 ?_
    refine z_aload_n 0 rfl rfl dX2_keep_10 ?_
    refine z_get zcX2 0 rfl 0 rfl 1 (Nat.le_of_ble_eq_true rfl) zfX2_22 (v := .int u.2.1) rfl dX2_keep_11 ?_
    refine z_iconst (v := 1) (by decide) dX2_keep_14 ?_
    refine z_iadd dX2_keep_15 ?_
    refine z_bipush (v := 6) (by decide) dX2_keep_16 ?_
    refine z_irem (by decide) dX2_keep_18 ?_
    refine z_put (t := .int) (kX2 g a (u.1, (i_rem (u.2.1 + 1) 6), u.2.2) ++ [cX6 g b v]) zcX2 0 rfl 0 rfl 1 (Nat.le_of_ble_eq_true rfl) zfX2_22 zpX2_1 (zn_i _) (zf_i _) (Nat.le_of_ble_eq_true rfl) rfl dX2_keep_19 ?_
    refine z_aload_n 0 rfl rfl dX2_keep_22 ?_
    refine z_dup rfl dX2_keep_23 ?_
    refine z_get zcX2 0 rfl 0 rfl 2 (Nat.le_of_ble_eq_true rfl) zfX2_18 (v := .int u.2.2) rfl dX2_keep_24 ?_
    refine z_iconst (v := 1) (by decide) dX2_keep_27 ?_
    refine z_isub dX2_keep_28 ?_
    refine z_put (t := .int) (kX2 g a (u.1, (i_rem (u.2.1 + 1) 6), (u.2.2 - 1)) ++ [cX6 g b v]) zcX2 0 rfl 0 rfl 2 (Nat.le_of_ble_eq_true rfl) zfX2_18 zpX2_2 (zn_i _) (zf_i _) (Nat.le_of_ble_eq_true rfl) rfl dX2_keep_29 ?_
    cases ej1
    try dsimp only at Kj1
    exact z_lv [0, 1] rfl Kj1
set_option maxHeartbeats 400000 in
set_option maxRecDepth 100000 in
theorem c_X2_restoreTo (l : Launch) (g : zG) (a : Nat → Nat) (u : tX2) (b : Nat → Nat) (v : tX6) (r : tX2 × tX6) (h : f_X2_restoreTo u v = some r) : Ctr l g true yX2_restoreTo cX2_restoreTo 3 none 4 103 0 0 [.ref (a 0), .ref (b 0)] (kX2 g a u ++ [cX6 g b v]) (kX2 g a r.1 ++ [cX6 g b r.2]) none := by
  refine ctr_of (by decide) (Nat.le_of_ble_eq_true rfl) (fun X hl _ _ _ hQ => ?_)
  unfold f_X2_restoreTo at h
  refine z_lv (lv' := [(0, .ref (a 0)), (1, .ref (b 0))]) [0, 1] rfl ?_
  refine z_aload_n 0 rfl rfl dX2_restoreTo_0 ?_
  refine z_dup rfl dX2_restoreTo_1 ?_
  refine z_get zcX2 0 rfl 0 rfl 2 (Nat.le_of_ble_eq_true rfl) zfX2_18 (v := .int u.2.2) rfl dX2_restoreTo_2 ?_
  refine z_iconst (v := 1) (by decide) dX2_restoreTo_5 ?_
  refine z_isub dX2_restoreTo_6 ?_
  refine z_put (t := .int) (kX2 g a (u.1, u.2.1, (u.2.2 - 1)) ++ [cX6 g b v]) zcX2 0 rfl 0 rfl 2 (Nat.le_of_ble_eq_true rfl) zfX2_18 zpX2_2 (zn_i _) (zf_i _) (Nat.le_of_ble_eq_true rfl) rfl dX2_restoreTo_7 ?_
  refine z_aload_n 0 rfl rfl dX2_restoreTo_10 ?_
  refine z_aload_n 0 rfl rfl dX2_restoreTo_11 ?_
  refine z_get zcX2 0 rfl 0 rfl 2 (Nat.le_of_ble_eq_true rfl) zfX2_18 (v := .int (u.2.2 - 1)) rfl dX2_restoreTo_12 ?_
  obtain ⟨r1, er1, h⟩ := zb h
  refine z_callVR (rest := []) hl (c_X2_stateAt l g a (u.1, u.2.1, (u.2.2 - 1)) (u.2.2 - 1) _ er1) zyX2_stateAt zvX2_stateAt rfl zlX2_25 zcX2.1 ⟨_, _, rfl⟩ [(0, none), (1, none), (2, none), (3, none), (4, none), (5, none), (6, none)] rfl rfl rfl (by decide) (Nat.le_of_ble_eq_true rfl) ⟨Nat.zero_le _, Nat.zero_le _⟩ dX2_restoreTo_15 (st2 := [.ref (a (2 + 10 * r1))]) rfl ?_
  refine z_astore_n [(2, .ref (a (2 + 10 * r1))), (0, .ref (a 0)), (1, .ref (b 0))] rfl (Nat.le_of_ble_eq_true rfl) rfl dX2_restoreTo_18 ?_
  refine z_aload_n 0 rfl rfl dX2_restoreTo_19 ?_
  refine z_ifnull dX2_restoreTo_20 ?_
  refine z_aload_n 2 rfl rfl dX2_restoreTo_23 ?_
  refine z_aload_n 0 rfl rfl dX2_restoreTo_24 ?_
  have or1 : r1 = 0 ∨ r1 = 1 ∨ r1 = 2 ∨ r1 = 3 ∨ r1 = 4 ∨ r1 = 5 := by have := stateAt_lt er1; omega
  rcases or1 with rfl | rfl | rfl | rfl | rfl | rfl
  · obtain ⟨r2, er2, h⟩ := zb h
    refine z_callVW (rest := []) hl (c_X6_copyFrom l g b v (fun i => a (i + 2)) (u.1 0) _ er2) zyX6_copyFrom zvX6_copyFrom rfl zlX2_29 zcX6.1 ⟨_, _, rfl⟩ [(7, none), (1, none)] rfl (by decide) rfl (w' := kX2 g a (u.1, u.2.1, (u.2.2 - 1)) ++ [cX6 g b r2]) rfl rfl rfl (by decide) (Nat.le_of_ble_eq_true rfl) ⟨Nat.zero_le _, Nat.zero_le _⟩ dX2_restoreTo_25 (st2 := []) rfl ?_
    cases h
    try dsimp only at hQ
    exact z_vret dX2_restoreTo_28 hQ
  · obtain ⟨r2, er2, h⟩ := zb h
    refine z_callVW (rest := []) hl (c_X6_copyFrom l g b v (fun i => a (i + 12)) (u.1 1) _ er2) zyX6_copyFrom zvX6_copyFrom rfl zlX2_29 zcX6.1 ⟨_, _, rfl⟩ [(7, none), (2, none)] rfl (by decide) rfl (w' := kX2 g a (u.1, u.2.1, (u.2.2 - 1)) ++ [cX6 g b r2]) rfl rfl rfl (by decide) (Nat.le_of_ble_eq_true rfl) ⟨Nat.zero_le _, Nat.zero_le _⟩ dX2_restoreTo_25 (st2 := []) rfl ?_
    cases h
    try dsimp only at hQ
    exact z_vret dX2_restoreTo_28 hQ
  · obtain ⟨r2, er2, h⟩ := zb h
    refine z_callVW (rest := []) hl (c_X6_copyFrom l g b v (fun i => a (i + 22)) (u.1 2) _ er2) zyX6_copyFrom zvX6_copyFrom rfl zlX2_29 zcX6.1 ⟨_, _, rfl⟩ [(7, none), (3, none)] rfl (by decide) rfl (w' := kX2 g a (u.1, u.2.1, (u.2.2 - 1)) ++ [cX6 g b r2]) rfl rfl rfl (by decide) (Nat.le_of_ble_eq_true rfl) ⟨Nat.zero_le _, Nat.zero_le _⟩ dX2_restoreTo_25 (st2 := []) rfl ?_
    cases h
    try dsimp only at hQ
    exact z_vret dX2_restoreTo_28 hQ
  · obtain ⟨r2, er2, h⟩ := zb h
    refine z_callVW (rest := []) hl (c_X6_copyFrom l g b v (fun i => a (i + 32)) (u.1 3) _ er2) zyX6_copyFrom zvX6_copyFrom rfl zlX2_29 zcX6.1 ⟨_, _, rfl⟩ [(7, none), (4, none)] rfl (by decide) rfl (w' := kX2 g a (u.1, u.2.1, (u.2.2 - 1)) ++ [cX6 g b r2]) rfl rfl rfl (by decide) (Nat.le_of_ble_eq_true rfl) ⟨Nat.zero_le _, Nat.zero_le _⟩ dX2_restoreTo_25 (st2 := []) rfl ?_
    cases h
    try dsimp only at hQ
    exact z_vret dX2_restoreTo_28 hQ
  · obtain ⟨r2, er2, h⟩ := zb h
    refine z_callVW (rest := []) hl (c_X6_copyFrom l g b v (fun i => a (i + 42)) (u.1 4) _ er2) zyX6_copyFrom zvX6_copyFrom rfl zlX2_29 zcX6.1 ⟨_, _, rfl⟩ [(7, none), (5, none)] rfl (by decide) rfl (w' := kX2 g a (u.1, u.2.1, (u.2.2 - 1)) ++ [cX6 g b r2]) rfl rfl rfl (by decide) (Nat.le_of_ble_eq_true rfl) ⟨Nat.zero_le _, Nat.zero_le _⟩ dX2_restoreTo_25 (st2 := []) rfl ?_
    cases h
    try dsimp only at hQ
    exact z_vret dX2_restoreTo_28 hQ
  · obtain ⟨r2, er2, h⟩ := zb h
    refine z_callVW (rest := []) hl (c_X6_copyFrom l g b v (fun i => a (i + 52)) (u.1 5) _ er2) zyX6_copyFrom zvX6_copyFrom rfl zlX2_29 zcX6.1 ⟨_, _, rfl⟩ [(7, none), (6, none)] rfl (by decide) rfl (w' := kX2 g a (u.1, u.2.1, (u.2.2 - 1)) ++ [cX6 g b r2]) rfl rfl rfl (by decide) (Nat.le_of_ble_eq_true rfl) ⟨Nat.zero_le _, Nat.zero_le _⟩ dX2_restoreTo_25 (st2 := []) rfl ?_
    cases h
    try dsimp only at hQ
    exact z_vret dX2_restoreTo_28 hQ
set_option maxHeartbeats 400000 in
set_option maxRecDepth 100000 in
theorem c_X4_indexOf (l : Launch) (g : zG) (p0 : Int32) (p1 : Int32) (r : Int32) (h : f_X4_indexOf p0 p1 = r) : Ctr l g false yX4_indexOf cX4_indexOf 2 (some .int) 0 0 0 0 [.int p0, .int p1] ([]) ([]) (some (.int r)) := by
  refine ctr_of (by decide) (Nat.le_of_ble_eq_true rfl) (fun X hl _ _ _ hQ => ?_)
  unfold f_X4_indexOf at h
  refine z_lv (lv' := [(0, .int p0), (1, .int p1)]) [0, 1] rfl ?_
  refine z_iload_n 0 rfl rfl dX4_indexOf_0 ?_
  refine z_bipush (v := 6) (by decide) dX4_indexOf_1 ?_
  refine z_imul dX4_indexOf_3 ?_
  refine z_iload_n 1 rfl rfl dX4_indexOf_4 ?_
  refine z_iadd dX4_indexOf_5 ?_
  subst h
  exact z_iret dX4_indexOf_6 hQ
set_option maxHeartbeats 400000 in
set_option maxRecDepth 100000 in
theorem c_X4_stepsBy (l : Launch) (g : zG) (a : Nat → Nat) (u : tX4) (p0 : Int32) (p1 : Int32) (p2 : Int32) (r : Int32) (h : f_X4_stepsBy u p0 p1 p2 = some r) : Ctr l g false yX4_stepsBy cX4_stepsBy 5 (some .int) 2 49 0 0 [.ref (a 0), .int p0, .int p1, .int p2] ([cX4 g a u]) ([cX4 g a u]) (some (.int r)) := by
  refine ctr_of (by decide) (Nat.le_of_ble_eq_true rfl) (fun X hl _ _ _ hQ => ?_)
  unfold f_X4_stepsBy at h
  refine z_lv (lv' := [(0, .ref (a 0)), (1, .int p0), (2, .int p1), (3, .int p2)]) [0, 1, 2, 3] rfl ?_
  refine z_aload_n 0 rfl rfl dX4_stepsBy_0 ?_
  refine z_get zcX4 0 rfl 0 rfl 7 (Nat.le_of_ble_eq_true rfl) zfX4_105 (v := .int u.2.2.2.2.2.2.2) rfl dX4_stepsBy_1 ?_
  refine z_iload_n 3 rfl rfl dX4_stepsBy_4 ?_
  refine z_aload_n 0 rfl rfl dX4_stepsBy_5 ?_
  refine z_get zcX4 0 rfl 0 rfl 2 (Nat.le_of_ble_eq_true rfl) zfX4_22 (v := .ref (a 5)) rfl dX4_stepsBy_6 ?_
  refine z_iload_n 2 rfl rfl dX4_stepsBy_9 ?_
  refine z_callNR (rest := [.int p2, .int u.2.2.2.2.2.2.2]) hl (c_X7_at l g (a 5) 6 (by decide) u.2.2.1 p1 _ rfl) zyX7_at zsX7_at zlX4_50 [(0, some (5, 1))] rfl rfl rfl (by decide) (Nat.le_of_ble_eq_true rfl) ⟨Nat.zero_le _, Nat.zero_le _⟩ dX4_stepsBy_10 (st2 := [.int (f_X7_at 6 u.2.2.1 p1), .int p2, .int u.2.2.2.2.2.2.2]) rfl ?_
  obtain ⟨r1, er1, h⟩ := zb h
  refine z_callNR (rest := []) hl (c_X7_wayOver l g u.2.2.2.2.2.2.2 p2 (f_X7_at 6 u.2.2.1 p1) _ er1) zyX7_wayOver zsX7_wayOver zlX4_116 [] rfl rfl rfl (by decide) (Nat.le_of_ble_eq_true rfl) ⟨Nat.zero_le _, Nat.zero_le _⟩ dX4_stepsBy_13 (st2 := [.int r1]) rfl ?_
  refine z_istore [(4, .int r1), (0, .ref (a 0)), (1, .int p0), (2, .int p1), (3, .int p2)] (Nat.le_of_ble_eq_true rfl) rfl dX4_stepsBy_16 ?_
  refine z_iload 0 rfl dX4_stepsBy_18 ?_
  refine z_bipush (v := 99) (by decide) dX4_stepsBy_20 ?_
  refine z_icmp_ne (tgt := 28) rfl dX4_stepsBy_22 (fun c22 => ?_) (fun c22 => ?_)
  · replace h := (if_neg c22).symm.trans h
    refine z_iload 0 rfl dX4_stepsBy_28 ?_
    refine z_mabs zlX4_119 ⟨Nat.le_of_ble_eq_true rfl, Nat.le_of_ble_eq_true rfl⟩ ⟨Nat.zero_le _, Nat.zero_le _⟩ dX4_stepsBy_30 ?_
    refine z_aload_n 1 rfl rfl dX4_stepsBy_33 ?_
    refine z_get zcX4 0 rfl 0 rfl 4 (Nat.le_of_ble_eq_true rfl) zfX4_28 (v := .ref (a 7)) rfl dX4_stepsBy_34 ?_
    refine z_iload_n 2 rfl rfl dX4_stepsBy_37 ?_
    refine z_iconst (v := 1) (by decide) dX4_stepsBy_38 ?_
    refine z_iload_n 3 rfl rfl dX4_stepsBy_39 ?_
    refine z_ishl dX4_stepsBy_40 ?_
    refine z_ior dX4_stepsBy_41 ?_
    refine z_iload_n 3 rfl rfl dX4_stepsBy_42 ?_
    refine z_callSR (rest := [.ref (a 7), .int (i_abs r1)]) hl (c_X4_indexOf l g (p0 ||| ((1 : Int32) <<< (p1 &&& 31))) p1 _ rfl) zyX4_indexOf zsX4_indexOf zlX4_112 [] rfl rfl rfl (by decide) (Nat.le_of_ble_eq_true rfl) ⟨Nat.zero_le _, Nat.zero_le _⟩ dX4_stepsBy_43 (st2 := [.int (f_X4_indexOf (p0 ||| ((1 : Int32) <<< (p1 &&& 31))) p1), .ref (a 7), .int (i_abs r1)]) rfl ?_
    refine z_callNR (rest := [.int (i_abs r1)]) hl (c_X7_at l g (a 7) 384 (by decide) u.2.2.2.2.1 (f_X4_indexOf (p0 ||| ((1 : Int32) <<< (p1 &&& 31))) p1) _ rfl) zyX7_at zsX7_at zlX4_50 [(0, some (7, 1))] rfl rfl rfl (by decide) (Nat.le_of_ble_eq_true rfl) ⟨Nat.zero_le _, Nat.zero_le _⟩ dX4_stepsBy_46 (st2 := [.int (f_X7_at 384 u.2.2.2.2.1 (f_X4_indexOf (p0 ||| ((1 : Int32) <<< (p1 &&& 31))) p1)), .int (i_abs r1)]) rfl ?_
    refine z_iadd dX4_stepsBy_49 ?_
    cases h
    exact z_iret dX4_stepsBy_50 hQ
  · replace h := (if_pos c22).symm.trans h
    refine z_ldc zkX4_63 dX4_stepsBy_25 ?_
    cases h
    exact z_iret dX4_stepsBy_27 hQ
set_option maxHeartbeats 400000 in
set_option maxRecDepth 100000 in
theorem c_X4_weighNext (l : Launch) (g : zG) (a : Nat → Nat) (u : tX4) (p0 : Int32) (p1 : Int32) (p2 : Int32) (r : tX4) (h : f_X4_weighNext u p0 p1 p2 = some r) : Ctr l g true yX4_weighNext cX4_weighNext 8 none 3 73 0 0 [.ref (a 0), .int p0, .int p1, .int p2] ([cX4 g a u]) ([cX4 g a r]) none := by
  refine ctr_of (by decide) (Nat.le_of_ble_eq_true rfl) (fun X hl _ _ _ hQ => ?_)
  unfold f_X4_weighNext at h
  refine z_lv (lv' := [(0, .ref (a 0)), (1, .int p0), (2, .int p1), (3, .int p2)]) [0, 1, 2, 3] rfl ?_
  refine z_iload_n 1 rfl rfl dX4_weighNext_0 ?_
  refine z_iconst (v := 1) (by decide) dX4_weighNext_1 ?_
  refine z_aload_n 0 rfl rfl dX4_weighNext_2 ?_
  refine z_get zcX4 0 rfl 0 rfl 6 (Nat.le_of_ble_eq_true rfl) zfX4_34 (v := .int u.2.2.2.2.2.2.1) rfl dX4_weighNext_3 ?_
  refine z_ishl dX4_weighNext_6 ?_
  refine z_iconst (v := 1) (by decide) dX4_weighNext_7 ?_
  refine z_isub dX4_weighNext_8 ?_
  obtain ⟨j1, ej1, h⟩ := zb h
  have Kj1 : Z true RX4 cX4_weighNext 8 3 73 g X 0 0 ([cX4 g a u]) [(0, .ref (a 0)), (1, .int p0), (2, .int p1), (3, .int p2)] 18 [.int j1] := by
    refine z_istore [(4, .int j1), (0, .ref (a 0)), (1, .int p0), (2, .int p1), (3, .int p2)] (Nat.le_of_ble_eq_true rfl) rfl dX4_weighNext_18 ?_
    refine z_iconst (v := 0) (by decide) dX4_weighNext_20 ?_
    refine z_istore [(5, .int 0), (4, .int j1), (0, .ref (a 0)), (1, .int p0), (2, .int p1), (3, .int p2)] (Nat.le_of_ble_eq_true rfl) rfl dX4_weighNext_21 ?_
    refine z_iconst (v := 0) (by decide) dX4_weighNext_23 ?_
    refine z_istore [(6, .int 0), (5, .int 0), (4, .int j1), (0, .ref (a 0)), (1, .int p0), (2, .int p1), (3, .int p2)] (Nat.le_of_ble_eq_true rfl) rfl dX4_weighNext_24 ?_
    obtain ⟨z2, ez2, h⟩ := zb h
    refine z_lv (lv' := [(0, .ref (a 0)), (1, .int p0), (2, .int p1), (3, .int p2), (4, .int j1), (5, .int 0), (6, .int 0)]) [3, 4, 5, 6, 2, 1, 0] rfl ?_
    suffices hk26 : (fun (s26 : Int32 × Int32 × Int32) => Z true RX4 cX4_weighNext 8 3 73 g X 0 0 ([cX4 g a u]) [(0, .ref (a 0)), (1, .int p0), (2, .int p1), (3, .int p2), (4, .int s26.1), (5, .int s26.2.1), (6, .int s26.2.2)] 26 []) (j1, 0, 0) by try dsimp only at hk26; exact hk26
    refine lp_ind (σ := Int32 × Int32 × Int32) (ε := Int32 × Int32) (b_X4_weighNext_26 u p0 p2) (fun s26 => Z true RX4 cX4_weighNext 8 3 73 g X 0 0 ([cX4 g a u]) [(0, .ref (a 0)), (1, .int p0), (2, .int p1), (3, .int p2), (4, .int s26.1), (5, .int s26.2.1), (6, .int s26.2.2)] 26 []) (fun z2 => Z true RX4 cX4_weighNext 8 3 73 g X 0 0 ([cX4 g a u]) [(0, .ref (a 0)), (1, .int p0), (2, .int p1), (4, .int z2.1), (5, .int z2.2)] 80 []) (fun s26 q26 h26 i26 x26 => ?_) 5000 (j1, 0, 0) z2 ez2 ?_
    · unfold b_X4_weighNext_26 at h26
      refine z_iload 6 rfl dX4_weighNext_26 ?_
      refine z_aload_n 0 rfl rfl dX4_weighNext_28 ?_
      refine z_get zcX4 0 rfl 0 rfl 6 (Nat.le_of_ble_eq_true rfl) zfX4_34 (v := .int u.2.2.2.2.2.2.1) rfl dX4_weighNext_29 ?_
      refine z_icmp_ge (tgt := 80) rfl dX4_weighNext_32 (fun c32 => ?_) (fun c32 => ?_)
      · replace h26 := (if_pos c32).symm.trans h26
        cases h26
        have k26 := x26 (s26.1, s26.2.1) rfl
        try dsimp only at k26
        exact z_lv [0, 1, 2, 4, 5] rfl k26
      · replace h26 := (if_neg c32).symm.trans h26
        refine z_iload_n 1 rfl rfl dX4_weighNext_35 ?_
        refine z_iload 6 rfl dX4_weighNext_36 ?_
        refine z_callNR (rest := []) hl (c_X7_isIn l g p0 s26.2.2 _ rfl) zyX7_isIn zsX7_isIn zlX4_46 [] rfl rfl rfl (by decide) (Nat.le_of_ble_eq_true rfl) ⟨Nat.zero_le _, Nat.zero_le _⟩ dX4_weighNext_38 (st2 := [.int (b2i (f_X7_isIn p0 s26.2.2))]) rfl ?_
        refine z_ifB_eq (tgt := 49) rfl dX4_weighNext_41 (fun c41 => ?_) (fun c41 => ?_)
        · replace h26 := (if_neg c41).symm.trans h26
          refine z_aload_n 0 rfl rfl dX4_weighNext_49 ?_
          refine z_iload_n 1 rfl rfl dX4_weighNext_50 ?_
          refine z_iload 6 rfl dX4_weighNext_51 ?_
          refine z_iload_n 3 rfl rfl dX4_weighNext_53 ?_
          obtain ⟨r3, er3, h26⟩ := zb h26
          refine z_callVR (rest := []) hl (c_X4_stepsBy l g a u p0 s26.2.2 p2 _ er3) zyX4_stepsBy zvX4_stepsBy rfl zlX4_108 zcX4.1 ⟨_, _, rfl⟩ [(0, none)] rfl rfl rfl (by decide) (Nat.le_of_ble_eq_true rfl) ⟨Nat.zero_le _, Nat.zero_le _⟩ dX4_weighNext_54 (st2 := [.int r3]) rfl ?_
          refine z_istore [(7, .int r3), (0, .ref (a 0)), (1, .int p0), (2, .int p1), (3, .int p2), (4, .int s26.1), (5, .int s26.2.1), (6, .int s26.2.2)] (Nat.le_of_ble_eq_true rfl) rfl dX4_weighNext_57 ?_
          refine z_iload 0 rfl dX4_weighNext_59 ?_
          refine z_iload 5 rfl dX4_weighNext_61 ?_
          refine z_icmp_ge (tgt := 74) rfl dX4_weighNext_63 (fun c63 => ?_) (fun c63 => ?_)
          · replace h26 := (if_pos c63).symm.trans h26
            refine z_iinc 7 [(6, .int (s26.2.2 + 1)), (7, .int r3), (0, .ref (a 0)), (1, .int p0), (2, .int p1), (3, .int p2), (4, .int s26.1), (5, .int s26.2.1)] rfl (v := (s26.2.2 + 1)) zinc (Nat.le_of_ble_eq_true rfl) rfl dX4_weighNext_74 ?_
            refine z_goto (tgt := 26) rfl dX4_weighNext_77 ?_
            cases h26
            have k26 := i26 (s26.1, s26.2.1, (s26.2.2 + 1)) rfl
            try dsimp only at k26
            exact z_lv [2, 3, 4, 5, 6, 7, 0] rfl k26
          · replace h26 := (if_neg c63).symm.trans h26
            refine z_iload 0 rfl dX4_weighNext_66 ?_
            refine z_istore [(4, .int r3), (7, .int r3), (0, .ref (a 0)), (1, .int p0), (2, .int p1), (3, .int p2), (5, .int s26.2.1), (6, .int s26.2.2)] (Nat.le_of_ble_eq_true rfl) rfl dX4_weighNext_68 ?_
            refine z_iload 7 rfl dX4_weighNext_70 ?_
            refine z_istore [(5, .int s26.2.2), (4, .int r3), (7, .int r3), (0, .ref (a 0)), (1, .int p0), (2, .int p1), (3, .int p2), (6, .int s26.2.2)] (Nat.le_of_ble_eq_true rfl) rfl dX4_weighNext_72 ?_
            refine z_iinc 7 [(6, .int (s26.2.2 + 1)), (5, .int s26.2.2), (4, .int r3), (7, .int r3), (0, .ref (a 0)), (1, .int p0), (2, .int p1), (3, .int p2)] rfl (v := (s26.2.2 + 1)) zinc (Nat.le_of_ble_eq_true rfl) rfl dX4_weighNext_74 ?_
            refine z_goto (tgt := 26) rfl dX4_weighNext_77 ?_
            cases h26
            have k26 := i26 (r3, s26.2.2, (s26.2.2 + 1)) rfl
            try dsimp only at k26
            exact z_lv [4, 5, 6, 7, 2, 1, 0] rfl k26
        · replace h26 := (if_pos c41).symm.trans h26
          refine z_ldc zkX4_63 dX4_weighNext_44 ?_
          refine z_goto (tgt := 57) rfl dX4_weighNext_46 ?_
          refine z_istore [(7, .int 1000000), (0, .ref (a 0)), (1, .int p0), (2, .int p1), (3, .int p2), (4, .int s26.1), (5, .int s26.2.1), (6, .int s26.2.2)] (Nat.le_of_ble_eq_true rfl) rfl dX4_weighNext_57 ?_
          refine z_iload 0 rfl dX4_weighNext_59 ?_
          refine z_iload 5 rfl dX4_weighNext_61 ?_
          refine z_icmp_ge (tgt := 74) rfl dX4_weighNext_63 (fun c63 => ?_) (fun c63 => ?_)
          · replace h26 := (if_pos c63).symm.trans h26
            refine z_iinc 7 [(6, .int (s26.2.2 + 1)), (7, .int 1000000), (0, .ref (a 0)), (1, .int p0), (2, .int p1), (3, .int p2), (4, .int s26.1), (5, .int s26.2.1)] rfl (v := (s26.2.2 + 1)) zinc (Nat.le_of_ble_eq_true rfl) rfl dX4_weighNext_74 ?_
            refine z_goto (tgt := 26) rfl dX4_weighNext_77 ?_
            cases h26
            have k26 := i26 (s26.1, s26.2.1, (s26.2.2 + 1)) rfl
            try dsimp only at k26
            exact z_lv [2, 3, 4, 5, 6, 7, 0] rfl k26
          · replace h26 := (if_neg c63).symm.trans h26
            refine z_iload 0 rfl dX4_weighNext_66 ?_
            refine z_istore [(4, .int 1000000), (7, .int 1000000), (0, .ref (a 0)), (1, .int p0), (2, .int p1), (3, .int p2), (5, .int s26.2.1), (6, .int s26.2.2)] (Nat.le_of_ble_eq_true rfl) rfl dX4_weighNext_68 ?_
            refine z_iload 7 rfl dX4_weighNext_70 ?_
            refine z_istore [(5, .int s26.2.2), (4, .int 1000000), (7, .int 1000000), (0, .ref (a 0)), (1, .int p0), (2, .int p1), (3, .int p2), (6, .int s26.2.2)] (Nat.le_of_ble_eq_true rfl) rfl dX4_weighNext_72 ?_
            refine z_iinc 7 [(6, .int (s26.2.2 + 1)), (5, .int s26.2.2), (4, .int 1000000), (7, .int 1000000), (0, .ref (a 0)), (1, .int p0), (2, .int p1), (3, .int p2)] rfl (v := (s26.2.2 + 1)) zinc (Nat.le_of_ble_eq_true rfl) rfl dX4_weighNext_74 ?_
            refine z_goto (tgt := 26) rfl dX4_weighNext_77 ?_
            cases h26
            have k26 := i26 (1000000, s26.2.2, (s26.2.2 + 1)) rfl
            try dsimp only at k26
            exact z_lv [4, 5, 6, 7, 2, 1, 0] rfl k26
    · skip
      refine z_aload_n 0 rfl rfl dX4_weighNext_80 ?_
      refine z_get zcX4 0 rfl 0 rfl 4 (Nat.le_of_ble_eq_true rfl) zfX4_28 (v := .ref (a 7)) rfl dX4_weighNext_81 ?_
      refine z_iload_n 1 rfl rfl dX4_weighNext_84 ?_
      refine z_iload_n 2 rfl rfl dX4_weighNext_85 ?_
      refine z_callSR (rest := [.ref (a 7)]) hl (c_X4_indexOf l g p0 p1 _ rfl) zyX4_indexOf zsX4_indexOf zlX4_112 [] rfl rfl rfl (by decide) (Nat.le_of_ble_eq_true rfl) ⟨Nat.zero_le _, Nat.zero_le _⟩ dX4_weighNext_86 (st2 := [.int (f_X4_indexOf p0 p1), .ref (a 7)]) rfl ?_
      refine z_iload 3 rfl dX4_weighNext_89 ?_
      obtain ⟨r4, er4, h⟩ := zb h
      refine z_callNW (rest := []) hl (c_X7_write l g (a 7) 384 (by decide) u.2.2.2.2.1 (f_X4_indexOf p0 p1) z2.1 _ (Option.some.inj er4)) zyX7_write zsX7_write zlX4_83 [(0, some (7, 1))] rfl (by decide) rfl (w' := [dX4 g a u.1 u.2.1.1 u.2.1.2 u.2.2.1 u.2.2.2.1 r4 u.2.2.2.2.2.1 u.2.2.2.2.2.2.1 u.2.2.2.2.2.2.2]) rfl rfl rfl (by decide) (Nat.le_of_ble_eq_true rfl) ⟨Nat.zero_le _, Nat.zero_le _⟩ dX4_weighNext_91 (st2 := []) rfl ?_
      refine z_aload_n 0 rfl rfl dX4_weighNext_94 ?_
      refine z_get zcX4 0 rfl 0 rfl 5 (Nat.le_of_ble_eq_true rfl) zfX4_31 (v := .ref (a 8)) rfl dX4_weighNext_95 ?_
      refine z_iload_n 1 rfl rfl dX4_weighNext_98 ?_
      refine z_iload_n 2 rfl rfl dX4_weighNext_99 ?_
      refine z_callSR (rest := [.ref (a 8)]) hl (c_X4_indexOf l g p0 p1 _ rfl) zyX4_indexOf zsX4_indexOf zlX4_112 [] rfl rfl rfl (by decide) (Nat.le_of_ble_eq_true rfl) ⟨Nat.zero_le _, Nat.zero_le _⟩ dX4_weighNext_100 (st2 := [.int (f_X4_indexOf p0 p1), .ref (a 8)]) rfl ?_
      refine z_iload 4 rfl dX4_weighNext_103 ?_
      obtain ⟨r5, er5, h⟩ := zb h
      refine z_callNW (rest := []) hl (c_X7_write l g (a 8) 384 (by decide) u.2.2.2.2.2.1 (f_X4_indexOf p0 p1) z2.2 _ (Option.some.inj er5)) zyX7_write zsX7_write zlX4_83 [(0, some (8, 1))] rfl (by decide) rfl (w' := [dX4 g a u.1 u.2.1.1 u.2.1.2 u.2.2.1 u.2.2.2.1 r4 r5 u.2.2.2.2.2.2.1 u.2.2.2.2.2.2.2]) rfl rfl rfl (by decide) (Nat.le_of_ble_eq_true rfl) ⟨Nat.zero_le _, Nat.zero_le _⟩ dX4_weighNext_105 (st2 := []) rfl ?_
      cases h
      exact z_vret dX4_weighNext_108 hQ
  clear h
  refine z_icmp_ne (tgt := 16) rfl dX4_weighNext_9 (fun c9 => ?_) (fun c9 => ?_)
  · replace ej1 := (if_neg c9).symm.trans ej1
    refine z_ldc zkX4_63 dX4_weighNext_16 ?_
    cases ej1
    exact z_lv [0, 1, 2, 3] rfl Kj1
  · replace ej1 := (if_pos c9).symm.trans ej1
    refine z_iconst (v := 0) (by decide) dX4_weighNext_12 ?_
    refine z_goto (tgt := 18) rfl dX4_weighNext_13 ?_
    cases ej1
    exact z_lv [0, 1, 2, 3] rfl Kj1
set_option maxHeartbeats 400000 in
set_option maxRecDepth 100000 in
theorem c_X4_takeOut (l : Launch) (g : zG) (a : Nat → Nat) (u : tX4) (b : Nat → Nat) (v : tX6) (p1 : Int32) (r : tX4) (h : f_X4_takeOut u v p1 = some r) : Ctr l g true yX4_takeOut cX4_takeOut 4 none 3 82 0 0 [.ref (a 0), .ref (b 0), .int p1] ([cX4 g a u, cX6 g b v]) ([cX4 g a r, cX6 g b v]) none := by
  refine ctr_of (by decide) (Nat.le_of_ble_eq_true rfl) (fun X hl _ _ _ hQ => ?_)
  unfold f_X4_takeOut at h
  refine z_lv (lv' := [(0, .ref (a 0)), (1, .ref (b 0)), (2, .int p1)]) [0, 1, 2] rfl ?_
  refine z_aload_n 0 rfl rfl dX4_takeOut_0 ?_
  refine z_get zcX4 0 rfl 0 rfl 1 (Nat.le_of_ble_eq_true rfl) zfX4_18 (v := .ref (a 2)) rfl dX4_takeOut_1 ?_
  refine z_aload_n 1 rfl rfl dX4_takeOut_4 ?_
  refine z_get zcX6 1 rfl 0 rfl 0 (Nat.le_of_ble_eq_true rfl) zfX4_88 (v := .ref (b 1)) rfl dX4_takeOut_5 ?_
  obtain ⟨r1, er1, h⟩ := zb h
  refine z_callVW (rest := []) hl (c_X0_copyFrom l g (fun i => a (i + 2)) u.2.1 (fun i => b (i + 1)) v.1 _ er1) zyX0_copyFrom zvX0_copyFrom rfl zlX4_91 zcX0.1 ⟨_, _, rfl⟩ [(0, some (2, 3)), (1, some (1, 3))] rfl (by decide) rfl (w' := [dX4 g a u.1 r1.1 r1.2 u.2.2.1 u.2.2.2.1 u.2.2.2.2.1 u.2.2.2.2.2.1 u.2.2.2.2.2.2.1 u.2.2.2.2.2.2.2, cX6 g b v]) rfl rfl rfl (by decide) (Nat.le_of_ble_eq_true rfl) ⟨Nat.zero_le _, Nat.zero_le _⟩ dX4_takeOut_8 (st2 := []) rfl ?_
  refine z_iconst (v := 0) (by decide) dX4_takeOut_11 ?_
  refine z_istore_n [(3, .int 0), (0, .ref (a 0)), (1, .ref (b 0)), (2, .int p1)] rfl (Nat.le_of_ble_eq_true rfl) rfl dX4_takeOut_12 ?_
  obtain ⟨z2, ez2, h⟩ := zb h
  refine z_lv (lv' := [(0, .ref (a 0)), (1, .ref (b 0)), (2, .int p1), (3, .int 0)]) [1, 2, 3, 0] rfl ?_
  suffices hk13 : (fun (s13 : Int32 × tX0) => Z true RX4 cX4_takeOut 4 3 82 g X 0 0 ([dX4 g a u.1 s13.2.1 s13.2.2 u.2.2.1 u.2.2.2.1 u.2.2.2.2.1 u.2.2.2.2.2.1 u.2.2.2.2.2.2.1 u.2.2.2.2.2.2.2, cX6 g b v]) [(0, .ref (a 0)), (1, .ref (b 0)), (2, .int p1), (3, .int s13.1)] 13 []) (0, r1) by try dsimp only at hk13; exact hk13
  refine lp_ind (σ := Int32 × tX0) (ε := tX0) (b_X4_takeOut_13 u p1) (fun s13 => Z true RX4 cX4_takeOut 4 3 82 g X 0 0 ([dX4 g a u.1 s13.2.1 s13.2.2 u.2.2.1 u.2.2.2.1 u.2.2.2.2.1 u.2.2.2.2.2.1 u.2.2.2.2.2.2.1 u.2.2.2.2.2.2.2, cX6 g b v]) [(0, .ref (a 0)), (1, .ref (b 0)), (2, .int p1), (3, .int s13.1)] 13 []) (fun z2 => Z true RX4 cX4_takeOut 4 3 82 g X 0 0 ([dX4 g a u.1 z2.1 z2.2 u.2.2.1 u.2.2.2.1 u.2.2.2.2.1 u.2.2.2.2.2.1 u.2.2.2.2.2.2.1 u.2.2.2.2.2.2.2, cX6 g b v]) [(0, .ref (a 0)), (1, .ref (b 0))] 59 []) (fun s13 q13 h13 i13 x13 => ?_) 5000 (0, r1) z2 ez2 ?_
  · unfold b_X4_takeOut_13 at h13
    refine z_iload_n 3 rfl rfl dX4_takeOut_13 ?_
    refine z_aload_n 0 rfl rfl dX4_takeOut_14 ?_
    refine z_get zcX4 0 rfl 0 rfl 6 (Nat.le_of_ble_eq_true rfl) zfX4_34 (v := .int u.2.2.2.2.2.2.1) rfl dX4_takeOut_15 ?_
    refine z_icmp_ge (tgt := 59) rfl dX4_takeOut_18 (fun c18 => ?_) (fun c18 => ?_)
    · replace h13 := (if_pos c18).symm.trans h13
      cases h13
      have k13 := x13 s13.2 rfl
      try dsimp only at k13
      exact z_lv [0, 1] rfl k13
    · replace h13 := (if_neg c18).symm.trans h13
      refine z_iload_n 2 rfl rfl dX4_takeOut_21 ?_
      refine z_iload_n 3 rfl rfl dX4_takeOut_22 ?_
      refine z_callNR (rest := []) hl (c_X7_isIn l g p1 s13.1 _ rfl) zyX7_isIn zsX7_isIn zlX4_46 [] rfl rfl rfl (by decide) (Nat.le_of_ble_eq_true rfl) ⟨Nat.zero_le _, Nat.zero_le _⟩ dX4_takeOut_23 (st2 := [.int (b2i (f_X7_isIn p1 s13.1))]) rfl ?_
      refine z_ifB_eq (tgt := 53) rfl dX4_takeOut_26 (fun c26 => ?_) (fun c26 => ?_)
      · replace h13 := (if_neg c26).symm.trans h13
        refine z_iinc 3 [(3, .int (s13.1 + 1)), (0, .ref (a 0)), (1, .ref (b 0)), (2, .int p1)] rfl (v := (s13.1 + 1)) zinc (Nat.le_of_ble_eq_true rfl) rfl dX4_takeOut_53 ?_
        refine z_goto (tgt := 13) rfl dX4_takeOut_56 ?_
        cases h13
        have k13 := i13 ((s13.1 + 1), s13.2) rfl
        try dsimp only at k13
        exact z_lv [1, 2, 3, 0] rfl k13
      · replace h13 := (if_pos c26).symm.trans h13
        refine z_aload_n 0 rfl rfl dX4_takeOut_29 ?_
        refine z_get zcX4 0 rfl 0 rfl 1 (Nat.le_of_ble_eq_true rfl) zfX4_18 (v := .ref (a 2)) rfl dX4_takeOut_30 ?_
        refine z_aload_n 0 rfl rfl dX4_takeOut_33 ?_
        refine z_get zcX4 0 rfl 0 rfl 2 (Nat.le_of_ble_eq_true rfl) zfX4_22 (v := .ref (a 5)) rfl dX4_takeOut_34 ?_
        refine z_iload_n 3 rfl rfl dX4_takeOut_37 ?_
        refine z_callNR (rest := [.ref (a 2)]) hl (c_X7_at l g (a 5) 6 (by decide) u.2.2.1 s13.1 _ rfl) zyX7_at zsX7_at zlX4_50 [(0, some (5, 1))] rfl rfl rfl (by decide) (Nat.le_of_ble_eq_true rfl) ⟨Nat.zero_le _, Nat.zero_le _⟩ dX4_takeOut_38 (st2 := [.int (f_X7_at 6 u.2.2.1 s13.1), .ref (a 2)]) rfl ?_
        refine z_aload_n 0 rfl rfl dX4_takeOut_41 ?_
        refine z_get zcX4 0 rfl 0 rfl 3 (Nat.le_of_ble_eq_true rfl) zfX4_25 (v := .ref (a 6)) rfl dX4_takeOut_42 ?_
        refine z_iload_n 3 rfl rfl dX4_takeOut_45 ?_
        refine z_callNR (rest := [.int (f_X7_at 6 u.2.2.1 s13.1), .ref (a 2)]) hl (c_X7_at l g (a 6) 6 (by decide) u.2.2.2.1 s13.1 _ rfl) zyX7_at zsX7_at zlX4_50 [(0, some (6, 1))] rfl rfl rfl (by decide) (Nat.le_of_ble_eq_true rfl) ⟨Nat.zero_le _, Nat.zero_le _⟩ dX4_takeOut_46 (st2 := [.int (f_X7_at 6 u.2.2.2.1 s13.1), .int (f_X7_at 6 u.2.2.1 s13.1), .ref (a 2)]) rfl ?_
        refine z_ineg dX4_takeOut_49 ?_
        obtain ⟨r3, er3, h13⟩ := zb h13
        refine z_callVW (rest := []) hl (c_X0_addLoad l g (fun i => a (i + 2)) s13.2 (f_X7_at 6 u.2.2.1 s13.1) (-(f_X7_at 6 u.2.2.2.1 s13.1)) _ er3) zyX0_addLoad zvX0_addLoad rfl zlX4_95 zcX0.1 ⟨_, _, rfl⟩ [(0, some (2, 3))] rfl (by decide) rfl (w' := [dX4 g a u.1 r3.1 r3.2 u.2.2.1 u.2.2.2.1 u.2.2.2.2.1 u.2.2.2.2.2.1 u.2.2.2.2.2.2.1 u.2.2.2.2.2.2.2, cX6 g b v]) rfl rfl rfl (by decide) (Nat.le_of_ble_eq_true rfl) ⟨Nat.zero_le _, Nat.zero_le _⟩ dX4_takeOut_50 (st2 := []) rfl ?_
        refine z_iinc 3 [(3, .int (s13.1 + 1)), (0, .ref (a 0)), (1, .ref (b 0)), (2, .int p1)] rfl (v := (s13.1 + 1)) zinc (Nat.le_of_ble_eq_true rfl) rfl dX4_takeOut_53 ?_
        refine z_goto (tgt := 13) rfl dX4_takeOut_56 ?_
        cases h13
        have k13 := i13 ((s13.1 + 1), r3) rfl
        try dsimp only at k13
        exact z_lv [1, 2, 3, 0] rfl k13
  · skip
    refine z_aload_n 0 rfl rfl dX4_takeOut_59 ?_
    refine z_aload_n 0 rfl rfl dX4_takeOut_60 ?_
    refine z_get zcX4 0 rfl 0 rfl 1 (Nat.le_of_ble_eq_true rfl) zfX4_18 (v := .ref (a 2)) rfl dX4_takeOut_61 ?_
    refine z_aload_n 1 rfl rfl dX4_takeOut_64 ?_
    refine z_get zcX6 1 rfl 0 rfl 3 (Nat.le_of_ble_eq_true rfl) zfX4_99 (v := .ref (b 9)) rfl dX4_takeOut_65 ?_
    refine z_iconst (v := 0) (by decide) dX4_takeOut_68 ?_
    refine z_callNR (rest := [.ref (a 2), .ref (a 0)]) hl (c_X7_at l g (b 9) 3 (by decide) v.2.2.2.1 0 _ rfl) zyX7_at zsX7_at zlX4_50 [(1, some (9, 1))] rfl rfl rfl (by decide) (Nat.le_of_ble_eq_true rfl) ⟨Nat.zero_le _, Nat.zero_le _⟩ dX4_takeOut_69 (st2 := [.int (f_X7_at 3 v.2.2.2.1 0), .ref (a 2), .ref (a 0)]) rfl ?_
    obtain ⟨r4, er4, h⟩ := zb h
    refine z_callVR (rest := [.ref (a 0)]) hl (c_X0_balancedSet l g (fun i => a (i + 2)) z2 (f_X7_at 3 v.2.2.2.1 0) _ er4) zyX0_balancedSet zvX0_balancedSet rfl zlX4_102 zcX0.1 ⟨_, _, rfl⟩ [(0, some (2, 3))] rfl rfl rfl (by decide) (Nat.le_of_ble_eq_true rfl) ⟨Nat.zero_le _, Nat.zero_le _⟩ dX4_takeOut_72 (st2 := [.int r4, .ref (a 0)]) rfl ?_
    refine z_put (t := .int) ([dX4 g a u.1 z2.1 z2.2 u.2.2.1 u.2.2.2.1 u.2.2.2.2.1 u.2.2.2.2.2.1 u.2.2.2.2.2.2.1 r4, cX6 g b v]) zcX4 0 rfl 0 rfl 7 (Nat.le_of_ble_eq_true rfl) zfX4_105 zpX4_7 (zn_i _) (zf_i _) (Nat.le_of_ble_eq_true rfl) rfl dX4_takeOut_75 ?_
    cases h
    exact z_vret dX4_takeOut_78 hQ
set_option maxHeartbeats 400000 in
set_option maxRecDepth 100000 in
theorem c_X4_readItems (l : Launch) (g : zG) (a : Nat → Nat) (u : tX4) (b : Nat → Nat) (v : tX6) (h1 : Nat) (f1 : zF) (r : Bool × tX4) (h : f_X4_readItems u v f1 = some r) : Ctr l g true yX4_readItems cX4_readItems 6 (some .boolean) 2 42 0 0 [.ref (a 0), .ref (b 0), .ref h1] ([cX4 g a u, cX6 g b v, [(h1, .inl (g.2.1, 6, .inl f1))]]) ([cX4 g a r.2, cX6 g b v, [(h1, .inl (g.2.1, 6, .inl f1))]]) (some (.int (b2i r.1))) := by
  refine ctr_of (by decide) (Nat.le_of_ble_eq_true rfl) (fun X hl _ _ _ hQ => ?_)
  unfold f_X4_readItems at h
  refine z_lv (lv' := [(0, .ref (a 0)), (1, .ref (b 0)), (2, .ref h1)]) [0, 1, 2] rfl ?_
  refine z_iconst (v := 0) (by decide) dX4_readItems_0 ?_
  refine z_istore_n [(3, .int 0), (0, .ref (a 0)), (1, .ref (b 0)), (2, .ref h1)] rfl (Nat.le_of_ble_eq_true rfl) rfl dX4_readItems_1 ?_
  refine z_lv (lv' := [(0, .ref (a 0)), (1, .ref (b 0)), (2, .ref h1), (3, .int 0)]) [1, 2, 3, 0] rfl ?_
  suffices hk2 : (fun (s2 : Int32 × zF × zF) => Z true RX4 cX4_readItems 6 2 42 g X 0 0 ([dX4 g a u.1 u.2.1.1 u.2.1.2 s2.2.1 s2.2.2 u.2.2.2.2.1 u.2.2.2.2.2.1 u.2.2.2.2.2.2.1 u.2.2.2.2.2.2.2, cX6 g b v, [(h1, .inl (g.2.1, 6, .inl f1))]]) [(0, .ref (a 0)), (1, .ref (b 0)), (2, .ref h1), (3, .int s2.1)] 2 []) (0, u.2.2.1, u.2.2.2.1) by try dsimp only at hk2; exact hk2
  refine lp_ind (σ := Int32 × zF × zF) (ε := Bool × tX4) (b_X4_readItems_2 u v f1) (fun s2 => Z true RX4 cX4_readItems 6 2 42 g X 0 0 ([dX4 g a u.1 u.2.1.1 u.2.1.2 s2.2.1 s2.2.2 u.2.2.2.2.1 u.2.2.2.2.2.1 u.2.2.2.2.2.2.1 u.2.2.2.2.2.2.2, cX6 g b v, [(h1, .inl (g.2.1, 6, .inl f1))]]) [(0, .ref (a 0)), (1, .ref (b 0)), (2, .ref h1), (3, .int s2.1)] 2 []) (fun z => z = r) (fun s2 q2 h2 i2 x2 => ?_) 5000 (0, u.2.2.1, u.2.2.2.1) r h rfl
  unfold b_X4_readItems_2 at h2
  refine z_iload_n 3 rfl rfl dX4_readItems_2 ?_
  refine z_aload_n 0 rfl rfl dX4_readItems_3 ?_
  refine z_get zcX4 0 rfl 0 rfl 6 (Nat.le_of_ble_eq_true rfl) zfX4_34 (v := .int u.2.2.2.2.2.2.1) rfl dX4_readItems_4 ?_
  refine z_icmp_ge (tgt := 91) rfl dX4_readItems_7 (fun c7 => ?_) (fun c7 => ?_)
  · replace h2 := (if_pos c7).symm.trans h2
    refine z_iconst (v := 1) (by decide) dX4_readItems_91 ?_
    cases h2
    have y2 := x2 _ rfl
    cases y2
    try dsimp only at hQ
    exact z_zret _ (by rfl) dX4_readItems_92 hQ
  · replace h2 := (if_neg c7).symm.trans h2
    refine z_aload_n 1 rfl rfl dX4_readItems_10 ?_
    refine z_get zcX6 1 rfl 0 rfl 1 (Nat.le_of_ble_eq_true rfl) zfX4_68 (v := .ref (b 4)) rfl dX4_readItems_11 ?_
    refine z_aload_n 2 rfl rfl dX4_readItems_14 ?_
    refine z_iload_n 3 rfl rfl dX4_readItems_15 ?_
    refine z_callNR (rest := [.ref (b 4)]) hl (c_X7_at l g h1 6 (by decide) f1 s2.1 _ rfl) zyX7_at zsX7_at zlX4_50 [(2, none)] rfl rfl rfl (by decide) (Nat.le_of_ble_eq_true rfl) ⟨Nat.zero_le _, Nat.zero_le _⟩ dX4_readItems_16 (st2 := [.int (f_X7_at 6 f1 s2.1), .ref (b 4)]) rfl ?_
    obtain ⟨r1, er1, h2⟩ := zb h2
    refine z_callVR (rest := []) hl (c_X3_slotOf l g (fun i => b (i + 4)) v.2.1 (f_X7_at 6 f1 s2.1) _ er1) zyX3_slotOf zvX3_slotOf rfl zlX4_72 zcX3.1 ⟨_, _, rfl⟩ [(1, some (4, 4))] rfl rfl rfl (by decide) (Nat.le_of_ble_eq_true rfl) ⟨Nat.zero_le _, Nat.zero_le _⟩ dX4_readItems_19 (st2 := [.int r1]) rfl ?_
    refine z_istore [(4, .int r1), (0, .ref (a 0)), (1, .ref (b 0)), (2, .ref h1), (3, .int s2.1)] (Nat.le_of_ble_eq_true rfl) rfl dX4_readItems_22 ?_
    refine z_aload_n 2 rfl rfl dX4_readItems_24 ?_
    refine z_get zcX6 1 rfl 0 rfl 1 (Nat.le_of_ble_eq_true rfl) zfX4_68 (v := .ref (b 4)) rfl dX4_readItems_25 ?_
    refine z_get zcX3 1 rfl 4 rfl 2 (Nat.le_of_ble_eq_true rfl) zfX4_78 (v := .ref (b 7)) rfl dX4_readItems_28 ?_
    refine z_iload 0 rfl dX4_readItems_31 ?_
    refine z_callNR (rest := []) hl (c_X7_at l g (b 7) 40 (by decide) v.2.1.2.2.1 r1 _ rfl) zyX7_at zsX7_at zlX4_50 [(1, some (7, 1))] rfl rfl rfl (by decide) (Nat.le_of_ble_eq_true rfl) ⟨Nat.zero_le _, Nat.zero_le _⟩ dX4_readItems_33 (st2 := [.int (f_X7_at 40 v.2.1.2.2.1 r1)]) rfl ?_
    refine z_istore [(5, .int (f_X7_at 40 v.2.1.2.2.1 r1)), (4, .int r1), (0, .ref (a 0)), (1, .ref (b 0)), (2, .ref h1), (3, .int s2.1)] (Nat.le_of_ble_eq_true rfl) rfl dX4_readItems_36 ?_
    refine z_iload 1 rfl dX4_readItems_38 ?_
    refine z_iconst (v := (-1)) (by decide) dX4_readItems_40 ?_
    refine z_icmp_eq (tgt := 53) rfl dX4_readItems_41 (fun c41 => ?_) (fun c41 => ?_)
    · replace h2 := (if_pos c41).symm.trans h2
      refine z_iconst (v := 0) (by decide) dX4_readItems_53 ?_
      cases h2
      have y2 := x2 _ rfl
      cases y2
      try dsimp only at hQ
      exact z_zret _ (by rfl) dX4_readItems_54 hQ
    · replace h2 := (if_neg c41).symm.trans h2
      refine z_aload_n 3 rfl rfl dX4_readItems_44 ?_
      refine z_iload 0 rfl dX4_readItems_45 ?_
      refine z_callVR (rest := []) hl (c_X6_isJammed l g b v (f_X7_at 40 v.2.1.2.2.1 r1) _ rfl) zyX6_isJammed zvX6_isJammed rfl zlX4_79 zcX6.1 ⟨_, _, rfl⟩ [(1, none)] rfl rfl rfl (by decide) (Nat.le_of_ble_eq_true rfl) ⟨Nat.zero_le _, Nat.zero_le _⟩ dX4_readItems_47 (st2 := [.int (b2i (f_X6_isJammed v (f_X7_at 40 v.2.1.2.2.1 r1)))]) rfl ?_
      refine z_ifB_eq (tgt := 55) rfl dX4_readItems_50 (fun c50 => ?_) (fun c50 => ?_)
      · replace h2 := (if_neg c50).symm.trans h2
        refine z_aload_n 2 rfl rfl dX4_readItems_55 ?_
        refine z_get zcX4 0 rfl 0 rfl 2 (Nat.le_of_ble_eq_true rfl) zfX4_22 (v := .ref (a 5)) rfl dX4_readItems_56 ?_
        refine z_iload_n 5 rfl rfl dX4_readItems_59 ?_
        refine z_iload 0 rfl dX4_readItems_60 ?_
        obtain ⟨r2, er2, h2⟩ := zb h2
        refine z_callNW (rest := []) hl (c_X7_write l g (a 5) 6 (by decide) s2.2.1 s2.1 (f_X7_at 40 v.2.1.2.2.1 r1) _ (Option.some.inj er2)) zyX7_write zsX7_write zlX4_83 [(0, some (5, 1))] rfl (by decide) rfl (w' := [dX4 g a u.1 u.2.1.1 u.2.1.2 r2 s2.2.2 u.2.2.2.2.1 u.2.2.2.2.2.1 u.2.2.2.2.2.2.1 u.2.2.2.2.2.2.2, cX6 g b v, [(h1, .inl (g.2.1, 6, .inl f1))]]) rfl rfl rfl (by decide) (Nat.le_of_ble_eq_true rfl) ⟨Nat.zero_le _, Nat.zero_le _⟩ dX4_readItems_62 (st2 := []) rfl ?_
        refine z_aload_n 2 rfl rfl dX4_readItems_65 ?_
        refine z_get zcX4 0 rfl 0 rfl 3 (Nat.le_of_ble_eq_true rfl) zfX4_25 (v := .ref (a 6)) rfl dX4_readItems_66 ?_
        refine z_iload_n 5 rfl rfl dX4_readItems_69 ?_
        refine z_aload_n 3 rfl rfl dX4_readItems_70 ?_
        refine z_get zcX6 1 rfl 0 rfl 1 (Nat.le_of_ble_eq_true rfl) zfX4_68 (v := .ref (b 4)) rfl dX4_readItems_71 ?_
        refine z_get zcX3 1 rfl 4 rfl 1 (Nat.le_of_ble_eq_true rfl) zfX4_87 (v := .ref (b 6)) rfl dX4_readItems_74 ?_
        refine z_iload 1 rfl dX4_readItems_77 ?_
        refine z_callNR (rest := [.int s2.1, .ref (a 6)]) hl (c_X7_at l g (b 6) 40 (by decide) v.2.1.2.1 r1 _ rfl) zyX7_at zsX7_at zlX4_50 [(1, some (6, 1))] rfl rfl rfl (by decide) (Nat.le_of_ble_eq_true rfl) ⟨Nat.zero_le _, Nat.zero_le _⟩ dX4_readItems_79 (st2 := [.int (f_X7_at 40 v.2.1.2.1 r1), .int s2.1, .ref (a 6)]) rfl ?_
        obtain ⟨r3, er3, h2⟩ := zb h2
        refine z_callNW (rest := []) hl (c_X7_write l g (a 6) 6 (by decide) s2.2.2 s2.1 (f_X7_at 40 v.2.1.2.1 r1) _ (Option.some.inj er3)) zyX7_write zsX7_write zlX4_83 [(0, some (6, 1))] rfl (by decide) rfl (w' := [dX4 g a u.1 u.2.1.1 u.2.1.2 r2 r3 u.2.2.2.2.1 u.2.2.2.2.2.1 u.2.2.2.2.2.2.1 u.2.2.2.2.2.2.2, cX6 g b v, [(h1, .inl (g.2.1, 6, .inl f1))]]) rfl rfl rfl (by decide) (Nat.le_of_ble_eq_true rfl) ⟨Nat.zero_le _, Nat.zero_le _⟩ dX4_readItems_82 (st2 := []) rfl ?_
        refine z_iinc 5 [(3, .int (s2.1 + 1)), (5, .int (f_X7_at 40 v.2.1.2.2.1 r1)), (4, .int r1), (0, .ref (a 0)), (1, .ref (b 0)), (2, .ref h1)] rfl (v := (s2.1 + 1)) zinc (Nat.le_of_ble_eq_true rfl) rfl dX4_readItems_85 ?_
        refine z_goto (tgt := 2) rfl dX4_readItems_88 ?_
        cases h2
        have k2 := i2 ((s2.1 + 1), r2, r3) rfl
        try dsimp only at k2
        exact z_lv [3, 4, 5, 0] rfl k2
      · replace h2 := (if_pos c50).symm.trans h2
        refine z_iconst (v := 0) (by decide) dX4_readItems_53 ?_
        cases h2
        have y2 := x2 _ rfl
        cases y2
        try dsimp only at hQ
        exact z_zret _ (by rfl) dX4_readItems_54 hQ
set_option maxHeartbeats 400000 in
set_option maxRecDepth 100000 in
theorem c_X4_followOrder (l : Launch) (g : zG) (a : Nat → Nat) (u : tX4) (h1 : Nat) (f1 : zF) (r : tX4) (h : f_X4_followOrder u f1 = some r) : Ctr l g true yX4_followOrder cX4_followOrder 5 none 1 22 0 0 [.ref (a 0), .ref h1] ([cX4 g a u, [(h1, .inl (g.2.1, 6, .inl f1))]]) ([cX4 g a r, [(h1, .inl (g.2.1, 6, .inl f1))]]) none := by
  refine ctr_of (by decide) (Nat.le_of_ble_eq_true rfl) (fun X hl _ _ _ hQ => ?_)
  unfold f_X4_followOrder at h
  refine z_lv (lv' := [(0, .ref (a 0)), (1, .ref h1)]) [0, 1] rfl ?_
  refine z_iconst (v := 0) (by decide) dX4_followOrder_0 ?_
  refine z_istore_n [(2, .int 0), (0, .ref (a 0)), (1, .ref h1)] rfl (Nat.le_of_ble_eq_true rfl) rfl dX4_followOrder_1 ?_
  refine z_iconst (v := 0) (by decide) dX4_followOrder_2 ?_
  refine z_istore_n [(3, .int 0), (2, .int 0), (0, .ref (a 0)), (1, .ref h1)] rfl (Nat.le_of_ble_eq_true rfl) rfl dX4_followOrder_3 ?_
  refine z_iconst (v := 0) (by decide) dX4_followOrder_4 ?_
  refine z_istore [(4, .int 0), (3, .int 0), (2, .int 0), (0, .ref (a 0)), (1, .ref h1)] (Nat.le_of_ble_eq_true rfl) rfl dX4_followOrder_5 ?_
  obtain ⟨z1, ez1, h⟩ := zb h
  refine z_lv (lv' := [(0, .ref (a 0)), (1, .ref h1), (2, .int 0), (3, .int 0), (4, .int 0)]) [3, 4, 2, 1, 0] rfl ?_
  suffices hk7 : (fun (s7 : Int32 × Int32 × Int32 × zF) => Z true RX4 cX4_followOrder 5 1 22 g X 0 0 ([dX4 g a s7.2.2.2 u.2.1.1 u.2.1.2 u.2.2.1 u.2.2.2.1 u.2.2.2.2.1 u.2.2.2.2.2.1 u.2.2.2.2.2.2.1 u.2.2.2.2.2.2.2, [(h1, .inl (g.2.1, 6, .inl f1))]]) [(0, .ref (a 0)), (1, .ref h1), (2, .int s7.1), (3, .int s7.2.1), (4, .int s7.2.2.1)] 7 []) (0, 0, 0, u.1) by try dsimp only at hk7; exact hk7
  refine lp_ind (σ := Int32 × Int32 × Int32 × zF) (ε := zF) (b_X4_followOrder_7 u f1) (fun s7 => Z true RX4 cX4_followOrder 5 1 22 g X 0 0 ([dX4 g a s7.2.2.2 u.2.1.1 u.2.1.2 u.2.2.1 u.2.2.2.1 u.2.2.2.2.1 u.2.2.2.2.2.1 u.2.2.2.2.2.2.1 u.2.2.2.2.2.2.2, [(h1, .inl (g.2.1, 6, .inl f1))]]) [(0, .ref (a 0)), (1, .ref h1), (2, .int s7.1), (3, .int s7.2.1), (4, .int s7.2.2.1)] 7 []) (fun z1 => Z true RX4 cX4_followOrder 5 1 22 g X 0 0 ([dX4 g a z1 u.2.1.1 u.2.1.2 u.2.2.1 u.2.2.2.1 u.2.2.2.2.1 u.2.2.2.2.2.1 u.2.2.2.2.2.2.1 u.2.2.2.2.2.2.2, [(h1, .inl (g.2.1, 6, .inl f1))]]) [] 55 []) (fun s7 q7 h7 i7 x7 => ?_) 5000 (0, 0, 0, u.1) z1 ez1 ?_
  · unfold b_X4_followOrder_7 at h7
    refine z_iload 4 rfl dX4_followOrder_7 ?_
    refine z_aload_n 0 rfl rfl dX4_followOrder_9 ?_
    refine z_get zcX4 0 rfl 0 rfl 6 (Nat.le_of_ble_eq_true rfl) zfX4_34 (v := .int u.2.2.2.2.2.2.1) rfl dX4_followOrder_10 ?_
    refine z_icmp_ge (tgt := 55) rfl dX4_followOrder_13 (fun c13 => ?_) (fun c13 => ?_)
    · replace h7 := (if_pos c13).symm.trans h7
      cases h7
      have k7 := x7 s7.2.2.2 rfl
      try dsimp only at k7
      exact z_lv [] rfl k7
    · replace h7 := (if_neg c13).symm.trans h7
      refine z_aload_n 0 rfl rfl dX4_followOrder_16 ?_
      refine z_get zcX4 0 rfl 0 rfl 5 (Nat.le_of_ble_eq_true rfl) zfX4_31 (v := .ref (a 8)) rfl dX4_followOrder_17 ?_
      refine z_iload_n 2 rfl rfl dX4_followOrder_20 ?_
      refine z_iload_n 3 rfl rfl dX4_followOrder_21 ?_
      refine z_callSR (rest := [.ref (a 8)]) hl (c_X4_indexOf l g s7.1 s7.2.1 _ rfl) zyX4_indexOf zsX4_indexOf zlX4_112 [] rfl rfl rfl (by decide) (Nat.le_of_ble_eq_true rfl) ⟨Nat.zero_le _, Nat.zero_le _⟩ dX4_followOrder_22 (st2 := [.int (f_X4_indexOf s7.1 s7.2.1), .ref (a 8)]) rfl ?_
      refine z_callNR (rest := []) hl (c_X7_at l g (a 8) 384 (by decide) u.2.2.2.2.2.1 (f_X4_indexOf s7.1 s7.2.1) _ rfl) zyX7_at zsX7_at zlX4_50 [(0, some (8, 1))] rfl rfl rfl (by decide) (Nat.le_of_ble_eq_true rfl) ⟨Nat.zero_le _, Nat.zero_le _⟩ dX4_followOrder_25 (st2 := [.int (f_X7_at 384 u.2.2.2.2.2.1 (f_X4_indexOf s7.1 s7.2.1))]) rfl ?_
      refine z_istore_n [(3, .int (f_X7_at 384 u.2.2.2.2.2.1 (f_X4_indexOf s7.1 s7.2.1))), (0, .ref (a 0)), (1, .ref h1), (2, .int s7.1), (4, .int s7.2.2.1)] rfl (Nat.le_of_ble_eq_true rfl) rfl dX4_followOrder_28 ?_
      refine z_iload_n 3 rfl rfl dX4_followOrder_29 ?_
      refine z_iconst (v := 1) (by decide) dX4_followOrder_30 ?_
      refine z_iload_n 0 rfl rfl dX4_followOrder_31 ?_
      refine z_ishl dX4_followOrder_32 ?_
      refine z_ior dX4_followOrder_33 ?_
      refine z_istore_n [(2, .int (s7.1 ||| ((1 : Int32) <<< ((f_X7_at 384 u.2.2.2.2.2.1 (f_X4_indexOf s7.1 s7.2.1)) &&& 31)))), (3, .int (f_X7_at 384 u.2.2.2.2.2.1 (f_X4_indexOf s7.1 s7.2.1))), (0, .ref (a 0)), (1, .ref h1), (4, .int s7.2.2.1)] rfl (Nat.le_of_ble_eq_true rfl) rfl dX4_followOrder_34 ?_
      refine z_aload_n 2 rfl rfl dX4_followOrder_35 ?_
      refine z_get zcX4 0 rfl 0 rfl 0 (Nat.le_of_ble_eq_true rfl) zfX4_9 (v := .ref (a 1)) rfl dX4_followOrder_36 ?_
      refine z_iload 4 rfl dX4_followOrder_39 ?_
      refine z_aload_n 3 rfl rfl dX4_followOrder_41 ?_
      refine z_iload_n 1 rfl rfl dX4_followOrder_42 ?_
      refine z_callNR (rest := [.int s7.2.2.1, .ref (a 1)]) hl (c_X7_at l g h1 6 (by decide) f1 (f_X7_at 384 u.2.2.2.2.2.1 (f_X4_indexOf s7.1 s7.2.1)) _ rfl) zyX7_at zsX7_at zlX4_50 [(1, none)] rfl rfl rfl (by decide) (Nat.le_of_ble_eq_true rfl) ⟨Nat.zero_le _, Nat.zero_le _⟩ dX4_followOrder_43 (st2 := [.int (f_X7_at 6 f1 (f_X7_at 384 u.2.2.2.2.2.1 (f_X4_indexOf s7.1 s7.2.1))), .int s7.2.2.1, .ref (a 1)]) rfl ?_
      obtain ⟨r2, er2, h7⟩ := zb h7
      refine z_callNW (rest := []) hl (c_X7_write l g (a 1) 6 (by decide) s7.2.2.2 s7.2.2.1 (f_X7_at 6 f1 (f_X7_at 384 u.2.2.2.2.2.1 (f_X4_indexOf s7.1 s7.2.1))) _ (Option.some.inj er2)) zyX7_write zsX7_write zlX4_83 [(0, some (1, 1))] rfl (by decide) rfl (w' := [dX4 g a r2 u.2.1.1 u.2.1.2 u.2.2.1 u.2.2.2.1 u.2.2.2.2.1 u.2.2.2.2.2.1 u.2.2.2.2.2.2.1 u.2.2.2.2.2.2.2, [(h1, .inl (g.2.1, 6, .inl f1))]]) rfl rfl rfl (by decide) (Nat.le_of_ble_eq_true rfl) ⟨Nat.zero_le _, Nat.zero_le _⟩ dX4_followOrder_46 (st2 := []) rfl ?_
      refine z_iinc 4 [(4, .int (s7.2.2.1 + 1)), (2, .int (s7.1 ||| ((1 : Int32) <<< ((f_X7_at 384 u.2.2.2.2.2.1 (f_X4_indexOf s7.1 s7.2.1)) &&& 31)))), (3, .int (f_X7_at 384 u.2.2.2.2.2.1 (f_X4_indexOf s7.1 s7.2.1))), (0, .ref (a 0)), (1, .ref h1)] rfl (v := (s7.2.2.1 + 1)) zinc (Nat.le_of_ble_eq_true rfl) rfl dX4_followOrder_49 ?_
      refine z_goto (tgt := 7) rfl dX4_followOrder_52 ?_
      cases h7
      have k7 := i7 ((s7.1 ||| ((1 : Int32) <<< ((f_X7_at 384 u.2.2.2.2.2.1 (f_X4_indexOf s7.1 s7.2.1)) &&& 31))), (f_X7_at 384 u.2.2.2.2.2.1 (f_X4_indexOf s7.1 s7.2.1)), (s7.2.2.1 + 1), r2) rfl
      try dsimp only at k7
      exact z_lv [3, 4, 1, 2, 0] rfl k7
  · skip
    cases h
    exact z_vret dX4_followOrder_55 hQ
set_option maxHeartbeats 400000 in
set_option maxRecDepth 100000 in
theorem c_X4_findOrder (l : Launch) (g : zG) (a : Nat → Nat) (u : tX4) (b : Nat → Nat) (v : tX6) (h1 : Nat) (f1 : zF) (p2 : Int32) (r : Bool × tX4) (h : f_X4_findOrder u v f1 p2 = some r) : Ctr l g true yX4_findOrder cX4_findOrder 6 (some .boolean) 4 105 0 0 [.ref (a 0), .ref (b 0), .ref h1, .int p2] ([cX4 g a u, cX6 g b v, [(h1, .inl (g.2.1, 6, .inl f1))]]) ([cX4 g a r.2, cX6 g b v, [(h1, .inl (g.2.1, 6, .inl f1))]]) (some (.int (b2i r.1))) := by
  refine ctr_of (by decide) (Nat.le_of_ble_eq_true rfl) (fun X hl _ _ _ hQ => ?_)
  unfold f_X4_findOrder at h
  refine z_lv (lv' := [(0, .ref (a 0)), (1, .ref (b 0)), (2, .ref h1), (3, .int p2)]) [0, 1, 2, 3] rfl ?_
  refine z_aload_n 0 rfl rfl dX4_findOrder_0 ?_
  refine z_iload_n 3 rfl rfl dX4_findOrder_1 ?_
  refine z_put (t := .int) ([dX4 g a u.1 u.2.1.1 u.2.1.2 u.2.2.1 u.2.2.2.1 u.2.2.2.2.1 u.2.2.2.2.2.1 p2 u.2.2.2.2.2.2.2, cX6 g b v, [(h1, .inl (g.2.1, 6, .inl f1))]]) zcX4 0 rfl 0 rfl 6 (Nat.le_of_ble_eq_true rfl) zfX4_34 zpX4_6 (zn_i _) (zf_i _) (Nat.le_of_ble_eq_true rfl) rfl dX4_findOrder_2 ?_
  refine z_aload_n 0 rfl rfl dX4_findOrder_5 ?_
  refine z_aload_n 1 rfl rfl dX4_findOrder_6 ?_
  refine z_aload_n 2 rfl rfl dX4_findOrder_7 ?_
  obtain ⟨r1, er1, h⟩ := zb h
  refine z_callVW (rest := []) hl (c_X4_readItems l g a (u.1, u.2.1, u.2.2.1, u.2.2.2.1, u.2.2.2.2.1, u.2.2.2.2.2.1, p2, u.2.2.2.2.2.2.2) b v h1 f1 _ er1) zyX4_readItems zvX4_readItems rfl zlX4_38 zcX4.1 ⟨_, _, rfl⟩ [(0, none), (1, none), (2, none)] rfl (by decide) rfl (w' := [cX4 g a r1.2, cX6 g b v, [(h1, .inl (g.2.1, 6, .inl f1))]]) rfl rfl rfl (by decide) (Nat.le_of_ble_eq_true rfl) ⟨Nat.zero_le _, Nat.zero_le _⟩ dX4_findOrder_8 (st2 := [.int (b2i r1.1)]) rfl ?_
  refine z_ifB_ne (tgt := 16) rfl dX4_findOrder_11 (fun c11 => ?_) (fun c11 => ?_)
  · replace h := (if_pos c11).symm.trans h
    refine z_iconst (v := 1) (by decide) dX4_findOrder_16 ?_
    refine z_aload_n 0 rfl rfl dX4_findOrder_17 ?_
    refine z_get zcX4 0 rfl 0 rfl 6 (Nat.le_of_ble_eq_true rfl) zfX4_34 (v := .int r1.2.2.2.2.2.2.2.1) rfl dX4_findOrder_18 ?_
    refine z_ishl dX4_findOrder_21 ?_
    refine z_iconst (v := 1) (by decide) dX4_findOrder_22 ?_
    refine z_isub dX4_findOrder_23 ?_
    refine z_istore [(4, .int (((1 : Int32) <<< (r1.2.2.2.2.2.2.2.1 &&& 31)) - 1)), (0, .ref (a 0)), (1, .ref (b 0)), (2, .ref h1), (3, .int p2)] (Nat.le_of_ble_eq_true rfl) rfl dX4_findOrder_24 ?_
    obtain ⟨z2, ez2, h⟩ := zb h
    refine z_lv (lv' := [(0, .ref (a 0)), (1, .ref (b 0)), (2, .ref h1), (4, .int (((1 : Int32) <<< (r1.2.2.2.2.2.2.2.1 &&& 31)) - 1))]) [1, 2, 3, 0] rfl ?_
    suffices hk26 : (fun (s26 : Int32 × tX4) => Z true RX4 cX4_findOrder 6 4 105 g X 0 0 ([cX4 g a s26.2, cX6 g b v, [(h1, .inl (g.2.1, 6, .inl f1))]]) [(0, .ref (a 0)), (1, .ref (b 0)), (2, .ref h1), (4, .int s26.1)] 26 []) ((((1 : Int32) <<< (r1.2.2.2.2.2.2.2.1 &&& 31)) - 1), r1.2) by try dsimp only at hk26; exact hk26
    refine lp_ind (σ := Int32 × tX4) (ε := tX4) (b_X4_findOrder_26 v) (fun s26 => Z true RX4 cX4_findOrder 6 4 105 g X 0 0 ([cX4 g a s26.2, cX6 g b v, [(h1, .inl (g.2.1, 6, .inl f1))]]) [(0, .ref (a 0)), (1, .ref (b 0)), (2, .ref h1), (4, .int s26.1)] 26 []) (fun z2 => Z true RX4 cX4_findOrder 6 4 105 g X 0 0 ([cX4 g a z2, cX6 g b v, [(h1, .inl (g.2.1, 6, .inl f1))]]) [(0, .ref (a 0)), (1, .ref (b 0)), (2, .ref h1)] 89 []) (fun s26 q26 h26 i26 x26 => ?_) 5000 ((((1 : Int32) <<< (r1.2.2.2.2.2.2.2.1 &&& 31)) - 1), r1.2) z2 ez2 ?_
    · unfold b_X4_findOrder_26 at h26
      refine z_iload 3 rfl dX4_findOrder_26 ?_
      refine z_if_le (tgt := 89) rfl dX4_findOrder_28 (fun c28 => ?_) (fun c28 => ?_)
      · replace h26 := (if_pos c28).symm.trans h26
        cases h26
        have k26 := x26 s26.2 rfl
        try dsimp only at k26
        exact z_lv [0, 1, 2] rfl k26
      · replace h26 := (if_neg c28).symm.trans h26
        refine z_aload_n 0 rfl rfl dX4_findOrder_31 ?_
        refine z_aload_n 1 rfl rfl dX4_findOrder_32 ?_
        refine z_iload 3 rfl dX4_findOrder_33 ?_
        obtain ⟨r3, er3, h26⟩ := zb h26
        refine z_callVW (rest := []) hl (c_X4_takeOut l g a s26.2 b v s26.1 _ er3) zyX4_takeOut zvX4_takeOut rfl zlX4_42 zcX4.1 ⟨_, _, rfl⟩ [(0, none), (1, none)] rfl (by decide) rfl (w' := [cX4 g a r3, cX6 g b v, [(h1, .inl (g.2.1, 6, .inl f1))]]) rfl rfl rfl (by decide) (Nat.le_of_ble_eq_true rfl) ⟨Nat.zero_le _, Nat.zero_le _⟩ dX4_findOrder_35 (st2 := []) rfl ?_
        refine z_iconst (v := 0) (by decide) dX4_findOrder_38 ?_
        refine z_istore [(5, .int 0), (0, .ref (a 0)), (1, .ref (b 0)), (2, .ref h1), (4, .int s26.1)] (Nat.le_of_ble_eq_true rfl) rfl dX4_findOrder_39 ?_
        obtain ⟨z4, ez4, h26⟩ := zb h26
        refine z_lv (lv' := [(0, .ref (a 0)), (1, .ref (b 0)), (2, .ref h1), (4, .int s26.1), (5, .int 0)]) [1, 2, 3, 4, 0] rfl ?_
        suffices hk41 : (fun (s41 : Int32 × tX4) => Z true RX4 cX4_findOrder 6 4 105 g X 0 0 ([cX4 g a s41.2, cX6 g b v, [(h1, .inl (g.2.1, 6, .inl f1))]]) [(0, .ref (a 0)), (1, .ref (b 0)), (2, .ref h1), (4, .int s26.1), (5, .int s41.1)] 41 []) (0, r3) by try dsimp only at hk41; exact hk41
        refine lp_ind (σ := Int32 × tX4) (ε := tX4) (b_X4_findOrder_41 s26) (fun s41 => Z true RX4 cX4_findOrder 6 4 105 g X 0 0 ([cX4 g a s41.2, cX6 g b v, [(h1, .inl (g.2.1, 6, .inl f1))]]) [(0, .ref (a 0)), (1, .ref (b 0)), (2, .ref h1), (4, .int s26.1), (5, .int s41.1)] 41 []) (fun z4 => Z true RX4 cX4_findOrder 6 4 105 g X 0 0 ([cX4 g a z4, cX6 g b v, [(h1, .inl (g.2.1, 6, .inl f1))]]) [(0, .ref (a 0)), (1, .ref (b 0)), (2, .ref h1), (4, .int s26.1)] 83 []) (fun s41 q41 h41 i41 x41 => ?_) 5000 (0, r3) z4 ez4 ?_
        · unfold b_X4_findOrder_41 at h41
          refine z_iload 4 rfl dX4_findOrder_41 ?_
          refine z_aload_n 0 rfl rfl dX4_findOrder_43 ?_
          refine z_get zcX4 0 rfl 0 rfl 6 (Nat.le_of_ble_eq_true rfl) zfX4_34 (v := .int s41.2.2.2.2.2.2.2.1) rfl dX4_findOrder_44 ?_
          refine z_icmp_ge (tgt := 83) rfl dX4_findOrder_47 (fun c47 => ?_) (fun c47 => ?_)
          · replace h41 := (if_pos c47).symm.trans h41
            cases h41
            have k41 := x41 s41.2 rfl
            try dsimp only at k41
            exact z_lv [0, 1, 2, 3] rfl k41
          · replace h41 := (if_neg c47).symm.trans h41
            refine z_iload 3 rfl dX4_findOrder_50 ?_
            refine z_iload 4 rfl dX4_findOrder_52 ?_
            refine z_callNR (rest := []) hl (c_X7_isIn l g s26.1 s41.1 _ rfl) zyX7_isIn zsX7_isIn zlX4_46 [] rfl rfl rfl (by decide) (Nat.le_of_ble_eq_true rfl) ⟨Nat.zero_le _, Nat.zero_le _⟩ dX4_findOrder_54 (st2 := [.int (b2i (f_X7_isIn s26.1 s41.1))]) rfl ?_
            refine z_ifB_eq (tgt := 77) rfl dX4_findOrder_57 (fun c57 => ?_) (fun c57 => ?_)
            · replace h41 := (if_neg c57).symm.trans h41
              refine z_iinc 4 [(5, .int (s41.1 + 1)), (0, .ref (a 0)), (1, .ref (b 0)), (2, .ref h1), (4, .int s26.1)] rfl (v := (s41.1 + 1)) zinc (Nat.le_of_ble_eq_true rfl) rfl dX4_findOrder_77 ?_
              refine z_goto (tgt := 41) rfl dX4_findOrder_80 ?_
              cases h41
              have k41 := i41 ((s41.1 + 1), s41.2) rfl
              try dsimp only at k41
              exact z_lv [1, 2, 3, 4, 0] rfl k41
            · replace h41 := (if_pos c57).symm.trans h41
              refine z_aload_n 0 rfl rfl dX4_findOrder_60 ?_
              refine z_iload 3 rfl dX4_findOrder_61 ?_
              refine z_iload 4 rfl dX4_findOrder_63 ?_
              refine z_aload_n 0 rfl rfl dX4_findOrder_65 ?_
              refine z_get zcX4 0 rfl 0 rfl 2 (Nat.le_of_ble_eq_true rfl) zfX4_22 (v := .ref (a 5)) rfl dX4_findOrder_66 ?_
              refine z_iload 4 rfl dX4_findOrder_69 ?_
              refine z_callNR (rest := [.int s41.1, .int s26.1, .ref (a 0)]) hl (c_X7_at l g (a 5) 6 (by decide) s41.2.2.2.1 s41.1 _ rfl) zyX7_at zsX7_at zlX4_50 [(0, some (5, 1))] rfl rfl rfl (by decide) (Nat.le_of_ble_eq_true rfl) ⟨Nat.zero_le _, Nat.zero_le _⟩ dX4_findOrder_71 (st2 := [.int (f_X7_at 6 s41.2.2.2.1 s41.1), .int s41.1, .int s26.1, .ref (a 0)]) rfl ?_
              obtain ⟨r5, er5, h41⟩ := zb h41
              refine z_callVW (rest := []) hl (c_X4_weighNext l g a s41.2 s26.1 s41.1 (f_X7_at 6 s41.2.2.2.1 s41.1) _ er5) zyX4_weighNext zvX4_weighNext rfl zlX4_54 zcX4.1 ⟨_, _, rfl⟩ [(0, none)] rfl (by decide) rfl (w' := [cX4 g a r5, cX6 g b v, [(h1, .inl (g.2.1, 6, .inl f1))]]) rfl rfl rfl (by decide) (Nat.le_of_ble_eq_true rfl) ⟨Nat.zero_le _, Nat.zero_le _⟩ dX4_findOrder_74 (st2 := []) rfl ?_
              refine z_iinc 4 [(5, .int (s41.1 + 1)), (0, .ref (a 0)), (1, .ref (b 0)), (2, .ref h1), (4, .int s26.1)] rfl (v := (s41.1 + 1)) zinc (Nat.le_of_ble_eq_true rfl) rfl dX4_findOrder_77 ?_
              refine z_goto (tgt := 41) rfl dX4_findOrder_80 ?_
              cases h41
              have k41 := i41 ((s41.1 + 1), r5) rfl
              try dsimp only at k41
              exact z_lv [1, 2, 3, 4, 0] rfl k41
        · skip
          refine z_iinc 3 [(4, .int (s26.1 + -1)), (0, .ref (a 0)), (1, .ref (b 0)), (2, .ref h1)] rfl (v := (s26.1 + -1)) zdec (Nat.le_of_ble_eq_true rfl) rfl dX4_findOrder_83 ?_
          refine z_goto (tgt := 26) rfl dX4_findOrder_86 ?_
          cases h26
          have k26 := i26 ((s26.1 + -1), z4) rfl
          try dsimp only at k26
          exact z_lv [1, 2, 3, 0] rfl k26
    · skip
      refine z_aload_n 0 rfl rfl dX4_findOrder_89 ?_
      refine z_aload_n 1 rfl rfl dX4_findOrder_90 ?_
      refine z_iconst (v := 0) (by decide) dX4_findOrder_91 ?_
      obtain ⟨r6, er6, h⟩ := zb h
      refine z_callVW (rest := []) hl (c_X4_takeOut l g a z2 b v 0 _ er6) zyX4_takeOut zvX4_takeOut rfl zlX4_42 zcX4.1 ⟨_, _, rfl⟩ [(0, none), (1, none)] rfl (by decide) rfl (w' := [cX4 g a r6, cX6 g b v, [(h1, .inl (g.2.1, 6, .inl f1))]]) rfl rfl rfl (by decide) (Nat.le_of_ble_eq_true rfl) ⟨Nat.zero_le _, Nat.zero_le _⟩ dX4_findOrder_92 (st2 := []) rfl ?_
      refine z_aload_n 0 rfl rfl dX4_findOrder_95 ?_
      refine z_iconst (v := 0) (by decide) dX4_findOrder_96 ?_
      refine z_iconst (v := 0) (by decide) dX4_findOrder_97 ?_
      refine z_aload_n 1 rfl rfl dX4_findOrder_98 ?_
      refine z_get zcX6 1 rfl 0 rfl 4 (Nat.le_of_ble_eq_true rfl) zfX4_58 (v := .int v.2.2.2.2.1) rfl dX4_findOrder_99 ?_
      obtain ⟨r7, er7, h⟩ := zb h
      refine z_callVW (rest := []) hl (c_X4_weighNext l g a r6 0 0 v.2.2.2.2.1 _ er7) zyX4_weighNext zvX4_weighNext rfl zlX4_54 zcX4.1 ⟨_, _, rfl⟩ [(0, none)] rfl (by decide) rfl (w' := [cX4 g a r7, cX6 g b v, [(h1, .inl (g.2.1, 6, .inl f1))]]) rfl rfl rfl (by decide) (Nat.le_of_ble_eq_true rfl) ⟨Nat.zero_le _, Nat.zero_le _⟩ dX4_findOrder_102 (st2 := []) rfl ?_
      refine z_aload_n 0 rfl rfl dX4_findOrder_105 ?_
      refine z_get zcX4 0 rfl 0 rfl 4 (Nat.le_of_ble_eq_true rfl) zfX4_28 (v := .ref (a 7)) rfl dX4_findOrder_106 ?_
      refine z_iconst (v := 0) (by decide) dX4_findOrder_109 ?_
      refine z_callNR (rest := []) hl (c_X7_at l g (a 7) 384 (by decide) r7.2.2.2.2.1 0 _ rfl) zyX7_at zsX7_at zlX4_50 [(0, some (7, 1))] rfl rfl rfl (by decide) (Nat.le_of_ble_eq_true rfl) ⟨Nat.zero_le _, Nat.zero_le _⟩ dX4_findOrder_110 (st2 := [.int (f_X7_at 384 r7.2.2.2.2.1 0)]) rfl ?_
      refine z_ldc zkX4_63 dX4_findOrder_113 ?_
      refine z_icmp_ne (tgt := 120) rfl dX4_findOrder_115 (fun c115 => ?_) (fun c115 => ?_)
      · replace h := (if_neg c115).symm.trans h
        refine z_aload_n 0 rfl rfl dX4_findOrder_120 ?_
        refine z_aload_n 2 rfl rfl dX4_findOrder_121 ?_
        obtain ⟨r8, er8, h⟩ := zb h
        refine z_callVW (rest := []) hl (c_X4_followOrder l g a r7 h1 f1 _ er8) zyX4_followOrder zvX4_followOrder rfl zlX4_64 zcX4.1 ⟨_, _, rfl⟩ [(0, none), (2, none)] rfl (by decide) rfl (w' := [cX4 g a r8, cX6 g b v, [(h1, .inl (g.2.1, 6, .inl f1))]]) rfl rfl rfl (by decide) (Nat.le_of_ble_eq_true rfl) ⟨Nat.zero_le _, Nat.zero_le _⟩ dX4_findOrder_122 (st2 := []) rfl ?_
        refine z_iconst (v := 1) (by decide) dX4_findOrder_125 ?_
        cases h
        try dsimp only at hQ
        exact z_zret _ (by rfl) dX4_findOrder_126 hQ
      · replace h := (if_pos c115).symm.trans h
        refine z_iconst (v := 0) (by decide) dX4_findOrder_118 ?_
        cases h
        try dsimp only at hQ
        exact z_zret _ (by rfl) dX4_findOrder_119 hQ
  · replace h := (if_neg c11).symm.trans h
    refine z_iconst (v := 0) (by decide) dX4_findOrder_14 ?_
    cases h
    try dsimp only at hQ
    exact z_zret _ (by rfl) dX4_findOrder_15 hQ
set_option maxHeartbeats 400000 in
set_option maxRecDepth 100000 in
theorem c_X5_stepsTo (l : Launch) (g : zG) (a : Nat → Nat) (b : Nat → Nat) (v : tX6) (p1 : Int32) (r : Int32) (h : f_X5_stepsTo v p1 = some r) : Ctr l g false yX5_stepsTo cX5_stepsTo 5 (some .int) 3 71 0 0 [.ref (a 0), .ref (b 0), .int p1] ([cX5h g a, cX6 g b v]) ([cX5h g a, cX6 g b v]) (some (.int r)) := by
  refine ctr_of (by decide) (Nat.le_of_ble_eq_true rfl) (fun X hl _ _ _ hQ => ?_)
  unfold f_X5_stepsTo at h
  refine z_lv (lv' := [(0, .ref (a 0)), (1, .ref (b 0)), (2, .int p1)]) [0, 1, 2] rfl ?_
  refine z_aload_n 1 rfl rfl dX5_stepsTo_0 ?_
  refine z_get zcX6 1 rfl 0 rfl 1 (Nat.le_of_ble_eq_true rfl) zfX5_50 (v := .ref (b 4)) rfl dX5_stepsTo_1 ?_
  refine z_iload_n 2 rfl rfl dX5_stepsTo_4 ?_
  obtain ⟨r1, er1, h⟩ := zb h
  refine z_callVR (rest := []) hl (c_X3_slotOf l g (fun i => b (i + 4)) v.2.1 p1 _ er1) zyX3_slotOf zvX3_slotOf rfl zlX5_54 zcX3.1 ⟨_, _, rfl⟩ [(1, some (4, 4))] rfl rfl rfl (by decide) (Nat.le_of_ble_eq_true rfl) ⟨Nat.zero_le _, Nat.zero_le _⟩ dX5_stepsTo_5 (st2 := [.int r1]) rfl ?_
  refine z_istore_n [(3, .int r1), (0, .ref (a 0)), (1, .ref (b 0)), (2, .int p1)] rfl (Nat.le_of_ble_eq_true rfl) rfl dX5_stepsTo_8 ?_
  refine z_aload_n 2 rfl rfl dX5_stepsTo_9 ?_
  refine z_get zcX6 1 rfl 0 rfl 1 (Nat.le_of_ble_eq_true rfl) zfX5_50 (v := .ref (b 4)) rfl dX5_stepsTo_10 ?_
  refine z_get zcX3 1 rfl 4 rfl 2 (Nat.le_of_ble_eq_true rfl) zfX5_59 (v := .ref (b 7)) rfl dX5_stepsTo_13 ?_
  refine z_iload_n 0 rfl rfl dX5_stepsTo_16 ?_
  refine z_callNR (rest := []) hl (c_X7_at l g (b 7) 40 (by decide) v.2.1.2.2.1 r1 _ rfl) zyX7_at zsX7_at zlX5_33 [(1, some (7, 1))] rfl rfl rfl (by decide) (Nat.le_of_ble_eq_true rfl) ⟨Nat.zero_le _, Nat.zero_le _⟩ dX5_stepsTo_17 (st2 := [.int (f_X7_at 40 v.2.1.2.2.1 r1)]) rfl ?_
  refine z_istore [(4, .int (f_X7_at 40 v.2.1.2.2.1 r1)), (3, .int r1), (0, .ref (a 0)), (1, .ref (b 0)), (2, .int p1)] (Nat.le_of_ble_eq_true rfl) rfl dX5_stepsTo_20 ?_
  refine z_iload_n 1 rfl rfl dX5_stepsTo_22 ?_
  refine z_iconst (v := (-1)) (by decide) dX5_stepsTo_23 ?_
  refine z_icmp_eq (tgt := 36) rfl dX5_stepsTo_24 (fun c24 => ?_) (fun c24 => ?_)
  · replace h := (if_pos c24).symm.trans h
    refine z_bipush (v := 99) (by decide) dX5_stepsTo_36 ?_
    cases h
    exact z_iret dX5_stepsTo_38 hQ
  · replace h := (if_neg c24).symm.trans h
    refine z_aload_n 3 rfl rfl dX5_stepsTo_27 ?_
    refine z_iload 0 rfl dX5_stepsTo_28 ?_
    refine z_callVR (rest := []) hl (c_X6_isJammed l g b v (f_X7_at 40 v.2.1.2.2.1 r1) _ rfl) zyX6_isJammed zvX6_isJammed rfl zlX5_62 zcX6.1 ⟨_, _, rfl⟩ [(1, none)] rfl rfl rfl (by decide) (Nat.le_of_ble_eq_true rfl) ⟨Nat.zero_le _, Nat.zero_le _⟩ dX5_stepsTo_30 (st2 := [.int (b2i (f_X6_isJammed v (f_X7_at 40 v.2.1.2.2.1 r1)))]) rfl ?_
    refine z_ifB_eq (tgt := 39) rfl dX5_stepsTo_33 (fun c33 => ?_) (fun c33 => ?_)
    · replace h := (if_neg c33).symm.trans h
      refine z_aload_n 3 rfl rfl dX5_stepsTo_39 ?_
      refine z_iload 0 rfl dX5_stepsTo_40 ?_
      obtain ⟨r2, er2, h⟩ := zb h
      refine z_callVR (rest := []) hl (c_X6_wayTo l g b v (f_X7_at 40 v.2.1.2.2.1 r1) _ er2) zyX6_wayTo zvX6_wayTo rfl zlX5_66 zcX6.1 ⟨_, _, rfl⟩ [(1, none)] rfl rfl rfl (by decide) (Nat.le_of_ble_eq_true rfl) ⟨Nat.zero_le _, Nat.zero_le _⟩ dX5_stepsTo_42 (st2 := [.int r2]) rfl ?_
      refine z_mabs zlX5_69 ⟨Nat.le_of_ble_eq_true rfl, Nat.le_of_ble_eq_true rfl⟩ ⟨Nat.zero_le _, Nat.zero_le _⟩ dX5_stepsTo_45 ?_
      cases h
      exact z_iret dX5_stepsTo_48 hQ
    · replace h := (if_pos c33).symm.trans h
      refine z_bipush (v := 99) (by decide) dX5_stepsTo_36 ?_
      cases h
      exact z_iret dX5_stepsTo_38 hQ
set_option maxHeartbeats 400000 in
set_option maxRecDepth 100000 in
theorem c_X5_pickNearest (l : Launch) (g : zG) (a : Nat → Nat) (b : Nat → Nat) (v : tX6) (h1 : Nat) (f1 : zF) (p2 : Int32) (r : Int32 × tX6) (h : f_X5_pickNearest v f1 p2 = some r) : Ctr l g true yX5_pickNearest cX5_pickNearest 9 (some .int) 4 95 0 0 [.ref (a 0), .ref (b 0), .ref h1, .int p2] ([cX5h g a, cX6 g b v, [(h1, .inl (g.2.1, 6, .inl f1))]]) ([cX5h g a, cX6 g b r.2, [(h1, .inl (g.2.1, 6, .inl f1))]]) (some (.int r.1)) := by
  refine ctr_of (by decide) (Nat.le_of_ble_eq_true rfl) (fun X hl _ _ _ hQ => ?_)
  unfold f_X5_pickNearest at h
  refine z_lv (lv' := [(0, .ref (a 0)), (1, .ref (b 0)), (2, .ref h1), (3, .int p2)]) [0, 1, 2, 3] rfl ?_
  refine z_iconst (v := 0) (by decide) dX5_pickNearest_0 ?_
  refine z_istore [(4, .int 0), (0, .ref (a 0)), (1, .ref (b 0)), (2, .ref h1), (3, .int p2)] (Nat.le_of_ble_eq_true rfl) rfl dX5_pickNearest_1 ?_
  refine z_lv (lv' := [(0, .ref (a 0)), (1, .ref (b 0)), (2, .ref h1), (3, .int p2), (4, .int 0)]) [1, 2, 3, 4, 0] rfl ?_
  suffices hk3 : (fun (s3 : Int32 × tX6) => Z true RX5 cX5_pickNearest 9 4 95 g X 0 0 ([cX5h g a, cX6 g b s3.2, [(h1, .inl (g.2.1, 6, .inl f1))]]) [(0, .ref (a 0)), (1, .ref (b 0)), (2, .ref h1), (3, .int p2), (4, .int s3.1)] 3 []) (0, v) by try dsimp only at hk3; exact hk3
  refine lp_ind (σ := Int32 × tX6) (ε := Int32 × tX6) (b_X5_pickNearest_3 f1 p2) (fun s3 => Z true RX5 cX5_pickNearest 9 4 95 g X 0 0 ([cX5h g a, cX6 g b s3.2, [(h1, .inl (g.2.1, 6, .inl f1))]]) [(0, .ref (a 0)), (1, .ref (b 0)), (2, .ref h1), (3, .int p2), (4, .int s3.1)] 3 []) (fun z => z = r) (fun s3 q3 h3 i3 x3 => ?_) 5000 (0, v) r h rfl
  unfold b_X5_pickNearest_3 at h3
  refine z_iload 4 rfl dX5_pickNearest_3 ?_
  refine z_iload_n 3 rfl rfl dX5_pickNearest_5 ?_
  refine z_icmp_ge (tgt := 85) rfl dX5_pickNearest_6 (fun c6 => ?_) (fun c6 => ?_)
  · replace h3 := (if_pos c6).symm.trans h3
    refine z_iload_n 3 rfl rfl dX5_pickNearest_85 ?_
    cases h3
    have y3 := x3 _ rfl
    cases y3
    try dsimp only at hQ
    exact z_iret dX5_pickNearest_86 hQ
  · replace h3 := (if_neg c6).symm.trans h3
    refine z_iconst (v := (-1)) (by decide) dX5_pickNearest_9 ?_
    refine z_istore [(5, .int (-1)), (0, .ref (a 0)), (1, .ref (b 0)), (2, .ref h1), (3, .int p2), (4, .int s3.1)] (Nat.le_of_ble_eq_true rfl) rfl dX5_pickNearest_10 ?_
    refine z_bipush (v := 99) (by decide) dX5_pickNearest_12 ?_
    refine z_istore [(6, .int 99), (5, .int (-1)), (0, .ref (a 0)), (1, .ref (b 0)), (2, .ref h1), (3, .int p2), (4, .int s3.1)] (Nat.le_of_ble_eq_true rfl) rfl dX5_pickNearest_14 ?_
    refine z_iconst (v := 0) (by decide) dX5_pickNearest_16 ?_
    refine z_istore [(7, .int 0), (6, .int 99), (5, .int (-1)), (0, .ref (a 0)), (1, .ref (b 0)), (2, .ref h1), (3, .int p2), (4, .int s3.1)] (Nat.le_of_ble_eq_true rfl) rfl dX5_pickNearest_17 ?_
    obtain ⟨z1, ez1, h3⟩ := zb h3
    refine z_lv (lv' := [(0, .ref (a 0)), (1, .ref (b 0)), (2, .ref h1), (3, .int p2), (4, .int s3.1), (5, .int (-1)), (6, .int 99), (7, .int 0)]) [3, 4, 5, 6, 7, 2, 1, 0] rfl ?_
    suffices hk19 : (fun (s19 : Int32 × Int32 × Int32) => Z true RX5 cX5_pickNearest 9 4 95 g X 0 0 ([cX5h g a, cX6 g b s3.2, [(h1, .inl (g.2.1, 6, .inl f1))]]) [(0, .ref (a 0)), (1, .ref (b 0)), (2, .ref h1), (3, .int p2), (4, .int s3.1), (5, .int s19.1), (6, .int s19.2.1), (7, .int s19.2.2)] 19 []) ((-1), 99, 0) by try dsimp only at hk19; exact hk19
    refine lp_ind (σ := Int32 × Int32 × Int32) (ε := Int32) (b_X5_pickNearest_19 f1 p2 s3) (fun s19 => Z true RX5 cX5_pickNearest 9 4 95 g X 0 0 ([cX5h g a, cX6 g b s3.2, [(h1, .inl (g.2.1, 6, .inl f1))]]) [(0, .ref (a 0)), (1, .ref (b 0)), (2, .ref h1), (3, .int p2), (4, .int s3.1), (5, .int s19.1), (6, .int s19.2.1), (7, .int s19.2.2)] 19 []) (fun z1 => Z true RX5 cX5_pickNearest 9 4 95 g X 0 0 ([cX5h g a, cX6 g b s3.2, [(h1, .inl (g.2.1, 6, .inl f1))]]) [(0, .ref (a 0)), (1, .ref (b 0)), (2, .ref h1), (3, .int p2), (4, .int s3.1), (5, .int z1)] 63 []) (fun s19 q19 h19 i19 x19 => ?_) 5000 ((-1), 99, 0) z1 ez1 ?_
    · unfold b_X5_pickNearest_19 at h19
      refine z_iload 7 rfl dX5_pickNearest_19 ?_
      refine z_iload_n 3 rfl rfl dX5_pickNearest_21 ?_
      refine z_icmp_ge (tgt := 63) rfl dX5_pickNearest_22 (fun c22 => ?_) (fun c22 => ?_)
      · replace h19 := (if_pos c22).symm.trans h19
        cases h19
        have k19 := x19 s19.1 rfl
        try dsimp only at k19
        exact z_lv [0, 1, 2, 3, 4, 5] rfl k19
      · replace h19 := (if_neg c22).symm.trans h19
        refine z_aload_n 0 rfl rfl dX5_pickNearest_25 ?_
        refine z_aload_n 1 rfl rfl dX5_pickNearest_26 ?_
        refine z_aload_n 2 rfl rfl dX5_pickNearest_27 ?_
        refine z_iload 7 rfl dX5_pickNearest_28 ?_
        refine z_callNR (rest := [.ref (b 0), .ref (a 0)]) hl (c_X7_at l g h1 6 (by decide) f1 s19.2.2 _ rfl) zyX7_at zsX7_at zlX5_33 [(2, none)] rfl rfl rfl (by decide) (Nat.le_of_ble_eq_true rfl) ⟨Nat.zero_le _, Nat.zero_le _⟩ dX5_pickNearest_30 (st2 := [.int (f_X7_at 6 f1 s19.2.2), .ref (b 0), .ref (a 0)]) rfl ?_
        obtain ⟨r2, er2, h19⟩ := zb h19
        refine z_callVR (rest := []) hl (c_X5_stepsTo l g a b s3.2 (f_X7_at 6 f1 s19.2.2) _ er2) zyX5_stepsTo zvX5_stepsTo rfl zlX5_46 zcX5.1 ⟨_, _, rfl⟩ [(0, none), (1, none)] rfl rfl rfl (by decide) (Nat.le_of_ble_eq_true rfl) ⟨Nat.zero_le _, Nat.zero_le _⟩ dX5_pickNearest_33 (st2 := [.int r2]) rfl ?_
        refine z_istore [(8, .int r2), (0, .ref (a 0)), (1, .ref (b 0)), (2, .ref h1), (3, .int p2), (4, .int s3.1), (5, .int s19.1), (6, .int s19.2.1), (7, .int s19.2.2)] (Nat.le_of_ble_eq_true rfl) rfl dX5_pickNearest_36 ?_
        refine z_iload 0 rfl dX5_pickNearest_38 ?_
        refine z_iload 7 rfl dX5_pickNearest_40 ?_
        refine z_icmp_ge (tgt := 57) rfl dX5_pickNearest_42 (fun c42 => ?_) (fun c42 => ?_)
        · replace h19 := (if_pos c42).symm.trans h19
          refine z_iinc 8 [(7, .int (s19.2.2 + 1)), (8, .int r2), (0, .ref (a 0)), (1, .ref (b 0)), (2, .ref h1), (3, .int p2), (4, .int s3.1), (5, .int s19.1), (6, .int s19.2.1)] rfl (v := (s19.2.2 + 1)) zinc (Nat.le_of_ble_eq_true rfl) rfl dX5_pickNearest_57 ?_
          refine z_goto (tgt := 19) rfl dX5_pickNearest_60 ?_
          cases h19
          have k19 := i19 (s19.1, s19.2.1, (s19.2.2 + 1)) rfl
          try dsimp only at k19
          exact z_lv [2, 3, 4, 5, 6, 7, 8, 0] rfl k19
        · replace h19 := (if_neg c42).symm.trans h19
          refine z_aload_n 3 rfl rfl dX5_pickNearest_45 ?_
          refine z_iload 8 rfl dX5_pickNearest_46 ?_
          refine z_callNR (rest := []) hl (c_X7_at l g h1 6 (by decide) f1 s19.2.2 _ rfl) zyX7_at zsX7_at zlX5_33 [(2, none)] rfl rfl rfl (by decide) (Nat.le_of_ble_eq_true rfl) ⟨Nat.zero_le _, Nat.zero_le _⟩ dX5_pickNearest_48 (st2 := [.int (f_X7_at 6 f1 s19.2.2)]) rfl ?_
          refine z_istore [(5, .int (f_X7_at 6 f1 s19.2.2)), (8, .int r2), (0, .ref (a 0)), (1, .ref (b 0)), (2, .ref h1), (3, .int p2), (4, .int s3.1), (6, .int s19.2.1), (7, .int s19.2.2)] (Nat.le_of_ble_eq_true rfl) rfl dX5_pickNearest_51 ?_
          refine z_iload 1 rfl dX5_pickNearest_53 ?_
          refine z_istore [(6, .int r2), (5, .int (f_X7_at 6 f1 s19.2.2)), (8, .int r2), (0, .ref (a 0)), (1, .ref (b 0)), (2, .ref h1), (3, .int p2), (4, .int s3.1), (7, .int s19.2.2)] (Nat.le_of_ble_eq_true rfl) rfl dX5_pickNearest_55 ?_
          refine z_iinc 8 [(7, .int (s19.2.2 + 1)), (6, .int r2), (5, .int (f_X7_at 6 f1 s19.2.2)), (8, .int r2), (0, .ref (a 0)), (1, .ref (b 0)), (2, .ref h1), (3, .int p2), (4, .int s3.1)] rfl (v := (s19.2.2 + 1)) zinc (Nat.le_of_ble_eq_true rfl) rfl dX5_pickNearest_57 ?_
          refine z_goto (tgt := 19) rfl dX5_pickNearest_60 ?_
          cases h19
          have k19 := i19 ((f_X7_at 6 f1 s19.2.2), r2, (s19.2.2 + 1)) rfl
          try dsimp only at k19
          exact z_lv [4, 5, 6, 7, 8, 2, 1, 0] rfl k19
    · skip
      refine z_iload 5 rfl dX5_pickNearest_63 ?_
      refine z_iconst (v := (-1)) (by decide) dX5_pickNearest_65 ?_
      refine z_icmp_ne (tgt := 72) rfl dX5_pickNearest_66 (fun c66 => ?_) (fun c66 => ?_)
      · replace h3 := (if_neg c66).symm.trans h3
        refine z_aload_n 1 rfl rfl dX5_pickNearest_72 ?_
        refine z_iload 5 rfl dX5_pickNearest_73 ?_
        obtain ⟨r3, er3, h3⟩ := zb h3
        refine z_callVW (rest := []) hl (c_X6_takeItem l g b s3.2 z1 _ er3) zyX6_takeItem zvX6_takeItem rfl zlX5_43 zcX6.1 ⟨_, _, rfl⟩ [(1, none)] rfl (by decide) rfl (w' := [cX5h g a, cX6 g b r3.2, [(h1, .inl (g.2.1, 6, .inl f1))]]) rfl rfl rfl (by decide) (Nat.le_of_ble_eq_true rfl) ⟨Nat.zero_le _, Nat.zero_le _⟩ dX5_pickNearest_75 (st2 := [.int r3.1]) rfl ?_
        refine z_pop rfl dX5_pickNearest_78 ?_
        refine z_iinc 4 [(4, .int (s3.1 + 1)), (0, .ref (a 0)), (1, .ref (b 0)), (2, .ref h1), (3, .int p2), (5, .int z1)] rfl (v := (s3.1 + 1)) zinc (Nat.le_of_ble_eq_true rfl) rfl dX5_pickNearest_79 ?_
        refine z_goto (tgt := 3) rfl dX5_pickNearest_82 ?_
        cases h3
        have k3 := i3 ((s3.1 + 1), r3.2) rfl
        try dsimp only at k3
        exact z_lv [1, 2, 3, 4, 0] rfl k3
      · replace h3 := (if_pos c66).symm.trans h3
        refine z_iload 4 rfl dX5_pickNearest_69 ?_
        cases h3
        have y3 := x3 _ rfl
        cases y3
        try dsimp only at hQ
        exact z_iret dX5_pickNearest_71 hQ
set_option maxHeartbeats 400000 in
set_option maxRecDepth 100000 in
theorem c_X5_pickInRow (l : Launch) (g : zG) (a : Nat → Nat) (b : Nat → Nat) (v : tX6) (h1 : Nat) (f1 : zF) (p2 : Int32) (r : Int32 × tX6) (h : f_X5_pickInRow v f1 p2 = some r) : Ctr l g true yX5_pickInRow cX5_pickInRow 6 (some .int) 4 94 0 0 [.ref (a 0), .ref (b 0), .ref h1, .int p2] ([cX5h g a, cX6 g b v, [(h1, .inl (g.2.1, 6, .inl f1))]]) ([cX5h g a, cX6 g b r.2, [(h1, .inl (g.2.1, 6, .inl f1))]]) (some (.int r.1)) := by
  refine ctr_of (by decide) (Nat.le_of_ble_eq_true rfl) (fun X hl _ _ _ hQ => ?_)
  unfold f_X5_pickInRow at h
  refine z_lv (lv' := [(0, .ref (a 0)), (1, .ref (b 0)), (2, .ref h1), (3, .int p2)]) [0, 1, 2, 3] rfl ?_
  refine z_iconst (v := 0) (by decide) dX5_pickInRow_0 ?_
  refine z_istore [(4, .int 0), (0, .ref (a 0)), (1, .ref (b 0)), (2, .ref h1), (3, .int p2)] (Nat.le_of_ble_eq_true rfl) rfl dX5_pickInRow_1 ?_
  refine z_lv (lv' := [(1, .ref (b 0)), (2, .ref h1), (3, .int p2), (4, .int 0)]) [2, 3, 4, 0] rfl ?_
  suffices hk3 : (fun (s3 : Int32 × tX6) => Z true RX5 cX5_pickInRow 6 4 94 g X 0 0 ([cX5h g a, cX6 g b s3.2, [(h1, .inl (g.2.1, 6, .inl f1))]]) [(1, .ref (b 0)), (2, .ref h1), (3, .int p2), (4, .int s3.1)] 3 []) (0, v) by try dsimp only at hk3; exact hk3
  refine lp_ind (σ := Int32 × tX6) (ε := Int32 × tX6) (b_X5_pickInRow_3 f1 p2) (fun s3 => Z true RX5 cX5_pickInRow 6 4 94 g X 0 0 ([cX5h g a, cX6 g b s3.2, [(h1, .inl (g.2.1, 6, .inl f1))]]) [(1, .ref (b 0)), (2, .ref h1), (3, .int p2), (4, .int s3.1)] 3 []) (fun z => z = r) (fun s3 q3 h3 i3 x3 => ?_) 5000 (0, v) r h rfl
  unfold b_X5_pickInRow_3 at h3
  refine z_iload 3 rfl dX5_pickInRow_3 ?_
  refine z_iload_n 2 rfl rfl dX5_pickInRow_5 ?_
  refine z_icmp_ge (tgt := 42) rfl dX5_pickInRow_6 (fun c6 => ?_) (fun c6 => ?_)
  · replace h3 := (if_pos c6).symm.trans h3
    refine z_iload_n 2 rfl rfl dX5_pickInRow_42 ?_
    cases h3
    have y3 := x3 _ rfl
    cases y3
    try dsimp only at hQ
    exact z_iret dX5_pickInRow_43 hQ
  · replace h3 := (if_neg c6).symm.trans h3
    refine z_aload_n 1 rfl rfl dX5_pickInRow_9 ?_
    refine z_iload 3 rfl dX5_pickInRow_10 ?_
    refine z_callNR (rest := []) hl (c_X7_at l g h1 6 (by decide) f1 s3.1 _ rfl) zyX7_at zsX7_at zlX5_33 [(2, none)] rfl rfl rfl (by decide) (Nat.le_of_ble_eq_true rfl) ⟨Nat.zero_le _, Nat.zero_le _⟩ dX5_pickInRow_12 (st2 := [.int (f_X7_at 6 f1 s3.1)]) rfl ?_
    refine z_istore [(5, .int (f_X7_at 6 f1 s3.1)), (1, .ref (b 0)), (2, .ref h1), (3, .int p2), (4, .int s3.1)] (Nat.le_of_ble_eq_true rfl) rfl dX5_pickInRow_15 ?_
    refine z_aload_n 1 rfl rfl dX5_pickInRow_17 ?_
    refine z_iload 0 rfl dX5_pickInRow_18 ?_
    obtain ⟨r1, er1, h3⟩ := zb h3
    refine z_callVR (rest := []) hl (c_X6_reasonAgainst l g b s3.2 (f_X7_at 6 f1 s3.1) _ er1) zyX6_reasonAgainst zvX6_reasonAgainst rfl zlX5_37 zcX6.1 ⟨_, _, rfl⟩ [(1, none)] rfl rfl rfl (by decide) (Nat.le_of_ble_eq_true rfl) ⟨Nat.zero_le _, Nat.zero_le _⟩ dX5_pickInRow_20 (st2 := [.int r1]) rfl ?_
    refine z_if_eq (tgt := 29) rfl dX5_pickInRow_23 (fun c23 => ?_) (fun c23 => ?_)
    · replace h3 := (if_pos c23).symm.trans h3
      refine z_aload_n 1 rfl rfl dX5_pickInRow_29 ?_
      refine z_iload 0 rfl dX5_pickInRow_30 ?_
      obtain ⟨r2, er2, h3⟩ := zb h3
      refine z_callVW (rest := []) hl (c_X6_takeItem l g b s3.2 (f_X7_at 6 f1 s3.1) _ er2) zyX6_takeItem zvX6_takeItem rfl zlX5_43 zcX6.1 ⟨_, _, rfl⟩ [(1, none)] rfl (by decide) rfl (w' := [cX5h g a, cX6 g b r2.2, [(h1, .inl (g.2.1, 6, .inl f1))]]) rfl rfl rfl (by decide) (Nat.le_of_ble_eq_true rfl) ⟨Nat.zero_le _, Nat.zero_le _⟩ dX5_pickInRow_32 (st2 := [.int r2.1]) rfl ?_
      refine z_pop rfl dX5_pickInRow_35 ?_
      refine z_iinc 4 [(4, .int (s3.1 + 1)), (5, .int (f_X7_at 6 f1 s3.1)), (1, .ref (b 0)), (2, .ref h1), (3, .int p2)] rfl (v := (s3.1 + 1)) zinc (Nat.le_of_ble_eq_true rfl) rfl dX5_pickInRow_36 ?_
      refine z_goto (tgt := 3) rfl dX5_pickInRow_39 ?_
      cases h3
      have k3 := i3 ((s3.1 + 1), r2.2) rfl
      try dsimp only at k3
      exact z_lv [2, 3, 4, 0] rfl k3
    · replace h3 := (if_neg c23).symm.trans h3
      refine z_iload 4 rfl dX5_pickInRow_26 ?_
      cases h3
      have y3 := x3 _ rfl
      cases y3
      try dsimp only at hQ
      exact z_iret dX5_pickInRow_28 hQ
set_option maxHeartbeats 400000 in
set_option maxRecDepth 100000 in
theorem c_X5_pickBatch (l : Launch) (g : zG) (a : Nat → Nat) (u : tX5) (b : Nat → Nat) (v : tX6) (h1 : Nat) (f1 : zF) (p2 : Int32) (p3 : Int32) (r : Int32 × tX5 × tX6) (h : f_X5_pickBatch u v f1 p2 p3 = some r) : Ctr l g true yX5_pickBatch cX5_pickBatch 5 (some .int) 5 130 0 0 [.ref (a 0), .ref (b 0), .ref h1, .int p2, .int p3] (kX5 g a u ++ [cX6 g b v, [(h1, .inl (g.2.1, 6, .inl f1))]]) (kX5 g a r.2.1 ++ [cX6 g b r.2.2, [(h1, .inl (g.2.1, 6, .inl f1))]]) (some (.int r.1)) := by
  refine ctr_of (by decide) (Nat.le_of_ble_eq_true rfl) (fun X hl _ _ _ hQ => ?_)
  unfold f_X5_pickBatch at h
  refine z_lv (lv' := [(0, .ref (a 0)), (1, .ref (b 0)), (2, .ref h1), (3, .int p2), (4, .int p3)]) [0, 1, 2, 3, 4] rfl ?_
  refine z_iload 4 rfl dX5_pickBatch_0 ?_
  refine z_iconst (v := 1) (by decide) dX5_pickBatch_2 ?_
  refine z_icmp_ne (tgt := 14) rfl dX5_pickBatch_3 (fun c3 => ?_) (fun c3 => ?_)
  · replace h := (if_neg c3).symm.trans h
    refine z_iload 4 rfl dX5_pickBatch_14 ?_
    refine z_iconst (v := 2) (by decide) dX5_pickBatch_16 ?_
    refine z_icmp_ne (tgt := 47) rfl dX5_pickBatch_17 (fun c17 => ?_) (fun c17 => ?_)
    · replace h := (if_neg c17).symm.trans h
      refine z_aload_n 0 rfl rfl dX5_pickBatch_47 ?_
      refine z_aload_n 1 rfl rfl dX5_pickBatch_48 ?_
      refine z_aload_n 2 rfl rfl dX5_pickBatch_49 ?_
      refine z_iload_n 3 rfl rfl dX5_pickBatch_50 ?_
      obtain ⟨r1, er1, h⟩ := zb h
      refine z_callVW (rest := []) hl (c_X5_pickInRow l g a b v h1 f1 p2 _ er1) zyX5_pickInRow zvX5_pickInRow rfl zlX5_30 zcX5.1 ⟨_, _, rfl⟩ [(0, none), (2, none), (3, none)] rfl (by decide) rfl (w' := kX5 g a u ++ [cX6 g b r1.2, [(h1, .inl (g.2.1, 6, .inl f1))]]) rfl rfl rfl (by decide) (Nat.le_of_ble_eq_true rfl) ⟨Nat.zero_le _, Nat.zero_le _⟩ dX5_pickBatch_51 (st2 := [.int r1.1]) rfl ?_
      cases h
      try dsimp only at hQ
      exact z_iret dX5_pickBatch_54 hQ
    · replace h := (if_pos c17).symm.trans h
      refine z_aload_n 0 rfl rfl dX5_pickBatch_20 ?_
      refine z_get zcX5 0 rfl 0 rfl 0 (Nat.le_of_ble_eq_true rfl) zfX5_12 (v := .ref (a 1)) rfl dX5_pickBatch_21 ?_
      refine z_aload_n 1 rfl rfl dX5_pickBatch_24 ?_
      refine z_aload_n 2 rfl rfl dX5_pickBatch_25 ?_
      refine z_iload_n 3 rfl rfl dX5_pickBatch_26 ?_
      obtain ⟨r2, er2, h⟩ := zb h
      refine z_callVW (rest := []) hl (c_X4_findOrder l g (fun i => a (i + 1)) u b v h1 f1 p2 _ er2) zyX4_findOrder zvX4_findOrder rfl zlX5_22 zcX4.1 ⟨_, _, rfl⟩ [(1, none), (2, none), (3, none)] rfl (by decide) rfl (w' := kX5 g a r2.2 ++ [cX6 g b v, [(h1, .inl (g.2.1, 6, .inl f1))]]) rfl rfl rfl (by decide) (Nat.le_of_ble_eq_true rfl) ⟨Nat.zero_le _, Nat.zero_le _⟩ dX5_pickBatch_27 (st2 := [.int (b2i r2.1)]) rfl ?_
      refine z_ifB_eq (tgt := 47) rfl dX5_pickBatch_30 (fun c30 => ?_) (fun c30 => ?_)
      · replace h := (if_neg c30).symm.trans h
        refine z_aload_n 0 rfl rfl dX5_pickBatch_47 ?_
        refine z_aload_n 1 rfl rfl dX5_pickBatch_48 ?_
        refine z_aload_n 2 rfl rfl dX5_pickBatch_49 ?_
        refine z_iload_n 3 rfl rfl dX5_pickBatch_50 ?_
        obtain ⟨r3, er3, h⟩ := zb h
        refine z_callVW (rest := []) hl (c_X5_pickInRow l g a b v h1 f1 p2 _ er3) zyX5_pickInRow zvX5_pickInRow rfl zlX5_30 zcX5.1 ⟨_, _, rfl⟩ [(0, none), (2, none), (3, none)] rfl (by decide) rfl (w' := kX5 g a r2.2 ++ [cX6 g b r3.2, [(h1, .inl (g.2.1, 6, .inl f1))]]) rfl rfl rfl (by decide) (Nat.le_of_ble_eq_true rfl) ⟨Nat.zero_le _, Nat.zero_le _⟩ dX5_pickBatch_51 (st2 := [.int r3.1]) rfl ?_
        cases h
        try dsimp only at hQ
        exact z_iret dX5_pickBatch_54 hQ
      · replace h := (if_pos c30).symm.trans h
        refine z_aload_n 0 rfl rfl dX5_pickBatch_33 ?_
        refine z_aload_n 1 rfl rfl dX5_pickBatch_34 ?_
        refine z_aload_n 0 rfl rfl dX5_pickBatch_35 ?_
        refine z_get zcX5 0 rfl 0 rfl 0 (Nat.le_of_ble_eq_true rfl) zfX5_12 (v := .ref (a 1)) rfl dX5_pickBatch_36 ?_
        refine z_get zcX4 1 rfl 0 rfl 0 (Nat.le_of_ble_eq_true rfl) zfX5_26 (v := .ref (a 2)) rfl dX5_pickBatch_39 ?_
        refine z_iload_n 3 rfl rfl dX5_pickBatch_42 ?_
        obtain ⟨r4, er4, h⟩ := zb h
        refine z_callVW (rest := []) hl (c_X5_pickInRow l g a b v (a 2) r2.2.1 p2 _ er4) zyX5_pickInRow zvX5_pickInRow rfl zlX5_30 zcX5.1 ⟨_, _, rfl⟩ [(0, none), (2, none), (1, some (1, 1))] rfl (by decide) rfl (w' := kX5 g a r2.2 ++ [cX6 g b r4.2, [(h1, .inl (g.2.1, 6, .inl f1))]]) rfl rfl rfl (by decide) (Nat.le_of_ble_eq_true rfl) ⟨Nat.zero_le _, Nat.zero_le _⟩ dX5_pickBatch_43 (st2 := [.int r4.1]) rfl ?_
        cases h
        try dsimp only at hQ
        exact z_iret dX5_pickBatch_46 hQ
  · replace h := (if_pos c3).symm.trans h
    refine z_aload_n 0 rfl rfl dX5_pickBatch_6 ?_
    refine z_aload_n 1 rfl rfl dX5_pickBatch_7 ?_
    refine z_aload_n 2 rfl rfl dX5_pickBatch_8 ?_
    refine z_iload_n 3 rfl rfl dX5_pickBatch_9 ?_
    obtain ⟨r5, er5, h⟩ := zb h
    refine z_callVW (rest := []) hl (c_X5_pickNearest l g a b v h1 f1 p2 _ er5) zyX5_pickNearest zvX5_pickNearest rfl zlX5_18 zcX5.1 ⟨_, _, rfl⟩ [(0, none), (2, none), (3, none)] rfl (by decide) rfl (w' := kX5 g a u ++ [cX6 g b r5.2, [(h1, .inl (g.2.1, 6, .inl f1))]]) rfl rfl rfl (by decide) (Nat.le_of_ble_eq_true rfl) ⟨Nat.zero_le _, Nat.zero_le _⟩ dX5_pickBatch_10 (st2 := [.int r5.1]) rfl ?_
    cases h
    try dsimp only at hQ
    exact z_iret dX5_pickBatch_13 hQ
set_option maxHeartbeats 400000 in
set_option maxRecDepth 100000 in
theorem c_X7_numberOf (l : Launch) (g : zG) (a : Nat → Nat) (u : tX7) (p0 : Int32) (r : Int32) (h : f_X7_numberOf u p0 = some r) : Ctr l g false yX7_numberOf cX7_numberOf 2 (some .int) 4 90 0 0 [.ref (a 0), .int p0] (kX7 g a u) (kX7 g a u) (some (.int r)) := by
  refine ctr_of (by decide) (Nat.le_of_ble_eq_true rfl) (fun X hl _ _ _ hQ => ?_)
  unfold f_X7_numberOf at h
  refine z_lv (lv' := [(0, .ref (a 0)), (1, .int p0)]) [0, 1] rfl ?_
  refine z_iload_n 1 rfl rfl dX7_numberOf_0 ?_
  by_cases c1_0 : p0 = (0 : Int32)
  · replace h := (if_pos c1_0).symm.trans h
    refine z_tabIn (tgt := 56) (off := 55) (by rw [c1_0]; decide) (by rw [c1_0]; decide) (by rw [c1_0]; rfl) rfl dX7_numberOf_1 ?_
    refine z_aload_n 0 rfl rfl dX7_numberOf_56 ?_
    refine z_get zcX7 0 rfl 0 rfl 0 (Nat.le_of_ble_eq_true rfl) zfX7_10 (v := .ref (a 1)) rfl dX7_numberOf_57 ?_
    refine z_get zcX6 1 rfl 0 rfl 4 (Nat.le_of_ble_eq_true rfl) zfX7_255 (v := .int u.1.2.2.2.2.1) rfl dX7_numberOf_60 ?_
    cases h
    exact z_iret dX7_numberOf_63 hQ
  · replace h := (if_neg c1_0).symm.trans h
    by_cases c1_1 : p0 = (1 : Int32)
    · replace h := (if_pos c1_1).symm.trans h
      refine z_tabIn (tgt := 64) (off := 63) (by rw [c1_1]; decide) (by rw [c1_1]; decide) (by rw [c1_1]; rfl) rfl dX7_numberOf_1 ?_
      refine z_aload_n 0 rfl rfl dX7_numberOf_64 ?_
      refine z_get zcX7 0 rfl 0 rfl 0 (Nat.le_of_ble_eq_true rfl) zfX7_10 (v := .ref (a 1)) rfl dX7_numberOf_65 ?_
      refine z_get zcX6 1 rfl 0 rfl 1 (Nat.le_of_ble_eq_true rfl) zfX7_76 (v := .ref (a 5)) rfl dX7_numberOf_68 ?_
      refine z_get zcX3 1 rfl 4 rfl 3 (Nat.le_of_ble_eq_true rfl) zfX7_258 (v := .int u.1.2.1.2.2.2.1) rfl dX7_numberOf_71 ?_
      cases h
      exact z_iret dX7_numberOf_74 hQ
    · replace h := (if_neg c1_1).symm.trans h
      by_cases c1_2 : p0 = (2 : Int32)
      · replace h := (if_pos c1_2).symm.trans h
        refine z_tabIn (tgt := 75) (off := 74) (by rw [c1_2]; decide) (by rw [c1_2]; decide) (by rw [c1_2]; rfl) rfl dX7_numberOf_1 ?_
        refine z_aload_n 0 rfl rfl dX7_numberOf_75 ?_
        refine z_get zcX7 0 rfl 0 rfl 0 (Nat.le_of_ble_eq_true rfl) zfX7_10 (v := .ref (a 1)) rfl dX7_numberOf_76 ?_
        refine z_get zcX6 1 rfl 0 rfl 0 (Nat.le_of_ble_eq_true rfl) zfX7_138 (v := .ref (a 2)) rfl dX7_numberOf_79 ?_
        obtain ⟨r1, er1, h⟩ := zb h
        refine z_callVR (rest := []) hl (c_X0_wholeLoad l g (fun i => a (i + 2)) u.1.1 _ er1) zyX0_wholeLoad zvX0_wholeLoad rfl zlX7_259 zcX0.1 ⟨_, _, rfl⟩ [(1, some (1, 3))] rfl rfl rfl (by decide) (Nat.le_of_ble_eq_true rfl) ⟨Nat.zero_le _, Nat.zero_le _⟩ dX7_numberOf_82 (st2 := [.int r1]) rfl ?_
        cases h
        exact z_iret dX7_numberOf_85 hQ
      · replace h := (if_neg c1_2).symm.trans h
        by_cases c1_3 : p0 = (3 : Int32)
        · replace h := (if_pos c1_3).symm.trans h
          refine z_tabIn (tgt := 86) (off := 85) (by rw [c1_3]; decide) (by rw [c1_3]; decide) (by rw [c1_3]; rfl) rfl dX7_numberOf_1 ?_
          refine z_aload_n 0 rfl rfl dX7_numberOf_86 ?_
          refine z_get zcX7 0 rfl 0 rfl 0 (Nat.le_of_ble_eq_true rfl) zfX7_10 (v := .ref (a 1)) rfl dX7_numberOf_87 ?_
          refine z_get zcX6 1 rfl 0 rfl 0 (Nat.le_of_ble_eq_true rfl) zfX7_138 (v := .ref (a 2)) rfl dX7_numberOf_90 ?_
          refine z_aload_n 0 rfl rfl dX7_numberOf_93 ?_
          refine z_get zcX7 0 rfl 0 rfl 0 (Nat.le_of_ble_eq_true rfl) zfX7_10 (v := .ref (a 1)) rfl dX7_numberOf_94 ?_
          refine z_get zcX6 1 rfl 0 rfl 4 (Nat.le_of_ble_eq_true rfl) zfX7_255 (v := .int u.1.2.2.2.2.1) rfl dX7_numberOf_97 ?_
          refine z_callVR (rest := []) hl (c_X0_imbalanceAt l g (fun i => a (i + 2)) u.1.1 u.1.2.2.2.2.1 _ rfl) zyX0_imbalanceAt zvX0_imbalanceAt rfl zlX7_262 zcX0.1 ⟨_, _, rfl⟩ [(1, some (1, 3))] rfl rfl rfl (by decide) (Nat.le_of_ble_eq_true rfl) ⟨Nat.zero_le _, Nat.zero_le _⟩ dX7_numberOf_100 (st2 := [.int (f_X0_imbalanceAt u.1.1 u.1.2.2.2.2.1)]) rfl ?_
          cases h
          exact z_iret dX7_numberOf_103 hQ
        · replace h := (if_neg c1_3).symm.trans h
          by_cases c1_4 : p0 = (4 : Int32)
          · replace h := (if_pos c1_4).symm.trans h
            refine z_tabIn (tgt := 104) (off := 103) (by rw [c1_4]; decide) (by rw [c1_4]; decide) (by rw [c1_4]; rfl) rfl dX7_numberOf_1 ?_
            refine z_aload_n 0 rfl rfl dX7_numberOf_104 ?_
            refine z_get zcX7 0 rfl 0 rfl 0 (Nat.le_of_ble_eq_true rfl) zfX7_10 (v := .ref (a 1)) rfl dX7_numberOf_105 ?_
            refine z_get zcX6 1 rfl 0 rfl 0 (Nat.le_of_ble_eq_true rfl) zfX7_138 (v := .ref (a 2)) rfl dX7_numberOf_108 ?_
            refine z_iconst (v := 0) (by decide) dX7_numberOf_111 ?_
            refine z_iconst (v := 0) (by decide) dX7_numberOf_112 ?_
            obtain ⟨r2, er2, h⟩ := zb h
            refine z_callVR (rest := []) hl (c_X0_greatestWith l g (fun i => a (i + 2)) u.1.1 0 0 _ er2) zyX0_greatestWith zvX0_greatestWith rfl zlX7_212 zcX0.1 ⟨_, _, rfl⟩ [(1, some (1, 3))] rfl rfl rfl (by decide) (Nat.le_of_ble_eq_true rfl) ⟨Nat.zero_le _, Nat.zero_le _⟩ dX7_numberOf_113 (st2 := [.int r2]) rfl ?_
            cases h
            exact z_iret dX7_numberOf_116 hQ
          · replace h := (if_neg c1_4).symm.trans h
            by_cases c1_5 : p0 = (5 : Int32)
            · replace h := (if_pos c1_5).symm.trans h
              refine z_tabIn (tgt := 117) (off := 116) (by rw [c1_5]; decide) (by rw [c1_5]; decide) (by rw [c1_5]; rfl) rfl dX7_numberOf_1 ?_
              refine z_aload_n 0 rfl rfl dX7_numberOf_117 ?_
              refine z_get zcX7 0 rfl 0 rfl 0 (Nat.le_of_ble_eq_true rfl) zfX7_10 (v := .ref (a 1)) rfl dX7_numberOf_118 ?_
              refine z_get zcX6 1 rfl 0 rfl 5 (Nat.le_of_ble_eq_true rfl) zfX7_265 (v := .int u.1.2.2.2.2.2.1) rfl dX7_numberOf_121 ?_
              cases h
              exact z_iret dX7_numberOf_124 hQ
            · replace h := (if_neg c1_5).symm.trans h
              by_cases c1_6 : p0 = (6 : Int32)
              · replace h := (if_pos c1_6).symm.trans h
                refine z_tabIn (tgt := 125) (off := 124) (by rw [c1_6]; decide) (by rw [c1_6]; decide) (by rw [c1_6]; rfl) rfl dX7_numberOf_1 ?_
                refine z_aload_n 0 rfl rfl dX7_numberOf_125 ?_
                refine z_get zcX7 0 rfl 0 rfl 0 (Nat.le_of_ble_eq_true rfl) zfX7_10 (v := .ref (a 1)) rfl dX7_numberOf_126 ?_
                refine z_get zcX6 1 rfl 0 rfl 6 (Nat.le_of_ble_eq_true rfl) zfX7_268 (v := .int u.1.2.2.2.2.2.2.1) rfl dX7_numberOf_129 ?_
                cases h
                exact z_iret dX7_numberOf_132 hQ
              · replace h := (if_neg c1_6).symm.trans h
                by_cases c1_7 : p0 = (7 : Int32)
                · replace h := (if_pos c1_7).symm.trans h
                  refine z_tabIn (tgt := 133) (off := 132) (by rw [c1_7]; decide) (by rw [c1_7]; decide) (by rw [c1_7]; rfl) rfl dX7_numberOf_1 ?_
                  refine z_aload_n 0 rfl rfl dX7_numberOf_133 ?_
                  refine z_get zcX7 0 rfl 0 rfl 0 (Nat.le_of_ble_eq_true rfl) zfX7_10 (v := .ref (a 1)) rfl dX7_numberOf_134 ?_
                  refine z_get zcX6 1 rfl 0 rfl 7 (Nat.le_of_ble_eq_true rfl) zfX7_271 (v := .int u.1.2.2.2.2.2.2.2.1) rfl dX7_numberOf_137 ?_
                  cases h
                  exact z_iret dX7_numberOf_140 hQ
                · replace h := (if_neg c1_7).symm.trans h
                  by_cases c1_8 : p0 = (8 : Int32)
                  · replace h := (if_pos c1_8).symm.trans h
                    refine z_tabIn (tgt := 141) (off := 140) (by rw [c1_8]; decide) (by rw [c1_8]; decide) (by rw [c1_8]; rfl) rfl dX7_numberOf_1 ?_
                    refine z_aload_n 0 rfl rfl dX7_numberOf_141 ?_
                    refine z_get zcX7 0 rfl 0 rfl 0 (Nat.le_of_ble_eq_true rfl) zfX7_10 (v := .ref (a 1)) rfl dX7_numberOf_142 ?_
                    refine z_get zcX6 1 rfl 0 rfl 8 (Nat.le_of_ble_eq_true rfl) zfX7_274 (v := .int u.1.2.2.2.2.2.2.2.2) rfl dX7_numberOf_145 ?_
                    cases h
                    exact z_iret dX7_numberOf_148 hQ
                  · replace h := (if_neg c1_8).symm.trans h
                    by_cases c1_9 : p0 = (9 : Int32)
                    · replace h := (if_pos c1_9).symm.trans h
                      refine z_tabIn (tgt := 149) (off := 148) (by rw [c1_9]; decide) (by rw [c1_9]; decide) (by rw [c1_9]; rfl) rfl dX7_numberOf_1 ?_
                      refine z_aload_n 0 rfl rfl dX7_numberOf_149 ?_
                      refine z_get zcX7 0 rfl 0 rfl 0 (Nat.le_of_ble_eq_true rfl) zfX7_10 (v := .ref (a 1)) rfl dX7_numberOf_150 ?_
                      obtain ⟨r3, er3, h⟩ := zb h
                      refine z_callVR (rest := []) hl (c_X6_jammedDrawers l g (fun i => a (i + 1)) u.1 _ er3) zyX6_jammedDrawers zvX6_jammedDrawers rfl zlX7_277 zcX6.1 ⟨_, _, rfl⟩ [(1, none)] rfl rfl rfl (by decide) (Nat.le_of_ble_eq_true rfl) ⟨Nat.zero_le _, Nat.zero_le _⟩ dX7_numberOf_153 (st2 := [.int r3]) rfl ?_
                      cases h
                      exact z_iret dX7_numberOf_156 hQ
                    · replace h := (if_neg c1_9).symm.trans h
                      have n1_0 := lv_neT c1_0 (a := 0) rfl
                      have n1_1 := lv_neT c1_1 (a := 1) rfl
                      have n1_2 := lv_neT c1_2 (a := 2) rfl
                      have n1_3 := lv_neT c1_3 (a := 3) rfl
                      have n1_4 := lv_neT c1_4 (a := 4) rfl
                      have n1_5 := lv_neT c1_5 (a := 5) rfl
                      have n1_6 := lv_neT c1_6 (a := 6) rfl
                      have n1_7 := lv_neT c1_7 (a := 7) rfl
                      have n1_8 := lv_neT c1_8 (a := 8) rfl
                      have n1_9 := lv_neT c1_9 (a := 9) rfl
                      refine z_tabOut (tgt := 157) (by omega) rfl dX7_numberOf_1 ?_
                      refine z_aload_n 0 rfl rfl dX7_numberOf_157 ?_
                      refine z_get zcX7 0 rfl 0 rfl 2 (Nat.le_of_ble_eq_true rfl) zfX7_22 (v := .ref (a 21)) rfl dX7_numberOf_158 ?_
                      refine z_get zcX2 3 rfl 0 rfl 2 (Nat.le_of_ble_eq_true rfl) zfX7_184 (v := .int u.2.2.1.2.2) rfl dX7_numberOf_161 ?_
                      cases h
                      exact z_iret dX7_numberOf_164 hQ
set_option maxHeartbeats 400000 in
set_option maxRecDepth 100000 in
theorem c_X7_shareOfLeast (l : Launch) (g : zG) (a : Nat → Nat) (u : tX7) (r : UInt64) (h : f_X7_shareOfLeast u = some r) : Ctr l g false yX7_shareOfLeast cX7_shareOfLeast 2 (some .double) 2 46 0 0 [.ref (a 0)] (kX7 g a u) (kX7 g a u) (some (.double r)) := by
  refine ctr_of (by decide) (Nat.le_of_ble_eq_true rfl) (fun X hl _ _ _ hQ => ?_)
  unfold f_X7_shareOfLeast at h
  refine z_lv (lv' := [(0, .ref (a 0))]) [0] rfl ?_
  refine z_aload_n 0 rfl rfl dX7_shareOfLeast_0 ?_
  refine z_get zcX7 0 rfl 0 rfl 0 (Nat.le_of_ble_eq_true rfl) zfX7_10 (v := .ref (a 1)) rfl dX7_shareOfLeast_1 ?_
  refine z_get zcX6 1 rfl 0 rfl 0 (Nat.le_of_ble_eq_true rfl) zfX7_138 (v := .ref (a 2)) rfl dX7_shareOfLeast_4 ?_
  obtain ⟨r1, er1, h⟩ := zb h
  refine z_callVR (rest := []) hl (c_X0_greatestLoad l g (fun i => a (i + 2)) u.1.1 _ er1) zyX0_greatestLoad zvX0_greatestLoad rfl zlX7_142 zcX0.1 ⟨_, _, rfl⟩ [(1, some (1, 3))] rfl rfl rfl (by decide) (Nat.le_of_ble_eq_true rfl) ⟨Nat.zero_le _, Nat.zero_le _⟩ dX7_shareOfLeast_7 (st2 := [.int r1]) rfl ?_
  refine z_istore_n [(1, .int r1), (0, .ref (a 0))] rfl (Nat.le_of_ble_eq_true rfl) rfl dX7_shareOfLeast_10 ?_
  refine z_iload_n 0 rfl rfl dX7_shareOfLeast_11 ?_
  refine z_if_gt (tgt := 17) rfl dX7_shareOfLeast_12 (fun c12 => ?_) (fun c12 => ?_)
  · replace h := (if_pos c12).symm.trans h
    refine z_aload_n 1 rfl rfl dX7_shareOfLeast_17 ?_
    refine z_get zcX7 0 rfl 0 rfl 0 (Nat.le_of_ble_eq_true rfl) zfX7_10 (v := .ref (a 1)) rfl dX7_shareOfLeast_18 ?_
    refine z_get zcX6 1 rfl 0 rfl 0 (Nat.le_of_ble_eq_true rfl) zfX7_138 (v := .ref (a 2)) rfl dX7_shareOfLeast_21 ?_
    obtain ⟨r2, er2, h⟩ := zb h
    refine z_callVR (rest := []) hl (c_X0_leastLoad l g (fun i => a (i + 2)) u.1.1 _ er2) zyX0_leastLoad zvX0_leastLoad rfl zlX7_280 zcX0.1 ⟨_, _, rfl⟩ [(1, some (1, 3))] rfl rfl rfl (by decide) (Nat.le_of_ble_eq_true rfl) ⟨Nat.zero_le _, Nat.zero_le _⟩ dX7_shareOfLeast_24 (st2 := [.int r2]) rfl ?_
    refine z_i2d dX7_shareOfLeast_27 ?_
    refine z_iload_n 0 rfl rfl dX7_shareOfLeast_28 ?_
    refine z_i2d dX7_shareOfLeast_29 ?_
    obtain ⟨r3, er3, h⟩ := zb h
    refine z_ddiv er3 dX7_shareOfLeast_30 ?_
    cases h
    exact z_dret dX7_shareOfLeast_31 hQ
  · replace h := (if_neg c12).symm.trans h
    refine z_dconst1 dX7_shareOfLeast_15 ?_
    cases h
    exact z_dret dX7_shareOfLeast_16 hQ
set_option maxHeartbeats 400000 in
set_option maxRecDepth 100000 in
theorem c_X7_tryBatch (l : Launch) (g : zG) (a : Nat → Nat) (u : tX7) (p0 : Int32) (r : Int32 × tX7) (h : f_X7_tryBatch u p0 = some r) : Ctr l g true yX7_tryBatch cX7_tryBatch 2 (some .int) 6 154 0 0 [.ref (a 0), .int p0] (kX7 g a u) (kX7 g a r.2) (some (.int r.1)) := by
  refine ctr_of (by decide) (Nat.le_of_ble_eq_true rfl) (fun X hl _ _ _ hQ => ?_)
  unfold f_X7_tryBatch at h
  refine z_lv (lv' := [(0, .ref (a 0)), (1, .int p0)]) [0, 1] rfl ?_
  refine z_aload_n 0 rfl rfl dX7_tryBatch_0 ?_
  refine z_get zcX7 0 rfl 0 rfl 3 (Nat.le_of_ble_eq_true rfl) zfX7_29 (v := .ref (a 83)) rfl dX7_tryBatch_1 ?_
  obtain ⟨r1, er1, h⟩ := zb h
  refine z_callVW (rest := []) hl (c_X1_readBatch l g (fun i => a (i + 83)) u.2.2.2.1 _ er1) zyX1_readBatch zvX1_readBatch rfl zlX7_168 zcX1.1 ⟨_, _, rfl⟩ [(10, none)] rfl (by decide) rfl (w' := kX7 g a (u.1, u.2.1, u.2.2.1, r1.2, u.2.2.2.2)) rfl rfl rfl (by decide) (Nat.le_of_ble_eq_true rfl) ⟨Nat.zero_le _, Nat.zero_le _⟩ dX7_tryBatch_4 (st2 := [.int (b2i r1.1)]) rfl ?_
  refine z_ifB_ne (tgt := 12) rfl dX7_tryBatch_7 (fun c7 => ?_) (fun c7 => ?_)
  · replace h := (if_pos c7).symm.trans h
    refine z_aload_n 0 rfl rfl dX7_tryBatch_12 ?_
    refine z_get zcX7 0 rfl 0 rfl 1 (Nat.le_of_ble_eq_true rfl) zfX7_16 (v := .ref (a 11)) rfl dX7_tryBatch_13 ?_
    refine z_aload_n 0 rfl rfl dX7_tryBatch_16 ?_
    refine z_get zcX7 0 rfl 0 rfl 0 (Nat.le_of_ble_eq_true rfl) zfX7_10 (v := .ref (a 1)) rfl dX7_tryBatch_17 ?_
    obtain ⟨r2, er2, h⟩ := zb h
    refine z_callVW (rest := []) hl (c_X6_copyFrom l g (fun i => a (i + 11)) u.2.1 (fun i => a (i + 1)) u.1 _ er2) zyX6_copyFrom zvX6_copyFrom rfl zlX7_283 zcX6.1 ⟨_, _, rfl⟩ [(2, none), (1, none)] rfl (by decide) rfl (w' := kX7 g a (u.1, r2, u.2.2.1, r1.2, u.2.2.2.2)) rfl rfl rfl (by decide) (Nat.le_of_ble_eq_true rfl) ⟨Nat.zero_le _, Nat.zero_le _⟩ dX7_tryBatch_20 (st2 := []) rfl ?_
    refine z_aload_n 0 rfl rfl dX7_tryBatch_23 ?_
    refine z_get zcX7 0 rfl 0 rfl 4 (Nat.le_of_ble_eq_true rfl) zfX7_36 (v := .ref (a 86)) rfl dX7_tryBatch_24 ?_
    refine z_aload_n 0 rfl rfl dX7_tryBatch_27 ?_
    refine z_get zcX7 0 rfl 0 rfl 1 (Nat.le_of_ble_eq_true rfl) zfX7_16 (v := .ref (a 11)) rfl dX7_tryBatch_28 ?_
    refine z_aload_n 0 rfl rfl dX7_tryBatch_31 ?_
    refine z_get zcX7 0 rfl 0 rfl 3 (Nat.le_of_ble_eq_true rfl) zfX7_29 (v := .ref (a 83)) rfl dX7_tryBatch_32 ?_
    refine z_get zcX1 10 rfl 0 rfl 2 (Nat.le_of_ble_eq_true rfl) zfX7_174 (v := .ref (a 85)) rfl dX7_tryBatch_35 ?_
    refine z_aload_n 0 rfl rfl dX7_tryBatch_38 ?_
    refine z_get zcX7 0 rfl 0 rfl 3 (Nat.le_of_ble_eq_true rfl) zfX7_29 (v := .ref (a 83)) rfl dX7_tryBatch_39 ?_
    refine z_get zcX1 10 rfl 0 rfl 3 (Nat.le_of_ble_eq_true rfl) zfX7_177 (v := .int r1.2.2.2.2.1) rfl dX7_tryBatch_42 ?_
    refine z_iload_n 1 rfl rfl dX7_tryBatch_45 ?_
    obtain ⟨r3, er3, h⟩ := zb h
    refine z_callVW (rest := []) hl (c_X5_pickBatch l g (fun i => a (i + 86)) u.2.2.2.2 (fun i => a (i + 11)) r2 (a 85) r1.2.2.2.1 r1.2.2.2.2.1 p0 _ er3) zyX5_pickBatch zvX5_pickBatch rfl zlX7_180 zcX5.1 ⟨_, _, rfl⟩ [(11, none), (12, none), (2, none), (10, some (2, 1))] rfl (by decide) rfl (w' := kX7 g a (u.1, r3.2.2, u.2.2.1, r1.2, r3.2.1)) rfl rfl rfl (by decide) (Nat.le_of_ble_eq_true rfl) ⟨Nat.zero_le _, Nat.zero_le _⟩ dX7_tryBatch_46 (st2 := [.int r3.1]) rfl ?_
    cases h
    try dsimp only at hQ
    exact z_iret dX7_tryBatch_49 hQ
  · replace h := (if_neg c7).symm.trans h
    refine z_iconst (v := (-1)) (by decide) dX7_tryBatch_10 ?_
    cases h
    try dsimp only at hQ
    exact z_iret dX7_tryBatch_11 hQ
set_option maxHeartbeats 400000 in
set_option maxRecDepth 100000 in
theorem c_X7_outcomeOf (l : Launch) (g : zG) (a : Nat → Nat) (u : tX7) (p0 : Int32) (p1 : Int32) (r : Int32) (h : f_X7_outcomeOf u p0 p1 = some r) : Ctr l g false yX7_outcomeOf cX7_outcomeOf 3 (some .int) 4 90 0 0 [.ref (a 0), .int p0, .int p1] (kX7 g a u) (kX7 g a u) (some (.int r)) := by
  refine ctr_of (by decide) (Nat.le_of_ble_eq_true rfl) (fun X hl _ _ _ hQ => ?_)
  unfold f_X7_outcomeOf at h
  refine z_lv (lv' := [(0, .ref (a 0)), (1, .int p0), (2, .int p1)]) [0, 1, 2] rfl ?_
  refine z_iload_n 1 rfl rfl dX7_outcomeOf_0 ?_
  refine z_iconst (v := (-1)) (by decide) dX7_outcomeOf_1 ?_
  refine z_icmp_ne (tgt := 7) rfl dX7_outcomeOf_2 (fun c2 => ?_) (fun c2 => ?_)
  · replace h := (if_neg c2).symm.trans h
    refine z_iload_n 2 rfl rfl dX7_outcomeOf_7 ?_
    by_cases c8_0 : p1 = (0 : Int32)
    · replace h := (if_pos c8_0).symm.trans h
      refine z_tabIn (tgt := 36) (off := 28) (by rw [c8_0]; decide) (by rw [c8_0]; decide) (by rw [c8_0]; rfl) rfl dX7_outcomeOf_8 ?_
      refine z_iload_n 1 rfl rfl dX7_outcomeOf_36 ?_
      cases h
      exact z_iret dX7_outcomeOf_37 hQ
    · replace h := (if_neg c8_0).symm.trans h
      by_cases c8_1 : p1 = (1 : Int32)
      · replace h := (if_pos c8_1).symm.trans h
        refine z_tabIn (tgt := 38) (off := 30) (by rw [c8_1]; decide) (by rw [c8_1]; decide) (by rw [c8_1]; rfl) rfl dX7_outcomeOf_8 ?_
        refine z_aload_n 0 rfl rfl dX7_outcomeOf_38 ?_
        refine z_get zcX7 0 rfl 0 rfl 1 (Nat.le_of_ble_eq_true rfl) zfX7_16 (v := .ref (a 11)) rfl dX7_outcomeOf_39 ?_
        refine z_get zcX6 2 rfl 0 rfl 5 (Nat.le_of_ble_eq_true rfl) zfX7_265 (v := .int u.2.1.2.2.2.2.2.1) rfl dX7_outcomeOf_42 ?_
        refine z_aload_n 0 rfl rfl dX7_outcomeOf_45 ?_
        refine z_get zcX7 0 rfl 0 rfl 0 (Nat.le_of_ble_eq_true rfl) zfX7_10 (v := .ref (a 1)) rfl dX7_outcomeOf_46 ?_
        refine z_get zcX6 1 rfl 0 rfl 5 (Nat.le_of_ble_eq_true rfl) zfX7_265 (v := .int u.1.2.2.2.2.2.1) rfl dX7_outcomeOf_49 ?_
        refine z_isub dX7_outcomeOf_52 ?_
        cases h
        exact z_iret dX7_outcomeOf_53 hQ
      · replace h := (if_neg c8_1).symm.trans h
        by_cases c8_2 : p1 = (2 : Int32)
        · replace h := (if_pos c8_2).symm.trans h
          refine z_tabIn (tgt := 54) (off := 46) (by rw [c8_2]; decide) (by rw [c8_2]; decide) (by rw [c8_2]; rfl) rfl dX7_outcomeOf_8 ?_
          refine z_aload_n 0 rfl rfl dX7_outcomeOf_54 ?_
          refine z_get zcX7 0 rfl 0 rfl 1 (Nat.le_of_ble_eq_true rfl) zfX7_16 (v := .ref (a 11)) rfl dX7_outcomeOf_55 ?_
          refine z_get zcX6 2 rfl 0 rfl 4 (Nat.le_of_ble_eq_true rfl) zfX7_255 (v := .int u.2.1.2.2.2.2.1) rfl dX7_outcomeOf_58 ?_
          cases h
          exact z_iret dX7_outcomeOf_61 hQ
        · replace h := (if_neg c8_2).symm.trans h
          have n8_0 := lv_neT c8_0 (a := 0) rfl
          have n8_1 := lv_neT c8_1 (a := 1) rfl
          have n8_2 := lv_neT c8_2 (a := 2) rfl
          refine z_tabOut (tgt := 62) (by omega) rfl dX7_outcomeOf_8 ?_
          refine z_aload_n 0 rfl rfl dX7_outcomeOf_62 ?_
          refine z_get zcX7 0 rfl 0 rfl 1 (Nat.le_of_ble_eq_true rfl) zfX7_16 (v := .ref (a 11)) rfl dX7_outcomeOf_63 ?_
          refine z_get zcX6 2 rfl 0 rfl 0 (Nat.le_of_ble_eq_true rfl) zfX7_138 (v := .ref (a 12)) rfl dX7_outcomeOf_66 ?_
          refine z_iconst (v := 0) (by decide) dX7_outcomeOf_69 ?_
          refine z_iconst (v := 0) (by decide) dX7_outcomeOf_70 ?_
          obtain ⟨r1, er1, h⟩ := zb h
          refine z_callVR (rest := []) hl (c_X0_greatestWith l g (fun i => a (i + 12)) u.2.1.1 0 0 _ er1) zyX0_greatestWith zvX0_greatestWith rfl zlX7_212 zcX0.1 ⟨_, _, rfl⟩ [(2, some (1, 3))] rfl rfl rfl (by decide) (Nat.le_of_ble_eq_true rfl) ⟨Nat.zero_le _, Nat.zero_le _⟩ dX7_outcomeOf_71 (st2 := [.int r1]) rfl ?_
          cases h
          exact z_iret dX7_outcomeOf_74 hQ
  · replace h := (if_pos c2).symm.trans h
    refine z_iconst (v := (-1)) (by decide) dX7_outcomeOf_5 ?_
    cases h
    exact z_iret dX7_outcomeOf_6 hQ
set_option maxHeartbeats 400000 in
set_option maxRecDepth 100000 in
theorem c_X7_hashNumbers (l : Launch) (g : zG) (a : Nat → Nat) (u : tX7) (p0 : Int64) (r : Int64) (h : f_X7_hashNumbers u p0 = some r) : Ctr l g false yX7_hashNumbers cX7_hashNumbers 6 (some .long) 5 111 0 0 [.ref (a 0), .long p0] (kX7 g a u) (kX7 g a u) (some (.long r)) := by
  refine ctr_of (by decide) (Nat.le_of_ble_eq_true rfl) (fun X hl _ _ _ hQ => ?_)
  unfold f_X7_hashNumbers at h
  refine z_lv (lv' := [(0, .ref (a 0)), (1, .long p0)]) [0, 1] rfl ?_
  refine z_lload_n 1 rfl rfl dX7_hashNumbers_0 ?_
  refine z_lstore_n [(3, .long p0), (0, .ref (a 0)), (1, .long p0)] rfl (Nat.le_of_ble_eq_true rfl) rfl dX7_hashNumbers_1 ?_
  refine z_iconst (v := 0) (by decide) dX7_hashNumbers_2 ?_
  refine z_istore [(5, .int 0), (3, .long p0), (0, .ref (a 0)), (1, .long p0)] (Nat.le_of_ble_eq_true rfl) rfl dX7_hashNumbers_3 ?_
  obtain ⟨z1, ez1, h⟩ := zb h
  refine z_lv (lv' := [(0, .ref (a 0)), (3, .long p0), (5, .int 0)]) [2, 1, 0] rfl ?_
  suffices hk5 : (fun (s5 : Int64 × Int32) => Z false RX7 cX7_hashNumbers 6 5 111 g X 0 0 (kX7 g a u) [(0, .ref (a 0)), (3, .long s5.1), (5, .int s5.2)] 5 []) (p0, 0) by try dsimp only at hk5; exact hk5
  refine lp_ind (σ := Int64 × Int32) (ε := Int64) (b_X7_hashNumbers_5 u) (fun s5 => Z false RX7 cX7_hashNumbers 6 5 111 g X 0 0 (kX7 g a u) [(0, .ref (a 0)), (3, .long s5.1), (5, .int s5.2)] 5 []) (fun z1 => Z false RX7 cX7_hashNumbers 6 5 111 g X 0 0 (kX7 g a u) [(0, .ref (a 0)), (3, .long z1)] 30 []) (fun s5 q5 h5 i5 x5 => ?_) 5000 (p0, 0) z1 ez1 ?_
  · unfold b_X7_hashNumbers_5 at h5
    refine z_iload 2 rfl dX7_hashNumbers_5 ?_
    refine z_bipush (v := 11) (by decide) dX7_hashNumbers_7 ?_
    refine z_icmp_ge (tgt := 30) rfl dX7_hashNumbers_9 (fun c9 => ?_) (fun c9 => ?_)
    · replace h5 := (if_pos c9).symm.trans h5
      cases h5
      have k5 := x5 s5.1 rfl
      try dsimp only at k5
      exact z_lv [0, 1] rfl k5
    · replace h5 := (if_neg c9).symm.trans h5
      refine z_lload_n 1 rfl rfl dX7_hashNumbers_12 ?_
      refine z_aload_n 0 rfl rfl dX7_hashNumbers_13 ?_
      refine z_iload 2 rfl dX7_hashNumbers_14 ?_
      obtain ⟨r2, er2, h5⟩ := zb h5
      refine z_callVR (rest := [.long s5.1]) hl (c_X7_numberOf l g a u s5.2 _ er2) zyX7_numberOf zvX7_numberOf rfl zlX7_209 zcX7.1 ⟨_, _, rfl⟩ [(0, none), (1, none), (2, none), (3, none), (4, none), (5, none), (6, none), (7, none), (8, none), (9, none), (10, none), (11, none), (12, none)] rfl rfl rfl (by decide) (Nat.le_of_ble_eq_true rfl) ⟨Nat.zero_le _, Nat.zero_le _⟩ dX7_hashNumbers_16 (st2 := [.int r2, .long s5.1]) rfl ?_
      refine z_i2l dX7_hashNumbers_19 ?_
      refine z_callSR (rest := []) hl (c_X7_chained l g s5.1 (Int32.toInt64 r2) _ rfl) zyX7_chained zsX7_chained zlX7_244 [] rfl rfl rfl (by decide) (Nat.le_of_ble_eq_true rfl) ⟨Nat.zero_le _, Nat.zero_le _⟩ dX7_hashNumbers_20 (st2 := [.long (f_X7_chained s5.1 (Int32.toInt64 r2))]) rfl ?_
      refine z_lstore_n [(3, .long (f_X7_chained s5.1 (Int32.toInt64 r2))), (0, .ref (a 0)), (5, .int s5.2)] rfl (Nat.le_of_ble_eq_true rfl) rfl dX7_hashNumbers_23 ?_
      refine z_iinc 2 [(5, .int (s5.2 + 1)), (3, .long (f_X7_chained s5.1 (Int32.toInt64 r2))), (0, .ref (a 0))] rfl (v := (s5.2 + 1)) zinc (Nat.le_of_ble_eq_true rfl) rfl dX7_hashNumbers_24 ?_
      refine z_goto (tgt := 5) rfl dX7_hashNumbers_27 ?_
      cases h5
      have k5 := i5 ((f_X7_chained s5.1 (Int32.toInt64 r2)), (s5.2 + 1)) rfl
      try dsimp only at k5
      exact z_lv [2, 1, 0] rfl k5
  · skip
    refine z_iconst (v := 0) (by decide) dX7_hashNumbers_30 ?_
    refine z_istore [(5, .int 0), (0, .ref (a 0)), (3, .long z1)] (Nat.le_of_ble_eq_true rfl) rfl dX7_hashNumbers_31 ?_
    obtain ⟨z3, ez3, h⟩ := zb h
    refine z_lv (lv' := [(0, .ref (a 0)), (3, .long z1), (5, .int 0)]) [1, 2, 0] rfl ?_
    suffices hk33 : (fun (s33 : Int64 × Int32) => Z false RX7 cX7_hashNumbers 6 5 111 g X 0 0 (kX7 g a u) [(0, .ref (a 0)), (3, .long s33.1), (5, .int s33.2)] 33 []) (z1, 0) by try dsimp only at hk33; exact hk33
    refine lp_ind (σ := Int64 × Int32) (ε := Int64) (b_X7_hashNumbers_33 u) (fun s33 => Z false RX7 cX7_hashNumbers 6 5 111 g X 0 0 (kX7 g a u) [(0, .ref (a 0)), (3, .long s33.1), (5, .int s33.2)] 33 []) (fun z3 => Z false RX7 cX7_hashNumbers 6 5 111 g X 0 0 (kX7 g a u) [(3, .long z3)] 63 []) (fun s33 q33 h33 i33 x33 => ?_) 5000 (z1, 0) z3 ez3 ?_
    · unfold b_X7_hashNumbers_33 at h33
      refine z_iload 2 rfl dX7_hashNumbers_33 ?_
      refine z_iconst (v := 3) (by decide) dX7_hashNumbers_35 ?_
      refine z_icmp_ge (tgt := 63) rfl dX7_hashNumbers_36 (fun c36 => ?_) (fun c36 => ?_)
      · replace h33 := (if_pos c36).symm.trans h33
        cases h33
        have k33 := x33 s33.1 rfl
        try dsimp only at k33
        exact z_lv [1] rfl k33
      · replace h33 := (if_neg c36).symm.trans h33
        refine z_lload_n 1 rfl rfl dX7_hashNumbers_39 ?_
        refine z_aload_n 0 rfl rfl dX7_hashNumbers_40 ?_
        refine z_get zcX7 0 rfl 0 rfl 0 (Nat.le_of_ble_eq_true rfl) zfX7_10 (v := .ref (a 1)) rfl dX7_hashNumbers_41 ?_
        refine z_get zcX6 1 rfl 0 rfl 3 (Nat.le_of_ble_eq_true rfl) zfX7_150 (v := .ref (a 10)) rfl dX7_hashNumbers_44 ?_
        refine z_iload 2 rfl dX7_hashNumbers_47 ?_
        refine z_callSR (rest := [.long s33.1]) hl (c_X7_at l g (a 10) 3 (by decide) u.1.2.2.2.1 s33.2 _ rfl) zyX7_at zsX7_at zlX7_117 [(1, some (9, 1))] rfl rfl rfl (by decide) (Nat.le_of_ble_eq_true rfl) ⟨Nat.zero_le _, Nat.zero_le _⟩ dX7_hashNumbers_49 (st2 := [.int (f_X7_at 3 u.1.2.2.2.1 s33.2), .long s33.1]) rfl ?_
        refine z_i2l dX7_hashNumbers_52 ?_
        refine z_callSR (rest := []) hl (c_X7_chained l g s33.1 (Int32.toInt64 (f_X7_at 3 u.1.2.2.2.1 s33.2)) _ rfl) zyX7_chained zsX7_chained zlX7_244 [] rfl rfl rfl (by decide) (Nat.le_of_ble_eq_true rfl) ⟨Nat.zero_le _, Nat.zero_le _⟩ dX7_hashNumbers_53 (st2 := [.long (f_X7_chained s33.1 (Int32.toInt64 (f_X7_at 3 u.1.2.2.2.1 s33.2)))]) rfl ?_
        refine z_lstore_n [(3, .long (f_X7_chained s33.1 (Int32.toInt64 (f_X7_at 3 u.1.2.2.2.1 s33.2)))), (0, .ref (a 0)), (5, .int s33.2)] rfl (Nat.le_of_ble_eq_true rfl) rfl dX7_hashNumbers_56 ?_
        refine z_iinc 2 [(5, .int (s33.2 + 1)), (3, .long (f_X7_chained s33.1 (Int32.toInt64 (f_X7_at 3 u.1.2.2.2.1 s33.2)))), (0, .ref (a 0))] rfl (v := (s33.2 + 1)) zinc (Nat.le_of_ble_eq_true rfl) rfl dX7_hashNumbers_57 ?_
        refine z_goto (tgt := 33) rfl dX7_hashNumbers_60 ?_
        cases h33
        have k33 := i33 ((f_X7_chained s33.1 (Int32.toInt64 (f_X7_at 3 u.1.2.2.2.1 s33.2))), (s33.2 + 1)) rfl
        try dsimp only at k33
        exact z_lv [2, 1, 0] rfl k33
    · skip
      refine z_lload_n 0 rfl rfl dX7_hashNumbers_63 ?_
      cases h
      exact z_lret dX7_hashNumbers_64 hQ
set_option maxHeartbeats 400000 in
set_option maxRecDepth 100000 in
theorem c_X7_hashDrawers (l : Launch) (g : zG) (a : Nat → Nat) (u : tX7) (p0 : Int64) (r : Int64) (h : f_X7_hashDrawers u p0 = some r) : Ctr l g false yX7_hashDrawers cX7_hashDrawers 7 (some .long) 4 90 0 0 [.ref (a 0), .long p0] (kX7 g a u) (kX7 g a u) (some (.long r)) := by
  refine ctr_of (by decide) (Nat.le_of_ble_eq_true rfl) (fun X hl _ _ _ hQ => ?_)
  unfold f_X7_hashDrawers at h
  refine z_lv (lv' := [(0, .ref (a 0)), (1, .long p0)]) [0, 1] rfl ?_
  refine z_lload_n 1 rfl rfl dX7_hashDrawers_0 ?_
  refine z_lstore_n [(3, .long p0), (0, .ref (a 0)), (1, .long p0)] rfl (Nat.le_of_ble_eq_true rfl) rfl dX7_hashDrawers_1 ?_
  refine z_iconst (v := 0) (by decide) dX7_hashDrawers_2 ?_
  refine z_istore [(5, .int 0), (3, .long p0), (0, .ref (a 0)), (1, .long p0)] (Nat.le_of_ble_eq_true rfl) rfl dX7_hashDrawers_3 ?_
  obtain ⟨z1, ez1, h⟩ := zb h
  refine z_lv (lv' := [(0, .ref (a 0)), (3, .long p0), (5, .int 0)]) [2, 1, 0] rfl ?_
  suffices hk5 : (fun (s5 : Int64 × Int32) => Z false RX7 cX7_hashDrawers 7 4 90 g X 0 0 (kX7 g a u) [(0, .ref (a 0)), (3, .long s5.1), (5, .int s5.2)] 5 []) (p0, 0) by try dsimp only at hk5; exact hk5
  refine lp_ind (σ := Int64 × Int32) (ε := Int64) (b_X7_hashDrawers_5 u) (fun s5 => Z false RX7 cX7_hashDrawers 7 4 90 g X 0 0 (kX7 g a u) [(0, .ref (a 0)), (3, .long s5.1), (5, .int s5.2)] 5 []) (fun z1 => Z false RX7 cX7_hashDrawers 7 4 90 g X 0 0 (kX7 g a u) [(3, .long z1)] 85 []) (fun s5 q5 h5 i5 x5 => ?_) 5000 (p0, 0) z1 ez1 ?_
  · unfold b_X7_hashDrawers_5 at h5
    refine z_iload 2 rfl dX7_hashDrawers_5 ?_
    refine z_bipush (v := 12) (by decide) dX7_hashDrawers_7 ?_
    refine z_icmp_ge (tgt := 85) rfl dX7_hashDrawers_9 (fun c9 => ?_) (fun c9 => ?_)
    · replace h5 := (if_pos c9).symm.trans h5
      cases h5
      have k5 := x5 s5.1 rfl
      try dsimp only at k5
      exact z_lv [1] rfl k5
    · replace h5 := (if_neg c9).symm.trans h5
      refine z_iconst (v := 0) (by decide) dX7_hashDrawers_12 ?_
      refine z_istore [(6, .int 0), (0, .ref (a 0)), (3, .long s5.1), (5, .int s5.2)] (Nat.le_of_ble_eq_true rfl) rfl dX7_hashDrawers_13 ?_
      obtain ⟨z2, ez2, h5⟩ := zb h5
      refine z_lv (lv' := [(0, .ref (a 0)), (3, .long s5.1), (5, .int s5.2), (6, .int 0)]) [1, 2, 3, 0] rfl ?_
      suffices hk15 : (fun (s15 : Int64 × Int32) => Z false RX7 cX7_hashDrawers 7 4 90 g X 0 0 (kX7 g a u) [(0, .ref (a 0)), (3, .long s15.1), (5, .int s5.2), (6, .int s15.2)] 15 []) (s5.1, 0) by try dsimp only at hk15; exact hk15
      refine lp_ind (σ := Int64 × Int32) (ε := Int64) (b_X7_hashDrawers_15 u s5) (fun s15 => Z false RX7 cX7_hashDrawers 7 4 90 g X 0 0 (kX7 g a u) [(0, .ref (a 0)), (3, .long s15.1), (5, .int s5.2), (6, .int s15.2)] 15 []) (fun z2 => Z false RX7 cX7_hashDrawers 7 4 90 g X 0 0 (kX7 g a u) [(0, .ref (a 0)), (3, .long z2), (5, .int s5.2)] 45 []) (fun s15 q15 h15 i15 x15 => ?_) 5000 (s5.1, 0) z2 ez2 ?_
      · unfold b_X7_hashDrawers_15 at h15
        refine z_iload 3 rfl dX7_hashDrawers_15 ?_
        refine z_bipush (v := 6) (by decide) dX7_hashDrawers_17 ?_
        refine z_icmp_ge (tgt := 45) rfl dX7_hashDrawers_19 (fun c19 => ?_) (fun c19 => ?_)
        · replace h15 := (if_pos c19).symm.trans h15
          cases h15
          have k15 := x15 s15.1 rfl
          try dsimp only at k15
          exact z_lv [0, 1, 2] rfl k15
        · replace h15 := (if_neg c19).symm.trans h15
          refine z_lload_n 1 rfl rfl dX7_hashDrawers_22 ?_
          refine z_aload_n 0 rfl rfl dX7_hashDrawers_23 ?_
          refine z_get zcX7 0 rfl 0 rfl 0 (Nat.le_of_ble_eq_true rfl) zfX7_10 (v := .ref (a 1)) rfl dX7_hashDrawers_24 ?_
          refine z_iload 2 rfl dX7_hashDrawers_27 ?_
          refine z_iload 3 rfl dX7_hashDrawers_29 ?_
          obtain ⟨r3, er3, h15⟩ := zb h15
          refine z_callVR (rest := [.long s15.1]) hl (c_X6_drawerProperty l g (fun i => a (i + 1)) u.1 s5.2 s15.2 _ er3) zyX6_drawerProperty zvX6_drawerProperty rfl zlX7_194 zcX6.1 ⟨_, _, rfl⟩ [(1, none)] rfl rfl rfl (by decide) (Nat.le_of_ble_eq_true rfl) ⟨Nat.zero_le _, Nat.zero_le _⟩ dX7_hashDrawers_31 (st2 := [.int r3, .long s15.1]) rfl ?_
          refine z_i2l dX7_hashDrawers_34 ?_
          refine z_callSR (rest := []) hl (c_X7_chained l g s15.1 (Int32.toInt64 r3) _ rfl) zyX7_chained zsX7_chained zlX7_244 [] rfl rfl rfl (by decide) (Nat.le_of_ble_eq_true rfl) ⟨Nat.zero_le _, Nat.zero_le _⟩ dX7_hashDrawers_35 (st2 := [.long (f_X7_chained s15.1 (Int32.toInt64 r3))]) rfl ?_
          refine z_lstore_n [(3, .long (f_X7_chained s15.1 (Int32.toInt64 r3))), (0, .ref (a 0)), (5, .int s5.2), (6, .int s15.2)] rfl (Nat.le_of_ble_eq_true rfl) rfl dX7_hashDrawers_38 ?_
          refine z_iinc 3 [(6, .int (s15.2 + 1)), (3, .long (f_X7_chained s15.1 (Int32.toInt64 r3))), (0, .ref (a 0)), (5, .int s5.2)] rfl (v := (s15.2 + 1)) zinc (Nat.le_of_ble_eq_true rfl) rfl dX7_hashDrawers_39 ?_
          refine z_goto (tgt := 15) rfl dX7_hashDrawers_42 ?_
          cases h15
          have k15 := i15 ((f_X7_chained s15.1 (Int32.toInt64 r3)), (s15.2 + 1)) rfl
          try dsimp only at k15
          exact z_lv [2, 1, 3, 0] rfl k15
      · skip
        refine z_lload_n 1 rfl rfl dX7_hashDrawers_45 ?_
        refine z_aload_n 0 rfl rfl dX7_hashDrawers_46 ?_
        refine z_get zcX7 0 rfl 0 rfl 0 (Nat.le_of_ble_eq_true rfl) zfX7_10 (v := .ref (a 1)) rfl dX7_hashDrawers_47 ?_
        refine z_iload 2 rfl dX7_hashDrawers_50 ?_
        obtain ⟨r4, er4, h5⟩ := zb h5
        refine z_callVR (rest := [.long z2]) hl (c_X6_wayTo l g (fun i => a (i + 1)) u.1 s5.2 _ er4) zyX6_wayTo zvX6_wayTo rfl zlX7_104 zcX6.1 ⟨_, _, rfl⟩ [(1, none)] rfl rfl rfl (by decide) (Nat.le_of_ble_eq_true rfl) ⟨Nat.zero_le _, Nat.zero_le _⟩ dX7_hashDrawers_52 (st2 := [.int r4, .long z2]) rfl ?_
        refine z_i2l dX7_hashDrawers_55 ?_
        refine z_callSR (rest := []) hl (c_X7_chained l g z2 (Int32.toInt64 r4) _ rfl) zyX7_chained zsX7_chained zlX7_244 [] rfl rfl rfl (by decide) (Nat.le_of_ble_eq_true rfl) ⟨Nat.zero_le _, Nat.zero_le _⟩ dX7_hashDrawers_56 (st2 := [.long (f_X7_chained z2 (Int32.toInt64 r4))]) rfl ?_
        refine z_lstore_n [(3, .long (f_X7_chained z2 (Int32.toInt64 r4))), (0, .ref (a 0)), (5, .int s5.2)] rfl (Nat.le_of_ble_eq_true rfl) rfl dX7_hashDrawers_59 ?_
        refine z_lload_n 0 rfl rfl dX7_hashDrawers_60 ?_
        refine z_aload_n 1 rfl rfl dX7_hashDrawers_61 ?_
        refine z_get zcX7 0 rfl 0 rfl 0 (Nat.le_of_ble_eq_true rfl) zfX7_10 (v := .ref (a 1)) rfl dX7_hashDrawers_62 ?_
        refine z_get zcX6 1 rfl 0 rfl 0 (Nat.le_of_ble_eq_true rfl) zfX7_138 (v := .ref (a 2)) rfl dX7_hashDrawers_65 ?_
        refine z_iload 2 rfl dX7_hashDrawers_68 ?_
        refine z_iconst (v := 5) (by decide) dX7_hashDrawers_70 ?_
        obtain ⟨r5, er5, h5⟩ := zb h5
        refine z_callVR (rest := [.long (f_X7_chained z2 (Int32.toInt64 r4))]) hl (c_X0_greatestWith l g (fun i => a (i + 2)) u.1.1 s5.2 5 _ er5) zyX0_greatestWith zvX0_greatestWith rfl zlX7_212 zcX0.1 ⟨_, _, rfl⟩ [(1, some (1, 3))] rfl rfl rfl (by decide) (Nat.le_of_ble_eq_true rfl) ⟨Nat.zero_le _, Nat.zero_le _⟩ dX7_hashDrawers_71 (st2 := [.int r5, .long (f_X7_chained z2 (Int32.toInt64 r4))]) rfl ?_
        refine z_i2l dX7_hashDrawers_74 ?_
        refine z_callSR (rest := []) hl (c_X7_chained l g (f_X7_chained z2 (Int32.toInt64 r4)) (Int32.toInt64 r5) _ rfl) zyX7_chained zsX7_chained zlX7_244 [] rfl rfl rfl (by decide) (Nat.le_of_ble_eq_true rfl) ⟨Nat.zero_le _, Nat.zero_le _⟩ dX7_hashDrawers_75 (st2 := [.long (f_X7_chained (f_X7_chained z2 (Int32.toInt64 r4)) (Int32.toInt64 r5))]) rfl ?_
        refine z_lstore_n [(3, .long (f_X7_chained (f_X7_chained z2 (Int32.toInt64 r4)) (Int32.toInt64 r5))), (0, .ref (a 0)), (5, .int s5.2)] rfl (Nat.le_of_ble_eq_true rfl) rfl dX7_hashDrawers_78 ?_
        refine z_iinc 2 [(5, .int (s5.2 + 1)), (3, .long (f_X7_chained (f_X7_chained z2 (Int32.toInt64 r4)) (Int32.toInt64 r5))), (0, .ref (a 0))] rfl (v := (s5.2 + 1)) zinc (Nat.le_of_ble_eq_true rfl) rfl dX7_hashDrawers_79 ?_
        refine z_goto (tgt := 5) rfl dX7_hashDrawers_82 ?_
        cases h5
        have k5 := i5 ((f_X7_chained (f_X7_chained z2 (Int32.toInt64 r4)) (Int32.toInt64 r5)), (s5.2 + 1)) rfl
        try dsimp only at k5
        exact z_lv [2, 1, 0] rfl k5
  · skip
    refine z_lload_n 0 rfl rfl dX7_hashDrawers_85 ?_
    cases h
    exact z_lret dX7_hashDrawers_86 hQ
set_option maxHeartbeats 400000 in
set_option maxRecDepth 100000 in
theorem c_X7_hashItems (l : Launch) (g : zG) (a : Nat → Nat) (u : tX7) (p0 : Int64) (r : Int64) (h : f_X7_hashItems u p0 = some r) : Ctr l g false yX7_hashItems cX7_hashItems 8 (some .long) 4 93 0 0 [.ref (a 0), .long p0] (kX7 g a u) (kX7 g a u) (some (.long r)) := by
  refine ctr_of (by decide) (Nat.le_of_ble_eq_true rfl) (fun X hl _ _ _ hQ => ?_)
  unfold f_X7_hashItems at h
  refine z_lv (lv' := [(0, .ref (a 0)), (1, .long p0)]) [0, 1] rfl ?_
  refine z_lload_n 1 rfl rfl dX7_hashItems_0 ?_
  refine z_lstore_n [(3, .long p0), (0, .ref (a 0)), (1, .long p0)] rfl (Nat.le_of_ble_eq_true rfl) rfl dX7_hashItems_1 ?_
  refine z_iconst (v := 0) (by decide) dX7_hashItems_2 ?_
  refine z_istore [(5, .int 0), (3, .long p0), (0, .ref (a 0)), (1, .long p0)] (Nat.le_of_ble_eq_true rfl) rfl dX7_hashItems_3 ?_
  obtain ⟨z1, ez1, h⟩ := zb h
  refine z_lv (lv' := [(0, .ref (a 0)), (3, .long p0), (5, .int 0)]) [2, 1, 0] rfl ?_
  suffices hk5 : (fun (s5 : Int64 × Int32) => Z false RX7 cX7_hashItems 8 4 93 g X 0 0 (kX7 g a u) [(0, .ref (a 0)), (3, .long s5.1), (5, .int s5.2)] 5 []) (p0, 0) by try dsimp only at hk5; exact hk5
  refine lp_ind (σ := Int64 × Int32) (ε := Int64) (b_X7_hashItems_5 u) (fun s5 => Z false RX7 cX7_hashItems 8 4 93 g X 0 0 (kX7 g a u) [(0, .ref (a 0)), (3, .long s5.1), (5, .int s5.2)] 5 []) (fun z1 => Z false RX7 cX7_hashItems 8 4 93 g X 0 0 (kX7 g a u) [(3, .long z1)] 101 []) (fun s5 q5 h5 i5 x5 => ?_) 5000 (p0, 0) z1 ez1 ?_
  · unfold b_X7_hashItems_5 at h5
    refine z_iload 2 rfl dX7_hashItems_5 ?_
    refine z_aload_n 0 rfl rfl dX7_hashItems_7 ?_
    refine z_get zcX7 0 rfl 0 rfl 0 (Nat.le_of_ble_eq_true rfl) zfX7_10 (v := .ref (a 1)) rfl dX7_hashItems_8 ?_
    refine z_get zcX6 1 rfl 0 rfl 1 (Nat.le_of_ble_eq_true rfl) zfX7_76 (v := .ref (a 5)) rfl dX7_hashItems_11 ?_
    refine z_get zcX3 1 rfl 4 rfl 3 (Nat.le_of_ble_eq_true rfl) zfX7_258 (v := .int u.1.2.1.2.2.2.1) rfl dX7_hashItems_14 ?_
    refine z_icmp_ge (tgt := 101) rfl dX7_hashItems_17 (fun c17 => ?_) (fun c17 => ?_)
    · replace h5 := (if_pos c17).symm.trans h5
      cases h5
      have k5 := x5 s5.1 rfl
      try dsimp only at k5
      exact z_lv [1] rfl k5
    · replace h5 := (if_neg c17).symm.trans h5
      refine z_aload_n 0 rfl rfl dX7_hashItems_20 ?_
      refine z_get zcX7 0 rfl 0 rfl 0 (Nat.le_of_ble_eq_true rfl) zfX7_10 (v := .ref (a 1)) rfl dX7_hashItems_21 ?_
      refine z_get zcX6 1 rfl 0 rfl 1 (Nat.le_of_ble_eq_true rfl) zfX7_76 (v := .ref (a 5)) rfl dX7_hashItems_24 ?_
      refine z_get zcX3 1 rfl 4 rfl 0 (Nat.le_of_ble_eq_true rfl) zfX7_286 (v := .ref (a 6)) rfl dX7_hashItems_27 ?_
      refine z_iload 2 rfl dX7_hashItems_30 ?_
      refine z_callSR (rest := []) hl (c_X7_at l g (a 6) 40 (by decide) u.1.2.1.1 s5.2 _ rfl) zyX7_at zsX7_at zlX7_117 [(1, some (5, 1))] rfl rfl rfl (by decide) (Nat.le_of_ble_eq_true rfl) ⟨Nat.zero_le _, Nat.zero_le _⟩ dX7_hashItems_32 (st2 := [.int (f_X7_at 40 u.1.2.1.1 s5.2)]) rfl ?_
      refine z_istore [(6, .int (f_X7_at 40 u.1.2.1.1 s5.2)), (0, .ref (a 0)), (3, .long s5.1), (5, .int s5.2)] (Nat.le_of_ble_eq_true rfl) rfl dX7_hashItems_35 ?_
      refine z_lload_n 2 rfl rfl dX7_hashItems_37 ?_
      refine z_iload 0 rfl dX7_hashItems_38 ?_
      refine z_i2l dX7_hashItems_40 ?_
      refine z_callSR (rest := []) hl (c_X7_chained l g s5.1 (Int32.toInt64 (f_X7_at 40 u.1.2.1.1 s5.2)) _ rfl) zyX7_chained zsX7_chained zlX7_244 [] rfl rfl rfl (by decide) (Nat.le_of_ble_eq_true rfl) ⟨Nat.zero_le _, Nat.zero_le _⟩ dX7_hashItems_41 (st2 := [.long (f_X7_chained s5.1 (Int32.toInt64 (f_X7_at 40 u.1.2.1.1 s5.2)))]) rfl ?_
      refine z_lstore_n [(3, .long (f_X7_chained s5.1 (Int32.toInt64 (f_X7_at 40 u.1.2.1.1 s5.2)))), (6, .int (f_X7_at 40 u.1.2.1.1 s5.2)), (0, .ref (a 0)), (5, .int s5.2)] rfl (Nat.le_of_ble_eq_true rfl) rfl dX7_hashItems_44 ?_
      refine z_iconst (v := 0) (by decide) dX7_hashItems_45 ?_
      refine z_istore [(7, .int 0), (3, .long (f_X7_chained s5.1 (Int32.toInt64 (f_X7_at 40 u.1.2.1.1 s5.2)))), (6, .int (f_X7_at 40 u.1.2.1.1 s5.2)), (0, .ref (a 0)), (5, .int s5.2)] (Nat.le_of_ble_eq_true rfl) rfl dX7_hashItems_46 ?_
      obtain ⟨z2, ez2, h5⟩ := zb h5
      refine z_lv (lv' := [(0, .ref (a 0)), (3, .long (f_X7_chained s5.1 (Int32.toInt64 (f_X7_at 40 u.1.2.1.1 s5.2)))), (5, .int s5.2), (6, .int (f_X7_at 40 u.1.2.1.1 s5.2)), (7, .int 0)]) [3, 1, 4, 2, 0] rfl ?_
      suffices hk48 : (fun (s48 : Int64 × Int32) => Z false RX7 cX7_hashItems 8 4 93 g X 0 0 (kX7 g a u) [(0, .ref (a 0)), (3, .long s48.1), (5, .int s5.2), (6, .int (f_X7_at 40 u.1.2.1.1 s5.2)), (7, .int s48.2)] 48 []) ((f_X7_chained s5.1 (Int32.toInt64 (f_X7_at 40 u.1.2.1.1 s5.2))), 0) by try dsimp only at hk48; exact hk48
      refine lp_ind (σ := Int64 × Int32) (ε := Int64) (b_X7_hashItems_48 u s5) (fun s48 => Z false RX7 cX7_hashItems 8 4 93 g X 0 0 (kX7 g a u) [(0, .ref (a 0)), (3, .long s48.1), (5, .int s5.2), (6, .int (f_X7_at 40 u.1.2.1.1 s5.2)), (7, .int s48.2)] 48 []) (fun z2 => Z false RX7 cX7_hashItems 8 4 93 g X 0 0 (kX7 g a u) [(0, .ref (a 0)), (3, .long z2), (5, .int s5.2), (6, .int (f_X7_at 40 u.1.2.1.1 s5.2))] 80 []) (fun s48 q48 h48 i48 x48 => ?_) 5000 ((f_X7_chained s5.1 (Int32.toInt64 (f_X7_at 40 u.1.2.1.1 s5.2))), 0) z2 ez2 ?_
      · unfold b_X7_hashItems_48 at h48
        refine z_iload 4 rfl dX7_hashItems_48 ?_
        refine z_iconst (v := 2) (by decide) dX7_hashItems_50 ?_
        refine z_icmp_ge (tgt := 80) rfl dX7_hashItems_51 (fun c51 => ?_) (fun c51 => ?_)
        · replace h48 := (if_pos c51).symm.trans h48
          cases h48
          have k48 := x48 s48.1 rfl
          try dsimp only at k48
          exact z_lv [0, 1, 2, 3] rfl k48
        · replace h48 := (if_neg c51).symm.trans h48
          refine z_lload_n 1 rfl rfl dX7_hashItems_54 ?_
          refine z_aload_n 0 rfl rfl dX7_hashItems_55 ?_
          refine z_get zcX7 0 rfl 0 rfl 0 (Nat.le_of_ble_eq_true rfl) zfX7_10 (v := .ref (a 1)) rfl dX7_hashItems_56 ?_
          refine z_get zcX6 1 rfl 0 rfl 1 (Nat.le_of_ble_eq_true rfl) zfX7_76 (v := .ref (a 5)) rfl dX7_hashItems_59 ?_
          refine z_iload 3 rfl dX7_hashItems_62 ?_
          refine z_iload 4 rfl dX7_hashItems_64 ?_
          obtain ⟨r3, er3, h48⟩ := zb h48
          refine z_callVR (rest := [.long s48.1]) hl (c_X3_propertyOf l g (fun i => a (i + 5)) u.1.2.1 (f_X7_at 40 u.1.2.1.1 s5.2) s48.2 _ er3) zyX3_propertyOf zvX3_propertyOf rfl zlX7_204 zcX3.1 ⟨_, _, rfl⟩ [(1, some (4, 4))] rfl rfl rfl (by decide) (Nat.le_of_ble_eq_true rfl) ⟨Nat.zero_le _, Nat.zero_le _⟩ dX7_hashItems_66 (st2 := [.int r3, .long s48.1]) rfl ?_
          refine z_i2l dX7_hashItems_69 ?_
          refine z_callSR (rest := []) hl (c_X7_chained l g s48.1 (Int32.toInt64 r3) _ rfl) zyX7_chained zsX7_chained zlX7_244 [] rfl rfl rfl (by decide) (Nat.le_of_ble_eq_true rfl) ⟨Nat.zero_le _, Nat.zero_le _⟩ dX7_hashItems_70 (st2 := [.long (f_X7_chained s48.1 (Int32.toInt64 r3))]) rfl ?_
          refine z_lstore_n [(3, .long (f_X7_chained s48.1 (Int32.toInt64 r3))), (0, .ref (a 0)), (5, .int s5.2), (6, .int (f_X7_at 40 u.1.2.1.1 s5.2)), (7, .int s48.2)] rfl (Nat.le_of_ble_eq_true rfl) rfl dX7_hashItems_73 ?_
          refine z_iinc 4 [(7, .int (s48.2 + 1)), (3, .long (f_X7_chained s48.1 (Int32.toInt64 r3))), (0, .ref (a 0)), (5, .int s5.2), (6, .int (f_X7_at 40 u.1.2.1.1 s5.2))] rfl (v := (s48.2 + 1)) zinc (Nat.le_of_ble_eq_true rfl) rfl dX7_hashItems_74 ?_
          refine z_goto (tgt := 48) rfl dX7_hashItems_77 ?_
          cases h48
          have k48 := i48 ((f_X7_chained s48.1 (Int32.toInt64 r3)), (s48.2 + 1)) rfl
          try dsimp only at k48
          exact z_lv [2, 1, 3, 4, 0] rfl k48
      · skip
        refine z_lload_n 1 rfl rfl dX7_hashItems_80 ?_
        refine z_aload_n 0 rfl rfl dX7_hashItems_81 ?_
        refine z_get zcX7 0 rfl 0 rfl 0 (Nat.le_of_ble_eq_true rfl) zfX7_10 (v := .ref (a 1)) rfl dX7_hashItems_82 ?_
        refine z_iload 3 rfl dX7_hashItems_85 ?_
        obtain ⟨r4, er4, h5⟩ := zb h5
        refine z_callVR (rest := [.long z2]) hl (c_X6_reasonAgainst l g (fun i => a (i + 1)) u.1 (f_X7_at 40 u.1.2.1.1 s5.2) _ er4) zyX6_reasonAgainst zvX6_reasonAgainst rfl zlX7_95 zcX6.1 ⟨_, _, rfl⟩ [(1, none)] rfl rfl rfl (by decide) (Nat.le_of_ble_eq_true rfl) ⟨Nat.zero_le _, Nat.zero_le _⟩ dX7_hashItems_87 (st2 := [.int r4, .long z2]) rfl ?_
        refine z_i2l dX7_hashItems_90 ?_
        refine z_callSR (rest := []) hl (c_X7_chained l g z2 (Int32.toInt64 r4) _ rfl) zyX7_chained zsX7_chained zlX7_244 [] rfl rfl rfl (by decide) (Nat.le_of_ble_eq_true rfl) ⟨Nat.zero_le _, Nat.zero_le _⟩ dX7_hashItems_91 (st2 := [.long (f_X7_chained z2 (Int32.toInt64 r4))]) rfl ?_
        refine z_lstore_n [(3, .long (f_X7_chained z2 (Int32.toInt64 r4))), (0, .ref (a 0)), (5, .int s5.2), (6, .int (f_X7_at 40 u.1.2.1.1 s5.2))] rfl (Nat.le_of_ble_eq_true rfl) rfl dX7_hashItems_94 ?_
        refine z_iinc 2 [(5, .int (s5.2 + 1)), (3, .long (f_X7_chained z2 (Int32.toInt64 r4))), (0, .ref (a 0)), (6, .int (f_X7_at 40 u.1.2.1.1 s5.2))] rfl (v := (s5.2 + 1)) zinc (Nat.le_of_ble_eq_true rfl) rfl dX7_hashItems_95 ?_
        refine z_goto (tgt := 5) rfl dX7_hashItems_98 ?_
        cases h5
        have k5 := i5 ((f_X7_chained z2 (Int32.toInt64 r4)), (s5.2 + 1)) rfl
        try dsimp only at k5
        exact z_lv [2, 1, 0] rfl k5
  · skip
    refine z_lload_n 0 rfl rfl dX7_hashItems_101 ?_
    cases h
    exact z_lret dX7_hashItems_102 hQ
set_option maxHeartbeats 400000 in
set_option maxRecDepth 100000 in
theorem c_X7_hashText (l : Launch) (g : zG) (a : Nat → Nat) (u : tX7) (p0 : Int64) (r : Int64) (h : f_X7_hashText u p0 = some r) : Ctr l g false yX7_hashText cX7_hashText 6 (some .long) 1 23 0 0 [.ref (a 0), .long p0] (kX7 g a u) (kX7 g a u) (some (.long r)) := by
  refine ctr_of (by decide) (Nat.le_of_ble_eq_true rfl) (fun X hl _ _ _ hQ => ?_)
  unfold f_X7_hashText at h
  refine z_lv (lv' := [(0, .ref (a 0)), (1, .long p0)]) [0, 1] rfl ?_
  refine z_lload_n 1 rfl rfl dX7_hashText_0 ?_
  refine z_aload_n 0 rfl rfl dX7_hashText_1 ?_
  refine z_get zcX7 0 rfl 0 rfl 3 (Nat.le_of_ble_eq_true rfl) zfX7_29 (v := .ref (a 83)) rfl dX7_hashText_2 ?_
  refine z_get zcX1 10 rfl 0 rfl 1 (Nat.le_of_ble_eq_true rfl) zfX7_155 (v := .int u.2.2.2.1.2.1) rfl dX7_hashText_5 ?_
  refine z_i2l dX7_hashText_8 ?_
  refine z_callSR (rest := []) hl (c_X7_chained l g p0 (Int32.toInt64 u.2.2.2.1.2.1) _ rfl) zyX7_chained zsX7_chained zlX7_244 [] rfl rfl rfl (by decide) (Nat.le_of_ble_eq_true rfl) ⟨Nat.zero_le _, Nat.zero_le _⟩ dX7_hashText_9 (st2 := [.long (f_X7_chained p0 (Int32.toInt64 u.2.2.2.1.2.1))]) rfl ?_
  refine z_lstore_n [(3, .long (f_X7_chained p0 (Int32.toInt64 u.2.2.2.1.2.1))), (0, .ref (a 0)), (1, .long p0)] rfl (Nat.le_of_ble_eq_true rfl) rfl dX7_hashText_12 ?_
  refine z_iconst (v := 0) (by decide) dX7_hashText_13 ?_
  refine z_istore [(5, .int 0), (3, .long (f_X7_chained p0 (Int32.toInt64 u.2.2.2.1.2.1))), (0, .ref (a 0)), (1, .long p0)] (Nat.le_of_ble_eq_true rfl) rfl dX7_hashText_14 ?_
  obtain ⟨z1, ez1, h⟩ := zb h
  refine z_lv (lv' := [(0, .ref (a 0)), (3, .long (f_X7_chained p0 (Int32.toInt64 u.2.2.2.1.2.1))), (5, .int 0)]) [2, 1, 0] rfl ?_
  suffices hk16 : (fun (s16 : Int64 × Int32) => Z false RX7 cX7_hashText 6 1 23 g X 0 0 (kX7 g a u) [(0, .ref (a 0)), (3, .long s16.1), (5, .int s16.2)] 16 []) ((f_X7_chained p0 (Int32.toInt64 u.2.2.2.1.2.1)), 0) by try dsimp only at hk16; exact hk16
  refine lp_ind (σ := Int64 × Int32) (ε := Int64) (b_X7_hashText_16 u) (fun s16 => Z false RX7 cX7_hashText 6 1 23 g X 0 0 (kX7 g a u) [(0, .ref (a 0)), (3, .long s16.1), (5, .int s16.2)] 16 []) (fun z1 => Z false RX7 cX7_hashText 6 1 23 g X 0 0 (kX7 g a u) [(3, .long z1)] 52 []) (fun s16 q16 h16 i16 x16 => ?_) 5000 ((f_X7_chained p0 (Int32.toInt64 u.2.2.2.1.2.1)), 0) z1 ez1 ?_
  · unfold b_X7_hashText_16 at h16
    refine z_iload 2 rfl dX7_hashText_16 ?_
    refine z_aload_n 0 rfl rfl dX7_hashText_18 ?_
    refine z_get zcX7 0 rfl 0 rfl 3 (Nat.le_of_ble_eq_true rfl) zfX7_29 (v := .ref (a 83)) rfl dX7_hashText_19 ?_
    refine z_get zcX1 10 rfl 0 rfl 1 (Nat.le_of_ble_eq_true rfl) zfX7_155 (v := .int u.2.2.2.1.2.1) rfl dX7_hashText_22 ?_
    refine z_icmp_ge (tgt := 52) rfl dX7_hashText_25 (fun c25 => ?_) (fun c25 => ?_)
    · replace h16 := (if_pos c25).symm.trans h16
      cases h16
      have k16 := x16 s16.1 rfl
      try dsimp only at k16
      exact z_lv [1] rfl k16
    · replace h16 := (if_neg c25).symm.trans h16
      refine z_lload_n 1 rfl rfl dX7_hashText_28 ?_
      refine z_aload_n 0 rfl rfl dX7_hashText_29 ?_
      refine z_get zcX7 0 rfl 0 rfl 3 (Nat.le_of_ble_eq_true rfl) zfX7_29 (v := .ref (a 83)) rfl dX7_hashText_30 ?_
      refine z_get zcX1 10 rfl 0 rfl 0 (Nat.le_of_ble_eq_true rfl) zfX7_289 (v := .ref (a 84)) rfl dX7_hashText_33 ?_
      refine z_iload 2 rfl dX7_hashText_36 ?_
      refine z_callSR (rest := [.long s16.1]) hl (c_X7_at l g (a 84) 60 (by decide) u.2.2.2.1.1 s16.2 _ rfl) zyX7_at zsX7_at zlX7_117 [(10, some (1, 1))] rfl rfl rfl (by decide) (Nat.le_of_ble_eq_true rfl) ⟨Nat.zero_le _, Nat.zero_le _⟩ dX7_hashText_38 (st2 := [.int (f_X7_at 60 u.2.2.2.1.1 s16.2), .long s16.1]) rfl ?_
      refine z_i2l dX7_hashText_41 ?_
      refine z_callSR (rest := []) hl (c_X7_chained l g s16.1 (Int32.toInt64 (f_X7_at 60 u.2.2.2.1.1 s16.2)) _ rfl) zyX7_chained zsX7_chained zlX7_244 [] rfl rfl rfl (by decide) (Nat.le_of_ble_eq_true rfl) ⟨Nat.zero_le _, Nat.zero_le _⟩ dX7_hashText_42 (st2 := [.long (f_X7_chained s16.1 (Int32.toInt64 (f_X7_at 60 u.2.2.2.1.1 s16.2)))]) rfl ?_
      refine z_lstore_n [(3, .long (f_X7_chained s16.1 (Int32.toInt64 (f_X7_at 60 u.2.2.2.1.1 s16.2)))), (0, .ref (a 0)), (5, .int s16.2)] rfl (Nat.le_of_ble_eq_true rfl) rfl dX7_hashText_45 ?_
      refine z_iinc 2 [(5, .int (s16.2 + 1)), (3, .long (f_X7_chained s16.1 (Int32.toInt64 (f_X7_at 60 u.2.2.2.1.1 s16.2)))), (0, .ref (a 0))] rfl (v := (s16.2 + 1)) zinc (Nat.le_of_ble_eq_true rfl) rfl dX7_hashText_46 ?_
      refine z_goto (tgt := 16) rfl dX7_hashText_49 ?_
      cases h16
      have k16 := i16 ((f_X7_chained s16.1 (Int32.toInt64 (f_X7_at 60 u.2.2.2.1.1 s16.2))), (s16.2 + 1)) rfl
      try dsimp only at k16
      exact z_lv [2, 1, 0] rfl k16
  · skip
    refine z_lload_n 0 rfl rfl dX7_hashText_52 ?_
    cases h
    exact z_lret dX7_hashText_53 hQ
set_option maxHeartbeats 400000 in
set_option maxRecDepth 100000 in
theorem c_X7_bitsOf (l : Launch) (g : zG) (p0 : UInt64) (r : Int64) (h : f_X7_bitsOf p0 = some r) : Ctr l g false yX7_bitsOf cX7_bitsOf 7 (some .long) 0 0 0 0 [.double p0] ([]) ([]) (some (.long r)) := by
  refine ctr_of (by decide) (Nat.le_of_ble_eq_true rfl) (fun X hl _ _ _ hQ => ?_)
  unfold f_X7_bitsOf at h
  refine z_lv (lv' := [(0, .double p0)]) [0] rfl ?_
  refine z_dload_n 0 rfl rfl dX7_bitsOf_0 ?_
  refine z_dconst0 dX7_bitsOf_1 ?_
  refine z_dcmp dX7_bitsOf_2 ?_
  refine z_if_gt (tgt := 8) rfl dX7_bitsOf_3 (fun c3 => ?_) (fun c3 => ?_)
  · replace h := (if_pos c3).symm.trans h
    refine z_dload_n 0 rfl rfl dX7_bitsOf_8 ?_
    refine z_dstore_n [(2, .double p0), (0, .double p0)] rfl (Nat.le_of_ble_eq_true rfl) rfl dX7_bitsOf_9 ?_
    refine z_iconst (v := 0) (by decide) dX7_bitsOf_10 ?_
    refine z_istore [(4, .int 0), (2, .double p0), (0, .double p0)] (Nat.le_of_ble_eq_true rfl) rfl dX7_bitsOf_11 ?_
    obtain ⟨z1, ez1, h⟩ := zb h
    refine z_lv (lv' := [(2, .double p0), (4, .int 0)]) [1, 0] rfl ?_
    suffices hk13 : (fun (s13 : UInt64 × Int32) => Z false RX7 cX7_bitsOf 7 0 0 g X 0 0 ([]) [(2, .double s13.1), (4, .int s13.2)] 13 []) (p0, 0) by try dsimp only at hk13; exact hk13
    refine lp_ind (σ := UInt64 × Int32) (ε := UInt64 × Int32) b_X7_bitsOf_13 (fun s13 => Z false RX7 cX7_bitsOf 7 0 0 g X 0 0 ([]) [(2, .double s13.1), (4, .int s13.2)] 13 []) (fun z1 => Z false RX7 cX7_bitsOf 7 0 0 g X 0 0 ([]) [(2, .double z1.1), (4, .int z1.2)] 39 []) (fun s13 q13 h13 i13 x13 => ?_) 5000 (p0, 0) z1 ez1 ?_
    · unfold b_X7_bitsOf_13 at h13
      refine z_dload_n 0 rfl rfl dX7_bitsOf_13 ?_
      refine z_dconst1 dX7_bitsOf_14 ?_
      refine z_dcmp dX7_bitsOf_15 ?_
      refine z_if_ge (tgt := 39) rfl dX7_bitsOf_16 (fun c16 => ?_) (fun c16 => ?_)
      · replace h13 := (if_pos c16).symm.trans h13
        cases h13
        have k13 := x13 (s13.1, s13.2) rfl
        try dsimp only at k13
        exact z_lv [0, 1] rfl k13
      · replace h13 := (if_neg c16).symm.trans h13
        refine z_iload 1 rfl dX7_bitsOf_19 ?_
        refine z_sipush (v := 1022) (by decide) dX7_bitsOf_21 ?_
        refine z_icmp_ge (tgt := 39) rfl dX7_bitsOf_24 (fun c24 => ?_) (fun c24 => ?_)
        · replace h13 := (if_pos c24).symm.trans h13
          cases h13
          have k13 := x13 (s13.1, s13.2) rfl
          try dsimp only at k13
          exact z_lv [0, 1] rfl k13
        · replace h13 := (if_neg c24).symm.trans h13
          refine z_dload_n 0 rfl rfl dX7_bitsOf_27 ?_
          refine z_ldc2d zkX7_294 dX7_bitsOf_28 ?_
          obtain ⟨r2, er2, h13⟩ := zb h13
          refine z_dmul er2 dX7_bitsOf_31 ?_
          refine z_dstore_n [(2, .double r2), (4, .int s13.2)] rfl (Nat.le_of_ble_eq_true rfl) rfl dX7_bitsOf_32 ?_
          refine z_iinc 1 [(4, .int (s13.2 + 1)), (2, .double r2)] rfl (v := (s13.2 + 1)) zinc (Nat.le_of_ble_eq_true rfl) rfl dX7_bitsOf_33 ?_
          refine z_goto (tgt := 13) rfl dX7_bitsOf_36 ?_
          cases h13
          have k13 := i13 (r2, (s13.2 + 1)) rfl
          try dsimp only at k13
          exact z_lv [1, 0] rfl k13
    · skip
      refine z_dload_n 0 rfl rfl dX7_bitsOf_39 ?_
      refine z_dconst1 dX7_bitsOf_40 ?_
      obtain ⟨r3, er3, h⟩ := zb h
      refine z_dsub er3 dX7_bitsOf_41 ?_
      refine z_ldc2d zkX7_296 dX7_bitsOf_42 ?_
      obtain ⟨r4, er4, h⟩ := zb h
      refine z_dmul er4 dX7_bitsOf_45 ?_
      refine z_d2l dX7_bitsOf_46 ?_
      refine z_lstore [(5, .long (FP.d2l r4)), (2, .double z1.1), (4, .int z1.2)] (Nat.le_of_ble_eq_true rfl) rfl dX7_bitsOf_47 ?_
      refine z_sipush (v := 1023) (by decide) dX7_bitsOf_49 ?_
      refine z_iload 2 rfl dX7_bitsOf_52 ?_
      refine z_isub dX7_bitsOf_54 ?_
      refine z_i2l dX7_bitsOf_55 ?_
      refine z_bipush (v := 52) (by decide) dX7_bitsOf_56 ?_
      refine z_lshl dX7_bitsOf_58 ?_
      refine z_lload 0 rfl dX7_bitsOf_59 ?_
      refine z_ladd dX7_bitsOf_61 ?_
      cases h
      exact z_lret dX7_bitsOf_62 hQ
  · replace h := (if_neg c3).symm.trans h
    refine z_lconst (v := 0) (by decide) dX7_bitsOf_6 ?_
    cases h
    exact z_lret dX7_bitsOf_7 hQ
set_option maxHeartbeats 400000 in
set_option maxRecDepth 100000 in
theorem c_X7_clearBuffer (l : Launch) (g : zG) (a : Nat → Nat) (u : tX7) (r : Int32 × tX7) (h : f_X7_clearBuffer u = r) : Ctr l g true yX7_clearBuffer cX7_clearBuffer 2 (some .int) 0 0 0 0 [.ref (a 0)] (kX7 g a u) (kX7 g a r.2) (some (.int r.1)) := by
  refine ctr_of (by decide) (Nat.le_of_ble_eq_true rfl) (fun X hl _ _ _ hQ => ?_)
  unfold f_X7_clearBuffer at h
  refine z_lv (lv' := [(0, .ref (a 0))]) [0] rfl ?_
  refine z_aload_n 0 rfl rfl dX7_clearBuffer_0 ?_
  refine z_get zcX7 0 rfl 0 rfl 3 (Nat.le_of_ble_eq_true rfl) zfX7_29 (v := .ref (a 83)) rfl dX7_clearBuffer_1 ?_
  refine z_get zcX1 10 rfl 0 rfl 1 (Nat.le_of_ble_eq_true rfl) zfX7_155 (v := .int u.2.2.2.1.2.1) rfl dX7_clearBuffer_4 ?_
  refine z_istore_n [(1, .int u.2.2.2.1.2.1), (0, .ref (a 0))] rfl (Nat.le_of_ble_eq_true rfl) rfl dX7_clearBuffer_7 ?_
  refine z_aload_n 1 rfl rfl dX7_clearBuffer_8 ?_
  refine z_get zcX7 0 rfl 0 rfl 3 (Nat.le_of_ble_eq_true rfl) zfX7_29 (v := .ref (a 83)) rfl dX7_clearBuffer_9 ?_
  refine z_iconst (v := 0) (by decide) dX7_clearBuffer_12 ?_
  refine z_put (t := .int) (kX7 g a (u.1, u.2.1, u.2.2.1, (u.2.2.2.1.1, 0, u.2.2.2.1.2.2.1, u.2.2.2.1.2.2.2.1, u.2.2.2.1.2.2.2.2.1, u.2.2.2.1.2.2.2.2.2), u.2.2.2.2)) zcX1 10 rfl 0 rfl 1 (Nat.le_of_ble_eq_true rfl) zfX7_155 zpX1_1 (zn_i _) (zf_i _) (Nat.le_of_ble_eq_true rfl) rfl dX7_clearBuffer_13 ?_
  refine z_iload_n 0 rfl rfl dX7_clearBuffer_16 ?_
  subst h
  try dsimp only at hQ
  exact z_iret dX7_clearBuffer_17 hQ
set_option maxHeartbeats 400000 in
set_option maxRecDepth 100000 in
theorem c_X7_firstError (l : Launch) (g : zG) (a : Nat → Nat) (u : tX7) (r : Int32 × tX7) (h : f_X7_firstError u = some r) : Ctr l g true yX7_firstError cX7_firstError 1 (some .int) 4 85 0 0 [.ref (a 0)] (kX7 g a u) (kX7 g a r.2) (some (.int r.1)) := by
  refine ctr_of (by decide) (Nat.le_of_ble_eq_true rfl) (fun X hl _ _ _ hQ => ?_)
  unfold f_X7_firstError at h
  refine z_lv (lv' := [(0, .ref (a 0))]) [0] rfl ?_
  refine z_aload_n 0 rfl rfl dX7_firstError_0 ?_
  refine z_get zcX7 0 rfl 0 rfl 3 (Nat.le_of_ble_eq_true rfl) zfX7_29 (v := .ref (a 83)) rfl dX7_firstError_1 ?_
  obtain ⟨r1, er1, h⟩ := zb h
  refine z_callVW (rest := []) hl (c_X1_readSigns l g (fun i => a (i + 83)) u.2.2.2.1 _ er1) zyX1_readSigns zvX1_readSigns rfl zlX7_165 zcX1.1 ⟨_, _, rfl⟩ [(10, none)] rfl (by decide) rfl (w' := kX7 g a (u.1, u.2.1, u.2.2.1, r1.2, u.2.2.2.2)) rfl rfl rfl (by decide) (Nat.le_of_ble_eq_true rfl) ⟨Nat.zero_le _, Nat.zero_le _⟩ dX7_firstError_4 (st2 := [.int r1.1]) rfl ?_
  cases h
  try dsimp only at hQ
  exact z_iret dX7_firstError_7 hQ
set_option maxHeartbeats 400000 in
set_option maxRecDepth 100000 in
theorem c_X7_refusal (l : Launch) (g : zG) (a : Nat → Nat) (u : tX7) (p0 : Int32) (r : Int32) (h : f_X7_refusal u p0 = some r) : Ctr l g false yX7_refusal cX7_refusal 2 (some .int) 4 93 0 0 [.ref (a 0), .int p0] (kX7 g a u) (kX7 g a u) (some (.int r)) := by
  refine ctr_of (by decide) (Nat.le_of_ble_eq_true rfl) (fun X hl _ _ _ hQ => ?_)
  unfold f_X7_refusal at h
  refine z_lv (lv' := [(0, .ref (a 0)), (1, .int p0)]) [0, 1] rfl ?_
  refine z_aload_n 0 rfl rfl dX7_refusal_0 ?_
  refine z_get zcX7 0 rfl 0 rfl 0 (Nat.le_of_ble_eq_true rfl) zfX7_10 (v := .ref (a 1)) rfl dX7_refusal_1 ?_
  refine z_iload_n 1 rfl rfl dX7_refusal_4 ?_
  obtain ⟨r1, er1, h⟩ := zb h
  refine z_callVR (rest := []) hl (c_X6_reasonAgainst l g (fun i => a (i + 1)) u.1 p0 _ er1) zyX6_reasonAgainst zvX6_reasonAgainst rfl zlX7_95 zcX6.1 ⟨_, _, rfl⟩ [(1, none)] rfl rfl rfl (by decide) (Nat.le_of_ble_eq_true rfl) ⟨Nat.zero_le _, Nat.zero_le _⟩ dX7_refusal_5 (st2 := [.int r1]) rfl ?_
  cases h
  exact z_iret dX7_refusal_8 hQ
set_option maxHeartbeats 400000 in
set_option maxRecDepth 100000 in
theorem c_X7_evenness (l : Launch) (g : zG) (a : Nat → Nat) (u : tX7) (r : UInt64) (h : f_X7_evenness u = some r) : Ctr l g false yX7_evenness cX7_evenness 1 (some .double) 3 67 0 0 [.ref (a 0)] (kX7 g a u) (kX7 g a u) (some (.double r)) := by
  refine ctr_of (by decide) (Nat.le_of_ble_eq_true rfl) (fun X hl _ _ _ hQ => ?_)
  unfold f_X7_evenness at h
  refine z_lv (lv' := [(0, .ref (a 0))]) [0] rfl ?_
  refine z_aload_n 0 rfl rfl dX7_evenness_0 ?_
  obtain ⟨r1, er1, h⟩ := zb h
  refine z_callVR (rest := []) hl (c_X7_shareOfLeast l g a u _ er1) zyX7_shareOfLeast zvX7_shareOfLeast rfl zlX7_228 zcX7.1 ⟨_, _, rfl⟩ [(0, none), (1, none), (2, none), (3, none), (4, none), (5, none), (6, none), (7, none), (8, none), (9, none), (10, none), (11, none), (12, none)] rfl rfl rfl (by decide) (Nat.le_of_ble_eq_true rfl) ⟨Nat.zero_le _, Nat.zero_le _⟩ dX7_evenness_1 (st2 := [.double r1]) rfl ?_
  cases h
  exact z_dret dX7_evenness_4 hQ
set_option maxHeartbeats 400000 in
set_option maxRecDepth 100000 in
theorem c_X7_digest (l : Launch) (g : zG) (a : Nat → Nat) (u : tX7) (r : Int64 × tX7) (h : f_X7_digest u = some r) : Ctr l g true yX7_digest cX7_digest 6 (some .long) 7 175 0 0 [.ref (a 0)] (kX7 g a u) (kX7 g a r.2) (some (.long r.1)) := by
  refine ctr_of (by decide) (Nat.le_of_ble_eq_true rfl) (fun X hl _ _ _ hQ => ?_)
  unfold f_X7_digest at h
  refine z_lv (lv' := [(0, .ref (a 0))]) [0] rfl ?_
  refine z_aload_n 0 rfl rfl dX7_digest_0 ?_
  refine z_ldc2 zkX7_232 dX7_digest_1 ?_
  obtain ⟨r1, er1, h⟩ := zb h
  refine z_callVR (rest := []) hl (c_X7_hashNumbers l g a u 2963 _ er1) zyX7_hashNumbers zvX7_hashNumbers rfl zlX7_234 zcX7.1 ⟨_, _, rfl⟩ [(0, none), (1, none), (2, none), (3, none), (4, none), (5, none), (6, none), (7, none), (8, none), (9, none), (10, none), (11, none), (12, none)] rfl rfl rfl (by decide) (Nat.le_of_ble_eq_true rfl) ⟨Nat.zero_le _, Nat.zero_le _⟩ dX7_digest_4 (st2 := [.long r1]) rfl ?_
  refine z_lstore_n [(1, .long r1), (0, .ref (a 0))] rfl (Nat.le_of_ble_eq_true rfl) rfl dX7_digest_7 ?_
  refine z_aload_n 1 rfl rfl dX7_digest_8 ?_
  refine z_lload_n 0 rfl rfl dX7_digest_9 ?_
  obtain ⟨r2, er2, h⟩ := zb h
  refine z_callVR (rest := []) hl (c_X7_hashDrawers l g a u r1 _ er2) zyX7_hashDrawers zvX7_hashDrawers rfl zlX7_238 zcX7.1 ⟨_, _, rfl⟩ [(0, none), (1, none), (2, none), (3, none), (4, none), (5, none), (6, none), (7, none), (8, none), (9, none), (10, none), (11, none), (12, none)] rfl rfl rfl (by decide) (Nat.le_of_ble_eq_true rfl) ⟨Nat.zero_le _, Nat.zero_le _⟩ dX7_digest_10 (st2 := [.long r2]) rfl ?_
  refine z_lstore_n [(1, .long r2), (0, .ref (a 0))] rfl (Nat.le_of_ble_eq_true rfl) rfl dX7_digest_13 ?_
  refine z_aload_n 1 rfl rfl dX7_digest_14 ?_
  refine z_lload_n 0 rfl rfl dX7_digest_15 ?_
  obtain ⟨r3, er3, h⟩ := zb h
  refine z_callVR (rest := []) hl (c_X7_hashItems l g a u r2 _ er3) zyX7_hashItems zvX7_hashItems rfl zlX7_241 zcX7.1 ⟨_, _, rfl⟩ [(0, none), (1, none), (2, none), (3, none), (4, none), (5, none), (6, none), (7, none), (8, none), (9, none), (10, none), (11, none), (12, none)] rfl rfl rfl (by decide) (Nat.le_of_ble_eq_true rfl) ⟨Nat.zero_le _, Nat.zero_le _⟩ dX7_digest_16 (st2 := [.long r3]) rfl ?_
  refine z_lstore_n [(1, .long r3), (0, .ref (a 0))] rfl (Nat.le_of_ble_eq_true rfl) rfl dX7_digest_19 ?_
  refine z_lload_n 0 rfl rfl dX7_digest_20 ?_
  refine z_aload_n 1 rfl rfl dX7_digest_21 ?_
  refine z_get zcX7 0 rfl 0 rfl 0 (Nat.le_of_ble_eq_true rfl) zfX7_10 (v := .ref (a 1)) rfl dX7_digest_22 ?_
  refine z_bipush (v := 7) (by decide) dX7_digest_25 ?_
  obtain ⟨r4, er4, h⟩ := zb h
  refine z_callVR (rest := [.long r3]) hl (c_X6_bestFor l g (fun i => a (i + 1)) u.1 7 _ er4) zyX6_bestFor zvX6_bestFor rfl zlX7_215 zcX6.1 ⟨_, _, rfl⟩ [(1, none)] rfl rfl rfl (by decide) (Nat.le_of_ble_eq_true rfl) ⟨Nat.zero_le _, Nat.zero_le _⟩ dX7_digest_27 (st2 := [.int r4, .long r3]) rfl ?_
  refine z_i2l dX7_digest_30 ?_
  refine z_callSR (rest := []) hl (c_X7_chained l g r3 (Int32.toInt64 r4) _ rfl) zyX7_chained zsX7_chained zlX7_244 [] rfl rfl rfl (by decide) (Nat.le_of_ble_eq_true rfl) ⟨Nat.zero_le _, Nat.zero_le _⟩ dX7_digest_31 (st2 := [.long (f_X7_chained r3 (Int32.toInt64 r4))]) rfl ?_
  refine z_lstore_n [(1, .long (f_X7_chained r3 (Int32.toInt64 r4))), (0, .ref (a 0))] rfl (Nat.le_of_ble_eq_true rfl) rfl dX7_digest_34 ?_
  refine z_iconst (v := 0) (by decide) dX7_digest_35 ?_
  refine z_istore_n [(3, .int 0), (1, .long (f_X7_chained r3 (Int32.toInt64 r4))), (0, .ref (a 0))] rfl (Nat.le_of_ble_eq_true rfl) rfl dX7_digest_36 ?_
  obtain ⟨z5, ez5, h⟩ := zb h
  refine z_lv (lv' := [(0, .ref (a 0)), (1, .long (f_X7_chained r3 (Int32.toInt64 r4))), (3, .int 0)]) [2, 1, 0] rfl ?_
  suffices hk37 : (fun (s37 : Int64 × Int32 × tX7) => Z true RX7 cX7_digest 6 7 175 g X 0 0 (kX7 g a s37.2.2) [(0, .ref (a 0)), (1, .long s37.1), (3, .int s37.2.1)] 37 []) ((f_X7_chained r3 (Int32.toInt64 r4)), 0, u) by try dsimp only at hk37; exact hk37
  refine lp_ind (σ := Int64 × Int32 × tX7) (ε := Int64 × tX7) b_X7_digest_37 (fun s37 => Z true RX7 cX7_digest 6 7 175 g X 0 0 (kX7 g a s37.2.2) [(0, .ref (a 0)), (1, .long s37.1), (3, .int s37.2.1)] 37 []) (fun z5 => Z true RX7 cX7_digest 6 7 175 g X 0 0 (kX7 g a z5.2) [(0, .ref (a 0)), (1, .long z5.1)] 84 []) (fun s37 q37 h37 i37 x37 => ?_) 5000 ((f_X7_chained r3 (Int32.toInt64 r4)), 0, u) z5 ez5 ?_
  · unfold b_X7_digest_37 at h37
    refine z_iload_n 2 rfl rfl dX7_digest_37 ?_
    refine z_iconst (v := 2) (by decide) dX7_digest_38 ?_
    refine z_icmp_gt (tgt := 84) rfl dX7_digest_39 (fun c39 => ?_) (fun c39 => ?_)
    · replace h37 := (if_pos c39).symm.trans h37
      cases h37
      have k37 := x37 (s37.1, s37.2.2) rfl
      try dsimp only at k37
      exact z_lv [0, 1] rfl k37
    · replace h37 := (if_neg c39).symm.trans h37
      refine z_aload_n 0 rfl rfl dX7_digest_42 ?_
      refine z_iload_n 2 rfl rfl dX7_digest_43 ?_
      obtain ⟨r6, er6, h37⟩ := zb h37
      refine z_callVW (rest := []) hl (c_X7_tryBatch l g a s37.2.2 s37.2.1 _ er6) zyX7_tryBatch zvX7_tryBatch rfl zlX7_222 zcX7.1 ⟨_, _, rfl⟩ [(0, none), (1, none), (2, none), (3, none), (4, none), (5, none), (6, none), (7, none), (8, none), (9, none), (10, none), (11, none), (12, none)] rfl (by decide) rfl (w' := kX7 g a r6.2) rfl rfl rfl (by decide) (Nat.le_of_ble_eq_true rfl) ⟨Nat.zero_le _, Nat.zero_le _⟩ dX7_digest_44 (st2 := [.int r6.1]) rfl ?_
      refine z_istore [(4, .int r6.1), (0, .ref (a 0)), (1, .long s37.1), (3, .int s37.2.1)] (Nat.le_of_ble_eq_true rfl) rfl dX7_digest_47 ?_
      refine z_iconst (v := 0) (by decide) dX7_digest_49 ?_
      refine z_istore [(5, .int 0), (4, .int r6.1), (0, .ref (a 0)), (1, .long s37.1), (3, .int s37.2.1)] (Nat.le_of_ble_eq_true rfl) rfl dX7_digest_50 ?_
      obtain ⟨z7, ez7, h37⟩ := zb h37
      refine z_lv (lv' := [(0, .ref (a 0)), (1, .long s37.1), (3, .int s37.2.1), (4, .int r6.1), (5, .int 0)]) [2, 3, 4, 1, 0] rfl ?_
      suffices hk52 : (fun (s52 : Int64 × Int32) => Z true RX7 cX7_digest 6 7 175 g X 0 0 (kX7 g a r6.2) [(0, .ref (a 0)), (1, .long s52.1), (3, .int s37.2.1), (4, .int r6.1), (5, .int s52.2)] 52 []) (s37.1, 0) by try dsimp only at hk52; exact hk52
      refine lp_ind (σ := Int64 × Int32) (ε := Int64) (b_X7_digest_52 r6) (fun s52 => Z true RX7 cX7_digest 6 7 175 g X 0 0 (kX7 g a r6.2) [(0, .ref (a 0)), (1, .long s52.1), (3, .int s37.2.1), (4, .int r6.1), (5, .int s52.2)] 52 []) (fun z7 => Z true RX7 cX7_digest 6 7 175 g X 0 0 (kX7 g a r6.2) [(0, .ref (a 0)), (1, .long z7), (3, .int s37.2.1)] 78 []) (fun s52 q52 h52 i52 x52 => ?_) 5000 (s37.1, 0) z7 ez7 ?_
      · unfold b_X7_digest_52 at h52
        refine z_iload 4 rfl dX7_digest_52 ?_
        refine z_iconst (v := 4) (by decide) dX7_digest_54 ?_
        refine z_icmp_ge (tgt := 78) rfl dX7_digest_55 (fun c55 => ?_) (fun c55 => ?_)
        · replace h52 := (if_pos c55).symm.trans h52
          cases h52
          have k52 := x52 s52.1 rfl
          try dsimp only at k52
          exact z_lv [0, 1, 2] rfl k52
        · replace h52 := (if_neg c55).symm.trans h52
          refine z_lload_n 1 rfl rfl dX7_digest_58 ?_
          refine z_aload_n 0 rfl rfl dX7_digest_59 ?_
          refine z_iload 3 rfl dX7_digest_60 ?_
          refine z_iload 4 rfl dX7_digest_62 ?_
          obtain ⟨r8, er8, h52⟩ := zb h52
          refine z_callVR (rest := [.long s52.1]) hl (c_X7_outcomeOf l g a r6.2 r6.1 s52.2 _ er8) zyX7_outcomeOf zvX7_outcomeOf rfl zlX7_225 zcX7.1 ⟨_, _, rfl⟩ [(0, none), (1, none), (2, none), (3, none), (4, none), (5, none), (6, none), (7, none), (8, none), (9, none), (10, none), (11, none), (12, none)] rfl rfl rfl (by decide) (Nat.le_of_ble_eq_true rfl) ⟨Nat.zero_le _, Nat.zero_le _⟩ dX7_digest_64 (st2 := [.int r8, .long s52.1]) rfl ?_
          refine z_i2l dX7_digest_67 ?_
          refine z_callSR (rest := []) hl (c_X7_chained l g s52.1 (Int32.toInt64 r8) _ rfl) zyX7_chained zsX7_chained zlX7_244 [] rfl rfl rfl (by decide) (Nat.le_of_ble_eq_true rfl) ⟨Nat.zero_le _, Nat.zero_le _⟩ dX7_digest_68 (st2 := [.long (f_X7_chained s52.1 (Int32.toInt64 r8))]) rfl ?_
          refine z_lstore_n [(1, .long (f_X7_chained s52.1 (Int32.toInt64 r8))), (0, .ref (a 0)), (3, .int s37.2.1), (4, .int r6.1), (5, .int s52.2)] rfl (Nat.le_of_ble_eq_true rfl) rfl dX7_digest_71 ?_
          refine z_iinc 4 [(5, .int (s52.2 + 1)), (1, .long (f_X7_chained s52.1 (Int32.toInt64 r8))), (0, .ref (a 0)), (3, .int s37.2.1), (4, .int r6.1)] rfl (v := (s52.2 + 1)) zinc (Nat.le_of_ble_eq_true rfl) rfl dX7_digest_72 ?_
          refine z_goto (tgt := 52) rfl dX7_digest_75 ?_
          cases h52
          have k52 := i52 ((f_X7_chained s52.1 (Int32.toInt64 r8)), (s52.2 + 1)) rfl
          try dsimp only at k52
          exact z_lv [2, 1, 3, 4, 0] rfl k52
      · skip
        refine z_iinc 2 [(3, .int (s37.2.1 + 1)), (0, .ref (a 0)), (1, .long z7)] rfl (v := (s37.2.1 + 1)) zinc (Nat.le_of_ble_eq_true rfl) rfl dX7_digest_78 ?_
        refine z_goto (tgt := 37) rfl dX7_digest_81 ?_
        cases h37
        have k37 := i37 (z7, (s37.2.1 + 1), r6.2) rfl
        try dsimp only at k37
        exact z_lv [1, 2, 0] rfl k37
  · skip
    refine z_lload_n 1 rfl rfl dX7_digest_84 ?_
    refine z_aload_n 0 rfl rfl dX7_digest_85 ?_
    obtain ⟨r9, er9, h⟩ := zb h
    refine z_callVR (rest := [.long z5.1]) hl (c_X7_shareOfLeast l g a z5.2 _ er9) zyX7_shareOfLeast zvX7_shareOfLeast rfl zlX7_228 zcX7.1 ⟨_, _, rfl⟩ [(0, none), (1, none), (2, none), (3, none), (4, none), (5, none), (6, none), (7, none), (8, none), (9, none), (10, none), (11, none), (12, none)] rfl rfl rfl (by decide) (Nat.le_of_ble_eq_true rfl) ⟨Nat.zero_le _, Nat.zero_le _⟩ dX7_digest_86 (st2 := [.double r9, .long z5.1]) rfl ?_
    obtain ⟨r10, er10, h⟩ := zb h
    refine z_callSR (rest := [.long z5.1]) hl (c_X7_bitsOf l g r9 _ er10) zyX7_bitsOf zsX7_bitsOf zlX7_248 [] rfl rfl rfl (by decide) (Nat.le_of_ble_eq_true rfl) ⟨Nat.zero_le _, Nat.zero_le _⟩ dX7_digest_89 (st2 := [.long r10, .long z5.1]) rfl ?_
    refine z_callSR (rest := []) hl (c_X7_chained l g z5.1 r10 _ rfl) zyX7_chained zsX7_chained zlX7_244 [] rfl rfl rfl (by decide) (Nat.le_of_ble_eq_true rfl) ⟨Nat.zero_le _, Nat.zero_le _⟩ dX7_digest_92 (st2 := [.long (f_X7_chained z5.1 r10)]) rfl ?_
    refine z_lstore_n [(1, .long (f_X7_chained z5.1 r10)), (0, .ref (a 0))] rfl (Nat.le_of_ble_eq_true rfl) rfl dX7_digest_95 ?_
    refine z_aload_n 1 rfl rfl dX7_digest_96 ?_
    refine z_lload_n 0 rfl rfl dX7_digest_97 ?_
    obtain ⟨r11, er11, h⟩ := zb h
    refine z_callVR (rest := []) hl (c_X7_hashText l g a z5.2 (f_X7_chained z5.1 r10) _ er11) zyX7_hashText zvX7_hashText rfl zlX7_252 zcX7.1 ⟨_, _, rfl⟩ [(0, none), (1, none), (2, none), (3, none), (4, none), (5, none), (6, none), (7, none), (8, none), (9, none), (10, none), (11, none), (12, none)] rfl rfl rfl (by decide) (Nat.le_of_ble_eq_true rfl) ⟨Nat.zero_le _, Nat.zero_le _⟩ dX7_digest_98 (st2 := [.long r11]) rfl ?_
    cases h
    try dsimp only at hQ
    exact z_lret dX7_digest_101 hQ
