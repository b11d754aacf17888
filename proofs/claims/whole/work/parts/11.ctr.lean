set_option maxHeartbeats 400000 in
set_option maxRecDepth 100000 in
theorem c_Jxe99ae_isNaN_b9ae7 (l : Launch) (g : zG) (p0 : UInt64) (r : Bool) (h : f_Jxe99ae_isNaN_b9ae7 p0 = r) : Ctr l g false yJxe99ae_isNaN_b9ae7 cJxe99ae_isNaN_b9ae7 2 (some .boolean) 0 0 0 0 [.double p0] ([]) ([]) (some (.int (b2i r))) := by
  refine ctr_of (by decide) (Nat.le_of_ble_eq_true rfl) (fun X hl _ _ _ hQ => ?_)
  unfold f_Jxe99ae_isNaN_b9ae7 at h
  refine z_lv (lv' := [(0, .double p0)]) [0] rfl ?_
  refine z_dload_n 0 rfl rfl dJxe99ae_isNaN_b9ae7_0 ?_
  refine z_dload_n 0 rfl rfl dJxe99ae_isNaN_b9ae7_1 ?_
  refine z_dcmp dJxe99ae_isNaN_b9ae7_2 ?_
  refine z_if_eq (tgt := 10) rfl dJxe99ae_isNaN_b9ae7_3 (fun c3 => ?_) (fun c3 => ?_)
  · replace h := (if_pos c3).symm.trans h
    refine z_iconst (v := 0) (by decide) dJxe99ae_isNaN_b9ae7_10 ?_
    subst h
    exact z_zret _ (by rfl) dJxe99ae_isNaN_b9ae7_11 hQ
  · replace h := (if_neg c3).symm.trans h
    refine z_iconst (v := 1) (by decide) dJxe99ae_isNaN_b9ae7_6 ?_
    refine z_goto (tgt := 11) rfl dJxe99ae_isNaN_b9ae7_7 ?_
    subst h
    exact z_zret _ (by rfl) dJxe99ae_isNaN_b9ae7_11 hQ
set_option maxHeartbeats 400000 in
set_option maxRecDepth 100000 in
theorem c_Jxe99ae_doubleToLongBits_ccdee (l : Launch) (g : zG) (p0 : UInt64) (r : Int64) (h : f_Jxe99ae_doubleToLongBits_ccdee p0 = r) : Ctr l g false yJxe99ae_doubleToLongBits_ccdee cJxe99ae_doubleToLongBits_ccdee 2 (some .long) 1 21 0 0 [.double p0] ([]) ([]) (some (.long r)) := by
  refine ctr_of (by decide) (Nat.le_of_ble_eq_true rfl) (fun X hl _ _ _ hQ => ?_)
  unfold f_Jxe99ae_doubleToLongBits_ccdee at h
  refine z_lv (lv' := [(0, .double p0)]) [0] rfl ?_
  refine z_dload_n 0 rfl rfl dJxe99ae_doubleToLongBits_ccdee_0 ?_
  refine z_callSR (rest := []) hl (c_Jxe99ae_isNaN_b9ae7 l g p0 _ rfl) zyJxe99ae_isNaN_b9ae7 zsJxe99ae_isNaN_b9ae7 zlJxe99ae_122 [] rfl rfl rfl (by decide) (Nat.le_of_ble_eq_true rfl) ⟨Nat.zero_le _, Nat.zero_le _⟩ dJxe99ae_doubleToLongBits_ccdee_1 (st2 := [.int (b2i (f_Jxe99ae_isNaN_b9ae7 p0))]) rfl ?_
  refine z_ifB_ne (tgt := 12) rfl dJxe99ae_doubleToLongBits_ccdee_4 (fun c4 => ?_) (fun c4 => ?_)
  · replace h := (if_pos c4).symm.trans h
    refine z_ldc2 zkJxe99ae_137 dJxe99ae_doubleToLongBits_ccdee_12 ?_
    subst h
    exact z_lret dJxe99ae_doubleToLongBits_ccdee_15 hQ
  · replace h := (if_neg c4).symm.trans h
    refine z_dload_n 0 rfl rfl dJxe99ae_doubleToLongBits_ccdee_7 ?_
    refine z_draw zraw.1 ⟨Nat.le_of_ble_eq_true rfl, Nat.le_of_ble_eq_true rfl⟩ dJxe99ae_doubleToLongBits_ccdee_8 ?_
    subst h
    exact z_lret dJxe99ae_doubleToLongBits_ccdee_11 hQ
set_option maxHeartbeats 400000 in
set_option maxRecDepth 100000 in
theorem c_X8_thrown (l : Launch) (g : zG) (a : Nat → Nat) (u : tX8) (r : Int32) (h : f_X8_thrown u = r) : Ctr l g false yX8_thrown cX8_thrown 1 (some .int) 0 0 0 0 [.ref (a 0)] ([cX8 g a u]) ([cX8 g a u]) (some (.int r)) := by
  refine ctr_of (by decide) (Nat.le_of_ble_eq_true rfl) (fun X hl _ _ _ hQ => ?_)
  unfold f_X8_thrown at h
  refine z_lv (lv' := [(0, .ref (a 0))]) [0] rfl ?_
  refine z_aload_n 0 rfl rfl dX8_thrown_0 ?_
  refine z_get zcX8 0 rfl 0 rfl 0 (Nat.le_of_ble_eq_true rfl) zfX8_38 (v := .int u.1) rfl dX8_thrown_1 ?_
  subst h
  exact z_iret dX8_thrown_4 hQ
set_option maxHeartbeats 400000 in
set_option maxRecDepth 100000 in
theorem c_X8_in (l : Launch) (g : zG) (p0 : Int32) (p1 : Int32) (p2 : Int32) (r : Bool) (h : f_X8_in p0 p1 p2 = r) : Ctr l g false yX8_in cX8_in 3 (some .boolean) 0 0 0 0 [.int p0, .int p1, .int p2] ([]) ([]) (some (.int (b2i r))) := by
  refine ctr_of (by decide) (Nat.le_of_ble_eq_true rfl) (fun X hl _ _ _ hQ => ?_)
  unfold f_X8_in at h
  refine z_lv (lv' := [(0, .int p0), (1, .int p1), (2, .int p2)]) [0, 1, 2] rfl ?_
  refine z_iload_n 0 rfl rfl dX8_in_0 ?_
  refine z_iload_n 1 rfl rfl dX8_in_1 ?_
  refine z_icmp_lt (tgt := 14) rfl dX8_in_2 (fun c2 => ?_) (fun c2 => ?_)
  · replace h := (if_pos c2).symm.trans h
    refine z_iconst (v := 0) (by decide) dX8_in_14 ?_
    subst h
    exact z_zret _ (by rfl) dX8_in_15 hQ
  · replace h := (if_neg c2).symm.trans h
    refine z_iload_n 0 rfl rfl dX8_in_5 ?_
    refine z_iload_n 2 rfl rfl dX8_in_6 ?_
    refine z_icmp_gt (tgt := 14) rfl dX8_in_7 (fun c7 => ?_) (fun c7 => ?_)
    · replace h := (if_pos c7).symm.trans h
      refine z_iconst (v := 0) (by decide) dX8_in_14 ?_
      subst h
      exact z_zret _ (by rfl) dX8_in_15 hQ
    · replace h := (if_neg c7).symm.trans h
      refine z_iconst (v := 1) (by decide) dX8_in_10 ?_
      refine z_goto (tgt := 15) rfl dX8_in_11 ?_
      subst h
      exact z_zret _ (by rfl) dX8_in_15 hQ
set_option maxHeartbeats 400000 in
set_option maxRecDepth 100000 in
theorem c_X8_fails (l : Launch) (g : zG) (a : Nat → Nat) (u : tX8) (p0 : Int32) (r : Int32 × tX8) (h : f_X8_fails u p0 = r) : Ctr l g true yX8_fails cX8_fails 2 (some .int) 0 0 0 0 [.ref (a 0), .int p0] ([cX8 g a u]) ([cX8 g a r.2]) (some (.int r.1)) := by
  refine ctr_of (by decide) (Nat.le_of_ble_eq_true rfl) (fun X hl _ _ _ hQ => ?_)
  unfold f_X8_fails at h
  refine z_lv (lv' := [(0, .ref (a 0)), (1, .int p0)]) [0, 1] rfl ?_
  refine z_aload_n 0 rfl rfl dX8_fails_0 ?_
  refine z_iload_n 1 rfl rfl dX8_fails_1 ?_
  refine z_put (t := .int) ([dX8 g a p0 u.2.1 u.2.2.1 u.2.2.2.1 u.2.2.2.2.1 u.2.2.2.2.2.1 u.2.2.2.2.2.2.1 u.2.2.2.2.2.2.2.1 u.2.2.2.2.2.2.2.2.1 u.2.2.2.2.2.2.2.2.2.1 u.2.2.2.2.2.2.2.2.2.2.1 u.2.2.2.2.2.2.2.2.2.2.2.1 u.2.2.2.2.2.2.2.2.2.2.2.2.1 u.2.2.2.2.2.2.2.2.2.2.2.2.2.1 u.2.2.2.2.2.2.2.2.2.2.2.2.2.2.1 u.2.2.2.2.2.2.2.2.2.2.2.2.2.2.2]) zcX8 0 rfl 0 rfl 0 (Nat.le_of_ble_eq_true rfl) zfX8_38 zpX8_0 (zn_i _) (zf_i _) (Nat.le_of_ble_eq_true rfl) rfl dX8_fails_2 ?_
  refine z_iconst (v := 0) (by decide) dX8_fails_5 ?_
  subst h
  try dsimp only at hQ
  exact z_iret dX8_fails_6 hQ
set_option maxHeartbeats 400000 in
set_option maxRecDepth 100000 in
theorem c_X8_isDrawer (l : Launch) (g : zG) (p0 : Int32) (r : Bool) (h : f_X8_isDrawer p0 = r) : Ctr l g false yX8_isDrawer cX8_isDrawer 1 (some .boolean) 1 22 0 0 [.int p0] ([]) ([]) (some (.int (b2i r))) := by
  refine ctr_of (by decide) (Nat.le_of_ble_eq_true rfl) (fun X hl _ _ _ hQ => ?_)
  unfold f_X8_isDrawer at h
  refine z_lv (lv' := [(0, .int p0)]) [0] rfl ?_
  refine z_iload_n 0 rfl rfl dX8_isDrawer_0 ?_
  refine z_iconst (v := 0) (by decide) dX8_isDrawer_1 ?_
  refine z_bipush (v := 11) (by decide) dX8_isDrawer_2 ?_
  refine z_callSR (rest := []) hl (c_X8_in l g p0 0 11 _ rfl) zyX8_in zsX8_in zlX8_42 [] rfl rfl rfl (by decide) (Nat.le_of_ble_eq_true rfl) ⟨Nat.zero_le _, Nat.zero_le _⟩ dX8_isDrawer_4 (st2 := [.int (b2i (f_X8_in p0 0 11))]) rfl ?_
  subst h
  exact z_zret _ (by rfl) dX8_isDrawer_7 hQ
set_option maxHeartbeats 400000 in
set_option maxRecDepth 100000 in
theorem c_X8_saves (l : Launch) (g : zG) (a : Nat → Nat) (u : tX8) (r : tX8) (h : f_X8_saves u = some r) : Ctr l g true yX8_saves cX8_saves 2 none 0 0 0 0 [.ref (a 0)] ([cX8 g a u]) ([cX8 g a r]) none := by
  refine ctr_of (by decide) (Nat.le_of_ble_eq_true rfl) (fun X hl _ _ _ hQ => ?_)
  unfold f_X8_saves at h
  refine z_lv (lv' := [(0, .ref (a 0))]) [0] rfl ?_
  refine z_aload_n 0 rfl rfl dX8_saves_0 ?_
  refine z_get zcX8 0 rfl 0 rfl 4 (Nat.le_of_ble_eq_true rfl) zfX8_46 (v := .int u.2.2.2.2.1) rfl dX8_saves_1 ?_
  refine z_bipush (v := 6) (by decide) dX8_saves_4 ?_
  refine z_icmp_ne (tgt := 50) rfl dX8_saves_6 (fun c6 => ?_) (fun c6 => ?_)
  · replace h := (if_neg c6).symm.trans h
    refine z_iconst (v := 0) (by decide) dX8_saves_50 ?_
    refine z_istore_n [(1, .int 0), (0, .ref (a 0))] rfl (Nat.le_of_ble_eq_true rfl) rfl dX8_saves_51 ?_
    obtain ⟨z1, ez1, h⟩ := zb h
    refine z_lv (lv' := [(0, .ref (a 0)), (1, .int 0)]) [1, 0] rfl ?_
    suffices hk52 : (fun (s52 : Int32 × zF) => Z true RX8 cX8_saves 2 0 0 g X 0 0 ([dX8 g a u.1 u.2.1 u.2.2.1 s52.2 u.2.2.2.2.1 u.2.2.2.2.2.1 u.2.2.2.2.2.2.1 u.2.2.2.2.2.2.2.1 u.2.2.2.2.2.2.2.2.1 u.2.2.2.2.2.2.2.2.2.1 u.2.2.2.2.2.2.2.2.2.2.1 u.2.2.2.2.2.2.2.2.2.2.2.1 u.2.2.2.2.2.2.2.2.2.2.2.2.1 u.2.2.2.2.2.2.2.2.2.2.2.2.2.1 u.2.2.2.2.2.2.2.2.2.2.2.2.2.2.1 u.2.2.2.2.2.2.2.2.2.2.2.2.2.2.2]) [(0, .ref (a 0)), (1, .int s52.1)] 52 []) (0, u.2.2.2.1) by try dsimp only at hk52; exact hk52
    refine lp_ind (σ := Int32 × zF) (ε := zF) (b_X8_saves_52 u) (fun s52 => Z true RX8 cX8_saves 2 0 0 g X 0 0 ([dX8 g a u.1 u.2.1 u.2.2.1 s52.2 u.2.2.2.2.1 u.2.2.2.2.2.1 u.2.2.2.2.2.2.1 u.2.2.2.2.2.2.2.1 u.2.2.2.2.2.2.2.2.1 u.2.2.2.2.2.2.2.2.2.1 u.2.2.2.2.2.2.2.2.2.2.1 u.2.2.2.2.2.2.2.2.2.2.2.1 u.2.2.2.2.2.2.2.2.2.2.2.2.1 u.2.2.2.2.2.2.2.2.2.2.2.2.2.1 u.2.2.2.2.2.2.2.2.2.2.2.2.2.2.1 u.2.2.2.2.2.2.2.2.2.2.2.2.2.2.2]) [(0, .ref (a 0)), (1, .int s52.1)] 52 []) (fun z1 => Z true RX8 cX8_saves 2 0 0 g X 0 0 ([dX8 g a u.1 u.2.1 u.2.2.1 z1 u.2.2.2.2.1 u.2.2.2.2.2.1 u.2.2.2.2.2.2.1 u.2.2.2.2.2.2.2.1 u.2.2.2.2.2.2.2.2.1 u.2.2.2.2.2.2.2.2.2.1 u.2.2.2.2.2.2.2.2.2.2.1 u.2.2.2.2.2.2.2.2.2.2.2.1 u.2.2.2.2.2.2.2.2.2.2.2.2.1 u.2.2.2.2.2.2.2.2.2.2.2.2.2.1 u.2.2.2.2.2.2.2.2.2.2.2.2.2.2.1 u.2.2.2.2.2.2.2.2.2.2.2.2.2.2.2]) [(0, .ref (a 0))] 86 []) (fun s52 q52 h52 i52 x52 => ?_) 5000 (0, u.2.2.2.1) z1 ez1 ?_
    · unfold b_X8_saves_52 at h52
      refine z_iload_n 1 rfl rfl dX8_saves_52 ?_
      refine z_sipush (v := 142) (by decide) dX8_saves_53 ?_
      refine z_icmp_ge (tgt := 86) rfl dX8_saves_56 (fun c56 => ?_) (fun c56 => ?_)
      · replace h52 := (if_pos c56).symm.trans h52
        cases h52
        have k52 := x52 s52.2 rfl
        try dsimp only at k52
        exact z_lv [0] rfl k52
      · replace h52 := (if_neg c56).symm.trans h52
        refine z_aload_n 0 rfl rfl dX8_saves_59 ?_
        refine z_get zcX8 0 rfl 0 rfl 3 (Nat.le_of_ble_eq_true rfl) zfX8_16 (v := .ref (a 3)) rfl dX8_saves_60 ?_
        refine z_sipush (v := 142) (by decide) dX8_saves_63 ?_
        refine z_aload_n 0 rfl rfl dX8_saves_66 ?_
        refine z_get zcX8 0 rfl 0 rfl 4 (Nat.le_of_ble_eq_true rfl) zfX8_46 (v := .int u.2.2.2.2.1) rfl dX8_saves_67 ?_
        refine z_imul dX8_saves_70 ?_
        refine z_iload_n 1 rfl rfl dX8_saves_71 ?_
        refine z_iadd dX8_saves_72 ?_
        refine z_aload_n 0 rfl rfl dX8_saves_73 ?_
        refine z_get zcX8 0 rfl 0 rfl 1 (Nat.le_of_ble_eq_true rfl) zfX8_7 (v := .ref (a 1)) rfl dX8_saves_74 ?_
        refine z_iload_n 1 rfl rfl dX8_saves_77 ?_
        obtain ⟨r2, er2, h52⟩ := zb h52
        refine z_iald 0 rfl 1 rfl er2 dX8_saves_78 ?_
        obtain ⟨r3, er3, h52⟩ := zb h52
        refine z_iast ([dX8 g a u.1 u.2.1 u.2.2.1 r3 u.2.2.2.2.1 u.2.2.2.2.2.1 u.2.2.2.2.2.2.1 u.2.2.2.2.2.2.2.1 u.2.2.2.2.2.2.2.2.1 u.2.2.2.2.2.2.2.2.2.1 u.2.2.2.2.2.2.2.2.2.2.1 u.2.2.2.2.2.2.2.2.2.2.2.1 u.2.2.2.2.2.2.2.2.2.2.2.2.1 u.2.2.2.2.2.2.2.2.2.2.2.2.2.1 u.2.2.2.2.2.2.2.2.2.2.2.2.2.2.1 u.2.2.2.2.2.2.2.2.2.2.2.2.2.2.2]) 0 rfl 3 rfl er3 rfl dX8_saves_79 ?_
        refine z_iinc 1 [(1, .int (s52.1 + 1)), (0, .ref (a 0))] rfl (v := (s52.1 + 1)) zinc (Nat.le_of_ble_eq_true rfl) rfl dX8_saves_80 ?_
        refine z_goto (tgt := 52) rfl dX8_saves_83 ?_
        cases h52
        have k52 := i52 ((s52.1 + 1), r3) rfl
        try dsimp only at k52
        exact z_lv [1, 0] rfl k52
    · skip
      refine z_aload_n 0 rfl rfl dX8_saves_86 ?_
      refine z_dup rfl dX8_saves_87 ?_
      refine z_get zcX8 0 rfl 0 rfl 4 (Nat.le_of_ble_eq_true rfl) zfX8_46 (v := .int u.2.2.2.2.1) rfl dX8_saves_88 ?_
      refine z_iconst (v := 1) (by decide) dX8_saves_91 ?_
      refine z_iadd dX8_saves_92 ?_
      refine z_put (t := .int) ([dX8 g a u.1 u.2.1 u.2.2.1 z1 (u.2.2.2.2.1 + 1) u.2.2.2.2.2.1 u.2.2.2.2.2.2.1 u.2.2.2.2.2.2.2.1 u.2.2.2.2.2.2.2.2.1 u.2.2.2.2.2.2.2.2.2.1 u.2.2.2.2.2.2.2.2.2.2.1 u.2.2.2.2.2.2.2.2.2.2.2.1 u.2.2.2.2.2.2.2.2.2.2.2.2.1 u.2.2.2.2.2.2.2.2.2.2.2.2.2.1 u.2.2.2.2.2.2.2.2.2.2.2.2.2.2.1 u.2.2.2.2.2.2.2.2.2.2.2.2.2.2.2]) zcX8 0 rfl 0 rfl 4 (Nat.le_of_ble_eq_true rfl) zfX8_46 zpX8_4 (zn_i _) (zf_i _) (Nat.le_of_ble_eq_true rfl) rfl dX8_saves_93 ?_
      cases h
      exact z_vret dX8_saves_96 hQ
  · replace h := (if_pos c6).symm.trans h
    refine z_iconst (v := 0) (by decide) dX8_saves_9 ?_
    refine z_istore_n [(1, .int 0), (0, .ref (a 0))] rfl (Nat.le_of_ble_eq_true rfl) rfl dX8_saves_10 ?_
    obtain ⟨z4, ez4, h⟩ := zb h
    refine z_lv (lv' := [(0, .ref (a 0)), (1, .int 0)]) [1, 0] rfl ?_
    suffices hk11 : (fun (s11 : Int32 × zF) => Z true RX8 cX8_saves 2 0 0 g X 0 0 ([dX8 g a u.1 u.2.1 u.2.2.1 s11.2 u.2.2.2.2.1 u.2.2.2.2.2.1 u.2.2.2.2.2.2.1 u.2.2.2.2.2.2.2.1 u.2.2.2.2.2.2.2.2.1 u.2.2.2.2.2.2.2.2.2.1 u.2.2.2.2.2.2.2.2.2.2.1 u.2.2.2.2.2.2.2.2.2.2.2.1 u.2.2.2.2.2.2.2.2.2.2.2.2.1 u.2.2.2.2.2.2.2.2.2.2.2.2.2.1 u.2.2.2.2.2.2.2.2.2.2.2.2.2.2.1 u.2.2.2.2.2.2.2.2.2.2.2.2.2.2.2]) [(0, .ref (a 0)), (1, .int s11.1)] 11 []) (0, u.2.2.2.1) by try dsimp only at hk11; exact hk11
    refine lp_ind (σ := Int32 × zF) (ε := zF) b_X8_saves_11 (fun s11 => Z true RX8 cX8_saves 2 0 0 g X 0 0 ([dX8 g a u.1 u.2.1 u.2.2.1 s11.2 u.2.2.2.2.1 u.2.2.2.2.2.1 u.2.2.2.2.2.2.1 u.2.2.2.2.2.2.2.1 u.2.2.2.2.2.2.2.2.1 u.2.2.2.2.2.2.2.2.2.1 u.2.2.2.2.2.2.2.2.2.2.1 u.2.2.2.2.2.2.2.2.2.2.2.1 u.2.2.2.2.2.2.2.2.2.2.2.2.1 u.2.2.2.2.2.2.2.2.2.2.2.2.2.1 u.2.2.2.2.2.2.2.2.2.2.2.2.2.2.1 u.2.2.2.2.2.2.2.2.2.2.2.2.2.2.2]) [(0, .ref (a 0)), (1, .int s11.1)] 11 []) (fun z4 => Z true RX8 cX8_saves 2 0 0 g X 0 0 ([dX8 g a u.1 u.2.1 u.2.2.1 z4 u.2.2.2.2.1 u.2.2.2.2.2.1 u.2.2.2.2.2.2.1 u.2.2.2.2.2.2.2.1 u.2.2.2.2.2.2.2.2.1 u.2.2.2.2.2.2.2.2.2.1 u.2.2.2.2.2.2.2.2.2.2.1 u.2.2.2.2.2.2.2.2.2.2.2.1 u.2.2.2.2.2.2.2.2.2.2.2.2.1 u.2.2.2.2.2.2.2.2.2.2.2.2.2.1 u.2.2.2.2.2.2.2.2.2.2.2.2.2.2.1 u.2.2.2.2.2.2.2.2.2.2.2.2.2.2.2]) [(0, .ref (a 0))] 40 []) (fun s11 q11 h11 i11 x11 => ?_) 5000 (0, u.2.2.2.1) z4 ez4 ?_
    · unfold b_X8_saves_11 at h11
      refine z_iload_n 1 rfl rfl dX8_saves_11 ?_
      refine z_sipush (v := 710) (by decide) dX8_saves_12 ?_
      refine z_icmp_ge (tgt := 40) rfl dX8_saves_15 (fun c15 => ?_) (fun c15 => ?_)
      · replace h11 := (if_pos c15).symm.trans h11
        cases h11
        have k11 := x11 s11.2 rfl
        try dsimp only at k11
        exact z_lv [0] rfl k11
      · replace h11 := (if_neg c15).symm.trans h11
        refine z_aload_n 0 rfl rfl dX8_saves_18 ?_
        refine z_get zcX8 0 rfl 0 rfl 3 (Nat.le_of_ble_eq_true rfl) zfX8_16 (v := .ref (a 3)) rfl dX8_saves_19 ?_
        refine z_iload_n 1 rfl rfl dX8_saves_22 ?_
        refine z_aload_n 0 rfl rfl dX8_saves_23 ?_
        refine z_get zcX8 0 rfl 0 rfl 3 (Nat.le_of_ble_eq_true rfl) zfX8_16 (v := .ref (a 3)) rfl dX8_saves_24 ?_
        refine z_iload_n 1 rfl rfl dX8_saves_27 ?_
        refine z_sipush (v := 142) (by decide) dX8_saves_28 ?_
        refine z_iadd dX8_saves_31 ?_
        obtain ⟨r5, er5, h11⟩ := zb h11
        refine z_iald 0 rfl 3 rfl er5 dX8_saves_32 ?_
        obtain ⟨r6, er6, h11⟩ := zb h11
        refine z_iast ([dX8 g a u.1 u.2.1 u.2.2.1 r6 u.2.2.2.2.1 u.2.2.2.2.2.1 u.2.2.2.2.2.2.1 u.2.2.2.2.2.2.2.1 u.2.2.2.2.2.2.2.2.1 u.2.2.2.2.2.2.2.2.2.1 u.2.2.2.2.2.2.2.2.2.2.1 u.2.2.2.2.2.2.2.2.2.2.2.1 u.2.2.2.2.2.2.2.2.2.2.2.2.1 u.2.2.2.2.2.2.2.2.2.2.2.2.2.1 u.2.2.2.2.2.2.2.2.2.2.2.2.2.2.1 u.2.2.2.2.2.2.2.2.2.2.2.2.2.2.2]) 0 rfl 3 rfl er6 rfl dX8_saves_33 ?_
        refine z_iinc 1 [(1, .int (s11.1 + 1)), (0, .ref (a 0))] rfl (v := (s11.1 + 1)) zinc (Nat.le_of_ble_eq_true rfl) rfl dX8_saves_34 ?_
        refine z_goto (tgt := 11) rfl dX8_saves_37 ?_
        cases h11
        have k11 := i11 ((s11.1 + 1), r6) rfl
        try dsimp only at k11
        exact z_lv [1, 0] rfl k11
    · skip
      refine z_aload_n 0 rfl rfl dX8_saves_40 ?_
      refine z_dup rfl dX8_saves_41 ?_
      refine z_get zcX8 0 rfl 0 rfl 4 (Nat.le_of_ble_eq_true rfl) zfX8_46 (v := .int u.2.2.2.2.1) rfl dX8_saves_42 ?_
      refine z_iconst (v := 1) (by decide) dX8_saves_45 ?_
      refine z_isub dX8_saves_46 ?_
      refine z_put (t := .int) ([dX8 g a u.1 u.2.1 u.2.2.1 z4 (u.2.2.2.2.1 - 1) u.2.2.2.2.2.1 u.2.2.2.2.2.2.1 u.2.2.2.2.2.2.2.1 u.2.2.2.2.2.2.2.2.1 u.2.2.2.2.2.2.2.2.2.1 u.2.2.2.2.2.2.2.2.2.2.1 u.2.2.2.2.2.2.2.2.2.2.2.1 u.2.2.2.2.2.2.2.2.2.2.2.2.1 u.2.2.2.2.2.2.2.2.2.2.2.2.2.1 u.2.2.2.2.2.2.2.2.2.2.2.2.2.2.1 u.2.2.2.2.2.2.2.2.2.2.2.2.2.2.2]) zcX8 0 rfl 0 rfl 4 (Nat.le_of_ble_eq_true rfl) zfX8_46 zpX8_4 (zn_i _) (zf_i _) (Nat.le_of_ble_eq_true rfl) rfl dX8_saves_47 ?_
      refine z_iconst (v := 0) (by decide) dX8_saves_50 ?_
      refine z_istore_n [(1, .int 0), (0, .ref (a 0))] rfl (Nat.le_of_ble_eq_true rfl) rfl dX8_saves_51 ?_
      obtain ⟨z7, ez7, h⟩ := zb h
      refine z_lv (lv' := [(0, .ref (a 0)), (1, .int 0)]) [1, 0] rfl ?_
      suffices hk52 : (fun (s52 : Int32 × zF) => Z true RX8 cX8_saves 2 0 0 g X 0 0 ([dX8 g a u.1 u.2.1 u.2.2.1 s52.2 (u.2.2.2.2.1 - 1) u.2.2.2.2.2.1 u.2.2.2.2.2.2.1 u.2.2.2.2.2.2.2.1 u.2.2.2.2.2.2.2.2.1 u.2.2.2.2.2.2.2.2.2.1 u.2.2.2.2.2.2.2.2.2.2.1 u.2.2.2.2.2.2.2.2.2.2.2.1 u.2.2.2.2.2.2.2.2.2.2.2.2.1 u.2.2.2.2.2.2.2.2.2.2.2.2.2.1 u.2.2.2.2.2.2.2.2.2.2.2.2.2.2.1 u.2.2.2.2.2.2.2.2.2.2.2.2.2.2.2]) [(0, .ref (a 0)), (1, .int s52.1)] 52 []) (0, z4) by try dsimp only at hk52; exact hk52
      refine lp_ind (σ := Int32 × zF) (ε := zF) (b_X8_saves_52_2 u) (fun s52 => Z true RX8 cX8_saves 2 0 0 g X 0 0 ([dX8 g a u.1 u.2.1 u.2.2.1 s52.2 (u.2.2.2.2.1 - 1) u.2.2.2.2.2.1 u.2.2.2.2.2.2.1 u.2.2.2.2.2.2.2.1 u.2.2.2.2.2.2.2.2.1 u.2.2.2.2.2.2.2.2.2.1 u.2.2.2.2.2.2.2.2.2.2.1 u.2.2.2.2.2.2.2.2.2.2.2.1 u.2.2.2.2.2.2.2.2.2.2.2.2.1 u.2.2.2.2.2.2.2.2.2.2.2.2.2.1 u.2.2.2.2.2.2.2.2.2.2.2.2.2.2.1 u.2.2.2.2.2.2.2.2.2.2.2.2.2.2.2]) [(0, .ref (a 0)), (1, .int s52.1)] 52 []) (fun z7 => Z true RX8 cX8_saves 2 0 0 g X 0 0 ([dX8 g a u.1 u.2.1 u.2.2.1 z7 (u.2.2.2.2.1 - 1) u.2.2.2.2.2.1 u.2.2.2.2.2.2.1 u.2.2.2.2.2.2.2.1 u.2.2.2.2.2.2.2.2.1 u.2.2.2.2.2.2.2.2.2.1 u.2.2.2.2.2.2.2.2.2.2.1 u.2.2.2.2.2.2.2.2.2.2.2.1 u.2.2.2.2.2.2.2.2.2.2.2.2.1 u.2.2.2.2.2.2.2.2.2.2.2.2.2.1 u.2.2.2.2.2.2.2.2.2.2.2.2.2.2.1 u.2.2.2.2.2.2.2.2.2.2.2.2.2.2.2]) [(0, .ref (a 0))] 86 []) (fun s52 q52 h52 i52 x52 => ?_) 5000 (0, z4) z7 ez7 ?_
      · unfold b_X8_saves_52_2 at h52
        refine z_iload_n 1 rfl rfl dX8_saves_52 ?_
        refine z_sipush (v := 142) (by decide) dX8_saves_53 ?_
        refine z_icmp_ge (tgt := 86) rfl dX8_saves_56 (fun c56 => ?_) (fun c56 => ?_)
        · replace h52 := (if_pos c56).symm.trans h52
          cases h52
          have k52 := x52 s52.2 rfl
          try dsimp only at k52
          exact z_lv [0] rfl k52
        · replace h52 := (if_neg c56).symm.trans h52
          refine z_aload_n 0 rfl rfl dX8_saves_59 ?_
          refine z_get zcX8 0 rfl 0 rfl 3 (Nat.le_of_ble_eq_true rfl) zfX8_16 (v := .ref (a 3)) rfl dX8_saves_60 ?_
          refine z_sipush (v := 142) (by decide) dX8_saves_63 ?_
          refine z_aload_n 0 rfl rfl dX8_saves_66 ?_
          refine z_get zcX8 0 rfl 0 rfl 4 (Nat.le_of_ble_eq_true rfl) zfX8_46 (v := .int (u.2.2.2.2.1 - 1)) rfl dX8_saves_67 ?_
          refine z_imul dX8_saves_70 ?_
          refine z_iload_n 1 rfl rfl dX8_saves_71 ?_
          refine z_iadd dX8_saves_72 ?_
          refine z_aload_n 0 rfl rfl dX8_saves_73 ?_
          refine z_get zcX8 0 rfl 0 rfl 1 (Nat.le_of_ble_eq_true rfl) zfX8_7 (v := .ref (a 1)) rfl dX8_saves_74 ?_
          refine z_iload_n 1 rfl rfl dX8_saves_77 ?_
          obtain ⟨r8, er8, h52⟩ := zb h52
          refine z_iald 0 rfl 1 rfl er8 dX8_saves_78 ?_
          obtain ⟨r9, er9, h52⟩ := zb h52
          refine z_iast ([dX8 g a u.1 u.2.1 u.2.2.1 r9 (u.2.2.2.2.1 - 1) u.2.2.2.2.2.1 u.2.2.2.2.2.2.1 u.2.2.2.2.2.2.2.1 u.2.2.2.2.2.2.2.2.1 u.2.2.2.2.2.2.2.2.2.1 u.2.2.2.2.2.2.2.2.2.2.1 u.2.2.2.2.2.2.2.2.2.2.2.1 u.2.2.2.2.2.2.2.2.2.2.2.2.1 u.2.2.2.2.2.2.2.2.2.2.2.2.2.1 u.2.2.2.2.2.2.2.2.2.2.2.2.2.2.1 u.2.2.2.2.2.2.2.2.2.2.2.2.2.2.2]) 0 rfl 3 rfl er9 rfl dX8_saves_79 ?_
          refine z_iinc 1 [(1, .int (s52.1 + 1)), (0, .ref (a 0))] rfl (v := (s52.1 + 1)) zinc (Nat.le_of_ble_eq_true rfl) rfl dX8_saves_80 ?_
          refine z_goto (tgt := 52) rfl dX8_saves_83 ?_
          cases h52
          have k52 := i52 ((s52.1 + 1), r9) rfl
          try dsimp only at k52
          exact z_lv [1, 0] rfl k52
      · skip
        refine z_aload_n 0 rfl rfl dX8_saves_86 ?_
        refine z_dup rfl dX8_saves_87 ?_
        refine z_get zcX8 0 rfl 0 rfl 4 (Nat.le_of_ble_eq_true rfl) zfX8_46 (v := .int (u.2.2.2.2.1 - 1)) rfl dX8_saves_88 ?_
        refine z_iconst (v := 1) (by decide) dX8_saves_91 ?_
        refine z_iadd dX8_saves_92 ?_
        refine z_put (t := .int) ([dX8 g a u.1 u.2.1 u.2.2.1 z7 ((u.2.2.2.2.1 - 1) + 1) u.2.2.2.2.2.1 u.2.2.2.2.2.2.1 u.2.2.2.2.2.2.2.1 u.2.2.2.2.2.2.2.2.1 u.2.2.2.2.2.2.2.2.2.1 u.2.2.2.2.2.2.2.2.2.2.1 u.2.2.2.2.2.2.2.2.2.2.2.1 u.2.2.2.2.2.2.2.2.2.2.2.2.1 u.2.2.2.2.2.2.2.2.2.2.2.2.2.1 u.2.2.2.2.2.2.2.2.2.2.2.2.2.2.1 u.2.2.2.2.2.2.2.2.2.2.2.2.2.2.2]) zcX8 0 rfl 0 rfl 4 (Nat.le_of_ble_eq_true rfl) zfX8_46 zpX8_4 (zn_i _) (zf_i _) (Nat.le_of_ble_eq_true rfl) rfl dX8_saves_93 ?_
        cases h
        exact z_vret dX8_saves_96 hQ
set_option maxHeartbeats 400000 in
set_option maxRecDepth 100000 in
theorem c_X8_of (l : Launch) (g : zG) (a : Nat → Nat) (u : tX8) (p0 : Int32) (p1 : Int32) (r : Int32) (h : f_X8_of u p0 p1 = some r) : Ctr l g false yX8_of cX8_of 3 (some .int) 0 0 0 0 [.ref (a 0), .int p0, .int p1] ([cX8 g a u]) ([cX8 g a u]) (some (.int r)) := by
  refine ctr_of (by decide) (Nat.le_of_ble_eq_true rfl) (fun X hl _ _ _ hQ => ?_)
  unfold f_X8_of at h
  refine z_lv (lv' := [(0, .ref (a 0)), (1, .int p0), (2, .int p1)]) [0, 1, 2] rfl ?_
  refine z_aload_n 0 rfl rfl dX8_of_0 ?_
  refine z_get zcX8 0 rfl 0 rfl 1 (Nat.le_of_ble_eq_true rfl) zfX8_7 (v := .ref (a 1)) rfl dX8_of_1 ?_
  refine z_bipush (v := 22) (by decide) dX8_of_4 ?_
  refine z_iconst (v := 3) (by decide) dX8_of_6 ?_
  refine z_iload_n 1 rfl rfl dX8_of_7 ?_
  refine z_imul dX8_of_8 ?_
  refine z_iadd dX8_of_9 ?_
  refine z_iload_n 2 rfl rfl dX8_of_10 ?_
  refine z_iadd dX8_of_11 ?_
  obtain ⟨r1, er1, h⟩ := zb h
  refine z_iald 0 rfl 1 rfl er1 dX8_of_12 ?_
  cases h
  exact z_iret dX8_of_13 hQ
set_option maxHeartbeats 400000 in
set_option maxRecDepth 100000 in
theorem c_X8_loadOf (l : Launch) (g : zG) (a : Nat → Nat) (u : tX8) (p0 : Int32) (r : Int32) (h : f_X8_loadOf u p0 = some r) : Ctr l g false yX8_loadOf cX8_loadOf 4 (some .int) 1 22 0 0 [.ref (a 0), .int p0] ([cX8 g a u]) ([cX8 g a u]) (some (.int r)) := by
  refine ctr_of (by decide) (Nat.le_of_ble_eq_true rfl) (fun X hl _ _ _ hQ => ?_)
  unfold f_X8_loadOf at h
  refine z_lv (lv' := [(0, .ref (a 0)), (1, .int p0)]) [0, 1] rfl ?_
  refine z_iconst (v := 0) (by decide) dX8_loadOf_0 ?_
  refine z_istore_n [(2, .int 0), (0, .ref (a 0)), (1, .int p0)] rfl (Nat.le_of_ble_eq_true rfl) rfl dX8_loadOf_1 ?_
  refine z_iconst (v := 0) (by decide) dX8_loadOf_2 ?_
  refine z_istore_n [(3, .int 0), (2, .int 0), (0, .ref (a 0)), (1, .int p0)] rfl (Nat.le_of_ble_eq_true rfl) rfl dX8_loadOf_3 ?_
  obtain ⟨z1, ez1, h⟩ := zb h
  refine z_lv (lv' := [(0, .ref (a 0)), (1, .int p0), (2, .int 0), (3, .int 0)]) [2, 3, 1, 0] rfl ?_
  suffices hk4 : (fun (s4 : Int32 × Int32) => Z false RX8 cX8_loadOf 4 1 22 g X 0 0 ([cX8 g a u]) [(0, .ref (a 0)), (1, .int p0), (2, .int s4.1), (3, .int s4.2)] 4 []) (0, 0) by try dsimp only at hk4; exact hk4
  refine lp_ind (σ := Int32 × Int32) (ε := Int32) (b_X8_loadOf_4 u p0) (fun s4 => Z false RX8 cX8_loadOf 4 1 22 g X 0 0 ([cX8 g a u]) [(0, .ref (a 0)), (1, .int p0), (2, .int s4.1), (3, .int s4.2)] 4 []) (fun z1 => Z false RX8 cX8_loadOf 4 1 22 g X 0 0 ([cX8 g a u]) [(2, .int z1)] 44 []) (fun s4 q4 h4 i4 x4 => ?_) 5000 (0, 0) z1 ez1 ?_
  · unfold b_X8_loadOf_4 at h4
    refine z_iload_n 3 rfl rfl dX8_loadOf_4 ?_
    refine z_aload_n 0 rfl rfl dX8_loadOf_5 ?_
    refine z_get zcX8 0 rfl 0 rfl 1 (Nat.le_of_ble_eq_true rfl) zfX8_7 (v := .ref (a 1)) rfl dX8_loadOf_6 ?_
    refine z_bipush (v := 9) (by decide) dX8_loadOf_9 ?_
    obtain ⟨r2, er2, h4⟩ := zb h4
    refine z_iald 0 rfl 1 rfl er2 dX8_loadOf_11 ?_
    refine z_icmp_ge (tgt := 44) rfl dX8_loadOf_12 (fun c12 => ?_) (fun c12 => ?_)
    · replace h4 := (if_pos c12).symm.trans h4
      cases h4
      have k4 := x4 s4.1 rfl
      try dsimp only at k4
      exact z_lv [2] rfl k4
    · replace h4 := (if_neg c12).symm.trans h4
      refine z_iload_n 2 rfl rfl dX8_loadOf_15 ?_
      refine z_aload_n 0 rfl rfl dX8_loadOf_16 ?_
      refine z_iload_n 3 rfl rfl dX8_loadOf_17 ?_
      refine z_iconst (v := 2) (by decide) dX8_loadOf_18 ?_
      obtain ⟨r3, er3, h4⟩ := zb h4
      refine z_callVR (rest := [.int s4.1]) hl (c_X8_of l g a u s4.2 2 _ er3) zyX8_of zvX8_of rfl zlX8_49 zcX8.1 ⟨_, _, rfl⟩ [(0, none)] rfl rfl rfl (by decide) (Nat.le_of_ble_eq_true rfl) ⟨Nat.zero_le _, Nat.zero_le _⟩ dX8_loadOf_19 (st2 := [.int r3, .int s4.1]) rfl ?_
      refine z_iload_n 1 rfl rfl dX8_loadOf_22 ?_
      refine z_icmp_ne (tgt := 35) rfl dX8_loadOf_23 (fun c23 => ?_) (fun c23 => ?_)
      · replace h4 := (if_neg c23).symm.trans h4
        refine z_iconst (v := 0) (by decide) dX8_loadOf_35 ?_
        refine z_iadd dX8_loadOf_36 ?_
        refine z_istore_n [(2, .int (s4.1 + 0)), (0, .ref (a 0)), (1, .int p0), (3, .int s4.2)] rfl (Nat.le_of_ble_eq_true rfl) rfl dX8_loadOf_37 ?_
        refine z_iinc 3 [(3, .int (s4.2 + 1)), (2, .int (s4.1 + 0)), (0, .ref (a 0)), (1, .int p0)] rfl (v := (s4.2 + 1)) zinc (Nat.le_of_ble_eq_true rfl) rfl dX8_loadOf_38 ?_
        refine z_goto (tgt := 4) rfl dX8_loadOf_41 ?_
        cases h4
        have k4 := i4 ((s4.1 + 0), (s4.2 + 1)) rfl
        try dsimp only at k4
        exact z_lv [2, 3, 1, 0] rfl k4
      · replace h4 := (if_pos c23).symm.trans h4
        refine z_aload_n 0 rfl rfl dX8_loadOf_26 ?_
        refine z_iload_n 3 rfl rfl dX8_loadOf_27 ?_
        refine z_iconst (v := 1) (by decide) dX8_loadOf_28 ?_
        obtain ⟨r4, er4, h4⟩ := zb h4
        refine z_callVR (rest := [.int s4.1]) hl (c_X8_of l g a u s4.2 1 _ er4) zyX8_of zvX8_of rfl zlX8_49 zcX8.1 ⟨_, _, rfl⟩ [(0, none)] rfl rfl rfl (by decide) (Nat.le_of_ble_eq_true rfl) ⟨Nat.zero_le _, Nat.zero_le _⟩ dX8_loadOf_29 (st2 := [.int r4, .int s4.1]) rfl ?_
        refine z_goto (tgt := 36) rfl dX8_loadOf_32 ?_
        refine z_iadd dX8_loadOf_36 ?_
        refine z_istore_n [(2, .int (s4.1 + r4)), (0, .ref (a 0)), (1, .int p0), (3, .int s4.2)] rfl (Nat.le_of_ble_eq_true rfl) rfl dX8_loadOf_37 ?_
        refine z_iinc 3 [(3, .int (s4.2 + 1)), (2, .int (s4.1 + r4)), (0, .ref (a 0)), (1, .int p0)] rfl (v := (s4.2 + 1)) zinc (Nat.le_of_ble_eq_true rfl) rfl dX8_loadOf_38 ?_
        refine z_goto (tgt := 4) rfl dX8_loadOf_41 ?_
        cases h4
        have k4 := i4 ((s4.1 + r4), (s4.2 + 1)) rfl
        try dsimp only at k4
        exact z_lv [2, 3, 1, 0] rfl k4
  · skip
    refine z_iload_n 0 rfl rfl dX8_loadOf_44 ?_
    cases h
    exact z_iret dX8_loadOf_45 hQ
set_option maxHeartbeats 400000 in
set_option maxRecDepth 100000 in
theorem c_X8_itemsOf (l : Launch) (g : zG) (a : Nat → Nat) (u : tX8) (p0 : Int32) (r : Int32) (h : f_X8_itemsOf u p0 = some r) : Ctr l g false yX8_itemsOf cX8_itemsOf 4 (some .int) 1 22 0 0 [.ref (a 0), .int p0] ([cX8 g a u]) ([cX8 g a u]) (some (.int r)) := by
  refine ctr_of (by decide) (Nat.le_of_ble_eq_true rfl) (fun X hl _ _ _ hQ => ?_)
  unfold f_X8_itemsOf at h
  refine z_lv (lv' := [(0, .ref (a 0)), (1, .int p0)]) [0, 1] rfl ?_
  refine z_iconst (v := 0) (by decide) dX8_itemsOf_0 ?_
  refine z_istore_n [(2, .int 0), (0, .ref (a 0)), (1, .int p0)] rfl (Nat.le_of_ble_eq_true rfl) rfl dX8_itemsOf_1 ?_
  refine z_iconst (v := 0) (by decide) dX8_itemsOf_2 ?_
  refine z_istore_n [(3, .int 0), (2, .int 0), (0, .ref (a 0)), (1, .int p0)] rfl (Nat.le_of_ble_eq_true rfl) rfl dX8_itemsOf_3 ?_
  obtain ⟨z1, ez1, h⟩ := zb h
  refine z_lv (lv' := [(0, .ref (a 0)), (1, .int p0), (2, .int 0), (3, .int 0)]) [2, 3, 1, 0] rfl ?_
  suffices hk4 : (fun (s4 : Int32 × Int32) => Z false RX8 cX8_itemsOf 4 1 22 g X 0 0 ([cX8 g a u]) [(0, .ref (a 0)), (1, .int p0), (2, .int s4.1), (3, .int s4.2)] 4 []) (0, 0) by try dsimp only at hk4; exact hk4
  refine lp_ind (σ := Int32 × Int32) (ε := Int32) (b_X8_itemsOf_4 u p0) (fun s4 => Z false RX8 cX8_itemsOf 4 1 22 g X 0 0 ([cX8 g a u]) [(0, .ref (a 0)), (1, .int p0), (2, .int s4.1), (3, .int s4.2)] 4 []) (fun z1 => Z false RX8 cX8_itemsOf 4 1 22 g X 0 0 ([cX8 g a u]) [(2, .int z1)] 39 []) (fun s4 q4 h4 i4 x4 => ?_) 5000 (0, 0) z1 ez1 ?_
  · unfold b_X8_itemsOf_4 at h4
    refine z_iload_n 3 rfl rfl dX8_itemsOf_4 ?_
    refine z_aload_n 0 rfl rfl dX8_itemsOf_5 ?_
    refine z_get zcX8 0 rfl 0 rfl 1 (Nat.le_of_ble_eq_true rfl) zfX8_7 (v := .ref (a 1)) rfl dX8_itemsOf_6 ?_
    refine z_bipush (v := 9) (by decide) dX8_itemsOf_9 ?_
    obtain ⟨r2, er2, h4⟩ := zb h4
    refine z_iald 0 rfl 1 rfl er2 dX8_itemsOf_11 ?_
    refine z_icmp_ge (tgt := 39) rfl dX8_itemsOf_12 (fun c12 => ?_) (fun c12 => ?_)
    · replace h4 := (if_pos c12).symm.trans h4
      cases h4
      have k4 := x4 s4.1 rfl
      try dsimp only at k4
      exact z_lv [2] rfl k4
    · replace h4 := (if_neg c12).symm.trans h4
      refine z_iload_n 2 rfl rfl dX8_itemsOf_15 ?_
      refine z_aload_n 0 rfl rfl dX8_itemsOf_16 ?_
      refine z_iload_n 3 rfl rfl dX8_itemsOf_17 ?_
      refine z_iconst (v := 2) (by decide) dX8_itemsOf_18 ?_
      obtain ⟨r3, er3, h4⟩ := zb h4
      refine z_callVR (rest := [.int s4.1]) hl (c_X8_of l g a u s4.2 2 _ er3) zyX8_of zvX8_of rfl zlX8_49 zcX8.1 ⟨_, _, rfl⟩ [(0, none)] rfl rfl rfl (by decide) (Nat.le_of_ble_eq_true rfl) ⟨Nat.zero_le _, Nat.zero_le _⟩ dX8_itemsOf_19 (st2 := [.int r3, .int s4.1]) rfl ?_
      refine z_iload_n 1 rfl rfl dX8_itemsOf_22 ?_
      refine z_icmp_ne (tgt := 30) rfl dX8_itemsOf_23 (fun c23 => ?_) (fun c23 => ?_)
      · replace h4 := (if_neg c23).symm.trans h4
        refine z_iconst (v := 0) (by decide) dX8_itemsOf_30 ?_
        refine z_iadd dX8_itemsOf_31 ?_
        refine z_istore_n [(2, .int (s4.1 + 0)), (0, .ref (a 0)), (1, .int p0), (3, .int s4.2)] rfl (Nat.le_of_ble_eq_true rfl) rfl dX8_itemsOf_32 ?_
        refine z_iinc 3 [(3, .int (s4.2 + 1)), (2, .int (s4.1 + 0)), (0, .ref (a 0)), (1, .int p0)] rfl (v := (s4.2 + 1)) zinc (Nat.le_of_ble_eq_true rfl) rfl dX8_itemsOf_33 ?_
        refine z_goto (tgt := 4) rfl dX8_itemsOf_36 ?_
        cases h4
        have k4 := i4 ((s4.1 + 0), (s4.2 + 1)) rfl
        try dsimp only at k4
        exact z_lv [2, 3, 1, 0] rfl k4
      · replace h4 := (if_pos c23).symm.trans h4
        refine z_iconst (v := 1) (by decide) dX8_itemsOf_26 ?_
        refine z_goto (tgt := 31) rfl dX8_itemsOf_27 ?_
        refine z_iadd dX8_itemsOf_31 ?_
        refine z_istore_n [(2, .int (s4.1 + 1)), (0, .ref (a 0)), (1, .int p0), (3, .int s4.2)] rfl (Nat.le_of_ble_eq_true rfl) rfl dX8_itemsOf_32 ?_
        refine z_iinc 3 [(3, .int (s4.2 + 1)), (2, .int (s4.1 + 1)), (0, .ref (a 0)), (1, .int p0)] rfl (v := (s4.2 + 1)) zinc (Nat.le_of_ble_eq_true rfl) rfl dX8_itemsOf_33 ?_
        refine z_goto (tgt := 4) rfl dX8_itemsOf_36 ?_
        cases h4
        have k4 := i4 ((s4.1 + 1), (s4.2 + 1)) rfl
        try dsimp only at k4
        exact z_lv [2, 3, 1, 0] rfl k4
  · skip
    refine z_iload_n 0 rfl rfl dX8_itemsOf_39 ?_
    cases h
    exact z_iret dX8_itemsOf_40 hQ
set_option maxHeartbeats 400000 in
set_option maxRecDepth 100000 in
theorem c_X8_placeOf (l : Launch) (g : zG) (p0 : Int32) (p1 : Int32) (r : Int32) (h : f_X8_placeOf p0 p1 = r) : Ctr l g false yX8_placeOf cX8_placeOf 2 (some .int) 0 0 0 0 [.int p0, .int p1] ([]) ([]) (some (.int r)) := by
  refine ctr_of (by decide) (Nat.le_of_ble_eq_true rfl) (fun X hl _ _ _ hQ => ?_)
  unfold f_X8_placeOf at h
  refine z_lv (lv' := [(0, .int p0), (1, .int p1)]) [0, 1] rfl ?_
  refine z_iload_n 0 rfl rfl dX8_placeOf_0 ?_
  refine z_iload_n 1 rfl rfl dX8_placeOf_1 ?_
  refine z_isub dX8_placeOf_2 ?_
  refine z_bipush (v := 12) (by decide) dX8_placeOf_3 ?_
  refine z_iadd dX8_placeOf_5 ?_
  refine z_bipush (v := 12) (by decide) dX8_placeOf_6 ?_
  refine z_irem (by decide) dX8_placeOf_8 ?_
  subst h
  exact z_iret dX8_placeOf_9 hQ
set_option maxHeartbeats 400000 in
set_option maxRecDepth 100000 in
theorem c_X8_imbalance (l : Launch) (g : zG) (a : Nat → Nat) (u : tX8) (p0 : Int32) (r : Int32) (h : f_X8_imbalance u p0 = some r) : Ctr l g false yX8_imbalance cX8_imbalance 5 (some .int) 1 22 0 0 [.ref (a 0), .int p0] ([cX8 g a u]) ([cX8 g a u]) (some (.int r)) := by
  refine ctr_of (by decide) (Nat.le_of_ble_eq_true rfl) (fun X hl _ _ _ hQ => ?_)
  unfold f_X8_imbalance at h
  refine z_lv (lv' := [(0, .ref (a 0)), (1, .int p0)]) [0, 1] rfl ?_
  refine z_iconst (v := 0) (by decide) dX8_imbalance_0 ?_
  refine z_istore_n [(2, .int 0), (0, .ref (a 0)), (1, .int p0)] rfl (Nat.le_of_ble_eq_true rfl) rfl dX8_imbalance_1 ?_
  refine z_iconst (v := 0) (by decide) dX8_imbalance_2 ?_
  refine z_istore_n [(3, .int 0), (2, .int 0), (0, .ref (a 0)), (1, .int p0)] rfl (Nat.le_of_ble_eq_true rfl) rfl dX8_imbalance_3 ?_
  obtain ⟨z1, ez1, h⟩ := zb h
  refine z_lv (lv' := [(0, .ref (a 0)), (1, .int p0), (2, .int 0), (3, .int 0)]) [2, 3, 1, 0] rfl ?_
  suffices hk4 : (fun (s4 : Int32 × Int32) => Z false RX8 cX8_imbalance 5 1 22 g X 0 0 ([cX8 g a u]) [(0, .ref (a 0)), (1, .int p0), (2, .int s4.1), (3, .int s4.2)] 4 []) (0, 0) by try dsimp only at hk4; exact hk4
  refine lp_ind (σ := Int32 × Int32) (ε := Int32) (b_X8_imbalance_4 u p0) (fun s4 => Z false RX8 cX8_imbalance 5 1 22 g X 0 0 ([cX8 g a u]) [(0, .ref (a 0)), (1, .int p0), (2, .int s4.1), (3, .int s4.2)] 4 []) (fun z1 => Z false RX8 cX8_imbalance 5 1 22 g X 0 0 ([cX8 g a u]) [(2, .int z1)] 75 []) (fun s4 q4 h4 i4 x4 => ?_) 5000 (0, 0) z1 ez1 ?_
  · unfold b_X8_imbalance_4 at h4
    refine z_iload_n 3 rfl rfl dX8_imbalance_4 ?_
    refine z_aload_n 0 rfl rfl dX8_imbalance_5 ?_
    refine z_get zcX8 0 rfl 0 rfl 1 (Nat.le_of_ble_eq_true rfl) zfX8_7 (v := .ref (a 1)) rfl dX8_imbalance_6 ?_
    refine z_bipush (v := 9) (by decide) dX8_imbalance_9 ?_
    obtain ⟨r2, er2, h4⟩ := zb h4
    refine z_iald 0 rfl 1 rfl er2 dX8_imbalance_11 ?_
    refine z_icmp_ge (tgt := 75) rfl dX8_imbalance_12 (fun c12 => ?_) (fun c12 => ?_)
    · replace h4 := (if_pos c12).symm.trans h4
      cases h4
      have k4 := x4 s4.1 rfl
      try dsimp only at k4
      exact z_lv [2] rfl k4
    · replace h4 := (if_neg c12).symm.trans h4
      refine z_aload_n 0 rfl rfl dX8_imbalance_15 ?_
      refine z_iload_n 3 rfl rfl dX8_imbalance_16 ?_
      refine z_iconst (v := 2) (by decide) dX8_imbalance_17 ?_
      obtain ⟨r3, er3, h4⟩ := zb h4
      refine z_callVR (rest := []) hl (c_X8_of l g a u s4.2 2 _ er3) zyX8_of zvX8_of rfl zlX8_49 zcX8.1 ⟨_, _, rfl⟩ [(0, none)] rfl rfl rfl (by decide) (Nat.le_of_ble_eq_true rfl) ⟨Nat.zero_le _, Nat.zero_le _⟩ dX8_imbalance_18 (st2 := [.int r3]) rfl ?_
      refine z_iload_n 1 rfl rfl dX8_imbalance_21 ?_
      refine z_callSR (rest := []) hl (c_X8_placeOf l g r3 p0 _ rfl) zyX8_placeOf zsX8_placeOf zlX8_53 [] rfl rfl rfl (by decide) (Nat.le_of_ble_eq_true rfl) ⟨Nat.zero_le _, Nat.zero_le _⟩ dX8_imbalance_22 (st2 := [.int (f_X8_placeOf r3 p0)]) rfl ?_
      refine z_istore [(4, .int (f_X8_placeOf r3 p0)), (0, .ref (a 0)), (1, .int p0), (2, .int s4.1), (3, .int s4.2)] (Nat.le_of_ble_eq_true rfl) rfl dX8_imbalance_25 ?_
      refine z_iload_n 3 rfl rfl dX8_imbalance_27 ?_
      refine z_iload 0 rfl dX8_imbalance_28 ?_
      refine z_if_eq (tgt := 40) rfl dX8_imbalance_30 (fun c30 => ?_) (fun c30 => ?_)
      · replace h4 := (if_pos c30).symm.trans h4
        refine z_iconst (v := 0) (by decide) dX8_imbalance_40 ?_
        refine z_goto (tgt := 67) rfl dX8_imbalance_41 ?_
        refine z_iadd dX8_imbalance_67 ?_
        refine z_istore_n [(2, .int (s4.1 + 0)), (4, .int (f_X8_placeOf r3 p0)), (0, .ref (a 0)), (1, .int p0), (3, .int s4.2)] rfl (Nat.le_of_ble_eq_true rfl) rfl dX8_imbalance_68 ?_
        refine z_iinc 4 [(3, .int (s4.2 + 1)), (2, .int (s4.1 + 0)), (4, .int (f_X8_placeOf r3 p0)), (0, .ref (a 0)), (1, .int p0)] rfl (v := (s4.2 + 1)) zinc (Nat.le_of_ble_eq_true rfl) rfl dX8_imbalance_69 ?_
        refine z_goto (tgt := 4) rfl dX8_imbalance_72 ?_
        cases h4
        have k4 := i4 ((s4.1 + 0), (s4.2 + 1)) rfl
        try dsimp only at k4
        exact z_lv [3, 4, 1, 0] rfl k4
      · replace h4 := (if_neg c30).symm.trans h4
        refine z_iload 0 rfl dX8_imbalance_33 ?_
        refine z_bipush (v := 6) (by decide) dX8_imbalance_35 ?_
        refine z_icmp_ne (tgt := 44) rfl dX8_imbalance_37 (fun c37 => ?_) (fun c37 => ?_)
        · replace h4 := (if_neg c37).symm.trans h4
          refine z_iload 0 rfl dX8_imbalance_44 ?_
          refine z_bipush (v := 6) (by decide) dX8_imbalance_46 ?_
          refine z_icmp_ge (tgt := 60) rfl dX8_imbalance_48 (fun c48 => ?_) (fun c48 => ?_)
          · replace h4 := (if_pos c48).symm.trans h4
            refine z_aload_n 1 rfl rfl dX8_imbalance_60 ?_
            refine z_iload_n 4 rfl rfl dX8_imbalance_61 ?_
            refine z_iconst (v := 1) (by decide) dX8_imbalance_62 ?_
            obtain ⟨r4, er4, h4⟩ := zb h4
            refine z_callVR (rest := [.int s4.1]) hl (c_X8_of l g a u s4.2 1 _ er4) zyX8_of zvX8_of rfl zlX8_49 zcX8.1 ⟨_, _, rfl⟩ [(0, none)] rfl rfl rfl (by decide) (Nat.le_of_ble_eq_true rfl) ⟨Nat.zero_le _, Nat.zero_le _⟩ dX8_imbalance_63 (st2 := [.int r4, .int s4.1]) rfl ?_
            refine z_ineg dX8_imbalance_66 ?_
            refine z_iadd dX8_imbalance_67 ?_
            refine z_istore_n [(2, .int (s4.1 + (-r4))), (4, .int (f_X8_placeOf r3 p0)), (0, .ref (a 0)), (1, .int p0), (3, .int s4.2)] rfl (Nat.le_of_ble_eq_true rfl) rfl dX8_imbalance_68 ?_
            refine z_iinc 4 [(3, .int (s4.2 + 1)), (2, .int (s4.1 + (-r4))), (4, .int (f_X8_placeOf r3 p0)), (0, .ref (a 0)), (1, .int p0)] rfl (v := (s4.2 + 1)) zinc (Nat.le_of_ble_eq_true rfl) rfl dX8_imbalance_69 ?_
            refine z_goto (tgt := 4) rfl dX8_imbalance_72 ?_
            cases h4
            have k4 := i4 ((s4.1 + (-r4)), (s4.2 + 1)) rfl
            try dsimp only at k4
            exact z_lv [3, 4, 1, 0] rfl k4
          · replace h4 := (if_neg c48).symm.trans h4
            refine z_aload_n 1 rfl rfl dX8_imbalance_51 ?_
            refine z_iload_n 4 rfl rfl dX8_imbalance_52 ?_
            refine z_iconst (v := 1) (by decide) dX8_imbalance_53 ?_
            obtain ⟨r5, er5, h4⟩ := zb h4
            refine z_callVR (rest := [.int s4.1]) hl (c_X8_of l g a u s4.2 1 _ er5) zyX8_of zvX8_of rfl zlX8_49 zcX8.1 ⟨_, _, rfl⟩ [(0, none)] rfl rfl rfl (by decide) (Nat.le_of_ble_eq_true rfl) ⟨Nat.zero_le _, Nat.zero_le _⟩ dX8_imbalance_54 (st2 := [.int r5, .int s4.1]) rfl ?_
            refine z_goto (tgt := 67) rfl dX8_imbalance_57 ?_
            refine z_iadd dX8_imbalance_67 ?_
            refine z_istore_n [(2, .int (s4.1 + r5)), (4, .int (f_X8_placeOf r3 p0)), (0, .ref (a 0)), (1, .int p0), (3, .int s4.2)] rfl (Nat.le_of_ble_eq_true rfl) rfl dX8_imbalance_68 ?_
            refine z_iinc 4 [(3, .int (s4.2 + 1)), (2, .int (s4.1 + r5)), (4, .int (f_X8_placeOf r3 p0)), (0, .ref (a 0)), (1, .int p0)] rfl (v := (s4.2 + 1)) zinc (Nat.le_of_ble_eq_true rfl) rfl dX8_imbalance_69 ?_
            refine z_goto (tgt := 4) rfl dX8_imbalance_72 ?_
            cases h4
            have k4 := i4 ((s4.1 + r5), (s4.2 + 1)) rfl
            try dsimp only at k4
            exact z_lv [3, 4, 1, 0] rfl k4
        · replace h4 := (if_pos c37).symm.trans h4
          refine z_iconst (v := 0) (by decide) dX8_imbalance_40 ?_
          refine z_goto (tgt := 67) rfl dX8_imbalance_41 ?_
          refine z_iadd dX8_imbalance_67 ?_
          refine z_istore_n [(2, .int (s4.1 + 0)), (4, .int (f_X8_placeOf r3 p0)), (0, .ref (a 0)), (1, .int p0), (3, .int s4.2)] rfl (Nat.le_of_ble_eq_true rfl) rfl dX8_imbalance_68 ?_
          refine z_iinc 4 [(3, .int (s4.2 + 1)), (2, .int (s4.1 + 0)), (4, .int (f_X8_placeOf r3 p0)), (0, .ref (a 0)), (1, .int p0)] rfl (v := (s4.2 + 1)) zinc (Nat.le_of_ble_eq_true rfl) rfl dX8_imbalance_69 ?_
          refine z_goto (tgt := 4) rfl dX8_imbalance_72 ?_
          cases h4
          have k4 := i4 ((s4.1 + 0), (s4.2 + 1)) rfl
          try dsimp only at k4
          exact z_lv [3, 4, 1, 0] rfl k4
  · skip
    refine z_iload_n 0 rfl rfl dX8_imbalance_75 ?_
    refine z_if_ge (tgt := 84) rfl dX8_imbalance_76 (fun c76 => ?_) (fun c76 => ?_)
    · replace h := (if_pos c76).symm.trans h
      refine z_iload_n 0 rfl rfl dX8_imbalance_84 ?_
      cases h
      exact z_iret dX8_imbalance_85 hQ
    · replace h := (if_neg c76).symm.trans h
      refine z_iload_n 0 rfl rfl dX8_imbalance_79 ?_
      refine z_ineg dX8_imbalance_80 ?_
      refine z_goto (tgt := 85) rfl dX8_imbalance_81 ?_
      cases h
      exact z_iret dX8_imbalance_85 hQ
set_option maxHeartbeats 400000 in
set_option maxRecDepth 100000 in
theorem c_X8_greatest (l : Launch) (g : zG) (a : Nat → Nat) (u : tX8) (r : Int32) (h : f_X8_greatest u = some r) : Ctr l g false yX8_greatest cX8_greatest 3 (some .int) 2 46 0 0 [.ref (a 0)] ([cX8 g a u]) ([cX8 g a u]) (some (.int r)) := by
  refine ctr_of (by decide) (Nat.le_of_ble_eq_true rfl) (fun X hl _ _ _ hQ => ?_)
  unfold f_X8_greatest at h
  refine z_lv (lv' := [(0, .ref (a 0))]) [0] rfl ?_
  refine z_iconst (v := 0) (by decide) dX8_greatest_0 ?_
  refine z_istore_n [(1, .int 0), (0, .ref (a 0))] rfl (Nat.le_of_ble_eq_true rfl) rfl dX8_greatest_1 ?_
  refine z_iconst (v := 0) (by decide) dX8_greatest_2 ?_
  refine z_istore_n [(2, .int 0), (1, .int 0), (0, .ref (a 0))] rfl (Nat.le_of_ble_eq_true rfl) rfl dX8_greatest_3 ?_
  obtain ⟨z1, ez1, h⟩ := zb h
  refine z_lv (lv' := [(0, .ref (a 0)), (1, .int 0), (2, .int 0)]) [2, 1, 0] rfl ?_
  suffices hk4 : (fun (s4 : Int32 × Int32) => Z false RX8 cX8_greatest 3 2 46 g X 0 0 ([cX8 g a u]) [(0, .ref (a 0)), (1, .int s4.1), (2, .int s4.2)] 4 []) (0, 0) by try dsimp only at hk4; exact hk4
  refine lp_ind (σ := Int32 × Int32) (ε := Int32) (b_X8_greatest_4 u) (fun s4 => Z false RX8 cX8_greatest 3 2 46 g X 0 0 ([cX8 g a u]) [(0, .ref (a 0)), (1, .int s4.1), (2, .int s4.2)] 4 []) (fun z1 => Z false RX8 cX8_greatest 3 2 46 g X 0 0 ([cX8 g a u]) [(1, .int z1)] 35 []) (fun s4 q4 h4 i4 x4 => ?_) 5000 (0, 0) z1 ez1 ?_
  · unfold b_X8_greatest_4 at h4
    refine z_iload_n 2 rfl rfl dX8_greatest_4 ?_
    refine z_bipush (v := 12) (by decide) dX8_greatest_5 ?_
    refine z_icmp_ge (tgt := 35) rfl dX8_greatest_7 (fun c7 => ?_) (fun c7 => ?_)
    · replace h4 := (if_pos c7).symm.trans h4
      cases h4
      have k4 := x4 s4.1 rfl
      try dsimp only at k4
      exact z_lv [1] rfl k4
    · replace h4 := (if_neg c7).symm.trans h4
      refine z_aload_n 0 rfl rfl dX8_greatest_10 ?_
      refine z_iload_n 2 rfl rfl dX8_greatest_11 ?_
      obtain ⟨r2, er2, h4⟩ := zb h4
      refine z_callVR (rest := []) hl (c_X8_imbalance l g a u s4.2 _ er2) zyX8_imbalance zvX8_imbalance rfl zlX8_56 zcX8.1 ⟨_, _, rfl⟩ [(0, none)] rfl rfl rfl (by decide) (Nat.le_of_ble_eq_true rfl) ⟨Nat.zero_le _, Nat.zero_le _⟩ dX8_greatest_12 (st2 := [.int r2]) rfl ?_
      refine z_iload_n 1 rfl rfl dX8_greatest_15 ?_
      refine z_icmp_le (tgt := 27) rfl dX8_greatest_16 (fun c16 => ?_) (fun c16 => ?_)
      · replace h4 := (if_pos c16).symm.trans h4
        refine z_iload_n 1 rfl rfl dX8_greatest_27 ?_
        refine z_istore_n [(1, .int s4.1), (0, .ref (a 0)), (2, .int s4.2)] rfl (Nat.le_of_ble_eq_true rfl) rfl dX8_greatest_28 ?_
        refine z_iinc 2 [(2, .int (s4.2 + 1)), (1, .int s4.1), (0, .ref (a 0))] rfl (v := (s4.2 + 1)) zinc (Nat.le_of_ble_eq_true rfl) rfl dX8_greatest_29 ?_
        refine z_goto (tgt := 4) rfl dX8_greatest_32 ?_
        cases h4
        have k4 := i4 (s4.1, (s4.2 + 1)) rfl
        try dsimp only at k4
        exact z_lv [2, 1, 0] rfl k4
      · replace h4 := (if_neg c16).symm.trans h4
        refine z_aload_n 0 rfl rfl dX8_greatest_19 ?_
        refine z_iload_n 2 rfl rfl dX8_greatest_20 ?_
        obtain ⟨r3, er3, h4⟩ := zb h4
        refine z_callVR (rest := []) hl (c_X8_imbalance l g a u s4.2 _ er3) zyX8_imbalance zvX8_imbalance rfl zlX8_56 zcX8.1 ⟨_, _, rfl⟩ [(0, none)] rfl rfl rfl (by decide) (Nat.le_of_ble_eq_true rfl) ⟨Nat.zero_le _, Nat.zero_le _⟩ dX8_greatest_21 (st2 := [.int r3]) rfl ?_
        refine z_goto (tgt := 28) rfl dX8_greatest_24 ?_
        refine z_istore_n [(1, .int r3), (0, .ref (a 0)), (2, .int s4.2)] rfl (Nat.le_of_ble_eq_true rfl) rfl dX8_greatest_28 ?_
        refine z_iinc 2 [(2, .int (s4.2 + 1)), (1, .int r3), (0, .ref (a 0))] rfl (v := (s4.2 + 1)) zinc (Nat.le_of_ble_eq_true rfl) rfl dX8_greatest_29 ?_
        refine z_goto (tgt := 4) rfl dX8_greatest_32 ?_
        cases h4
        have k4 := i4 (r3, (s4.2 + 1)) rfl
        try dsimp only at k4
        exact z_lv [2, 1, 0] rfl k4
  · skip
    refine z_iload_n 0 rfl rfl dX8_greatest_35 ?_
    cases h
    exact z_iret dX8_greatest_36 hQ
set_option maxHeartbeats 400000 in
set_option maxRecDepth 100000 in
theorem c_X8_placeOfItem (l : Launch) (g : zG) (a : Nat → Nat) (u : tX8) (p0 : Int32) (r : Int32) (h : f_X8_placeOfItem u p0 = some r) : Ctr l g false yX8_placeOfItem cX8_placeOfItem 3 (some .int) 1 22 0 0 [.ref (a 0), .int p0] ([cX8 g a u]) ([cX8 g a u]) (some (.int r)) := by
  refine ctr_of (by decide) (Nat.le_of_ble_eq_true rfl) (fun X hl _ _ _ hQ => ?_)
  unfold f_X8_placeOfItem at h
  refine z_lv (lv' := [(0, .ref (a 0)), (1, .int p0)]) [0, 1] rfl ?_
  refine z_iconst (v := 0) (by decide) dX8_placeOfItem_0 ?_
  refine z_istore_n [(2, .int 0), (0, .ref (a 0)), (1, .int p0)] rfl (Nat.le_of_ble_eq_true rfl) rfl dX8_placeOfItem_1 ?_
  refine z_lv (lv' := [(0, .ref (a 0)), (1, .int p0), (2, .int 0)]) [1, 2, 0] rfl ?_
  suffices hk2 : (fun (s2 : Int32) => Z false RX8 cX8_placeOfItem 3 1 22 g X 0 0 ([cX8 g a u]) [(0, .ref (a 0)), (1, .int p0), (2, .int s2)] 2 []) 0 by try dsimp only at hk2; exact hk2
  refine lp_ind (σ := Int32) (ε := Int32) (b_X8_placeOfItem_2 u p0) (fun s2 => Z false RX8 cX8_placeOfItem 3 1 22 g X 0 0 ([cX8 g a u]) [(0, .ref (a 0)), (1, .int p0), (2, .int s2)] 2 []) (fun z => z = r) (fun s2 q2 h2 i2 x2 => ?_) 5000 0 r h rfl
  unfold b_X8_placeOfItem_2 at h2
  refine z_iload_n 2 rfl rfl dX8_placeOfItem_2 ?_
  refine z_aload_n 0 rfl rfl dX8_placeOfItem_3 ?_
  refine z_get zcX8 0 rfl 0 rfl 1 (Nat.le_of_ble_eq_true rfl) zfX8_7 (v := .ref (a 1)) rfl dX8_placeOfItem_4 ?_
  refine z_bipush (v := 9) (by decide) dX8_placeOfItem_7 ?_
  obtain ⟨r1, er1, h2⟩ := zb h2
  refine z_iald 0 rfl 1 rfl er1 dX8_placeOfItem_9 ?_
  refine z_icmp_ge (tgt := 31) rfl dX8_placeOfItem_10 (fun c10 => ?_) (fun c10 => ?_)
  · replace h2 := (if_pos c10).symm.trans h2
    refine z_iconst (v := (-1)) (by decide) dX8_placeOfItem_31 ?_
    cases h2
    have y2 := x2 _ rfl
    cases y2
    exact z_iret dX8_placeOfItem_32 hQ
  · replace h2 := (if_neg c10).symm.trans h2
    refine z_aload_n 0 rfl rfl dX8_placeOfItem_13 ?_
    refine z_iload_n 2 rfl rfl dX8_placeOfItem_14 ?_
    refine z_iconst (v := 0) (by decide) dX8_placeOfItem_15 ?_
    obtain ⟨r2, er2, h2⟩ := zb h2
    refine z_callVR (rest := []) hl (c_X8_of l g a u s2 0 _ er2) zyX8_of zvX8_of rfl zlX8_49 zcX8.1 ⟨_, _, rfl⟩ [(0, none)] rfl rfl rfl (by decide) (Nat.le_of_ble_eq_true rfl) ⟨Nat.zero_le _, Nat.zero_le _⟩ dX8_placeOfItem_16 (st2 := [.int r2]) rfl ?_
    refine z_iload_n 1 rfl rfl dX8_placeOfItem_19 ?_
    refine z_icmp_ne (tgt := 25) rfl dX8_placeOfItem_20 (fun c20 => ?_) (fun c20 => ?_)
    · replace h2 := (if_neg c20).symm.trans h2
      refine z_iinc 2 [(2, .int (s2 + 1)), (0, .ref (a 0)), (1, .int p0)] rfl (v := (s2 + 1)) zinc (Nat.le_of_ble_eq_true rfl) rfl dX8_placeOfItem_25 ?_
      refine z_goto (tgt := 2) rfl dX8_placeOfItem_28 ?_
      cases h2
      have k2 := i2 (s2 + 1) rfl
      try dsimp only at k2
      exact z_lv [1, 2, 0] rfl k2
    · replace h2 := (if_pos c20).symm.trans h2
      refine z_iload_n 2 rfl rfl dX8_placeOfItem_23 ?_
      cases h2
      have y2 := x2 _ rfl
      cases y2
      exact z_iret dX8_placeOfItem_24 hQ
set_option maxHeartbeats 400000 in
set_option maxRecDepth 100000 in
theorem c_X8_comes (l : Launch) (g : zG) (a : Nat → Nat) (u : tX8) (p0 : Int32) (p1 : Int32) (p2 : Int32) (r : tX8) (h : f_X8_comes u p0 p1 p2 = some r) : Ctr l g true yX8_comes cX8_comes 5 none 0 0 0 0 [.ref (a 0), .int p0, .int p1, .int p2] ([cX8 g a u]) ([cX8 g a r]) none := by
  refine ctr_of (by decide) (Nat.le_of_ble_eq_true rfl) (fun X hl _ _ _ hQ => ?_)
  unfold f_X8_comes at h
  refine z_lv (lv' := [(0, .ref (a 0)), (1, .int p0), (2, .int p1), (3, .int p2)]) [0, 1, 2, 3] rfl ?_
  refine z_bipush (v := 22) (by decide) dX8_comes_0 ?_
  refine z_iconst (v := 3) (by decide) dX8_comes_2 ?_
  refine z_aload_n 0 rfl rfl dX8_comes_3 ?_
  refine z_get zcX8 0 rfl 0 rfl 1 (Nat.le_of_ble_eq_true rfl) zfX8_7 (v := .ref (a 1)) rfl dX8_comes_4 ?_
  refine z_bipush (v := 9) (by decide) dX8_comes_7 ?_
  obtain ⟨r1, er1, h⟩ := zb h
  refine z_iald 0 rfl 1 rfl er1 dX8_comes_9 ?_
  refine z_imul dX8_comes_10 ?_
  refine z_iadd dX8_comes_11 ?_
  refine z_istore [(4, .int (22 + (3 * r1))), (0, .ref (a 0)), (1, .int p0), (2, .int p1), (3, .int p2)] (Nat.le_of_ble_eq_true rfl) rfl dX8_comes_12 ?_
  refine z_aload_n 1 rfl rfl dX8_comes_14 ?_
  refine z_get zcX8 0 rfl 0 rfl 1 (Nat.le_of_ble_eq_true rfl) zfX8_7 (v := .ref (a 1)) rfl dX8_comes_15 ?_
  refine z_iload 0 rfl dX8_comes_18 ?_
  refine z_iconst (v := 0) (by decide) dX8_comes_20 ?_
  refine z_iadd dX8_comes_21 ?_
  refine z_iload_n 2 rfl rfl dX8_comes_22 ?_
  obtain ⟨r2, er2, h⟩ := zb h
  refine z_iast ([dX8 g a u.1 r2 u.2.2.1 u.2.2.2.1 u.2.2.2.2.1 u.2.2.2.2.2.1 u.2.2.2.2.2.2.1 u.2.2.2.2.2.2.2.1 u.2.2.2.2.2.2.2.2.1 u.2.2.2.2.2.2.2.2.2.1 u.2.2.2.2.2.2.2.2.2.2.1 u.2.2.2.2.2.2.2.2.2.2.2.1 u.2.2.2.2.2.2.2.2.2.2.2.2.1 u.2.2.2.2.2.2.2.2.2.2.2.2.2.1 u.2.2.2.2.2.2.2.2.2.2.2.2.2.2.1 u.2.2.2.2.2.2.2.2.2.2.2.2.2.2.2]) 0 rfl 1 rfl er2 rfl dX8_comes_23 ?_
  refine z_aload_n 1 rfl rfl dX8_comes_24 ?_
  refine z_get zcX8 0 rfl 0 rfl 1 (Nat.le_of_ble_eq_true rfl) zfX8_7 (v := .ref (a 1)) rfl dX8_comes_25 ?_
  refine z_iload 0 rfl dX8_comes_28 ?_
  refine z_iconst (v := 1) (by decide) dX8_comes_30 ?_
  refine z_iadd dX8_comes_31 ?_
  refine z_iload_n 3 rfl rfl dX8_comes_32 ?_
  obtain ⟨r3, er3, h⟩ := zb h
  refine z_iast ([dX8 g a u.1 r3 u.2.2.1 u.2.2.2.1 u.2.2.2.2.1 u.2.2.2.2.2.1 u.2.2.2.2.2.2.1 u.2.2.2.2.2.2.2.1 u.2.2.2.2.2.2.2.2.1 u.2.2.2.2.2.2.2.2.2.1 u.2.2.2.2.2.2.2.2.2.2.1 u.2.2.2.2.2.2.2.2.2.2.2.1 u.2.2.2.2.2.2.2.2.2.2.2.2.1 u.2.2.2.2.2.2.2.2.2.2.2.2.2.1 u.2.2.2.2.2.2.2.2.2.2.2.2.2.2.1 u.2.2.2.2.2.2.2.2.2.2.2.2.2.2.2]) 0 rfl 1 rfl er3 rfl dX8_comes_33 ?_
  refine z_aload_n 1 rfl rfl dX8_comes_34 ?_
  refine z_get zcX8 0 rfl 0 rfl 1 (Nat.le_of_ble_eq_true rfl) zfX8_7 (v := .ref (a 1)) rfl dX8_comes_35 ?_
  refine z_iload 0 rfl dX8_comes_38 ?_
  refine z_iconst (v := 2) (by decide) dX8_comes_40 ?_
  refine z_iadd dX8_comes_41 ?_
  refine z_iload_n 4 rfl rfl dX8_comes_42 ?_
  obtain ⟨r4, er4, h⟩ := zb h
  refine z_iast ([dX8 g a u.1 r4 u.2.2.1 u.2.2.2.1 u.2.2.2.2.1 u.2.2.2.2.2.1 u.2.2.2.2.2.2.1 u.2.2.2.2.2.2.2.1 u.2.2.2.2.2.2.2.2.1 u.2.2.2.2.2.2.2.2.2.1 u.2.2.2.2.2.2.2.2.2.2.1 u.2.2.2.2.2.2.2.2.2.2.2.1 u.2.2.2.2.2.2.2.2.2.2.2.2.1 u.2.2.2.2.2.2.2.2.2.2.2.2.2.1 u.2.2.2.2.2.2.2.2.2.2.2.2.2.2.1 u.2.2.2.2.2.2.2.2.2.2.2.2.2.2.2]) 0 rfl 1 rfl er4 rfl dX8_comes_43 ?_
  refine z_aload_n 1 rfl rfl dX8_comes_44 ?_
  refine z_get zcX8 0 rfl 0 rfl 1 (Nat.le_of_ble_eq_true rfl) zfX8_7 (v := .ref (a 1)) rfl dX8_comes_45 ?_
  refine z_bipush (v := 9) (by decide) dX8_comes_48 ?_
  refine z_dup2 rfl rfl dX8_comes_50 ?_
  obtain ⟨r5, er5, h⟩ := zb h
  refine z_iald 0 rfl 1 rfl er5 dX8_comes_51 ?_
  refine z_iconst (v := 1) (by decide) dX8_comes_52 ?_
  refine z_iadd dX8_comes_53 ?_
  obtain ⟨r6, er6, h⟩ := zb h
  refine z_iast ([dX8 g a u.1 r6 u.2.2.1 u.2.2.2.1 u.2.2.2.2.1 u.2.2.2.2.2.1 u.2.2.2.2.2.2.1 u.2.2.2.2.2.2.2.1 u.2.2.2.2.2.2.2.2.1 u.2.2.2.2.2.2.2.2.2.1 u.2.2.2.2.2.2.2.2.2.2.1 u.2.2.2.2.2.2.2.2.2.2.2.1 u.2.2.2.2.2.2.2.2.2.2.2.2.1 u.2.2.2.2.2.2.2.2.2.2.2.2.2.1 u.2.2.2.2.2.2.2.2.2.2.2.2.2.2.1 u.2.2.2.2.2.2.2.2.2.2.2.2.2.2.2]) 0 rfl 1 rfl er6 rfl dX8_comes_54 ?_
  cases h
  exact z_vret dX8_comes_55 hQ
set_option maxHeartbeats 400000 in
set_option maxRecDepth 100000 in
theorem c_X8_goes (l : Launch) (g : zG) (a : Nat → Nat) (u : tX8) (p0 : Int32) (r : tX8) (h : f_X8_goes u p0 = some r) : Ctr l g true yX8_goes cX8_goes 3 none 0 0 0 0 [.ref (a 0), .int p0] ([cX8 g a u]) ([cX8 g a r]) none := by
  refine ctr_of (by decide) (Nat.le_of_ble_eq_true rfl) (fun X hl _ _ _ hQ => ?_)
  unfold f_X8_goes at h
  refine z_lv (lv' := [(0, .ref (a 0)), (1, .int p0)]) [0, 1] rfl ?_
  refine z_aload_n 0 rfl rfl dX8_goes_0 ?_
  refine z_get zcX8 0 rfl 0 rfl 1 (Nat.le_of_ble_eq_true rfl) zfX8_7 (v := .ref (a 1)) rfl dX8_goes_1 ?_
  refine z_bipush (v := 9) (by decide) dX8_goes_4 ?_
  refine z_dup2 rfl rfl dX8_goes_6 ?_
  obtain ⟨r1, er1, h⟩ := zb h
  refine z_iald 0 rfl 1 rfl er1 dX8_goes_7 ?_
  refine z_iconst (v := 1) (by decide) dX8_goes_8 ?_
  refine z_isub dX8_goes_9 ?_
  obtain ⟨r2, er2, h⟩ := zb h
  refine z_iast ([dX8 g a u.1 r2 u.2.2.1 u.2.2.2.1 u.2.2.2.2.1 u.2.2.2.2.2.1 u.2.2.2.2.2.2.1 u.2.2.2.2.2.2.2.1 u.2.2.2.2.2.2.2.2.1 u.2.2.2.2.2.2.2.2.2.1 u.2.2.2.2.2.2.2.2.2.2.1 u.2.2.2.2.2.2.2.2.2.2.2.1 u.2.2.2.2.2.2.2.2.2.2.2.2.1 u.2.2.2.2.2.2.2.2.2.2.2.2.2.1 u.2.2.2.2.2.2.2.2.2.2.2.2.2.2.1 u.2.2.2.2.2.2.2.2.2.2.2.2.2.2.2]) 0 rfl 1 rfl er2 rfl dX8_goes_10 ?_
  refine z_bipush (v := 22) (by decide) dX8_goes_11 ?_
  refine z_iconst (v := 3) (by decide) dX8_goes_13 ?_
  refine z_iload_n 1 rfl rfl dX8_goes_14 ?_
  refine z_imul dX8_goes_15 ?_
  refine z_iadd dX8_goes_16 ?_
  refine z_istore_n [(2, .int (22 + (3 * p0))), (0, .ref (a 0)), (1, .int p0)] rfl (Nat.le_of_ble_eq_true rfl) rfl dX8_goes_17 ?_
  obtain ⟨z3, ez3, h⟩ := zb h
  refine z_lv (lv' := [(0, .ref (a 0)), (2, .int (22 + (3 * p0)))]) [1, 0] rfl ?_
  suffices hk18 : (fun (s18 : Int32 × zF) => Z true RX8 cX8_goes 3 0 0 g X 0 0 ([dX8 g a u.1 s18.2 u.2.2.1 u.2.2.2.1 u.2.2.2.2.1 u.2.2.2.2.2.1 u.2.2.2.2.2.2.1 u.2.2.2.2.2.2.2.1 u.2.2.2.2.2.2.2.2.1 u.2.2.2.2.2.2.2.2.2.1 u.2.2.2.2.2.2.2.2.2.2.1 u.2.2.2.2.2.2.2.2.2.2.2.1 u.2.2.2.2.2.2.2.2.2.2.2.2.1 u.2.2.2.2.2.2.2.2.2.2.2.2.2.1 u.2.2.2.2.2.2.2.2.2.2.2.2.2.2.1 u.2.2.2.2.2.2.2.2.2.2.2.2.2.2.2]) [(0, .ref (a 0)), (2, .int s18.1)] 18 []) ((22 + (3 * p0)), r2) by try dsimp only at hk18; exact hk18
  refine lp_ind (σ := Int32 × zF) (ε := zF) b_X8_goes_18 (fun s18 => Z true RX8 cX8_goes 3 0 0 g X 0 0 ([dX8 g a u.1 s18.2 u.2.2.1 u.2.2.2.1 u.2.2.2.2.1 u.2.2.2.2.2.1 u.2.2.2.2.2.2.1 u.2.2.2.2.2.2.2.1 u.2.2.2.2.2.2.2.2.1 u.2.2.2.2.2.2.2.2.2.1 u.2.2.2.2.2.2.2.2.2.2.1 u.2.2.2.2.2.2.2.2.2.2.2.1 u.2.2.2.2.2.2.2.2.2.2.2.2.1 u.2.2.2.2.2.2.2.2.2.2.2.2.2.1 u.2.2.2.2.2.2.2.2.2.2.2.2.2.2.1 u.2.2.2.2.2.2.2.2.2.2.2.2.2.2.2]) [(0, .ref (a 0)), (2, .int s18.1)] 18 []) (fun z3 => Z true RX8 cX8_goes 3 0 0 g X 0 0 ([dX8 g a u.1 z3 u.2.2.1 u.2.2.2.1 u.2.2.2.2.1 u.2.2.2.2.2.1 u.2.2.2.2.2.2.1 u.2.2.2.2.2.2.2.1 u.2.2.2.2.2.2.2.2.1 u.2.2.2.2.2.2.2.2.2.1 u.2.2.2.2.2.2.2.2.2.2.1 u.2.2.2.2.2.2.2.2.2.2.2.1 u.2.2.2.2.2.2.2.2.2.2.2.2.1 u.2.2.2.2.2.2.2.2.2.2.2.2.2.1 u.2.2.2.2.2.2.2.2.2.2.2.2.2.2.1 u.2.2.2.2.2.2.2.2.2.2.2.2.2.2.2]) [(0, .ref (a 0))] 54 []) (fun s18 q18 h18 i18 x18 => ?_) 5000 ((22 + (3 * p0)), r2) z3 ez3 ?_
  · unfold b_X8_goes_18 at h18
    refine z_iload_n 1 rfl rfl dX8_goes_18 ?_
    refine z_bipush (v := 22) (by decide) dX8_goes_19 ?_
    refine z_iconst (v := 3) (by decide) dX8_goes_21 ?_
    refine z_aload_n 0 rfl rfl dX8_goes_22 ?_
    refine z_get zcX8 0 rfl 0 rfl 1 (Nat.le_of_ble_eq_true rfl) zfX8_7 (v := .ref (a 1)) rfl dX8_goes_23 ?_
    refine z_bipush (v := 9) (by decide) dX8_goes_26 ?_
    obtain ⟨r4, er4, h18⟩ := zb h18
    refine z_iald 0 rfl 1 rfl er4 dX8_goes_28 ?_
    refine z_imul dX8_goes_29 ?_
    refine z_iadd dX8_goes_30 ?_
    refine z_icmp_ge (tgt := 54) rfl dX8_goes_31 (fun c31 => ?_) (fun c31 => ?_)
    · replace h18 := (if_pos c31).symm.trans h18
      cases h18
      have k18 := x18 s18.2 rfl
      try dsimp only at k18
      exact z_lv [0] rfl k18
    · replace h18 := (if_neg c31).symm.trans h18
      refine z_aload_n 0 rfl rfl dX8_goes_34 ?_
      refine z_get zcX8 0 rfl 0 rfl 1 (Nat.le_of_ble_eq_true rfl) zfX8_7 (v := .ref (a 1)) rfl dX8_goes_35 ?_
      refine z_iload_n 1 rfl rfl dX8_goes_38 ?_
      refine z_aload_n 0 rfl rfl dX8_goes_39 ?_
      refine z_get zcX8 0 rfl 0 rfl 1 (Nat.le_of_ble_eq_true rfl) zfX8_7 (v := .ref (a 1)) rfl dX8_goes_40 ?_
      refine z_iload_n 1 rfl rfl dX8_goes_43 ?_
      refine z_iconst (v := 3) (by decide) dX8_goes_44 ?_
      refine z_iadd dX8_goes_45 ?_
      obtain ⟨r5, er5, h18⟩ := zb h18
      refine z_iald 0 rfl 1 rfl er5 dX8_goes_46 ?_
      obtain ⟨r6, er6, h18⟩ := zb h18
      refine z_iast ([dX8 g a u.1 r6 u.2.2.1 u.2.2.2.1 u.2.2.2.2.1 u.2.2.2.2.2.1 u.2.2.2.2.2.2.1 u.2.2.2.2.2.2.2.1 u.2.2.2.2.2.2.2.2.1 u.2.2.2.2.2.2.2.2.2.1 u.2.2.2.2.2.2.2.2.2.2.1 u.2.2.2.2.2.2.2.2.2.2.2.1 u.2.2.2.2.2.2.2.2.2.2.2.2.1 u.2.2.2.2.2.2.2.2.2.2.2.2.2.1 u.2.2.2.2.2.2.2.2.2.2.2.2.2.2.1 u.2.2.2.2.2.2.2.2.2.2.2.2.2.2.2]) 0 rfl 1 rfl er6 rfl dX8_goes_47 ?_
      refine z_iinc 1 [(2, .int (s18.1 + 1)), (0, .ref (a 0))] rfl (v := (s18.1 + 1)) zinc (Nat.le_of_ble_eq_true rfl) rfl dX8_goes_48 ?_
      refine z_goto (tgt := 18) rfl dX8_goes_51 ?_
      cases h18
      have k18 := i18 ((s18.1 + 1), r6) rfl
      try dsimp only at k18
      exact z_lv [1, 0] rfl k18
  · skip
    refine z_iconst (v := 0) (by decide) dX8_goes_54 ?_
    refine z_istore_n [(2, .int 0), (0, .ref (a 0))] rfl (Nat.le_of_ble_eq_true rfl) rfl dX8_goes_55 ?_
    obtain ⟨z7, ez7, h⟩ := zb h
    refine z_lv (lv' := [(0, .ref (a 0)), (2, .int 0)]) [1, 0] rfl ?_
    suffices hk56 : (fun (s56 : Int32 × zF) => Z true RX8 cX8_goes 3 0 0 g X 0 0 ([dX8 g a u.1 s56.2 u.2.2.1 u.2.2.2.1 u.2.2.2.2.1 u.2.2.2.2.2.1 u.2.2.2.2.2.2.1 u.2.2.2.2.2.2.2.1 u.2.2.2.2.2.2.2.2.1 u.2.2.2.2.2.2.2.2.2.1 u.2.2.2.2.2.2.2.2.2.2.1 u.2.2.2.2.2.2.2.2.2.2.2.1 u.2.2.2.2.2.2.2.2.2.2.2.2.1 u.2.2.2.2.2.2.2.2.2.2.2.2.2.1 u.2.2.2.2.2.2.2.2.2.2.2.2.2.2.1 u.2.2.2.2.2.2.2.2.2.2.2.2.2.2.2]) [(0, .ref (a 0)), (2, .int s56.1)] 56 []) (0, z3) by try dsimp only at hk56; exact hk56
    refine lp_ind (σ := Int32 × zF) (ε := zF) b_X8_goes_56 (fun s56 => Z true RX8 cX8_goes 3 0 0 g X 0 0 ([dX8 g a u.1 s56.2 u.2.2.1 u.2.2.2.1 u.2.2.2.2.1 u.2.2.2.2.2.1 u.2.2.2.2.2.2.1 u.2.2.2.2.2.2.2.1 u.2.2.2.2.2.2.2.2.1 u.2.2.2.2.2.2.2.2.2.1 u.2.2.2.2.2.2.2.2.2.2.1 u.2.2.2.2.2.2.2.2.2.2.2.1 u.2.2.2.2.2.2.2.2.2.2.2.2.1 u.2.2.2.2.2.2.2.2.2.2.2.2.2.1 u.2.2.2.2.2.2.2.2.2.2.2.2.2.2.1 u.2.2.2.2.2.2.2.2.2.2.2.2.2.2.2]) [(0, .ref (a 0)), (2, .int s56.1)] 56 []) (fun z7 => Z true RX8 cX8_goes 3 0 0 g X 0 0 ([dX8 g a u.1 z7 u.2.2.1 u.2.2.2.1 u.2.2.2.2.1 u.2.2.2.2.2.1 u.2.2.2.2.2.2.1 u.2.2.2.2.2.2.2.1 u.2.2.2.2.2.2.2.2.1 u.2.2.2.2.2.2.2.2.2.1 u.2.2.2.2.2.2.2.2.2.2.1 u.2.2.2.2.2.2.2.2.2.2.2.1 u.2.2.2.2.2.2.2.2.2.2.2.2.1 u.2.2.2.2.2.2.2.2.2.2.2.2.2.1 u.2.2.2.2.2.2.2.2.2.2.2.2.2.2.1 u.2.2.2.2.2.2.2.2.2.2.2.2.2.2.2]) [] 87 []) (fun s56 q56 h56 i56 x56 => ?_) 5000 (0, z3) z7 ez7 ?_
    · unfold b_X8_goes_56 at h56
      refine z_iload_n 1 rfl rfl dX8_goes_56 ?_
      refine z_iconst (v := 3) (by decide) dX8_goes_57 ?_
      refine z_icmp_ge (tgt := 87) rfl dX8_goes_58 (fun c58 => ?_) (fun c58 => ?_)
      · replace h56 := (if_pos c58).symm.trans h56
        cases h56
        have k56 := x56 s56.2 rfl
        try dsimp only at k56
        exact z_lv [] rfl k56
      · replace h56 := (if_neg c58).symm.trans h56
        refine z_aload_n 0 rfl rfl dX8_goes_61 ?_
        refine z_get zcX8 0 rfl 0 rfl 1 (Nat.le_of_ble_eq_true rfl) zfX8_7 (v := .ref (a 1)) rfl dX8_goes_62 ?_
        refine z_bipush (v := 22) (by decide) dX8_goes_65 ?_
        refine z_iconst (v := 3) (by decide) dX8_goes_67 ?_
        refine z_aload_n 0 rfl rfl dX8_goes_68 ?_
        refine z_get zcX8 0 rfl 0 rfl 1 (Nat.le_of_ble_eq_true rfl) zfX8_7 (v := .ref (a 1)) rfl dX8_goes_69 ?_
        refine z_bipush (v := 9) (by decide) dX8_goes_72 ?_
        obtain ⟨r8, er8, h56⟩ := zb h56
        refine z_iald 0 rfl 1 rfl er8 dX8_goes_74 ?_
        refine z_imul dX8_goes_75 ?_
        refine z_iadd dX8_goes_76 ?_
        refine z_iload_n 1 rfl rfl dX8_goes_77 ?_
        refine z_iadd dX8_goes_78 ?_
        refine z_iconst (v := 0) (by decide) dX8_goes_79 ?_
        obtain ⟨r9, er9, h56⟩ := zb h56
        refine z_iast ([dX8 g a u.1 r9 u.2.2.1 u.2.2.2.1 u.2.2.2.2.1 u.2.2.2.2.2.1 u.2.2.2.2.2.2.1 u.2.2.2.2.2.2.2.1 u.2.2.2.2.2.2.2.2.1 u.2.2.2.2.2.2.2.2.2.1 u.2.2.2.2.2.2.2.2.2.2.1 u.2.2.2.2.2.2.2.2.2.2.2.1 u.2.2.2.2.2.2.2.2.2.2.2.2.1 u.2.2.2.2.2.2.2.2.2.2.2.2.2.1 u.2.2.2.2.2.2.2.2.2.2.2.2.2.2.1 u.2.2.2.2.2.2.2.2.2.2.2.2.2.2.2]) 0 rfl 1 rfl er9 rfl dX8_goes_80 ?_
        refine z_iinc 1 [(2, .int (s56.1 + 1)), (0, .ref (a 0))] rfl (v := (s56.1 + 1)) zinc (Nat.le_of_ble_eq_true rfl) rfl dX8_goes_81 ?_
        refine z_goto (tgt := 56) rfl dX8_goes_84 ?_
        cases h56
        have k56 := i56 ((s56.1 + 1), r9) rfl
        try dsimp only at k56
        exact z_lv [1, 0] rfl k56
    · skip
      cases h
      exact z_vret dX8_goes_87 hQ
set_option maxHeartbeats 400000 in
set_option maxRecDepth 100000 in
theorem c_X8_isOpen (l : Launch) (g : zG) (a : Nat → Nat) (u : tX8) (p0 : Int32) (p1 : Int32) (r : Bool) (h : f_X8_isOpen u p0 p1 = some r) : Ctr l g false yX8_isOpen cX8_isOpen 5 (some .boolean) 2 46 0 0 [.ref (a 0), .int p0, .int p1] ([cX8 g a u]) ([cX8 g a u]) (some (.int (b2i r))) := by
  refine ctr_of (by decide) (Nat.le_of_ble_eq_true rfl) (fun X hl _ _ _ hQ => ?_)
  unfold f_X8_isOpen at h
  refine z_lv (lv' := [(0, .ref (a 0)), (1, .int p0), (2, .int p1)]) [0, 1, 2] rfl ?_
  refine z_iconst (v := 1) (by decide) dX8_isOpen_0 ?_
  refine z_istore_n [(3, .int (b2i true)), (0, .ref (a 0)), (1, .int p0), (2, .int p1)] rfl (Nat.le_of_ble_eq_true rfl) rfl dX8_isOpen_1 ?_
  refine z_iconst (v := 1) (by decide) dX8_isOpen_2 ?_
  refine z_istore [(4, .int 1), (3, .int (b2i true)), (0, .ref (a 0)), (1, .int p0), (2, .int p1)] (Nat.le_of_ble_eq_true rfl) rfl dX8_isOpen_3 ?_
  obtain ⟨z1, ez1, h⟩ := zb h
  refine z_lv (lv' := [(0, .ref (a 0)), (1, .int p0), (2, .int p1), (3, .int (b2i true)), (4, .int 1)]) [2, 3, 4, 1, 0] rfl ?_
  suffices hk5 : (fun (s5 : Bool × Int32) => Z false RX8 cX8_isOpen 5 2 46 g X 0 0 ([cX8 g a u]) [(0, .ref (a 0)), (1, .int p0), (2, .int p1), (3, .int (b2i s5.1)), (4, .int s5.2)] 5 []) (true, 1) by try dsimp only at hk5; exact hk5
  refine lp_ind (σ := Bool × Int32) (ε := Bool) (b_X8_isOpen_5 u p0 p1) (fun s5 => Z false RX8 cX8_isOpen 5 2 46 g X 0 0 ([cX8 g a u]) [(0, .ref (a 0)), (1, .int p0), (2, .int p1), (3, .int (b2i s5.1)), (4, .int s5.2)] 5 []) (fun z1 => Z false RX8 cX8_isOpen 5 2 46 g X 0 0 ([cX8 g a u]) [(3, .int (b2i z1))] 54 []) (fun s5 q5 h5 i5 x5 => ?_) 5000 (true, 1) z1 ez1 ?_
  · unfold b_X8_isOpen_5 at h5
    refine z_iload 4 rfl dX8_isOpen_5 ?_
    refine z_iload_n 1 rfl rfl dX8_isOpen_7 ?_
    refine z_icmp_gt (tgt := 54) rfl dX8_isOpen_8 (fun c8 => ?_) (fun c8 => ?_)
    · replace h5 := (if_pos c8).symm.trans h5
      cases h5
      have k5 := x5 s5.1 rfl
      try dsimp only at k5
      exact z_lv [3] rfl k5
    · replace h5 := (if_neg c8).symm.trans h5
      refine z_iload_n 3 rfl rfl dX8_isOpen_11 ?_
      refine z_ifB_eq (tgt := 46) rfl dX8_isOpen_12 (fun c12 => ?_) (fun c12 => ?_)
      · replace h5 := (if_neg c12).symm.trans h5
        refine z_iconst (v := 0) (by decide) dX8_isOpen_46 ?_
        refine z_istore_n [(3, .int (b2i false)), (0, .ref (a 0)), (1, .int p0), (2, .int p1), (4, .int s5.2)] rfl (Nat.le_of_ble_eq_true rfl) rfl dX8_isOpen_47 ?_
        refine z_iinc 4 [(4, .int (s5.2 + 1)), (3, .int (b2i false)), (0, .ref (a 0)), (1, .int p0), (2, .int p1)] rfl (v := (s5.2 + 1)) zinc (Nat.le_of_ble_eq_true rfl) rfl dX8_isOpen_48 ?_
        refine z_goto (tgt := 5) rfl dX8_isOpen_51 ?_
        cases h5
        have k5 := i5 (false, (s5.2 + 1)) rfl
        try dsimp only at k5
        exact z_lv [2, 3, 4, 1, 0] rfl k5
      · replace h5 := (if_pos c12).symm.trans h5
        refine z_aload_n 0 rfl rfl dX8_isOpen_15 ?_
        refine z_aload_n 0 rfl rfl dX8_isOpen_16 ?_
        refine z_get zcX8 0 rfl 0 rfl 1 (Nat.le_of_ble_eq_true rfl) zfX8_7 (v := .ref (a 1)) rfl dX8_isOpen_17 ?_
        refine z_iconst (v := 3) (by decide) dX8_isOpen_20 ?_
        obtain ⟨r2, er2, h5⟩ := zb h5
        refine z_iald 0 rfl 1 rfl er2 dX8_isOpen_21 ?_
        refine z_iload 4 rfl dX8_isOpen_22 ?_
        refine z_iload_n 2 rfl rfl dX8_isOpen_24 ?_
        refine z_imul dX8_isOpen_25 ?_
        refine z_iadd dX8_isOpen_26 ?_
        refine z_bipush (v := 12) (by decide) dX8_isOpen_27 ?_
        refine z_irem (by decide) dX8_isOpen_29 ?_
        obtain ⟨r3, er3, h5⟩ := zb h5
        refine z_callVR (rest := []) hl (c_X8_imbalance l g a u (i_rem (r2 + (s5.2 * p1)) 12) _ er3) zyX8_imbalance zvX8_imbalance rfl zlX8_56 zcX8.1 ⟨_, _, rfl⟩ [(0, none)] rfl rfl rfl (by decide) (Nat.le_of_ble_eq_true rfl) ⟨Nat.zero_le _, Nat.zero_le _⟩ dX8_isOpen_30 (st2 := [.int r3]) rfl ?_
        refine z_aload_n 0 rfl rfl dX8_isOpen_33 ?_
        refine z_get zcX8 0 rfl 0 rfl 1 (Nat.le_of_ble_eq_true rfl) zfX8_7 (v := .ref (a 1)) rfl dX8_isOpen_34 ?_
        refine z_iconst (v := 0) (by decide) dX8_isOpen_37 ?_
        obtain ⟨r4, er4, h5⟩ := zb h5
        refine z_iald 0 rfl 1 rfl er4 dX8_isOpen_38 ?_
        refine z_icmp_gt (tgt := 46) rfl dX8_isOpen_39 (fun c39 => ?_) (fun c39 => ?_)
        · replace h5 := (if_pos c39).symm.trans h5
          refine z_iconst (v := 0) (by decide) dX8_isOpen_46 ?_
          refine z_istore_n [(3, .int (b2i false)), (0, .ref (a 0)), (1, .int p0), (2, .int p1), (4, .int s5.2)] rfl (Nat.le_of_ble_eq_true rfl) rfl dX8_isOpen_47 ?_
          refine z_iinc 4 [(4, .int (s5.2 + 1)), (3, .int (b2i false)), (0, .ref (a 0)), (1, .int p0), (2, .int p1)] rfl (v := (s5.2 + 1)) zinc (Nat.le_of_ble_eq_true rfl) rfl dX8_isOpen_48 ?_
          refine z_goto (tgt := 5) rfl dX8_isOpen_51 ?_
          cases h5
          have k5 := i5 (false, (s5.2 + 1)) rfl
          try dsimp only at k5
          exact z_lv [2, 3, 4, 1, 0] rfl k5
        · replace h5 := (if_neg c39).symm.trans h5
          refine z_iconst (v := 1) (by decide) dX8_isOpen_42 ?_
          refine z_goto (tgt := 47) rfl dX8_isOpen_43 ?_
          refine z_istore_n [(3, .int (b2i true)), (0, .ref (a 0)), (1, .int p0), (2, .int p1), (4, .int s5.2)] rfl (Nat.le_of_ble_eq_true rfl) rfl dX8_isOpen_47 ?_
          refine z_iinc 4 [(4, .int (s5.2 + 1)), (3, .int (b2i true)), (0, .ref (a 0)), (1, .int p0), (2, .int p1)] rfl (v := (s5.2 + 1)) zinc (Nat.le_of_ble_eq_true rfl) rfl dX8_isOpen_48 ?_
          refine z_goto (tgt := 5) rfl dX8_isOpen_51 ?_
          cases h5
          have k5 := i5 (true, (s5.2 + 1)) rfl
          try dsimp only at k5
          exact z_lv [2, 3, 4, 1, 0] rfl k5
  · skip
    refine z_iload_n 0 rfl rfl dX8_isOpen_54 ?_
    cases h
    exact z_zret _ (by rfl) dX8_isOpen_55 hQ
set_option maxHeartbeats 400000 in
set_option maxRecDepth 100000 in
theorem c_X8_wayTo (l : Launch) (g : zG) (a : Nat → Nat) (u : tX8) (p0 : Int32) (r : Int32) (h : f_X8_wayTo u p0 = some r) : Ctr l g false yX8_wayTo cX8_wayTo 6 (some .int) 3 70 0 0 [.ref (a 0), .int p0] ([cX8 g a u]) ([cX8 g a u]) (some (.int r)) := by
  refine ctr_of (by decide) (Nat.le_of_ble_eq_true rfl) (fun X hl _ _ _ hQ => ?_)
  unfold f_X8_wayTo at h
  refine z_lv (lv' := [(0, .ref (a 0)), (1, .int p0)]) [0, 1] rfl ?_
  refine z_iload_n 1 rfl rfl dX8_wayTo_0 ?_
  refine z_aload_n 0 rfl rfl dX8_wayTo_1 ?_
  refine z_get zcX8 0 rfl 0 rfl 1 (Nat.le_of_ble_eq_true rfl) zfX8_7 (v := .ref (a 1)) rfl dX8_wayTo_2 ?_
  refine z_iconst (v := 3) (by decide) dX8_wayTo_5 ?_
  obtain ⟨r1, er1, h⟩ := zb h
  refine z_iald 0 rfl 1 rfl er1 dX8_wayTo_6 ?_
  refine z_callSR (rest := []) hl (c_X8_placeOf l g p0 r1 _ rfl) zyX8_placeOf zsX8_placeOf zlX8_53 [] rfl rfl rfl (by decide) (Nat.le_of_ble_eq_true rfl) ⟨Nat.zero_le _, Nat.zero_le _⟩ dX8_wayTo_7 (st2 := [.int (f_X8_placeOf p0 r1)]) rfl ?_
  refine z_istore_n [(2, .int (f_X8_placeOf p0 r1)), (0, .ref (a 0)), (1, .int p0)] rfl (Nat.le_of_ble_eq_true rfl) rfl dX8_wayTo_10 ?_
  refine z_bipush (v := 12) (by decide) dX8_wayTo_11 ?_
  refine z_iload_n 0 rfl rfl dX8_wayTo_13 ?_
  refine z_isub dX8_wayTo_14 ?_
  refine z_istore_n [(3, .int (12 - (f_X8_placeOf p0 r1))), (2, .int (f_X8_placeOf p0 r1)), (0, .ref (a 0)), (1, .int p0)] rfl (Nat.le_of_ble_eq_true rfl) rfl dX8_wayTo_15 ?_
  refine z_iload_n 1 rfl rfl dX8_wayTo_16 ?_
  refine z_if_ne (tgt := 22) rfl dX8_wayTo_17 (fun c17 => ?_) (fun c17 => ?_)
  · replace h := (if_neg c17).symm.trans h
    refine z_aload_n 2 rfl rfl dX8_wayTo_22 ?_
    refine z_iload_n 1 rfl rfl dX8_wayTo_23 ?_
    refine z_iconst (v := 1) (by decide) dX8_wayTo_24 ?_
    obtain ⟨r2, er2, h⟩ := zb h
    refine z_callVR (rest := []) hl (c_X8_isOpen l g a u (f_X8_placeOf p0 r1) 1 _ er2) zyX8_isOpen zvX8_isOpen rfl zlX8_60 zcX8.1 ⟨_, _, rfl⟩ [(0, none)] rfl rfl rfl (by decide) (Nat.le_of_ble_eq_true rfl) ⟨Nat.zero_le _, Nat.zero_le _⟩ dX8_wayTo_25 (st2 := [.int (b2i r2)]) rfl ?_
    refine z_istore [(4, .int (b2i r2)), (3, .int (12 - (f_X8_placeOf p0 r1))), (2, .int (f_X8_placeOf p0 r1)), (0, .ref (a 0)), (1, .int p0)] (Nat.le_of_ble_eq_true rfl) rfl dX8_wayTo_28 ?_
    refine z_aload_n 3 rfl rfl dX8_wayTo_30 ?_
    refine z_iload_n 1 rfl rfl dX8_wayTo_31 ?_
    refine z_bipush (v := 11) (by decide) dX8_wayTo_32 ?_
    obtain ⟨r3, er3, h⟩ := zb h
    refine z_callVR (rest := []) hl (c_X8_isOpen l g a u (12 - (f_X8_placeOf p0 r1)) 11 _ er3) zyX8_isOpen zvX8_isOpen rfl zlX8_60 zcX8.1 ⟨_, _, rfl⟩ [(0, none)] rfl rfl rfl (by decide) (Nat.le_of_ble_eq_true rfl) ⟨Nat.zero_le _, Nat.zero_le _⟩ dX8_wayTo_34 (st2 := [.int (b2i r3)]) rfl ?_
    refine z_istore [(5, .int (b2i r3)), (4, .int (b2i r2)), (3, .int (12 - (f_X8_placeOf p0 r1))), (2, .int (f_X8_placeOf p0 r1)), (0, .ref (a 0)), (1, .int p0)] (Nat.le_of_ble_eq_true rfl) rfl dX8_wayTo_37 ?_
    refine z_iload 1 rfl dX8_wayTo_39 ?_
    refine z_ifB_ne (tgt := 52) rfl dX8_wayTo_41 (fun c41 => ?_) (fun c41 => ?_)
    · replace h := (if_pos c41).symm.trans h
      refine z_iload 1 rfl dX8_wayTo_52 ?_
      refine z_ifB_eq (tgt := 72) rfl dX8_wayTo_54 (fun c54 => ?_) (fun c54 => ?_)
      · replace h := (if_neg c54).symm.trans h
        refine z_iload_n 2 rfl rfl dX8_wayTo_72 ?_
        refine z_ineg dX8_wayTo_73 ?_
        cases h
        exact z_iret dX8_wayTo_74 hQ
      · replace h := (if_pos c54).symm.trans h
        refine z_iload_n 3 rfl rfl dX8_wayTo_57 ?_
        refine z_bipush (v := 6) (by decide) dX8_wayTo_58 ?_
        refine z_icmp_le (tgt := 68) rfl dX8_wayTo_60 (fun c60 => ?_) (fun c60 => ?_)
        · replace h := (if_pos c60).symm.trans h
          refine z_iload_n 3 rfl rfl dX8_wayTo_68 ?_
          refine z_goto (tgt := 74) rfl dX8_wayTo_69 ?_
          cases h
          exact z_iret dX8_wayTo_74 hQ
        · replace h := (if_neg c60).symm.trans h
          refine z_iload 0 rfl dX8_wayTo_63 ?_
          refine z_ifB_ne (tgt := 72) rfl dX8_wayTo_65 (fun c65 => ?_) (fun c65 => ?_)
          · replace h := (if_pos c65).symm.trans h
            refine z_iload_n 2 rfl rfl dX8_wayTo_72 ?_
            refine z_ineg dX8_wayTo_73 ?_
            cases h
            exact z_iret dX8_wayTo_74 hQ
          · replace h := (if_neg c65).symm.trans h
            refine z_iload_n 3 rfl rfl dX8_wayTo_68 ?_
            refine z_goto (tgt := 74) rfl dX8_wayTo_69 ?_
            cases h
            exact z_iret dX8_wayTo_74 hQ
    · replace h := (if_neg c41).symm.trans h
      refine z_iload 0 rfl dX8_wayTo_44 ?_
      refine z_ifB_ne (tgt := 52) rfl dX8_wayTo_46 (fun c46 => ?_) (fun c46 => ?_)
      · replace h := (if_pos c46).symm.trans h
        refine z_iload 1 rfl dX8_wayTo_52 ?_
        refine z_ifB_eq (tgt := 72) rfl dX8_wayTo_54 (fun c54 => ?_) (fun c54 => ?_)
        · replace h := (if_neg c54).symm.trans h
          refine z_iload_n 2 rfl rfl dX8_wayTo_72 ?_
          refine z_ineg dX8_wayTo_73 ?_
          cases h
          exact z_iret dX8_wayTo_74 hQ
        · replace h := (if_pos c54).symm.trans h
          refine z_iload_n 3 rfl rfl dX8_wayTo_57 ?_
          refine z_bipush (v := 6) (by decide) dX8_wayTo_58 ?_
          refine z_icmp_le (tgt := 68) rfl dX8_wayTo_60 (fun c60 => ?_) (fun c60 => ?_)
          · replace h := (if_pos c60).symm.trans h
            refine z_iload_n 3 rfl rfl dX8_wayTo_68 ?_
            refine z_goto (tgt := 74) rfl dX8_wayTo_69 ?_
            cases h
            exact z_iret dX8_wayTo_74 hQ
          · replace h := (if_neg c60).symm.trans h
            refine z_iload 0 rfl dX8_wayTo_63 ?_
            refine z_ifB_ne (tgt := 72) rfl dX8_wayTo_65 (fun c65 => ?_) (fun c65 => ?_)
            · replace h := (if_pos c65).symm.trans h
              refine z_iload_n 2 rfl rfl dX8_wayTo_72 ?_
              refine z_ineg dX8_wayTo_73 ?_
              cases h
              exact z_iret dX8_wayTo_74 hQ
            · replace h := (if_neg c65).symm.trans h
              refine z_iload_n 3 rfl rfl dX8_wayTo_68 ?_
              refine z_goto (tgt := 74) rfl dX8_wayTo_69 ?_
              cases h
              exact z_iret dX8_wayTo_74 hQ
      · replace h := (if_neg c46).symm.trans h
        refine z_bipush (v := 99) (by decide) dX8_wayTo_49 ?_
        cases h
        exact z_iret dX8_wayTo_51 hQ
  · replace h := (if_pos c17).symm.trans h
    refine z_iconst (v := 0) (by decide) dX8_wayTo_20 ?_
    cases h
    exact z_iret dX8_wayTo_21 hQ
set_option maxHeartbeats 400000 in
set_option maxRecDepth 100000 in
theorem c_X8_size (l : Launch) (g : zG) (p0 : Int32) (r : Int32) (h : f_X8_size p0 = r) : Ctr l g false yX8_size cX8_size 1 (some .int) 0 0 0 0 [.int p0] ([]) ([]) (some (.int r)) := by
  refine ctr_of (by decide) (Nat.le_of_ble_eq_true rfl) (fun X hl _ _ _ hQ => ?_)
  unfold f_X8_size at h
  refine z_lv (lv' := [(0, .int p0)]) [0] rfl ?_
  refine z_iload_n 0 rfl rfl dX8_size_0 ?_
  refine z_if_ge (tgt := 9) rfl dX8_size_1 (fun c1 => ?_) (fun c1 => ?_)
  · replace h := (if_pos c1).symm.trans h
    refine z_iload_n 0 rfl rfl dX8_size_9 ?_
    subst h
    exact z_iret dX8_size_10 hQ
  · replace h := (if_neg c1).symm.trans h
    refine z_iload_n 0 rfl rfl dX8_size_4 ?_
    refine z_ineg dX8_size_5 ?_
    refine z_goto (tgt := 10) rfl dX8_size_6 ?_
    subst h
    exact z_iret dX8_size_10 hQ
set_option maxHeartbeats 400000 in
set_option maxRecDepth 100000 in
theorem c_X8_turns (l : Launch) (g : zG) (a : Nat → Nat) (u : tX8) (p0 : Int32) (r : tX8) (h : f_X8_turns u p0 = some r) : Ctr l g true yX8_turns cX8_turns 3 none 4 95 0 0 [.ref (a 0), .int p0] ([cX8 g a u]) ([cX8 g a r]) none := by
  refine ctr_of (by decide) (Nat.le_of_ble_eq_true rfl) (fun X hl _ _ _ hQ => ?_)
  unfold f_X8_turns at h
  refine z_lv (lv' := [(0, .ref (a 0)), (1, .int p0)]) [0, 1] rfl ?_
  refine z_aload_n 0 rfl rfl dX8_turns_0 ?_
  refine z_iload_n 1 rfl rfl dX8_turns_1 ?_
  obtain ⟨r1, er1, h⟩ := zb h
  refine z_callVR (rest := []) hl (c_X8_wayTo l g a u p0 _ er1) zyX8_wayTo zvX8_wayTo rfl zlX8_64 zcX8.1 ⟨_, _, rfl⟩ [(0, none)] rfl rfl rfl (by decide) (Nat.le_of_ble_eq_true rfl) ⟨Nat.zero_le _, Nat.zero_le _⟩ dX8_turns_2 (st2 := [.int r1]) rfl ?_
  refine z_istore_n [(2, .int r1), (0, .ref (a 0)), (1, .int p0)] rfl (Nat.le_of_ble_eq_true rfl) rfl dX8_turns_5 ?_
  refine z_aload_n 1 rfl rfl dX8_turns_6 ?_
  refine z_get zcX8 0 rfl 0 rfl 1 (Nat.le_of_ble_eq_true rfl) zfX8_7 (v := .ref (a 1)) rfl dX8_turns_7 ?_
  refine z_iconst (v := 4) (by decide) dX8_turns_10 ?_
  refine z_dup2 rfl rfl dX8_turns_11 ?_
  obtain ⟨r2, er2, h⟩ := zb h
  refine z_iald 0 rfl 1 rfl er2 dX8_turns_12 ?_
  refine z_iload_n 0 rfl rfl dX8_turns_13 ?_
  refine z_callSR (rest := [.int r2, .int 4, .ref (a 1)]) hl (c_X8_size l g r1 _ rfl) zyX8_size zsX8_size zlX8_67 [] rfl rfl rfl (by decide) (Nat.le_of_ble_eq_true rfl) ⟨Nat.zero_le _, Nat.zero_le _⟩ dX8_turns_14 (st2 := [.int (f_X8_size r1), .int r2, .int 4, .ref (a 1)]) rfl ?_
  refine z_iadd dX8_turns_17 ?_
  obtain ⟨r3, er3, h⟩ := zb h
  refine z_iast ([dX8 g a u.1 r3 u.2.2.1 u.2.2.2.1 u.2.2.2.2.1 u.2.2.2.2.2.1 u.2.2.2.2.2.2.1 u.2.2.2.2.2.2.2.1 u.2.2.2.2.2.2.2.2.1 u.2.2.2.2.2.2.2.2.2.1 u.2.2.2.2.2.2.2.2.2.2.1 u.2.2.2.2.2.2.2.2.2.2.2.1 u.2.2.2.2.2.2.2.2.2.2.2.2.1 u.2.2.2.2.2.2.2.2.2.2.2.2.2.1 u.2.2.2.2.2.2.2.2.2.2.2.2.2.2.1 u.2.2.2.2.2.2.2.2.2.2.2.2.2.2.2]) 0 rfl 1 rfl er3 rfl dX8_turns_18 ?_
  refine z_aload_n 1 rfl rfl dX8_turns_19 ?_
  refine z_get zcX8 0 rfl 0 rfl 1 (Nat.le_of_ble_eq_true rfl) zfX8_7 (v := .ref (a 1)) rfl dX8_turns_20 ?_
  refine z_iconst (v := 5) (by decide) dX8_turns_23 ?_
  refine z_dup2 rfl rfl dX8_turns_24 ?_
  obtain ⟨r4, er4, h⟩ := zb h
  refine z_iald 0 rfl 1 rfl er4 dX8_turns_25 ?_
  refine z_iload_n 0 rfl rfl dX8_turns_26 ?_
  obtain ⟨j5, ej5, h⟩ := zb h
  have Kj5 : Z true RX8 cX8_turns 3 4 95 g X 0 0 ([dX8 g a u.1 r3 u.2.2.1 u.2.2.2.1 u.2.2.2.2.1 u.2.2.2.2.2.1 u.2.2.2.2.2.2.1 u.2.2.2.2.2.2.2.1 u.2.2.2.2.2.2.2.2.1 u.2.2.2.2.2.2.2.2.2.1 u.2.2.2.2.2.2.2.2.2.2.1 u.2.2.2.2.2.2.2.2.2.2.2.1 u.2.2.2.2.2.2.2.2.2.2.2.2.1 u.2.2.2.2.2.2.2.2.2.2.2.2.2.1 u.2.2.2.2.2.2.2.2.2.2.2.2.2.2.1 u.2.2.2.2.2.2.2.2.2.2.2.2.2.2.2]) [(0, .ref (a 0)), (1, .int p0), (2, .int r1)] 36 [.int j5, .int r4, .int 5, .ref (a 1)] := by
    refine z_iadd dX8_turns_36 ?_
    obtain ⟨r6, er6, h⟩ := zb h
    refine z_iast ([dX8 g a u.1 r6 u.2.2.1 u.2.2.2.1 u.2.2.2.2.1 u.2.2.2.2.2.1 u.2.2.2.2.2.2.1 u.2.2.2.2.2.2.2.1 u.2.2.2.2.2.2.2.2.1 u.2.2.2.2.2.2.2.2.2.1 u.2.2.2.2.2.2.2.2.2.2.1 u.2.2.2.2.2.2.2.2.2.2.2.1 u.2.2.2.2.2.2.2.2.2.2.2.2.1 u.2.2.2.2.2.2.2.2.2.2.2.2.2.1 u.2.2.2.2.2.2.2.2.2.2.2.2.2.2.1 u.2.2.2.2.2.2.2.2.2.2.2.2.2.2.2]) 0 rfl 1 rfl er6 rfl dX8_turns_37 ?_
    refine z_aload_n 0 rfl rfl dX8_turns_38 ?_
    refine z_get zcX8 0 rfl 0 rfl 1 (Nat.le_of_ble_eq_true rfl) zfX8_7 (v := .ref (a 1)) rfl dX8_turns_39 ?_
    refine z_bipush (v := 6) (by decide) dX8_turns_42 ?_
    refine z_dup2 rfl rfl dX8_turns_44 ?_
    obtain ⟨r7, er7, h⟩ := zb h
    refine z_iald 0 rfl 1 rfl er7 dX8_turns_45 ?_
    refine z_iload_n 2 rfl rfl dX8_turns_46 ?_
    refine z_bipush (v := 6) (by decide) dX8_turns_47 ?_
    refine z_icmp_gt (tgt := 58) rfl dX8_turns_49 (fun c49 => ?_) (fun c49 => ?_)
    · replace h := (if_pos c49).symm.trans h
      refine z_iconst (v := 1) (by decide) dX8_turns_58 ?_
      refine z_goto (tgt := 63) rfl dX8_turns_59 ?_
      refine z_iadd dX8_turns_63 ?_
      obtain ⟨r8, er8, h⟩ := zb h
      refine z_iast ([dX8 g a u.1 r8 u.2.2.1 u.2.2.2.1 u.2.2.2.2.1 u.2.2.2.2.2.1 u.2.2.2.2.2.2.1 u.2.2.2.2.2.2.2.1 u.2.2.2.2.2.2.2.2.1 u.2.2.2.2.2.2.2.2.2.1 u.2.2.2.2.2.2.2.2.2.2.1 u.2.2.2.2.2.2.2.2.2.2.2.1 u.2.2.2.2.2.2.2.2.2.2.2.2.1 u.2.2.2.2.2.2.2.2.2.2.2.2.2.1 u.2.2.2.2.2.2.2.2.2.2.2.2.2.2.1 u.2.2.2.2.2.2.2.2.2.2.2.2.2.2.2]) 0 rfl 1 rfl er8 rfl dX8_turns_64 ?_
      refine z_aload_n 0 rfl rfl dX8_turns_65 ?_
      refine z_get zcX8 0 rfl 0 rfl 1 (Nat.le_of_ble_eq_true rfl) zfX8_7 (v := .ref (a 1)) rfl dX8_turns_66 ?_
      refine z_iconst (v := 3) (by decide) dX8_turns_69 ?_
      refine z_iload_n 1 rfl rfl dX8_turns_70 ?_
      obtain ⟨r9, er9, h⟩ := zb h
      refine z_iast ([dX8 g a u.1 r9 u.2.2.1 u.2.2.2.1 u.2.2.2.2.1 u.2.2.2.2.2.1 u.2.2.2.2.2.2.1 u.2.2.2.2.2.2.2.1 u.2.2.2.2.2.2.2.2.1 u.2.2.2.2.2.2.2.2.2.1 u.2.2.2.2.2.2.2.2.2.2.1 u.2.2.2.2.2.2.2.2.2.2.2.1 u.2.2.2.2.2.2.2.2.2.2.2.2.1 u.2.2.2.2.2.2.2.2.2.2.2.2.2.1 u.2.2.2.2.2.2.2.2.2.2.2.2.2.2.1 u.2.2.2.2.2.2.2.2.2.2.2.2.2.2.2]) 0 rfl 1 rfl er9 rfl dX8_turns_71 ?_
      cases h
      exact z_vret dX8_turns_72 hQ
    · replace h := (if_neg c49).symm.trans h
      refine z_iload_n 2 rfl rfl dX8_turns_52 ?_
      refine z_bipush (v := (-5)) (by decide) dX8_turns_53 ?_
      refine z_icmp_ge (tgt := 62) rfl dX8_turns_55 (fun c55 => ?_) (fun c55 => ?_)
      · replace h := (if_pos c55).symm.trans h
        refine z_iconst (v := 0) (by decide) dX8_turns_62 ?_
        refine z_iadd dX8_turns_63 ?_
        obtain ⟨r10, er10, h⟩ := zb h
        refine z_iast ([dX8 g a u.1 r10 u.2.2.1 u.2.2.2.1 u.2.2.2.2.1 u.2.2.2.2.2.1 u.2.2.2.2.2.2.1 u.2.2.2.2.2.2.2.1 u.2.2.2.2.2.2.2.2.1 u.2.2.2.2.2.2.2.2.2.1 u.2.2.2.2.2.2.2.2.2.2.1 u.2.2.2.2.2.2.2.2.2.2.2.1 u.2.2.2.2.2.2.2.2.2.2.2.2.1 u.2.2.2.2.2.2.2.2.2.2.2.2.2.1 u.2.2.2.2.2.2.2.2.2.2.2.2.2.2.1 u.2.2.2.2.2.2.2.2.2.2.2.2.2.2.2]) 0 rfl 1 rfl er10 rfl dX8_turns_64 ?_
        refine z_aload_n 0 rfl rfl dX8_turns_65 ?_
        refine z_get zcX8 0 rfl 0 rfl 1 (Nat.le_of_ble_eq_true rfl) zfX8_7 (v := .ref (a 1)) rfl dX8_turns_66 ?_
        refine z_iconst (v := 3) (by decide) dX8_turns_69 ?_
        refine z_iload_n 1 rfl rfl dX8_turns_70 ?_
        obtain ⟨r11, er11, h⟩ := zb h
        refine z_iast ([dX8 g a u.1 r11 u.2.2.1 u.2.2.2.1 u.2.2.2.2.1 u.2.2.2.2.2.1 u.2.2.2.2.2.2.1 u.2.2.2.2.2.2.2.1 u.2.2.2.2.2.2.2.2.1 u.2.2.2.2.2.2.2.2.2.1 u.2.2.2.2.2.2.2.2.2.2.1 u.2.2.2.2.2.2.2.2.2.2.2.1 u.2.2.2.2.2.2.2.2.2.2.2.2.1 u.2.2.2.2.2.2.2.2.2.2.2.2.2.1 u.2.2.2.2.2.2.2.2.2.2.2.2.2.2.1 u.2.2.2.2.2.2.2.2.2.2.2.2.2.2.2]) 0 rfl 1 rfl er11 rfl dX8_turns_71 ?_
        cases h
        exact z_vret dX8_turns_72 hQ
      · replace h := (if_neg c55).symm.trans h
        refine z_iconst (v := 1) (by decide) dX8_turns_58 ?_
        refine z_goto (tgt := 63) rfl dX8_turns_59 ?_
        refine z_iadd dX8_turns_63 ?_
        obtain ⟨r12, er12, h⟩ := zb h
        refine z_iast ([dX8 g a u.1 r12 u.2.2.1 u.2.2.2.1 u.2.2.2.2.1 u.2.2.2.2.2.1 u.2.2.2.2.2.2.1 u.2.2.2.2.2.2.2.1 u.2.2.2.2.2.2.2.2.1 u.2.2.2.2.2.2.2.2.2.1 u.2.2.2.2.2.2.2.2.2.2.1 u.2.2.2.2.2.2.2.2.2.2.2.1 u.2.2.2.2.2.2.2.2.2.2.2.2.1 u.2.2.2.2.2.2.2.2.2.2.2.2.2.1 u.2.2.2.2.2.2.2.2.2.2.2.2.2.2.1 u.2.2.2.2.2.2.2.2.2.2.2.2.2.2.2]) 0 rfl 1 rfl er12 rfl dX8_turns_64 ?_
        refine z_aload_n 0 rfl rfl dX8_turns_65 ?_
        refine z_get zcX8 0 rfl 0 rfl 1 (Nat.le_of_ble_eq_true rfl) zfX8_7 (v := .ref (a 1)) rfl dX8_turns_66 ?_
        refine z_iconst (v := 3) (by decide) dX8_turns_69 ?_
        refine z_iload_n 1 rfl rfl dX8_turns_70 ?_
        obtain ⟨r13, er13, h⟩ := zb h
        refine z_iast ([dX8 g a u.1 r13 u.2.2.1 u.2.2.2.1 u.2.2.2.2.1 u.2.2.2.2.2.1 u.2.2.2.2.2.2.1 u.2.2.2.2.2.2.2.1 u.2.2.2.2.2.2.2.2.1 u.2.2.2.2.2.2.2.2.2.1 u.2.2.2.2.2.2.2.2.2.2.1 u.2.2.2.2.2.2.2.2.2.2.2.1 u.2.2.2.2.2.2.2.2.2.2.2.2.1 u.2.2.2.2.2.2.2.2.2.2.2.2.2.1 u.2.2.2.2.2.2.2.2.2.2.2.2.2.2.1 u.2.2.2.2.2.2.2.2.2.2.2.2.2.2.2]) 0 rfl 1 rfl er13 rfl dX8_turns_71 ?_
        cases h
        exact z_vret dX8_turns_72 hQ
  clear h
  refine z_if_ge (tgt := 35) rfl dX8_turns_27 (fun c27 => ?_) (fun c27 => ?_)
  · replace ej5 := (if_pos c27).symm.trans ej5
    refine z_iconst (v := 0) (by decide) dX8_turns_35 ?_
    cases ej5
    exact z_lv [1, 2, 0] rfl Kj5
  · replace ej5 := (if_neg c27).symm.trans ej5
    refine z_iload_n 0 rfl rfl dX8_turns_30 ?_
    refine z_ineg dX8_turns_31 ?_
    refine z_goto (tgt := 36) rfl dX8_turns_32 ?_
    cases ej5
    exact z_lv [1, 2, 0] rfl Kj5
set_option maxHeartbeats 400000 in
set_option maxRecDepth 100000 in
theorem c_X8_reason (l : Launch) (g : zG) (a : Nat → Nat) (u : tX8) (p0 : Int32) (r : Int32) (h : f_X8_reason u p0 = some r) : Ctr l g false yX8_reason cX8_reason 3 (some .int) 4 95 0 0 [.ref (a 0), .int p0] ([cX8 g a u]) ([cX8 g a u]) (some (.int r)) := by
  refine ctr_of (by decide) (Nat.le_of_ble_eq_true rfl) (fun X hl _ _ _ hQ => ?_)
  unfold f_X8_reason at h
  refine z_lv (lv' := [(0, .ref (a 0)), (1, .int p0)]) [0, 1] rfl ?_
  refine z_aload_n 0 rfl rfl dX8_reason_0 ?_
  refine z_iload_n 1 rfl rfl dX8_reason_1 ?_
  obtain ⟨r1, er1, h⟩ := zb h
  refine z_callVR (rest := []) hl (c_X8_placeOfItem l g a u p0 _ er1) zyX8_placeOfItem zvX8_placeOfItem rfl zlX8_70 zcX8.1 ⟨_, _, rfl⟩ [(0, none)] rfl rfl rfl (by decide) (Nat.le_of_ble_eq_true rfl) ⟨Nat.zero_le _, Nat.zero_le _⟩ dX8_reason_2 (st2 := [.int r1]) rfl ?_
  refine z_istore_n [(2, .int r1), (0, .ref (a 0)), (1, .int p0)] rfl (Nat.le_of_ble_eq_true rfl) rfl dX8_reason_5 ?_
  refine z_iload_n 0 rfl rfl dX8_reason_6 ?_
  refine z_iconst (v := (-1)) (by decide) dX8_reason_7 ?_
  refine z_icmp_ne (tgt := 13) rfl dX8_reason_8 (fun c8 => ?_) (fun c8 => ?_)
  · replace h := (if_neg c8).symm.trans h
    refine z_aload_n 1 rfl rfl dX8_reason_13 ?_
    refine z_get zcX8 0 rfl 0 rfl 1 (Nat.le_of_ble_eq_true rfl) zfX8_7 (v := .ref (a 1)) rfl dX8_reason_14 ?_
    refine z_bipush (v := 10) (by decide) dX8_reason_17 ?_
    refine z_aload_n 1 rfl rfl dX8_reason_19 ?_
    refine z_iload_n 0 rfl rfl dX8_reason_20 ?_
    refine z_iconst (v := 2) (by decide) dX8_reason_21 ?_
    obtain ⟨r2, er2, h⟩ := zb h
    refine z_callVR (rest := [.int 10, .ref (a 1)]) hl (c_X8_of l g a u r1 2 _ er2) zyX8_of zvX8_of rfl zlX8_49 zcX8.1 ⟨_, _, rfl⟩ [(0, none)] rfl rfl rfl (by decide) (Nat.le_of_ble_eq_true rfl) ⟨Nat.zero_le _, Nat.zero_le _⟩ dX8_reason_22 (st2 := [.int r2, .int 10, .ref (a 1)]) rfl ?_
    refine z_iadd dX8_reason_25 ?_
    obtain ⟨r3, er3, h⟩ := zb h
    refine z_iald 0 rfl 1 rfl er3 dX8_reason_26 ?_
    refine z_iconst (v := 1) (by decide) dX8_reason_27 ?_
    refine z_icmp_ne (tgt := 35) rfl dX8_reason_28 (fun c28 => ?_) (fun c28 => ?_)
    · replace h := (if_neg c28).symm.trans h
      refine z_aload_n 1 rfl rfl dX8_reason_35 ?_
      refine z_aload_n 1 rfl rfl dX8_reason_36 ?_
      refine z_iload_n 0 rfl rfl dX8_reason_37 ?_
      refine z_iconst (v := 2) (by decide) dX8_reason_38 ?_
      obtain ⟨r4, er4, h⟩ := zb h
      refine z_callVR (rest := [.ref (a 0)]) hl (c_X8_of l g a u r1 2 _ er4) zyX8_of zvX8_of rfl zlX8_49 zcX8.1 ⟨_, _, rfl⟩ [(0, none)] rfl rfl rfl (by decide) (Nat.le_of_ble_eq_true rfl) ⟨Nat.zero_le _, Nat.zero_le _⟩ dX8_reason_39 (st2 := [.int r4, .ref (a 0)]) rfl ?_
      obtain ⟨r5, er5, h⟩ := zb h
      refine z_callVR (rest := []) hl (c_X8_wayTo l g a u r4 _ er5) zyX8_wayTo zvX8_wayTo rfl zlX8_64 zcX8.1 ⟨_, _, rfl⟩ [(0, none)] rfl rfl rfl (by decide) (Nat.le_of_ble_eq_true rfl) ⟨Nat.zero_le _, Nat.zero_le _⟩ dX8_reason_42 (st2 := [.int r5]) rfl ?_
      refine z_bipush (v := 99) (by decide) dX8_reason_45 ?_
      refine z_icmp_ne (tgt := 54) rfl dX8_reason_47 (fun c47 => ?_) (fun c47 => ?_)
      · replace h := (if_neg c47).symm.trans h
        refine z_iconst (v := 0) (by decide) dX8_reason_54 ?_
        cases h
        exact z_iret dX8_reason_55 hQ
      · replace h := (if_pos c47).symm.trans h
        refine z_iconst (v := 3) (by decide) dX8_reason_50 ?_
        refine z_goto (tgt := 55) rfl dX8_reason_51 ?_
        cases h
        exact z_iret dX8_reason_55 hQ
    · replace h := (if_pos c28).symm.trans h
      refine z_iconst (v := 2) (by decide) dX8_reason_31 ?_
      refine z_goto (tgt := 55) rfl dX8_reason_32 ?_
      cases h
      exact z_iret dX8_reason_55 hQ
  · replace h := (if_pos c8).symm.trans h
    refine z_iconst (v := 1) (by decide) dX8_reason_11 ?_
    cases h
    exact z_iret dX8_reason_12 hQ
set_option maxHeartbeats 400000 in
set_option maxRecDepth 100000 in
theorem c_X8_stepsTo (l : Launch) (g : zG) (a : Nat → Nat) (u : tX8) (p0 : Int32) (r : Int32) (h : f_X8_stepsTo u p0 = some r) : Ctr l g false yX8_stepsTo cX8_stepsTo 2 (some .int) 4 95 0 0 [.ref (a 0), .int p0] ([cX8 g a u]) ([cX8 g a u]) (some (.int r)) := by
  refine ctr_of (by decide) (Nat.le_of_ble_eq_true rfl) (fun X hl _ _ _ hQ => ?_)
  unfold f_X8_stepsTo at h
  refine z_lv (lv' := [(0, .ref (a 0)), (1, .int p0)]) [0, 1] rfl ?_
  refine z_aload_n 0 rfl rfl dX8_stepsTo_0 ?_
  refine z_aload_n 0 rfl rfl dX8_stepsTo_1 ?_
  refine z_aload_n 0 rfl rfl dX8_stepsTo_2 ?_
  refine z_iload_n 1 rfl rfl dX8_stepsTo_3 ?_
  obtain ⟨r1, er1, h⟩ := zb h
  refine z_callVR (rest := [.ref (a 0), .ref (a 0)]) hl (c_X8_placeOfItem l g a u p0 _ er1) zyX8_placeOfItem zvX8_placeOfItem rfl zlX8_70 zcX8.1 ⟨_, _, rfl⟩ [(0, none)] rfl rfl rfl (by decide) (Nat.le_of_ble_eq_true rfl) ⟨Nat.zero_le _, Nat.zero_le _⟩ dX8_stepsTo_4 (st2 := [.int r1, .ref (a 0), .ref (a 0)]) rfl ?_
  refine z_iconst (v := 2) (by decide) dX8_stepsTo_7 ?_
  obtain ⟨r2, er2, h⟩ := zb h
  refine z_callVR (rest := [.ref (a 0)]) hl (c_X8_of l g a u r1 2 _ er2) zyX8_of zvX8_of rfl zlX8_49 zcX8.1 ⟨_, _, rfl⟩ [(0, none)] rfl rfl rfl (by decide) (Nat.le_of_ble_eq_true rfl) ⟨Nat.zero_le _, Nat.zero_le _⟩ dX8_stepsTo_8 (st2 := [.int r2, .ref (a 0)]) rfl ?_
  obtain ⟨r3, er3, h⟩ := zb h
  refine z_callVR (rest := []) hl (c_X8_wayTo l g a u r2 _ er3) zyX8_wayTo zvX8_wayTo rfl zlX8_64 zcX8.1 ⟨_, _, rfl⟩ [(0, none)] rfl rfl rfl (by decide) (Nat.le_of_ble_eq_true rfl) ⟨Nat.zero_le _, Nat.zero_le _⟩ dX8_stepsTo_11 (st2 := [.int r3]) rfl ?_
  refine z_callSR (rest := []) hl (c_X8_size l g r3 _ rfl) zyX8_size zsX8_size zlX8_67 [] rfl rfl rfl (by decide) (Nat.le_of_ble_eq_true rfl) ⟨Nat.zero_le _, Nat.zero_le _⟩ dX8_stepsTo_14 (st2 := [.int (f_X8_size r3)]) rfl ?_
  cases h
  exact z_iret dX8_stepsTo_17 hQ
set_option maxHeartbeats 400000 in
set_option maxRecDepth 100000 in
theorem c_X8_picks (l : Launch) (g : zG) (a : Nat → Nat) (u : tX8) (p0 : Int32) (r : Int32 × tX8) (h : f_X8_picks u p0 = some r) : Ctr l g true yX8_picks cX8_picks 4 (some .int) 5 117 0 0 [.ref (a 0), .int p0] ([cX8 g a u]) ([cX8 g a r.2]) (some (.int r.1)) := by
  refine ctr_of (by decide) (Nat.le_of_ble_eq_true rfl) (fun X hl _ _ _ hQ => ?_)
  unfold f_X8_picks at h
  refine z_lv (lv' := [(0, .ref (a 0)), (1, .int p0)]) [0, 1] rfl ?_
  refine z_aload_n 0 rfl rfl dX8_picks_0 ?_
  refine z_iload_n 1 rfl rfl dX8_picks_1 ?_
  obtain ⟨r1, er1, h⟩ := zb h
  refine z_callVR (rest := []) hl (c_X8_stepsTo l g a u p0 _ er1) zyX8_stepsTo zvX8_stepsTo rfl zlX8_73 zcX8.1 ⟨_, _, rfl⟩ [(0, none)] rfl rfl rfl (by decide) (Nat.le_of_ble_eq_true rfl) ⟨Nat.zero_le _, Nat.zero_le _⟩ dX8_picks_2 (st2 := [.int r1]) rfl ?_
  refine z_istore_n [(2, .int r1), (0, .ref (a 0)), (1, .int p0)] rfl (Nat.le_of_ble_eq_true rfl) rfl dX8_picks_5 ?_
  refine z_aload_n 1 rfl rfl dX8_picks_6 ?_
  refine z_iload_n 2 rfl rfl dX8_picks_7 ?_
  obtain ⟨r2, er2, h⟩ := zb h
  refine z_callVR (rest := []) hl (c_X8_placeOfItem l g a u p0 _ er2) zyX8_placeOfItem zvX8_placeOfItem rfl zlX8_70 zcX8.1 ⟨_, _, rfl⟩ [(0, none)] rfl rfl rfl (by decide) (Nat.le_of_ble_eq_true rfl) ⟨Nat.zero_le _, Nat.zero_le _⟩ dX8_picks_8 (st2 := [.int r2]) rfl ?_
  refine z_istore_n [(3, .int r2), (2, .int r1), (0, .ref (a 0)), (1, .int p0)] rfl (Nat.le_of_ble_eq_true rfl) rfl dX8_picks_11 ?_
  refine z_aload_n 2 rfl rfl dX8_picks_12 ?_
  refine z_aload_n 2 rfl rfl dX8_picks_13 ?_
  refine z_iload_n 0 rfl rfl dX8_picks_14 ?_
  refine z_iconst (v := 2) (by decide) dX8_picks_15 ?_
  obtain ⟨r3, er3, h⟩ := zb h
  refine z_callVR (rest := [.ref (a 0)]) hl (c_X8_of l g a u r2 2 _ er3) zyX8_of zvX8_of rfl zlX8_49 zcX8.1 ⟨_, _, rfl⟩ [(0, none)] rfl rfl rfl (by decide) (Nat.le_of_ble_eq_true rfl) ⟨Nat.zero_le _, Nat.zero_le _⟩ dX8_picks_16 (st2 := [.int r3, .ref (a 0)]) rfl ?_
  obtain ⟨r4, er4, h⟩ := zb h
  refine z_callVW (rest := []) hl (c_X8_turns l g a u r3 _ er4) zyX8_turns zvX8_turns rfl zlX8_76 zcX8.1 ⟨_, _, rfl⟩ [(0, none)] rfl (by decide) rfl (w' := [cX8 g a r4]) rfl rfl rfl (by decide) (Nat.le_of_ble_eq_true rfl) ⟨Nat.zero_le _, Nat.zero_le _⟩ dX8_picks_19 (st2 := []) rfl ?_
  refine z_aload_n 2 rfl rfl dX8_picks_22 ?_
  refine z_iload_n 0 rfl rfl dX8_picks_23 ?_
  obtain ⟨r5, er5, h⟩ := zb h
  refine z_callVW (rest := []) hl (c_X8_goes l g a r4 r2 _ er5) zyX8_goes zvX8_goes rfl zlX8_80 zcX8.1 ⟨_, _, rfl⟩ [(0, none)] rfl (by decide) rfl (w' := [cX8 g a r5]) rfl rfl rfl (by decide) (Nat.le_of_ble_eq_true rfl) ⟨Nat.zero_le _, Nat.zero_le _⟩ dX8_picks_24 (st2 := []) rfl ?_
  refine z_aload_n 2 rfl rfl dX8_picks_27 ?_
  refine z_get zcX8 0 rfl 0 rfl 1 (Nat.le_of_ble_eq_true rfl) zfX8_7 (v := .ref (a 1)) rfl dX8_picks_28 ?_
  refine z_bipush (v := 7) (by decide) dX8_picks_31 ?_
  refine z_dup2 rfl rfl dX8_picks_33 ?_
  obtain ⟨r6, er6, h⟩ := zb h
  refine z_iald 0 rfl 1 rfl er6 dX8_picks_34 ?_
  refine z_iconst (v := 1) (by decide) dX8_picks_35 ?_
  refine z_iadd dX8_picks_36 ?_
  obtain ⟨r7, er7, h⟩ := zb h
  refine z_iast ([dX8 g a r5.1 r7 r5.2.2.1 r5.2.2.2.1 r5.2.2.2.2.1 r5.2.2.2.2.2.1 r5.2.2.2.2.2.2.1 r5.2.2.2.2.2.2.2.1 r5.2.2.2.2.2.2.2.2.1 r5.2.2.2.2.2.2.2.2.2.1 r5.2.2.2.2.2.2.2.2.2.2.1 r5.2.2.2.2.2.2.2.2.2.2.2.1 r5.2.2.2.2.2.2.2.2.2.2.2.2.1 r5.2.2.2.2.2.2.2.2.2.2.2.2.2.1 r5.2.2.2.2.2.2.2.2.2.2.2.2.2.2.1 r5.2.2.2.2.2.2.2.2.2.2.2.2.2.2.2]) 0 rfl 1 rfl er7 rfl dX8_picks_37 ?_
  refine z_iload_n 1 rfl rfl dX8_picks_38 ?_
  cases h
  try dsimp only at hQ
  exact z_iret dX8_picks_39 hQ
set_option maxHeartbeats 400000 in
set_option maxRecDepth 100000 in
theorem c_X8_picksBy_order (l : Launch) (g : zG) (a : Nat → Nat) (u : tX8) (r : Int32 × tX8) (h : f_X8_picksBy_order u = some r) : Ctr l g true yX8_picksBy cX8_picksBy 3 (some .int) 6 140 0 0 [.ref (a 0), .ref (a 6)] ([cX8 g a u]) ([cX8 g a r.2]) (some (.int r.1)) := by
  refine ctr_of (by decide) (Nat.le_of_ble_eq_true rfl) (fun X hl _ _ _ hQ => ?_)
  unfold f_X8_picksBy_order at h
  refine z_lv (lv' := [(0, .ref (a 0)), (1, .ref (a 6))]) [0, 1] rfl ?_
  refine z_iconst (v := 0) (by decide) dX8_picksBy_0 ?_
  refine z_istore_n [(2, .int 0), (0, .ref (a 0)), (1, .ref (a 6))] rfl (Nat.le_of_ble_eq_true rfl) rfl dX8_picksBy_1 ?_
  obtain ⟨z1, ez1, h⟩ := zb h
  refine z_lv (lv' := [(0, .ref (a 0)), (1, .ref (a 6)), (2, .int 0)]) [1, 2, 0] rfl ?_
  suffices hk2 : (fun (s2 : Int32 × tX8) => Z true RX8 cX8_picksBy 3 6 140 g X 0 0 ([cX8 g a s2.2]) [(0, .ref (a 0)), (1, .ref (a 6)), (2, .int s2.1)] 2 []) (0, u) by try dsimp only at hk2; exact hk2
  refine lp_ind (σ := Int32 × tX8) (ε := Int32 × tX8) b_X8_picksBy_order_2 (fun s2 => Z true RX8 cX8_picksBy 3 6 140 g X 0 0 ([cX8 g a s2.2]) [(0, .ref (a 0)), (1, .ref (a 6)), (2, .int s2.1)] 2 []) (fun z1 => Z true RX8 cX8_picksBy 3 6 140 g X 0 0 ([cX8 g a z1.2]) [(2, .int z1.1)] 44 []) (fun s2 q2 h2 i2 x2 => ?_) 5000 (0, u) z1 ez1 ?_
  · unfold b_X8_picksBy_order_2 at h2
    refine z_iload_n 2 rfl rfl dX8_picksBy_2 ?_
    refine z_aload_n 0 rfl rfl dX8_picksBy_3 ?_
    refine z_get zcX8 0 rfl 0 rfl 10 (Nat.le_of_ble_eq_true rfl) zfX8_83 (v := .int s2.2.2.2.2.2.2.2.2.2.2.2.1) rfl dX8_picksBy_4 ?_
    refine z_icmp_ge (tgt := 44) rfl dX8_picksBy_7 (fun c7 => ?_) (fun c7 => ?_)
    · replace h2 := (if_pos c7).symm.trans h2
      cases h2
      have k2 := x2 (s2.1, s2.2) rfl
      try dsimp only at k2
      exact z_lv [2] rfl k2
    · replace h2 := (if_neg c7).symm.trans h2
      refine z_aload_n 0 rfl rfl dX8_picksBy_10 ?_
      refine z_aload_n 0 rfl rfl dX8_picksBy_11 ?_
      refine z_get zcX8 0 rfl 0 rfl 9 (Nat.le_of_ble_eq_true rfl) zfX8_22 (v := .ref (a 5)) rfl dX8_picksBy_12 ?_
      refine z_aload_n 1 rfl rfl dX8_picksBy_15 ?_
      refine z_iload_n 2 rfl rfl dX8_picksBy_16 ?_
      obtain ⟨r2, er2, h2⟩ := zb h2
      refine z_iald 0 rfl 6 rfl er2 dX8_picksBy_17 ?_
      obtain ⟨r3, er3, h2⟩ := zb h2
      refine z_iald 0 rfl 5 rfl er3 dX8_picksBy_18 ?_
      obtain ⟨r4, er4, h2⟩ := zb h2
      refine z_callVR (rest := []) hl (c_X8_reason l g a s2.2 r3 _ er4) zyX8_reason zvX8_reason rfl zlX8_86 zcX8.1 ⟨_, _, rfl⟩ [(0, none)] rfl rfl rfl (by decide) (Nat.le_of_ble_eq_true rfl) ⟨Nat.zero_le _, Nat.zero_le _⟩ dX8_picksBy_19 (st2 := [.int r4]) rfl ?_
      refine z_if_ne (tgt := 44) rfl dX8_picksBy_22 (fun c22 => ?_) (fun c22 => ?_)
      · replace h2 := (if_neg c22).symm.trans h2
        cases h2
        have k2 := x2 (s2.1, s2.2) rfl
        try dsimp only at k2
        exact z_lv [2] rfl k2
      · replace h2 := (if_pos c22).symm.trans h2
        refine z_aload_n 0 rfl rfl dX8_picksBy_25 ?_
        refine z_aload_n 0 rfl rfl dX8_picksBy_26 ?_
        refine z_get zcX8 0 rfl 0 rfl 9 (Nat.le_of_ble_eq_true rfl) zfX8_22 (v := .ref (a 5)) rfl dX8_picksBy_27 ?_
        refine z_aload_n 1 rfl rfl dX8_picksBy_30 ?_
        refine z_iload_n 2 rfl rfl dX8_picksBy_31 ?_
        obtain ⟨r5, er5, h2⟩ := zb h2
        refine z_iald 0 rfl 6 rfl er5 dX8_picksBy_32 ?_
        obtain ⟨r6, er6, h2⟩ := zb h2
        refine z_iald 0 rfl 5 rfl er6 dX8_picksBy_33 ?_
        obtain ⟨r7, er7, h2⟩ := zb h2
        refine z_callVW (rest := []) hl (c_X8_picks l g a s2.2 r6 _ er7) zyX8_picks zvX8_picks rfl zlX8_89 zcX8.1 ⟨_, _, rfl⟩ [(0, none)] rfl (by decide) rfl (w' := [cX8 g a r7.2]) rfl rfl rfl (by decide) (Nat.le_of_ble_eq_true rfl) ⟨Nat.zero_le _, Nat.zero_le _⟩ dX8_picksBy_34 (st2 := [.int r7.1]) rfl ?_
        refine z_pop rfl dX8_picksBy_37 ?_
        refine z_iinc 2 [(2, .int (s2.1 + 1)), (0, .ref (a 0)), (1, .ref (a 6))] rfl (v := (s2.1 + 1)) zinc (Nat.le_of_ble_eq_true rfl) rfl dX8_picksBy_38 ?_
        refine z_goto (tgt := 2) rfl dX8_picksBy_41 ?_
        cases h2
        have k2 := i2 ((s2.1 + 1), r7.2) rfl
        try dsimp only at k2
        exact z_lv [1, 2, 0] rfl k2
  · skip
    refine z_iload_n 0 rfl rfl dX8_picksBy_44 ?_
    cases h
    try dsimp only at hQ
    exact z_iret dX8_picksBy_45 hQ
set_option maxHeartbeats 400000 in
set_option maxRecDepth 100000 in
theorem c_X8_picksBy_bestOrder (l : Launch) (g : zG) (a : Nat → Nat) (u : tX8) (r : Int32 × tX8) (h : f_X8_picksBy_bestOrder u = some r) : Ctr l g true yX8_picksBy cX8_picksBy 3 (some .int) 6 140 0 0 [.ref (a 0), .ref (a 7)] ([cX8 g a u]) ([cX8 g a r.2]) (some (.int r.1)) := by
  refine ctr_of (by decide) (Nat.le_of_ble_eq_true rfl) (fun X hl _ _ _ hQ => ?_)
  unfold f_X8_picksBy_bestOrder at h
  refine z_lv (lv' := [(0, .ref (a 0)), (1, .ref (a 7))]) [0, 1] rfl ?_
  refine z_iconst (v := 0) (by decide) dX8_picksBy_0 ?_
  refine z_istore_n [(2, .int 0), (0, .ref (a 0)), (1, .ref (a 7))] rfl (Nat.le_of_ble_eq_true rfl) rfl dX8_picksBy_1 ?_
  obtain ⟨z1, ez1, h⟩ := zb h
  refine z_lv (lv' := [(0, .ref (a 0)), (1, .ref (a 7)), (2, .int 0)]) [1, 2, 0] rfl ?_
  suffices hk2 : (fun (s2 : Int32 × tX8) => Z true RX8 cX8_picksBy 3 6 140 g X 0 0 ([cX8 g a s2.2]) [(0, .ref (a 0)), (1, .ref (a 7)), (2, .int s2.1)] 2 []) (0, u) by try dsimp only at hk2; exact hk2
  refine lp_ind (σ := Int32 × tX8) (ε := Int32 × tX8) b_X8_picksBy_bestOrder_2 (fun s2 => Z true RX8 cX8_picksBy 3 6 140 g X 0 0 ([cX8 g a s2.2]) [(0, .ref (a 0)), (1, .ref (a 7)), (2, .int s2.1)] 2 []) (fun z1 => Z true RX8 cX8_picksBy 3 6 140 g X 0 0 ([cX8 g a z1.2]) [(2, .int z1.1)] 44 []) (fun s2 q2 h2 i2 x2 => ?_) 5000 (0, u) z1 ez1 ?_
  · unfold b_X8_picksBy_bestOrder_2 at h2
    refine z_iload_n 2 rfl rfl dX8_picksBy_2 ?_
    refine z_aload_n 0 rfl rfl dX8_picksBy_3 ?_
    refine z_get zcX8 0 rfl 0 rfl 10 (Nat.le_of_ble_eq_true rfl) zfX8_83 (v := .int s2.2.2.2.2.2.2.2.2.2.2.2.1) rfl dX8_picksBy_4 ?_
    refine z_icmp_ge (tgt := 44) rfl dX8_picksBy_7 (fun c7 => ?_) (fun c7 => ?_)
    · replace h2 := (if_pos c7).symm.trans h2
      cases h2
      have k2 := x2 (s2.1, s2.2) rfl
      try dsimp only at k2
      exact z_lv [2] rfl k2
    · replace h2 := (if_neg c7).symm.trans h2
      refine z_aload_n 0 rfl rfl dX8_picksBy_10 ?_
      refine z_aload_n 0 rfl rfl dX8_picksBy_11 ?_
      refine z_get zcX8 0 rfl 0 rfl 9 (Nat.le_of_ble_eq_true rfl) zfX8_22 (v := .ref (a 5)) rfl dX8_picksBy_12 ?_
      refine z_aload_n 1 rfl rfl dX8_picksBy_15 ?_
      refine z_iload_n 2 rfl rfl dX8_picksBy_16 ?_
      obtain ⟨r2, er2, h2⟩ := zb h2
      refine z_iald 0 rfl 7 rfl er2 dX8_picksBy_17 ?_
      obtain ⟨r3, er3, h2⟩ := zb h2
      refine z_iald 0 rfl 5 rfl er3 dX8_picksBy_18 ?_
      obtain ⟨r4, er4, h2⟩ := zb h2
      refine z_callVR (rest := []) hl (c_X8_reason l g a s2.2 r3 _ er4) zyX8_reason zvX8_reason rfl zlX8_86 zcX8.1 ⟨_, _, rfl⟩ [(0, none)] rfl rfl rfl (by decide) (Nat.le_of_ble_eq_true rfl) ⟨Nat.zero_le _, Nat.zero_le _⟩ dX8_picksBy_19 (st2 := [.int r4]) rfl ?_
      refine z_if_ne (tgt := 44) rfl dX8_picksBy_22 (fun c22 => ?_) (fun c22 => ?_)
      · replace h2 := (if_neg c22).symm.trans h2
        cases h2
        have k2 := x2 (s2.1, s2.2) rfl
        try dsimp only at k2
        exact z_lv [2] rfl k2
      · replace h2 := (if_pos c22).symm.trans h2
        refine z_aload_n 0 rfl rfl dX8_picksBy_25 ?_
        refine z_aload_n 0 rfl rfl dX8_picksBy_26 ?_
        refine z_get zcX8 0 rfl 0 rfl 9 (Nat.le_of_ble_eq_true rfl) zfX8_22 (v := .ref (a 5)) rfl dX8_picksBy_27 ?_
        refine z_aload_n 1 rfl rfl dX8_picksBy_30 ?_
        refine z_iload_n 2 rfl rfl dX8_picksBy_31 ?_
        obtain ⟨r5, er5, h2⟩ := zb h2
        refine z_iald 0 rfl 7 rfl er5 dX8_picksBy_32 ?_
        obtain ⟨r6, er6, h2⟩ := zb h2
        refine z_iald 0 rfl 5 rfl er6 dX8_picksBy_33 ?_
        obtain ⟨r7, er7, h2⟩ := zb h2
        refine z_callVW (rest := []) hl (c_X8_picks l g a s2.2 r6 _ er7) zyX8_picks zvX8_picks rfl zlX8_89 zcX8.1 ⟨_, _, rfl⟩ [(0, none)] rfl (by decide) rfl (w' := [cX8 g a r7.2]) rfl rfl rfl (by decide) (Nat.le_of_ble_eq_true rfl) ⟨Nat.zero_le _, Nat.zero_le _⟩ dX8_picksBy_34 (st2 := [.int r7.1]) rfl ?_
        refine z_pop rfl dX8_picksBy_37 ?_
        refine z_iinc 2 [(2, .int (s2.1 + 1)), (0, .ref (a 0)), (1, .ref (a 7))] rfl (v := (s2.1 + 1)) zinc (Nat.le_of_ble_eq_true rfl) rfl dX8_picksBy_38 ?_
        refine z_goto (tgt := 2) rfl dX8_picksBy_41 ?_
        cases h2
        have k2 := i2 ((s2.1 + 1), r7.2) rfl
        try dsimp only at k2
        exact z_lv [1, 2, 0] rfl k2
  · skip
    refine z_iload_n 0 rfl rfl dX8_picksBy_44 ?_
    cases h
    try dsimp only at hQ
    exact z_iret dX8_picksBy_45 hQ
set_option maxHeartbeats 400000 in
set_option maxRecDepth 100000 in
theorem c_X8_nearest (l : Launch) (g : zG) (a : Nat → Nat) (u : tX8) (r : Int32) (h : f_X8_nearest u = some r) : Ctr l g false yX8_nearest cX8_nearest 4 (some .int) 5 117 0 0 [.ref (a 0)] ([cX8 g a u]) ([cX8 g a u]) (some (.int r)) := by
  refine ctr_of (by decide) (Nat.le_of_ble_eq_true rfl) (fun X hl _ _ _ hQ => ?_)
  unfold f_X8_nearest at h
  refine z_lv (lv' := [(0, .ref (a 0))]) [0] rfl ?_
  refine z_iconst (v := (-1)) (by decide) dX8_nearest_0 ?_
  refine z_istore_n [(1, .int (-1)), (0, .ref (a 0))] rfl (Nat.le_of_ble_eq_true rfl) rfl dX8_nearest_1 ?_
  refine z_iconst (v := 0) (by decide) dX8_nearest_2 ?_
  refine z_istore_n [(2, .int 0), (1, .int (-1)), (0, .ref (a 0))] rfl (Nat.le_of_ble_eq_true rfl) rfl dX8_nearest_3 ?_
  obtain ⟨z1, ez1, h⟩ := zb h
  refine z_lv (lv' := [(0, .ref (a 0)), (1, .int (-1)), (2, .int 0)]) [2, 1, 0] rfl ?_
  suffices hk4 : (fun (s4 : Int32 × Int32) => Z false RX8 cX8_nearest 4 5 117 g X 0 0 ([cX8 g a u]) [(0, .ref (a 0)), (1, .int s4.1), (2, .int s4.2)] 4 []) ((-1), 0) by try dsimp only at hk4; exact hk4
  refine lp_ind (σ := Int32 × Int32) (ε := Int32) (b_X8_nearest_4 u) (fun s4 => Z false RX8 cX8_nearest 4 5 117 g X 0 0 ([cX8 g a u]) [(0, .ref (a 0)), (1, .int s4.1), (2, .int s4.2)] 4 []) (fun z1 => Z false RX8 cX8_nearest 4 5 117 g X 0 0 ([cX8 g a u]) [(1, .int z1)] 84 []) (fun s4 q4 h4 i4 x4 => ?_) 5000 ((-1), 0) z1 ez1 ?_
  · unfold b_X8_nearest_4 at h4
    refine z_iload_n 2 rfl rfl dX8_nearest_4 ?_
    refine z_aload_n 0 rfl rfl dX8_nearest_5 ?_
    refine z_get zcX8 0 rfl 0 rfl 10 (Nat.le_of_ble_eq_true rfl) zfX8_83 (v := .int u.2.2.2.2.2.2.2.2.2.2.1) rfl dX8_nearest_6 ?_
    refine z_icmp_ge (tgt := 84) rfl dX8_nearest_9 (fun c9 => ?_) (fun c9 => ?_)
    · replace h4 := (if_pos c9).symm.trans h4
      cases h4
      have k4 := x4 s4.1 rfl
      try dsimp only at k4
      exact z_lv [1] rfl k4
    · replace h4 := (if_neg c9).symm.trans h4
      refine z_aload_n 0 rfl rfl dX8_nearest_12 ?_
      refine z_get zcX8 0 rfl 0 rfl 13 (Nat.le_of_ble_eq_true rfl) zfX8_31 (v := .ref (a 8)) rfl dX8_nearest_13 ?_
      refine z_iload_n 2 rfl rfl dX8_nearest_16 ?_
      obtain ⟨r2, er2, h4⟩ := zb h4
      refine z_zald 0 rfl 8 rfl er2 dX8_nearest_17 ?_
      refine z_if_ne (tgt := 38) rfl dX8_nearest_18 (fun c18 => ?_) (fun c18 => ?_)
      · replace h4 := (if_neg c18).symm.trans h4
        refine z_iconst (v := 0) (by decide) dX8_nearest_38 ?_
        refine z_istore_n [(3, .int 0), (0, .ref (a 0)), (1, .int s4.1), (2, .int s4.2)] rfl (Nat.le_of_ble_eq_true rfl) rfl dX8_nearest_39 ?_
        refine z_iload_n 0 rfl rfl dX8_nearest_40 ?_
        refine z_if_eq (tgt := 76) rfl dX8_nearest_41 (fun c41 => ?_) (fun c41 => ?_)
        · replace h4 := (if_pos c41).symm.trans h4
          refine z_iload_n 2 rfl rfl dX8_nearest_76 ?_
          refine z_istore_n [(1, .int s4.1), (3, .int 0), (0, .ref (a 0)), (2, .int s4.2)] rfl (Nat.le_of_ble_eq_true rfl) rfl dX8_nearest_77 ?_
          refine z_iinc 3 [(2, .int (s4.2 + 1)), (1, .int s4.1), (3, .int 0), (0, .ref (a 0))] rfl (v := (s4.2 + 1)) zinc (Nat.le_of_ble_eq_true rfl) rfl dX8_nearest_78 ?_
          refine z_goto (tgt := 4) rfl dX8_nearest_81 ?_
          cases h4
          have k4 := i4 (s4.1, (s4.2 + 1)) rfl
          try dsimp only at k4
          exact z_lv [3, 1, 0] rfl k4
        · replace h4 := (if_neg c41).symm.trans h4
          refine z_iload_n 2 rfl rfl dX8_nearest_44 ?_
          refine z_iconst (v := (-1)) (by decide) dX8_nearest_45 ?_
          refine z_icmp_eq (tgt := 72) rfl dX8_nearest_46 (fun c46 => ?_) (fun c46 => ?_)
          · replace h4 := (if_pos c46).symm.trans h4
            refine z_iload_n 3 rfl rfl dX8_nearest_72 ?_
            refine z_goto (tgt := 77) rfl dX8_nearest_73 ?_
            refine z_istore_n [(1, .int s4.2), (3, .int 0), (0, .ref (a 0)), (2, .int s4.2)] rfl (Nat.le_of_ble_eq_true rfl) rfl dX8_nearest_77 ?_
            refine z_iinc 3 [(2, .int (s4.2 + 1)), (1, .int s4.2), (3, .int 0), (0, .ref (a 0))] rfl (v := (s4.2 + 1)) zinc (Nat.le_of_ble_eq_true rfl) rfl dX8_nearest_78 ?_
            refine z_goto (tgt := 4) rfl dX8_nearest_81 ?_
            cases h4
            have k4 := i4 (s4.2, (s4.2 + 1)) rfl
            try dsimp only at k4
            exact z_lv [3, 1, 0] rfl k4
          · replace h4 := (if_neg c46).symm.trans h4
            refine z_aload_n 1 rfl rfl dX8_nearest_49 ?_
            refine z_aload_n 1 rfl rfl dX8_nearest_50 ?_
            refine z_get zcX8 0 rfl 0 rfl 9 (Nat.le_of_ble_eq_true rfl) zfX8_22 (v := .ref (a 5)) rfl dX8_nearest_51 ?_
            refine z_iload_n 3 rfl rfl dX8_nearest_54 ?_
            obtain ⟨r3, er3, h4⟩ := zb h4
            refine z_iald 0 rfl 5 rfl er3 dX8_nearest_55 ?_
            obtain ⟨r4, er4, h4⟩ := zb h4
            refine z_callVR (rest := []) hl (c_X8_stepsTo l g a u r3 _ er4) zyX8_stepsTo zvX8_stepsTo rfl zlX8_73 zcX8.1 ⟨_, _, rfl⟩ [(0, none)] rfl rfl rfl (by decide) (Nat.le_of_ble_eq_true rfl) ⟨Nat.zero_le _, Nat.zero_le _⟩ dX8_nearest_56 (st2 := [.int r4]) rfl ?_
            refine z_aload_n 1 rfl rfl dX8_nearest_59 ?_
            refine z_aload_n 1 rfl rfl dX8_nearest_60 ?_
            refine z_get zcX8 0 rfl 0 rfl 9 (Nat.le_of_ble_eq_true rfl) zfX8_22 (v := .ref (a 5)) rfl dX8_nearest_61 ?_
            refine z_iload_n 2 rfl rfl dX8_nearest_64 ?_
            obtain ⟨r5, er5, h4⟩ := zb h4
            refine z_iald 0 rfl 5 rfl er5 dX8_nearest_65 ?_
            obtain ⟨r6, er6, h4⟩ := zb h4
            refine z_callVR (rest := [.int r4]) hl (c_X8_stepsTo l g a u r5 _ er6) zyX8_stepsTo zvX8_stepsTo rfl zlX8_73 zcX8.1 ⟨_, _, rfl⟩ [(0, none)] rfl rfl rfl (by decide) (Nat.le_of_ble_eq_true rfl) ⟨Nat.zero_le _, Nat.zero_le _⟩ dX8_nearest_66 (st2 := [.int r6, .int r4]) rfl ?_
            refine z_icmp_ge (tgt := 76) rfl dX8_nearest_69 (fun c69 => ?_) (fun c69 => ?_)
            · replace h4 := (if_pos c69).symm.trans h4
              refine z_iload_n 2 rfl rfl dX8_nearest_76 ?_
              refine z_istore_n [(1, .int s4.1), (3, .int 0), (0, .ref (a 0)), (2, .int s4.2)] rfl (Nat.le_of_ble_eq_true rfl) rfl dX8_nearest_77 ?_
              refine z_iinc 3 [(2, .int (s4.2 + 1)), (1, .int s4.1), (3, .int 0), (0, .ref (a 0))] rfl (v := (s4.2 + 1)) zinc (Nat.le_of_ble_eq_true rfl) rfl dX8_nearest_78 ?_
              refine z_goto (tgt := 4) rfl dX8_nearest_81 ?_
              cases h4
              have k4 := i4 (s4.1, (s4.2 + 1)) rfl
              try dsimp only at k4
              exact z_lv [3, 1, 0] rfl k4
            · replace h4 := (if_neg c69).symm.trans h4
              refine z_iload_n 3 rfl rfl dX8_nearest_72 ?_
              refine z_goto (tgt := 77) rfl dX8_nearest_73 ?_
              refine z_istore_n [(1, .int s4.2), (3, .int 0), (0, .ref (a 0)), (2, .int s4.2)] rfl (Nat.le_of_ble_eq_true rfl) rfl dX8_nearest_77 ?_
              refine z_iinc 3 [(2, .int (s4.2 + 1)), (1, .int s4.2), (3, .int 0), (0, .ref (a 0))] rfl (v := (s4.2 + 1)) zinc (Nat.le_of_ble_eq_true rfl) rfl dX8_nearest_78 ?_
              refine z_goto (tgt := 4) rfl dX8_nearest_81 ?_
              cases h4
              have k4 := i4 (s4.2, (s4.2 + 1)) rfl
              try dsimp only at k4
              exact z_lv [3, 1, 0] rfl k4
      · replace h4 := (if_pos c18).symm.trans h4
        refine z_aload_n 0 rfl rfl dX8_nearest_21 ?_
        refine z_aload_n 0 rfl rfl dX8_nearest_22 ?_
        refine z_get zcX8 0 rfl 0 rfl 9 (Nat.le_of_ble_eq_true rfl) zfX8_22 (v := .ref (a 5)) rfl dX8_nearest_23 ?_
        refine z_iload_n 2 rfl rfl dX8_nearest_26 ?_
        obtain ⟨r7, er7, h4⟩ := zb h4
        refine z_iald 0 rfl 5 rfl er7 dX8_nearest_27 ?_
        obtain ⟨r8, er8, h4⟩ := zb h4
        refine z_callVR (rest := []) hl (c_X8_reason l g a u r7 _ er8) zyX8_reason zvX8_reason rfl zlX8_86 zcX8.1 ⟨_, _, rfl⟩ [(0, none)] rfl rfl rfl (by decide) (Nat.le_of_ble_eq_true rfl) ⟨Nat.zero_le _, Nat.zero_le _⟩ dX8_nearest_28 (st2 := [.int r8]) rfl ?_
        refine z_if_ne (tgt := 38) rfl dX8_nearest_31 (fun c31 => ?_) (fun c31 => ?_)
        · replace h4 := (if_neg c31).symm.trans h4
          refine z_iconst (v := 0) (by decide) dX8_nearest_38 ?_
          refine z_istore_n [(3, .int 0), (0, .ref (a 0)), (1, .int s4.1), (2, .int s4.2)] rfl (Nat.le_of_ble_eq_true rfl) rfl dX8_nearest_39 ?_
          refine z_iload_n 0 rfl rfl dX8_nearest_40 ?_
          refine z_if_eq (tgt := 76) rfl dX8_nearest_41 (fun c41 => ?_) (fun c41 => ?_)
          · replace h4 := (if_pos c41).symm.trans h4
            refine z_iload_n 2 rfl rfl dX8_nearest_76 ?_
            refine z_istore_n [(1, .int s4.1), (3, .int 0), (0, .ref (a 0)), (2, .int s4.2)] rfl (Nat.le_of_ble_eq_true rfl) rfl dX8_nearest_77 ?_
            refine z_iinc 3 [(2, .int (s4.2 + 1)), (1, .int s4.1), (3, .int 0), (0, .ref (a 0))] rfl (v := (s4.2 + 1)) zinc (Nat.le_of_ble_eq_true rfl) rfl dX8_nearest_78 ?_
            refine z_goto (tgt := 4) rfl dX8_nearest_81 ?_
            cases h4
            have k4 := i4 (s4.1, (s4.2 + 1)) rfl
            try dsimp only at k4
            exact z_lv [3, 1, 0] rfl k4
          · replace h4 := (if_neg c41).symm.trans h4
            refine z_iload_n 2 rfl rfl dX8_nearest_44 ?_
            refine z_iconst (v := (-1)) (by decide) dX8_nearest_45 ?_
            refine z_icmp_eq (tgt := 72) rfl dX8_nearest_46 (fun c46 => ?_) (fun c46 => ?_)
            · replace h4 := (if_pos c46).symm.trans h4
              refine z_iload_n 3 rfl rfl dX8_nearest_72 ?_
              refine z_goto (tgt := 77) rfl dX8_nearest_73 ?_
              refine z_istore_n [(1, .int s4.2), (3, .int 0), (0, .ref (a 0)), (2, .int s4.2)] rfl (Nat.le_of_ble_eq_true rfl) rfl dX8_nearest_77 ?_
              refine z_iinc 3 [(2, .int (s4.2 + 1)), (1, .int s4.2), (3, .int 0), (0, .ref (a 0))] rfl (v := (s4.2 + 1)) zinc (Nat.le_of_ble_eq_true rfl) rfl dX8_nearest_78 ?_
              refine z_goto (tgt := 4) rfl dX8_nearest_81 ?_
              cases h4
              have k4 := i4 (s4.2, (s4.2 + 1)) rfl
              try dsimp only at k4
              exact z_lv [3, 1, 0] rfl k4
            · replace h4 := (if_neg c46).symm.trans h4
              refine z_aload_n 1 rfl rfl dX8_nearest_49 ?_
              refine z_aload_n 1 rfl rfl dX8_nearest_50 ?_
              refine z_get zcX8 0 rfl 0 rfl 9 (Nat.le_of_ble_eq_true rfl) zfX8_22 (v := .ref (a 5)) rfl dX8_nearest_51 ?_
              refine z_iload_n 3 rfl rfl dX8_nearest_54 ?_
              obtain ⟨r9, er9, h4⟩ := zb h4
              refine z_iald 0 rfl 5 rfl er9 dX8_nearest_55 ?_
              obtain ⟨r10, er10, h4⟩ := zb h4
              refine z_callVR (rest := []) hl (c_X8_stepsTo l g a u r9 _ er10) zyX8_stepsTo zvX8_stepsTo rfl zlX8_73 zcX8.1 ⟨_, _, rfl⟩ [(0, none)] rfl rfl rfl (by decide) (Nat.le_of_ble_eq_true rfl) ⟨Nat.zero_le _, Nat.zero_le _⟩ dX8_nearest_56 (st2 := [.int r10]) rfl ?_
              refine z_aload_n 1 rfl rfl dX8_nearest_59 ?_
              refine z_aload_n 1 rfl rfl dX8_nearest_60 ?_
              refine z_get zcX8 0 rfl 0 rfl 9 (Nat.le_of_ble_eq_true rfl) zfX8_22 (v := .ref (a 5)) rfl dX8_nearest_61 ?_
              refine z_iload_n 2 rfl rfl dX8_nearest_64 ?_
              obtain ⟨r11, er11, h4⟩ := zb h4
              refine z_iald 0 rfl 5 rfl er11 dX8_nearest_65 ?_
              obtain ⟨r12, er12, h4⟩ := zb h4
              refine z_callVR (rest := [.int r10]) hl (c_X8_stepsTo l g a u r11 _ er12) zyX8_stepsTo zvX8_stepsTo rfl zlX8_73 zcX8.1 ⟨_, _, rfl⟩ [(0, none)] rfl rfl rfl (by decide) (Nat.le_of_ble_eq_true rfl) ⟨Nat.zero_le _, Nat.zero_le _⟩ dX8_nearest_66 (st2 := [.int r12, .int r10]) rfl ?_
              refine z_icmp_ge (tgt := 76) rfl dX8_nearest_69 (fun c69 => ?_) (fun c69 => ?_)
              · replace h4 := (if_pos c69).symm.trans h4
                refine z_iload_n 2 rfl rfl dX8_nearest_76 ?_
                refine z_istore_n [(1, .int s4.1), (3, .int 0), (0, .ref (a 0)), (2, .int s4.2)] rfl (Nat.le_of_ble_eq_true rfl) rfl dX8_nearest_77 ?_
                refine z_iinc 3 [(2, .int (s4.2 + 1)), (1, .int s4.1), (3, .int 0), (0, .ref (a 0))] rfl (v := (s4.2 + 1)) zinc (Nat.le_of_ble_eq_true rfl) rfl dX8_nearest_78 ?_
                refine z_goto (tgt := 4) rfl dX8_nearest_81 ?_
                cases h4
                have k4 := i4 (s4.1, (s4.2 + 1)) rfl
                try dsimp only at k4
                exact z_lv [3, 1, 0] rfl k4
              · replace h4 := (if_neg c69).symm.trans h4
                refine z_iload_n 3 rfl rfl dX8_nearest_72 ?_
                refine z_goto (tgt := 77) rfl dX8_nearest_73 ?_
                refine z_istore_n [(1, .int s4.2), (3, .int 0), (0, .ref (a 0)), (2, .int s4.2)] rfl (Nat.le_of_ble_eq_true rfl) rfl dX8_nearest_77 ?_
                refine z_iinc 3 [(2, .int (s4.2 + 1)), (1, .int s4.2), (3, .int 0), (0, .ref (a 0))] rfl (v := (s4.2 + 1)) zinc (Nat.le_of_ble_eq_true rfl) rfl dX8_nearest_78 ?_
                refine z_goto (tgt := 4) rfl dX8_nearest_81 ?_
                cases h4
                have k4 := i4 (s4.2, (s4.2 + 1)) rfl
                try dsimp only at k4
                exact z_lv [3, 1, 0] rfl k4
        · replace h4 := (if_pos c31).symm.trans h4
          refine z_iconst (v := 1) (by decide) dX8_nearest_34 ?_
          refine z_goto (tgt := 39) rfl dX8_nearest_35 ?_
          refine z_istore_n [(3, .int 1), (0, .ref (a 0)), (1, .int s4.1), (2, .int s4.2)] rfl (Nat.le_of_ble_eq_true rfl) rfl dX8_nearest_39 ?_
          refine z_iload_n 0 rfl rfl dX8_nearest_40 ?_
          refine z_if_eq (tgt := 76) rfl dX8_nearest_41 (fun c41 => ?_) (fun c41 => ?_)
          · replace h4 := (if_pos c41).symm.trans h4
            refine z_iload_n 2 rfl rfl dX8_nearest_76 ?_
            refine z_istore_n [(1, .int s4.1), (3, .int 1), (0, .ref (a 0)), (2, .int s4.2)] rfl (Nat.le_of_ble_eq_true rfl) rfl dX8_nearest_77 ?_
            refine z_iinc 3 [(2, .int (s4.2 + 1)), (1, .int s4.1), (3, .int 1), (0, .ref (a 0))] rfl (v := (s4.2 + 1)) zinc (Nat.le_of_ble_eq_true rfl) rfl dX8_nearest_78 ?_
            refine z_goto (tgt := 4) rfl dX8_nearest_81 ?_
            cases h4
            have k4 := i4 (s4.1, (s4.2 + 1)) rfl
            try dsimp only at k4
            exact z_lv [3, 1, 0] rfl k4
          · replace h4 := (if_neg c41).symm.trans h4
            refine z_iload_n 2 rfl rfl dX8_nearest_44 ?_
            refine z_iconst (v := (-1)) (by decide) dX8_nearest_45 ?_
            refine z_icmp_eq (tgt := 72) rfl dX8_nearest_46 (fun c46 => ?_) (fun c46 => ?_)
            · replace h4 := (if_pos c46).symm.trans h4
              refine z_iload_n 3 rfl rfl dX8_nearest_72 ?_
              refine z_goto (tgt := 77) rfl dX8_nearest_73 ?_
              refine z_istore_n [(1, .int s4.2), (3, .int 1), (0, .ref (a 0)), (2, .int s4.2)] rfl (Nat.le_of_ble_eq_true rfl) rfl dX8_nearest_77 ?_
              refine z_iinc 3 [(2, .int (s4.2 + 1)), (1, .int s4.2), (3, .int 1), (0, .ref (a 0))] rfl (v := (s4.2 + 1)) zinc (Nat.le_of_ble_eq_true rfl) rfl dX8_nearest_78 ?_
              refine z_goto (tgt := 4) rfl dX8_nearest_81 ?_
              cases h4
              have k4 := i4 (s4.2, (s4.2 + 1)) rfl
              try dsimp only at k4
              exact z_lv [3, 1, 0] rfl k4
            · replace h4 := (if_neg c46).symm.trans h4
              refine z_aload_n 1 rfl rfl dX8_nearest_49 ?_
              refine z_aload_n 1 rfl rfl dX8_nearest_50 ?_
              refine z_get zcX8 0 rfl 0 rfl 9 (Nat.le_of_ble_eq_true rfl) zfX8_22 (v := .ref (a 5)) rfl dX8_nearest_51 ?_
              refine z_iload_n 3 rfl rfl dX8_nearest_54 ?_
              obtain ⟨r13, er13, h4⟩ := zb h4
              refine z_iald 0 rfl 5 rfl er13 dX8_nearest_55 ?_
              obtain ⟨r14, er14, h4⟩ := zb h4
              refine z_callVR (rest := []) hl (c_X8_stepsTo l g a u r13 _ er14) zyX8_stepsTo zvX8_stepsTo rfl zlX8_73 zcX8.1 ⟨_, _, rfl⟩ [(0, none)] rfl rfl rfl (by decide) (Nat.le_of_ble_eq_true rfl) ⟨Nat.zero_le _, Nat.zero_le _⟩ dX8_nearest_56 (st2 := [.int r14]) rfl ?_
              refine z_aload_n 1 rfl rfl dX8_nearest_59 ?_
              refine z_aload_n 1 rfl rfl dX8_nearest_60 ?_
              refine z_get zcX8 0 rfl 0 rfl 9 (Nat.le_of_ble_eq_true rfl) zfX8_22 (v := .ref (a 5)) rfl dX8_nearest_61 ?_
              refine z_iload_n 2 rfl rfl dX8_nearest_64 ?_
              obtain ⟨r15, er15, h4⟩ := zb h4
              refine z_iald 0 rfl 5 rfl er15 dX8_nearest_65 ?_
              obtain ⟨r16, er16, h4⟩ := zb h4
              refine z_callVR (rest := [.int r14]) hl (c_X8_stepsTo l g a u r15 _ er16) zyX8_stepsTo zvX8_stepsTo rfl zlX8_73 zcX8.1 ⟨_, _, rfl⟩ [(0, none)] rfl rfl rfl (by decide) (Nat.le_of_ble_eq_true rfl) ⟨Nat.zero_le _, Nat.zero_le _⟩ dX8_nearest_66 (st2 := [.int r16, .int r14]) rfl ?_
              refine z_icmp_ge (tgt := 76) rfl dX8_nearest_69 (fun c69 => ?_) (fun c69 => ?_)
              · replace h4 := (if_pos c69).symm.trans h4
                refine z_iload_n 2 rfl rfl dX8_nearest_76 ?_
                refine z_istore_n [(1, .int s4.1), (3, .int 1), (0, .ref (a 0)), (2, .int s4.2)] rfl (Nat.le_of_ble_eq_true rfl) rfl dX8_nearest_77 ?_
                refine z_iinc 3 [(2, .int (s4.2 + 1)), (1, .int s4.1), (3, .int 1), (0, .ref (a 0))] rfl (v := (s4.2 + 1)) zinc (Nat.le_of_ble_eq_true rfl) rfl dX8_nearest_78 ?_
                refine z_goto (tgt := 4) rfl dX8_nearest_81 ?_
                cases h4
                have k4 := i4 (s4.1, (s4.2 + 1)) rfl
                try dsimp only at k4
                exact z_lv [3, 1, 0] rfl k4
              · replace h4 := (if_neg c69).symm.trans h4
                refine z_iload_n 3 rfl rfl dX8_nearest_72 ?_
                refine z_goto (tgt := 77) rfl dX8_nearest_73 ?_
                refine z_istore_n [(1, .int s4.2), (3, .int 1), (0, .ref (a 0)), (2, .int s4.2)] rfl (Nat.le_of_ble_eq_true rfl) rfl dX8_nearest_77 ?_
                refine z_iinc 3 [(2, .int (s4.2 + 1)), (1, .int s4.2), (3, .int 1), (0, .ref (a 0))] rfl (v := (s4.2 + 1)) zinc (Nat.le_of_ble_eq_true rfl) rfl dX8_nearest_78 ?_
                refine z_goto (tgt := 4) rfl dX8_nearest_81 ?_
                cases h4
                have k4 := i4 (s4.2, (s4.2 + 1)) rfl
                try dsimp only at k4
                exact z_lv [3, 1, 0] rfl k4
  · skip
    refine z_iload_n 0 rfl rfl dX8_nearest_84 ?_
    cases h
    exact z_iret dX8_nearest_85 hQ
set_option maxHeartbeats 400000 in
set_option maxRecDepth 100000 in
theorem c_X8_picksNearest (l : Launch) (g : zG) (a : Nat → Nat) (u : tX8) (r : Int32 × tX8) (h : f_X8_picksNearest u = some r) : Ctr l g true yX8_picksNearest cX8_picksNearest 3 (some .int) 6 140 0 0 [.ref (a 0)] ([cX8 g a u]) ([cX8 g a r.2]) (some (.int r.1)) := by
  refine ctr_of (by decide) (Nat.le_of_ble_eq_true rfl) (fun X hl _ _ _ hQ => ?_)
  unfold f_X8_picksNearest at h
  refine z_lv (lv' := [(0, .ref (a 0))]) [0] rfl ?_
  refine z_iconst (v := 0) (by decide) dX8_picksNearest_0 ?_
  refine z_istore_n [(1, .int 0), (0, .ref (a 0))] rfl (Nat.le_of_ble_eq_true rfl) rfl dX8_picksNearest_1 ?_
  obtain ⟨z1, ez1, h⟩ := zb h
  refine z_lv (lv' := [(0, .ref (a 0)), (1, .int 0)]) [1, 0] rfl ?_
  suffices hk2 : (fun (s2 : Int32 × zF) => Z true RX8 cX8_picksNearest 3 6 140 g X 0 0 ([dX8 g a u.1 u.2.1 u.2.2.1 u.2.2.2.1 u.2.2.2.2.1 u.2.2.2.2.2.1 u.2.2.2.2.2.2.1 u.2.2.2.2.2.2.2.1 u.2.2.2.2.2.2.2.2.1 u.2.2.2.2.2.2.2.2.2.1 u.2.2.2.2.2.2.2.2.2.2.1 u.2.2.2.2.2.2.2.2.2.2.2.1 u.2.2.2.2.2.2.2.2.2.2.2.2.1 s2.2 u.2.2.2.2.2.2.2.2.2.2.2.2.2.2.1 u.2.2.2.2.2.2.2.2.2.2.2.2.2.2.2]) [(0, .ref (a 0)), (1, .int s2.1)] 2 []) (0, u.2.2.2.2.2.2.2.2.2.2.2.2.2.1) by try dsimp only at hk2; exact hk2
  refine lp_ind (σ := Int32 × zF) (ε := zF) (b_X8_picksNearest_2 u) (fun s2 => Z true RX8 cX8_picksNearest 3 6 140 g X 0 0 ([dX8 g a u.1 u.2.1 u.2.2.1 u.2.2.2.1 u.2.2.2.2.1 u.2.2.2.2.2.1 u.2.2.2.2.2.2.1 u.2.2.2.2.2.2.2.1 u.2.2.2.2.2.2.2.2.1 u.2.2.2.2.2.2.2.2.2.1 u.2.2.2.2.2.2.2.2.2.2.1 u.2.2.2.2.2.2.2.2.2.2.2.1 u.2.2.2.2.2.2.2.2.2.2.2.2.1 s2.2 u.2.2.2.2.2.2.2.2.2.2.2.2.2.2.1 u.2.2.2.2.2.2.2.2.2.2.2.2.2.2.2]) [(0, .ref (a 0)), (1, .int s2.1)] 2 []) (fun z1 => Z true RX8 cX8_picksNearest 3 6 140 g X 0 0 ([dX8 g a u.1 u.2.1 u.2.2.1 u.2.2.2.1 u.2.2.2.2.1 u.2.2.2.2.2.1 u.2.2.2.2.2.2.1 u.2.2.2.2.2.2.2.1 u.2.2.2.2.2.2.2.2.1 u.2.2.2.2.2.2.2.2.2.1 u.2.2.2.2.2.2.2.2.2.2.1 u.2.2.2.2.2.2.2.2.2.2.2.1 u.2.2.2.2.2.2.2.2.2.2.2.2.1 z1 u.2.2.2.2.2.2.2.2.2.2.2.2.2.2.1 u.2.2.2.2.2.2.2.2.2.2.2.2.2.2.2]) [(0, .ref (a 0))] 23 []) (fun s2 q2 h2 i2 x2 => ?_) 5000 (0, u.2.2.2.2.2.2.2.2.2.2.2.2.2.1) z1 ez1 ?_
  · unfold b_X8_picksNearest_2 at h2
    refine z_iload_n 1 rfl rfl dX8_picksNearest_2 ?_
    refine z_aload_n 0 rfl rfl dX8_picksNearest_3 ?_
    refine z_get zcX8 0 rfl 0 rfl 10 (Nat.le_of_ble_eq_true rfl) zfX8_83 (v := .int u.2.2.2.2.2.2.2.2.2.2.1) rfl dX8_picksNearest_4 ?_
    refine z_icmp_ge (tgt := 23) rfl dX8_picksNearest_7 (fun c7 => ?_) (fun c7 => ?_)
    · replace h2 := (if_pos c7).symm.trans h2
      cases h2
      have k2 := x2 s2.2 rfl
      try dsimp only at k2
      exact z_lv [0] rfl k2
    · replace h2 := (if_neg c7).symm.trans h2
      refine z_aload_n 0 rfl rfl dX8_picksNearest_10 ?_
      refine z_get zcX8 0 rfl 0 rfl 13 (Nat.le_of_ble_eq_true rfl) zfX8_31 (v := .ref (a 8)) rfl dX8_picksNearest_11 ?_
      refine z_iload_n 1 rfl rfl dX8_picksNearest_14 ?_
      refine z_iconst (v := 0) (by decide) dX8_picksNearest_15 ?_
      obtain ⟨r2, er2, h2⟩ := zb h2
      refine z_zast ([dX8 g a u.1 u.2.1 u.2.2.1 u.2.2.2.1 u.2.2.2.2.1 u.2.2.2.2.2.1 u.2.2.2.2.2.2.1 u.2.2.2.2.2.2.2.1 u.2.2.2.2.2.2.2.2.1 u.2.2.2.2.2.2.2.2.2.1 u.2.2.2.2.2.2.2.2.2.2.1 u.2.2.2.2.2.2.2.2.2.2.2.1 u.2.2.2.2.2.2.2.2.2.2.2.2.1 r2 u.2.2.2.2.2.2.2.2.2.2.2.2.2.2.1 u.2.2.2.2.2.2.2.2.2.2.2.2.2.2.2]) 0 rfl 8 rfl er2 rfl dX8_picksNearest_16 ?_
      refine z_iinc 1 [(1, .int (s2.1 + 1)), (0, .ref (a 0))] rfl (v := (s2.1 + 1)) zinc (Nat.le_of_ble_eq_true rfl) rfl dX8_picksNearest_17 ?_
      refine z_goto (tgt := 2) rfl dX8_picksNearest_20 ?_
      cases h2
      have k2 := i2 ((s2.1 + 1), r2) rfl
      try dsimp only at k2
      exact z_lv [1, 0] rfl k2
  · skip
    refine z_iconst (v := 0) (by decide) dX8_picksNearest_23 ?_
    refine z_istore_n [(1, .int 0), (0, .ref (a 0))] rfl (Nat.le_of_ble_eq_true rfl) rfl dX8_picksNearest_24 ?_
    refine z_aload_n 1 rfl rfl dX8_picksNearest_25 ?_
    obtain ⟨r3, er3, h⟩ := zb h
    refine z_callVR (rest := []) hl (c_X8_nearest l g a (u.1, u.2.1, u.2.2.1, u.2.2.2.1, u.2.2.2.2.1, u.2.2.2.2.2.1, u.2.2.2.2.2.2.1, u.2.2.2.2.2.2.2.1, u.2.2.2.2.2.2.2.2.1, u.2.2.2.2.2.2.2.2.2.1, u.2.2.2.2.2.2.2.2.2.2.1, u.2.2.2.2.2.2.2.2.2.2.2.1, u.2.2.2.2.2.2.2.2.2.2.2.2.1, z1, u.2.2.2.2.2.2.2.2.2.2.2.2.2.2.1, u.2.2.2.2.2.2.2.2.2.2.2.2.2.2.2) _ er3) zyX8_nearest zvX8_nearest rfl zlX8_92 zcX8.1 ⟨_, _, rfl⟩ [(0, none)] rfl rfl rfl (by decide) (Nat.le_of_ble_eq_true rfl) ⟨Nat.zero_le _, Nat.zero_le _⟩ dX8_picksNearest_26 (st2 := [.int r3]) rfl ?_
    refine z_istore_n [(2, .int r3), (1, .int 0), (0, .ref (a 0))] rfl (Nat.le_of_ble_eq_true rfl) rfl dX8_picksNearest_29 ?_
    obtain ⟨z4, ez4, h⟩ := zb h
    refine z_lv (lv' := [(0, .ref (a 0)), (1, .int 0), (2, .int r3)]) [2, 1, 0] rfl ?_
    suffices hk30 : (fun (s30 : Int32 × Int32 × tX8) => Z true RX8 cX8_picksNearest 3 6 140 g X 0 0 ([cX8 g a s30.2.2]) [(0, .ref (a 0)), (1, .int s30.1), (2, .int s30.2.1)] 30 []) (0, r3, (u.1, u.2.1, u.2.2.1, u.2.2.2.1, u.2.2.2.2.1, u.2.2.2.2.2.1, u.2.2.2.2.2.2.1, u.2.2.2.2.2.2.2.1, u.2.2.2.2.2.2.2.2.1, u.2.2.2.2.2.2.2.2.2.1, u.2.2.2.2.2.2.2.2.2.2.1, u.2.2.2.2.2.2.2.2.2.2.2.1, u.2.2.2.2.2.2.2.2.2.2.2.2.1, z1, u.2.2.2.2.2.2.2.2.2.2.2.2.2.2.1, u.2.2.2.2.2.2.2.2.2.2.2.2.2.2.2)) by try dsimp only at hk30; exact hk30
    refine lp_ind (σ := Int32 × Int32 × tX8) (ε := Int32 × tX8) b_X8_picksNearest_30 (fun s30 => Z true RX8 cX8_picksNearest 3 6 140 g X 0 0 ([cX8 g a s30.2.2]) [(0, .ref (a 0)), (1, .int s30.1), (2, .int s30.2.1)] 30 []) (fun z4 => Z true RX8 cX8_picksNearest 3 6 140 g X 0 0 ([cX8 g a z4.2]) [(1, .int z4.1)] 64 []) (fun s30 q30 h30 i30 x30 => ?_) 5000 (0, r3, (u.1, u.2.1, u.2.2.1, u.2.2.2.1, u.2.2.2.2.1, u.2.2.2.2.2.1, u.2.2.2.2.2.2.1, u.2.2.2.2.2.2.2.1, u.2.2.2.2.2.2.2.2.1, u.2.2.2.2.2.2.2.2.2.1, u.2.2.2.2.2.2.2.2.2.2.1, u.2.2.2.2.2.2.2.2.2.2.2.1, u.2.2.2.2.2.2.2.2.2.2.2.2.1, z1, u.2.2.2.2.2.2.2.2.2.2.2.2.2.2.1, u.2.2.2.2.2.2.2.2.2.2.2.2.2.2.2)) z4 ez4 ?_
    · unfold b_X8_picksNearest_30 at h30
      refine z_iload_n 2 rfl rfl dX8_picksNearest_30 ?_
      refine z_iconst (v := (-1)) (by decide) dX8_picksNearest_31 ?_
      refine z_icmp_eq (tgt := 64) rfl dX8_picksNearest_32 (fun c32 => ?_) (fun c32 => ?_)
      · replace h30 := (if_pos c32).symm.trans h30
        cases h30
        have k30 := x30 (s30.1, s30.2.2) rfl
        try dsimp only at k30
        exact z_lv [1] rfl k30
      · replace h30 := (if_neg c32).symm.trans h30
        refine z_aload_n 0 rfl rfl dX8_picksNearest_35 ?_
        refine z_get zcX8 0 rfl 0 rfl 13 (Nat.le_of_ble_eq_true rfl) zfX8_31 (v := .ref (a 8)) rfl dX8_picksNearest_36 ?_
        refine z_iload_n 2 rfl rfl dX8_picksNearest_39 ?_
        refine z_iconst (v := 1) (by decide) dX8_picksNearest_40 ?_
        obtain ⟨r5, er5, h30⟩ := zb h30
        refine z_zast ([dX8 g a s30.2.2.1 s30.2.2.2.1 s30.2.2.2.2.1 s30.2.2.2.2.2.1 s30.2.2.2.2.2.2.1 s30.2.2.2.2.2.2.2.1 s30.2.2.2.2.2.2.2.2.1 s30.2.2.2.2.2.2.2.2.2.1 s30.2.2.2.2.2.2.2.2.2.2.1 s30.2.2.2.2.2.2.2.2.2.2.2.1 s30.2.2.2.2.2.2.2.2.2.2.2.2.1 s30.2.2.2.2.2.2.2.2.2.2.2.2.2.1 s30.2.2.2.2.2.2.2.2.2.2.2.2.2.2.1 r5 s30.2.2.2.2.2.2.2.2.2.2.2.2.2.2.2.2.1 s30.2.2.2.2.2.2.2.2.2.2.2.2.2.2.2.2.2]) 0 rfl 8 rfl er5 rfl dX8_picksNearest_41 ?_
        refine z_aload_n 0 rfl rfl dX8_picksNearest_42 ?_
        refine z_aload_n 0 rfl rfl dX8_picksNearest_43 ?_
        refine z_get zcX8 0 rfl 0 rfl 9 (Nat.le_of_ble_eq_true rfl) zfX8_22 (v := .ref (a 5)) rfl dX8_picksNearest_44 ?_
        refine z_iload_n 2 rfl rfl dX8_picksNearest_47 ?_
        obtain ⟨r6, er6, h30⟩ := zb h30
        refine z_iald 0 rfl 5 rfl er6 dX8_picksNearest_48 ?_
        obtain ⟨r7, er7, h30⟩ := zb h30
        refine z_callVW (rest := []) hl (c_X8_picks l g a (s30.2.2.1, s30.2.2.2.1, s30.2.2.2.2.1, s30.2.2.2.2.2.1, s30.2.2.2.2.2.2.1, s30.2.2.2.2.2.2.2.1, s30.2.2.2.2.2.2.2.2.1, s30.2.2.2.2.2.2.2.2.2.1, s30.2.2.2.2.2.2.2.2.2.2.1, s30.2.2.2.2.2.2.2.2.2.2.2.1, s30.2.2.2.2.2.2.2.2.2.2.2.2.1, s30.2.2.2.2.2.2.2.2.2.2.2.2.2.1, s30.2.2.2.2.2.2.2.2.2.2.2.2.2.2.1, r5, s30.2.2.2.2.2.2.2.2.2.2.2.2.2.2.2.2.1, s30.2.2.2.2.2.2.2.2.2.2.2.2.2.2.2.2.2) r6 _ er7) zyX8_picks zvX8_picks rfl zlX8_89 zcX8.1 ⟨_, _, rfl⟩ [(0, none)] rfl (by decide) rfl (w' := [cX8 g a r7.2]) rfl rfl rfl (by decide) (Nat.le_of_ble_eq_true rfl) ⟨Nat.zero_le _, Nat.zero_le _⟩ dX8_picksNearest_49 (st2 := [.int r7.1]) rfl ?_
        refine z_pop rfl dX8_picksNearest_52 ?_
        refine z_iinc 1 [(1, .int (s30.1 + 1)), (0, .ref (a 0)), (2, .int s30.2.1)] rfl (v := (s30.1 + 1)) zinc (Nat.le_of_ble_eq_true rfl) rfl dX8_picksNearest_53 ?_
        refine z_aload_n 1 rfl rfl dX8_picksNearest_56 ?_
        obtain ⟨r8, er8, h30⟩ := zb h30
        refine z_callVR (rest := []) hl (c_X8_nearest l g a r7.2 _ er8) zyX8_nearest zvX8_nearest rfl zlX8_92 zcX8.1 ⟨_, _, rfl⟩ [(0, none)] rfl rfl rfl (by decide) (Nat.le_of_ble_eq_true rfl) ⟨Nat.zero_le _, Nat.zero_le _⟩ dX8_picksNearest_57 (st2 := [.int r8]) rfl ?_
        refine z_istore_n [(2, .int r8), (1, .int (s30.1 + 1)), (0, .ref (a 0))] rfl (Nat.le_of_ble_eq_true rfl) rfl dX8_picksNearest_60 ?_
        refine z_goto (tgt := 30) rfl dX8_picksNearest_61 ?_
        cases h30
        have k30 := i30 ((s30.1 + 1), r8, r7.2) rfl
        try dsimp only at k30
        exact z_lv [2, 1, 0] rfl k30
    · skip
      refine z_iload_n 0 rfl rfl dX8_picksNearest_64 ?_
      cases h
      try dsimp only at hQ
      exact z_iret dX8_picksNearest_65 hQ
set_option maxHeartbeats 400000 in
set_option maxRecDepth 100000 in
theorem c_X8_firstOrder (l : Launch) (g : zG) (a : Nat → Nat) (u : tX8) (r : tX8) (h : f_X8_firstOrder u = some r) : Ctr l g true yX8_firstOrder cX8_firstOrder 2 none 0 0 0 0 [.ref (a 0)] ([cX8 g a u]) ([cX8 g a r]) none := by
  refine ctr_of (by decide) (Nat.le_of_ble_eq_true rfl) (fun X hl _ _ _ hQ => ?_)
  unfold f_X8_firstOrder at h
  refine z_lv (lv' := [(0, .ref (a 0))]) [0] rfl ?_
  refine z_iconst (v := 0) (by decide) dX8_firstOrder_0 ?_
  refine z_istore_n [(1, .int 0), (0, .ref (a 0))] rfl (Nat.le_of_ble_eq_true rfl) rfl dX8_firstOrder_1 ?_
  obtain ⟨z1, ez1, h⟩ := zb h
  refine z_lv (lv' := [(0, .ref (a 0)), (1, .int 0)]) [1, 0] rfl ?_
  suffices hk2 : (fun (s2 : Int32 × zF) => Z true RX8 cX8_firstOrder 2 0 0 g X 0 0 ([dX8 g a u.1 u.2.1 u.2.2.1 u.2.2.2.1 u.2.2.2.2.1 u.2.2.2.2.2.1 u.2.2.2.2.2.2.1 u.2.2.2.2.2.2.2.1 u.2.2.2.2.2.2.2.2.1 u.2.2.2.2.2.2.2.2.2.1 u.2.2.2.2.2.2.2.2.2.2.1 s2.2 u.2.2.2.2.2.2.2.2.2.2.2.2.1 u.2.2.2.2.2.2.2.2.2.2.2.2.2.1 u.2.2.2.2.2.2.2.2.2.2.2.2.2.2.1 u.2.2.2.2.2.2.2.2.2.2.2.2.2.2.2]) [(0, .ref (a 0)), (1, .int s2.1)] 2 []) (0, u.2.2.2.2.2.2.2.2.2.2.2.1) by try dsimp only at hk2; exact hk2
  refine lp_ind (σ := Int32 × zF) (ε := zF) (b_X8_firstOrder_2 u) (fun s2 => Z true RX8 cX8_firstOrder 2 0 0 g X 0 0 ([dX8 g a u.1 u.2.1 u.2.2.1 u.2.2.2.1 u.2.2.2.2.1 u.2.2.2.2.2.1 u.2.2.2.2.2.2.1 u.2.2.2.2.2.2.2.1 u.2.2.2.2.2.2.2.2.1 u.2.2.2.2.2.2.2.2.2.1 u.2.2.2.2.2.2.2.2.2.2.1 s2.2 u.2.2.2.2.2.2.2.2.2.2.2.2.1 u.2.2.2.2.2.2.2.2.2.2.2.2.2.1 u.2.2.2.2.2.2.2.2.2.2.2.2.2.2.1 u.2.2.2.2.2.2.2.2.2.2.2.2.2.2.2]) [(0, .ref (a 0)), (1, .int s2.1)] 2 []) (fun z1 => Z true RX8 cX8_firstOrder 2 0 0 g X 0 0 ([dX8 g a u.1 u.2.1 u.2.2.1 u.2.2.2.1 u.2.2.2.2.1 u.2.2.2.2.2.1 u.2.2.2.2.2.2.1 u.2.2.2.2.2.2.2.1 u.2.2.2.2.2.2.2.2.1 u.2.2.2.2.2.2.2.2.2.1 u.2.2.2.2.2.2.2.2.2.2.1 z1 u.2.2.2.2.2.2.2.2.2.2.2.2.1 u.2.2.2.2.2.2.2.2.2.2.2.2.2.1 u.2.2.2.2.2.2.2.2.2.2.2.2.2.2.1 u.2.2.2.2.2.2.2.2.2.2.2.2.2.2.2]) [] 23 []) (fun s2 q2 h2 i2 x2 => ?_) 5000 (0, u.2.2.2.2.2.2.2.2.2.2.2.1) z1 ez1 ?_
  · unfold b_X8_firstOrder_2 at h2
    refine z_iload_n 1 rfl rfl dX8_firstOrder_2 ?_
    refine z_aload_n 0 rfl rfl dX8_firstOrder_3 ?_
    refine z_get zcX8 0 rfl 0 rfl 10 (Nat.le_of_ble_eq_true rfl) zfX8_83 (v := .int u.2.2.2.2.2.2.2.2.2.2.1) rfl dX8_firstOrder_4 ?_
    refine z_icmp_ge (tgt := 23) rfl dX8_firstOrder_7 (fun c7 => ?_) (fun c7 => ?_)
    · replace h2 := (if_pos c7).symm.trans h2
      cases h2
      have k2 := x2 s2.2 rfl
      try dsimp only at k2
      exact z_lv [] rfl k2
    · replace h2 := (if_neg c7).symm.trans h2
      refine z_aload_n 0 rfl rfl dX8_firstOrder_10 ?_
      refine z_get zcX8 0 rfl 0 rfl 11 (Nat.le_of_ble_eq_true rfl) zfX8_25 (v := .ref (a 6)) rfl dX8_firstOrder_11 ?_
      refine z_iload_n 1 rfl rfl dX8_firstOrder_14 ?_
      refine z_iload_n 1 rfl rfl dX8_firstOrder_15 ?_
      obtain ⟨r2, er2, h2⟩ := zb h2
      refine z_iast ([dX8 g a u.1 u.2.1 u.2.2.1 u.2.2.2.1 u.2.2.2.2.1 u.2.2.2.2.2.1 u.2.2.2.2.2.2.1 u.2.2.2.2.2.2.2.1 u.2.2.2.2.2.2.2.2.1 u.2.2.2.2.2.2.2.2.2.1 u.2.2.2.2.2.2.2.2.2.2.1 r2 u.2.2.2.2.2.2.2.2.2.2.2.2.1 u.2.2.2.2.2.2.2.2.2.2.2.2.2.1 u.2.2.2.2.2.2.2.2.2.2.2.2.2.2.1 u.2.2.2.2.2.2.2.2.2.2.2.2.2.2.2]) 0 rfl 6 rfl er2 rfl dX8_firstOrder_16 ?_
      refine z_iinc 1 [(1, .int (s2.1 + 1)), (0, .ref (a 0))] rfl (v := (s2.1 + 1)) zinc (Nat.le_of_ble_eq_true rfl) rfl dX8_firstOrder_17 ?_
      refine z_goto (tgt := 2) rfl dX8_firstOrder_20 ?_
      cases h2
      have k2 := i2 ((s2.1 + 1), r2) rfl
      try dsimp only at k2
      exact z_lv [1, 0] rfl k2
  · skip
    cases h
    exact z_vret dX8_firstOrder_23 hQ
set_option maxHeartbeats 400000 in
set_option maxRecDepth 100000 in
theorem c_X8_swaps (l : Launch) (g : zG) (a : Nat → Nat) (u : tX8) (p0 : Int32) (p1 : Int32) (r : tX8) (h : f_X8_swaps u p0 p1 = some r) : Ctr l g true yX8_swaps cX8_swaps 4 none 0 0 0 0 [.ref (a 0), .int p0, .int p1] ([cX8 g a u]) ([cX8 g a r]) none := by
  refine ctr_of (by decide) (Nat.le_of_ble_eq_true rfl) (fun X hl _ _ _ hQ => ?_)
  unfold f_X8_swaps at h
  refine z_lv (lv' := [(0, .ref (a 0)), (1, .int p0), (2, .int p1)]) [0, 1, 2] rfl ?_
  refine z_aload_n 0 rfl rfl dX8_swaps_0 ?_
  refine z_get zcX8 0 rfl 0 rfl 11 (Nat.le_of_ble_eq_true rfl) zfX8_25 (v := .ref (a 6)) rfl dX8_swaps_1 ?_
  refine z_iload_n 1 rfl rfl dX8_swaps_4 ?_
  obtain ⟨r1, er1, h⟩ := zb h
  refine z_iald 0 rfl 6 rfl er1 dX8_swaps_5 ?_
  refine z_istore_n [(3, .int r1), (0, .ref (a 0)), (1, .int p0), (2, .int p1)] rfl (Nat.le_of_ble_eq_true rfl) rfl dX8_swaps_6 ?_
  refine z_aload_n 1 rfl rfl dX8_swaps_7 ?_
  refine z_get zcX8 0 rfl 0 rfl 11 (Nat.le_of_ble_eq_true rfl) zfX8_25 (v := .ref (a 6)) rfl dX8_swaps_8 ?_
  refine z_iload_n 2 rfl rfl dX8_swaps_11 ?_
  refine z_aload_n 1 rfl rfl dX8_swaps_12 ?_
  refine z_get zcX8 0 rfl 0 rfl 11 (Nat.le_of_ble_eq_true rfl) zfX8_25 (v := .ref (a 6)) rfl dX8_swaps_13 ?_
  refine z_iload_n 3 rfl rfl dX8_swaps_16 ?_
  obtain ⟨r2, er2, h⟩ := zb h
  refine z_iald 0 rfl 6 rfl er2 dX8_swaps_17 ?_
  obtain ⟨r3, er3, h⟩ := zb h
  refine z_iast ([dX8 g a u.1 u.2.1 u.2.2.1 u.2.2.2.1 u.2.2.2.2.1 u.2.2.2.2.2.1 u.2.2.2.2.2.2.1 u.2.2.2.2.2.2.2.1 u.2.2.2.2.2.2.2.2.1 u.2.2.2.2.2.2.2.2.2.1 u.2.2.2.2.2.2.2.2.2.2.1 r3 u.2.2.2.2.2.2.2.2.2.2.2.2.1 u.2.2.2.2.2.2.2.2.2.2.2.2.2.1 u.2.2.2.2.2.2.2.2.2.2.2.2.2.2.1 u.2.2.2.2.2.2.2.2.2.2.2.2.2.2.2]) 0 rfl 6 rfl er3 rfl dX8_swaps_18 ?_
  refine z_aload_n 1 rfl rfl dX8_swaps_19 ?_
  refine z_get zcX8 0 rfl 0 rfl 11 (Nat.le_of_ble_eq_true rfl) zfX8_25 (v := .ref (a 6)) rfl dX8_swaps_20 ?_
  refine z_iload_n 3 rfl rfl dX8_swaps_23 ?_
  refine z_iload_n 0 rfl rfl dX8_swaps_24 ?_
  obtain ⟨r4, er4, h⟩ := zb h
  refine z_iast ([dX8 g a u.1 u.2.1 u.2.2.1 u.2.2.2.1 u.2.2.2.2.1 u.2.2.2.2.2.1 u.2.2.2.2.2.2.1 u.2.2.2.2.2.2.2.1 u.2.2.2.2.2.2.2.2.1 u.2.2.2.2.2.2.2.2.2.1 u.2.2.2.2.2.2.2.2.2.2.1 r4 u.2.2.2.2.2.2.2.2.2.2.2.2.1 u.2.2.2.2.2.2.2.2.2.2.2.2.2.1 u.2.2.2.2.2.2.2.2.2.2.2.2.2.2.1 u.2.2.2.2.2.2.2.2.2.2.2.2.2.2.2]) 0 rfl 6 rfl er4 rfl dX8_swaps_25 ?_
  cases h
  exact z_vret dX8_swaps_26 hQ
set_option maxHeartbeats 400000 in
set_option maxRecDepth 100000 in
theorem c_X8_hasNextOrder (l : Launch) (g : zG) (a : Nat → Nat) (u : tX8) (r : Bool × tX8) (h : f_X8_hasNextOrder u = some r) : Ctr l g true yX8_hasNextOrder cX8_hasNextOrder 4 (some .boolean) 1 23 0 0 [.ref (a 0)] ([cX8 g a u]) ([cX8 g a r.2]) (some (.int (b2i r.1))) := by
  refine ctr_of (by decide) (Nat.le_of_ble_eq_true rfl) (fun X hl _ _ _ hQ => ?_)
  unfold f_X8_hasNextOrder at h
  refine z_lv (lv' := [(0, .ref (a 0))]) [0] rfl ?_
  refine z_aload_n 0 rfl rfl dX8_hasNextOrder_0 ?_
  refine z_get zcX8 0 rfl 0 rfl 10 (Nat.le_of_ble_eq_true rfl) zfX8_83 (v := .int u.2.2.2.2.2.2.2.2.2.2.1) rfl dX8_hasNextOrder_1 ?_
  refine z_iconst (v := 2) (by decide) dX8_hasNextOrder_4 ?_
  refine z_isub dX8_hasNextOrder_5 ?_
  refine z_istore_n [(1, .int (u.2.2.2.2.2.2.2.2.2.2.1 - 2)), (0, .ref (a 0))] rfl (Nat.le_of_ble_eq_true rfl) rfl dX8_hasNextOrder_6 ?_
  obtain ⟨z1, ez1, h⟩ := zb h
  refine z_lv (lv' := [(0, .ref (a 0)), (1, .int (u.2.2.2.2.2.2.2.2.2.2.1 - 2))]) [1, 0] rfl ?_
  suffices hk7 : (fun (s7 : Int32) => Z true RX8 cX8_hasNextOrder 4 1 23 g X 0 0 ([cX8 g a u]) [(0, .ref (a 0)), (1, .int s7)] 7 []) (u.2.2.2.2.2.2.2.2.2.2.1 - 2) by try dsimp only at hk7; exact hk7
  refine lp_ind (σ := Int32) (ε := Int32) (b_X8_hasNextOrder_7 u) (fun s7 => Z true RX8 cX8_hasNextOrder 4 1 23 g X 0 0 ([cX8 g a u]) [(0, .ref (a 0)), (1, .int s7)] 7 []) (fun z1 => Z true RX8 cX8_hasNextOrder 4 1 23 g X 0 0 ([cX8 g a u]) [(0, .ref (a 0)), (1, .int z1)] 34 []) (fun s7 q7 h7 i7 x7 => ?_) 5000 (u.2.2.2.2.2.2.2.2.2.2.1 - 2) z1 ez1 ?_
  · unfold b_X8_hasNextOrder_7 at h7
    refine z_iload_n 1 rfl rfl dX8_hasNextOrder_7 ?_
    refine z_if_lt (tgt := 34) rfl dX8_hasNextOrder_8 (fun c8 => ?_) (fun c8 => ?_)
    · replace h7 := (if_pos c8).symm.trans h7
      cases h7
      have k7 := x7 s7 rfl
      try dsimp only at k7
      exact z_lv [0, 1] rfl k7
    · replace h7 := (if_neg c8).symm.trans h7
      refine z_aload_n 0 rfl rfl dX8_hasNextOrder_11 ?_
      refine z_get zcX8 0 rfl 0 rfl 11 (Nat.le_of_ble_eq_true rfl) zfX8_25 (v := .ref (a 6)) rfl dX8_hasNextOrder_12 ?_
      refine z_iload_n 1 rfl rfl dX8_hasNextOrder_15 ?_
      obtain ⟨r2, er2, h7⟩ := zb h7
      refine z_iald 0 rfl 6 rfl er2 dX8_hasNextOrder_16 ?_
      refine z_aload_n 0 rfl rfl dX8_hasNextOrder_17 ?_
      refine z_get zcX8 0 rfl 0 rfl 11 (Nat.le_of_ble_eq_true rfl) zfX8_25 (v := .ref (a 6)) rfl dX8_hasNextOrder_18 ?_
      refine z_iload_n 1 rfl rfl dX8_hasNextOrder_21 ?_
      refine z_iconst (v := 1) (by decide) dX8_hasNextOrder_22 ?_
      refine z_iadd dX8_hasNextOrder_23 ?_
      obtain ⟨r3, er3, h7⟩ := zb h7
      refine z_iald 0 rfl 6 rfl er3 dX8_hasNextOrder_24 ?_
      refine z_icmp_le (tgt := 34) rfl dX8_hasNextOrder_25 (fun c25 => ?_) (fun c25 => ?_)
      · replace h7 := (if_pos c25).symm.trans h7
        cases h7
        have k7 := x7 s7 rfl
        try dsimp only at k7
        exact z_lv [0, 1] rfl k7
      · replace h7 := (if_neg c25).symm.trans h7
        refine z_iinc 1 [(1, .int (s7 + -1)), (0, .ref (a 0))] rfl (v := (s7 + -1)) zdec (Nat.le_of_ble_eq_true rfl) rfl dX8_hasNextOrder_28 ?_
        refine z_goto (tgt := 7) rfl dX8_hasNextOrder_31 ?_
        cases h7
        have k7 := i7 (s7 + -1) rfl
        try dsimp only at k7
        exact z_lv [1, 0] rfl k7
  · skip
    refine z_iload_n 1 rfl rfl dX8_hasNextOrder_34 ?_
    refine z_if_ge (tgt := 40) rfl dX8_hasNextOrder_35 (fun c35 => ?_) (fun c35 => ?_)
    · replace h := (if_pos c35).symm.trans h
      refine z_aload_n 0 rfl rfl dX8_hasNextOrder_40 ?_
      refine z_get zcX8 0 rfl 0 rfl 10 (Nat.le_of_ble_eq_true rfl) zfX8_83 (v := .int u.2.2.2.2.2.2.2.2.2.2.1) rfl dX8_hasNextOrder_41 ?_
      refine z_iconst (v := 1) (by decide) dX8_hasNextOrder_44 ?_
      refine z_isub dX8_hasNextOrder_45 ?_
      refine z_istore_n [(2, .int (u.2.2.2.2.2.2.2.2.2.2.1 - 1)), (0, .ref (a 0)), (1, .int z1)] rfl (Nat.le_of_ble_eq_true rfl) rfl dX8_hasNextOrder_46 ?_
      obtain ⟨z4, ez4, h⟩ := zb h
      refine z_lv (lv' := [(0, .ref (a 0)), (1, .int z1), (2, .int (u.2.2.2.2.2.2.2.2.2.2.1 - 1))]) [1, 2, 0] rfl ?_
      suffices hk47 : (fun (s47 : Int32) => Z true RX8 cX8_hasNextOrder 4 1 23 g X 0 0 ([cX8 g a u]) [(0, .ref (a 0)), (1, .int z1), (2, .int s47)] 47 []) (u.2.2.2.2.2.2.2.2.2.2.1 - 1) by try dsimp only at hk47; exact hk47
      refine lp_ind (σ := Int32) (ε := Int32) (b_X8_hasNextOrder_47 u z1) (fun s47 => Z true RX8 cX8_hasNextOrder 4 1 23 g X 0 0 ([cX8 g a u]) [(0, .ref (a 0)), (1, .int z1), (2, .int s47)] 47 []) (fun z4 => Z true RX8 cX8_hasNextOrder 4 1 23 g X 0 0 ([cX8 g a u]) [(0, .ref (a 0)), (1, .int z1), (2, .int z4)] 68 []) (fun s47 q47 h47 i47 x47 => ?_) 5000 (u.2.2.2.2.2.2.2.2.2.2.1 - 1) z4 ez4 ?_
      · unfold b_X8_hasNextOrder_47 at h47
        refine z_aload_n 0 rfl rfl dX8_hasNextOrder_47 ?_
        refine z_get zcX8 0 rfl 0 rfl 11 (Nat.le_of_ble_eq_true rfl) zfX8_25 (v := .ref (a 6)) rfl dX8_hasNextOrder_48 ?_
        refine z_iload_n 2 rfl rfl dX8_hasNextOrder_51 ?_
        obtain ⟨r5, er5, h47⟩ := zb h47
        refine z_iald 0 rfl 6 rfl er5 dX8_hasNextOrder_52 ?_
        refine z_aload_n 0 rfl rfl dX8_hasNextOrder_53 ?_
        refine z_get zcX8 0 rfl 0 rfl 11 (Nat.le_of_ble_eq_true rfl) zfX8_25 (v := .ref (a 6)) rfl dX8_hasNextOrder_54 ?_
        refine z_iload_n 1 rfl rfl dX8_hasNextOrder_57 ?_
        obtain ⟨r6, er6, h47⟩ := zb h47
        refine z_iald 0 rfl 6 rfl er6 dX8_hasNextOrder_58 ?_
        refine z_icmp_ge (tgt := 68) rfl dX8_hasNextOrder_59 (fun c59 => ?_) (fun c59 => ?_)
        · replace h47 := (if_pos c59).symm.trans h47
          cases h47
          have k47 := x47 s47 rfl
          try dsimp only at k47
          exact z_lv [0, 1, 2] rfl k47
        · replace h47 := (if_neg c59).symm.trans h47
          refine z_iinc 2 [(2, .int (s47 + -1)), (0, .ref (a 0)), (1, .int z1)] rfl (v := (s47 + -1)) zdec (Nat.le_of_ble_eq_true rfl) rfl dX8_hasNextOrder_62 ?_
          refine z_goto (tgt := 47) rfl dX8_hasNextOrder_65 ?_
          cases h47
          have k47 := i47 (s47 + -1) rfl
          try dsimp only at k47
          exact z_lv [1, 2, 0] rfl k47
      · skip
        refine z_aload_n 0 rfl rfl dX8_hasNextOrder_68 ?_
        refine z_iload_n 1 rfl rfl dX8_hasNextOrder_69 ?_
        refine z_iload_n 2 rfl rfl dX8_hasNextOrder_70 ?_
        obtain ⟨r7, er7, h⟩ := zb h
        refine z_callVW (rest := []) hl (c_X8_swaps l g a u z1 z4 _ er7) zyX8_swaps zvX8_swaps rfl zlX8_96 zcX8.1 ⟨_, _, rfl⟩ [(0, none)] rfl (by decide) rfl (w' := [cX8 g a r7]) rfl rfl rfl (by decide) (Nat.le_of_ble_eq_true rfl) ⟨Nat.zero_le _, Nat.zero_le _⟩ dX8_hasNextOrder_71 (st2 := []) rfl ?_
        refine z_iconst (v := 1) (by decide) dX8_hasNextOrder_74 ?_
        refine z_istore_n [(3, .int 1), (0, .ref (a 0)), (1, .int z1), (2, .int z4)] rfl (Nat.le_of_ble_eq_true rfl) rfl dX8_hasNextOrder_75 ?_
        obtain ⟨z8, ez8, h⟩ := zb h
        refine z_lv (lv' := [(0, .ref (a 0)), (1, .int z1), (3, .int 1)]) [1, 2, 0] rfl ?_
        suffices hk76 : (fun (s76 : Int32 × tX8) => Z true RX8 cX8_hasNextOrder 4 1 23 g X 0 0 ([cX8 g a s76.2]) [(0, .ref (a 0)), (1, .int z1), (3, .int s76.1)] 76 []) (1, r7) by try dsimp only at hk76; exact hk76
        refine lp_ind (σ := Int32 × tX8) (ε := tX8) (b_X8_hasNextOrder_76 z1) (fun s76 => Z true RX8 cX8_hasNextOrder 4 1 23 g X 0 0 ([cX8 g a s76.2]) [(0, .ref (a 0)), (1, .int z1), (3, .int s76.1)] 76 []) (fun z8 => Z true RX8 cX8_hasNextOrder 4 1 23 g X 0 0 ([cX8 g a z8]) [] 107 []) (fun s76 q76 h76 i76 x76 => ?_) 5000 (1, r7) z8 ez8 ?_
        · unfold b_X8_hasNextOrder_76 at h76
          refine z_iload_n 1 rfl rfl dX8_hasNextOrder_76 ?_
          refine z_iload_n 2 rfl rfl dX8_hasNextOrder_77 ?_
          refine z_iadd dX8_hasNextOrder_78 ?_
          refine z_aload_n 0 rfl rfl dX8_hasNextOrder_79 ?_
          refine z_get zcX8 0 rfl 0 rfl 10 (Nat.le_of_ble_eq_true rfl) zfX8_83 (v := .int s76.2.2.2.2.2.2.2.2.2.2.2.1) rfl dX8_hasNextOrder_80 ?_
          refine z_iload_n 2 rfl rfl dX8_hasNextOrder_83 ?_
          refine z_isub dX8_hasNextOrder_84 ?_
          refine z_icmp_ge (tgt := 107) rfl dX8_hasNextOrder_85 (fun c85 => ?_) (fun c85 => ?_)
          · replace h76 := (if_pos c85).symm.trans h76
            cases h76
            have k76 := x76 s76.2 rfl
            try dsimp only at k76
            exact z_lv [] rfl k76
          · replace h76 := (if_neg c85).symm.trans h76
            refine z_aload_n 0 rfl rfl dX8_hasNextOrder_88 ?_
            refine z_iload_n 1 rfl rfl dX8_hasNextOrder_89 ?_
            refine z_iload_n 2 rfl rfl dX8_hasNextOrder_90 ?_
            refine z_iadd dX8_hasNextOrder_91 ?_
            refine z_aload_n 0 rfl rfl dX8_hasNextOrder_92 ?_
            refine z_get zcX8 0 rfl 0 rfl 10 (Nat.le_of_ble_eq_true rfl) zfX8_83 (v := .int s76.2.2.2.2.2.2.2.2.2.2.2.1) rfl dX8_hasNextOrder_93 ?_
            refine z_iload_n 2 rfl rfl dX8_hasNextOrder_96 ?_
            refine z_isub dX8_hasNextOrder_97 ?_
            obtain ⟨r9, er9, h76⟩ := zb h76
            refine z_callVW (rest := []) hl (c_X8_swaps l g a s76.2 (z1 + s76.1) (s76.2.2.2.2.2.2.2.2.2.2.2.1 - s76.1) _ er9) zyX8_swaps zvX8_swaps rfl zlX8_96 zcX8.1 ⟨_, _, rfl⟩ [(0, none)] rfl (by decide) rfl (w' := [cX8 g a r9]) rfl rfl rfl (by decide) (Nat.le_of_ble_eq_true rfl) ⟨Nat.zero_le _, Nat.zero_le _⟩ dX8_hasNextOrder_98 (st2 := []) rfl ?_
            refine z_iinc 2 [(3, .int (s76.1 + 1)), (0, .ref (a 0)), (1, .int z1)] rfl (v := (s76.1 + 1)) zinc (Nat.le_of_ble_eq_true rfl) rfl dX8_hasNextOrder_101 ?_
            refine z_goto (tgt := 76) rfl dX8_hasNextOrder_104 ?_
            cases h76
            have k76 := i76 ((s76.1 + 1), r9) rfl
            try dsimp only at k76
            exact z_lv [1, 2, 0] rfl k76
        · skip
          refine z_iconst (v := 1) (by decide) dX8_hasNextOrder_107 ?_
          cases h
          try dsimp only at hQ
          exact z_zret _ (by rfl) dX8_hasNextOrder_108 hQ
    · replace h := (if_neg c35).symm.trans h
      refine z_iconst (v := 0) (by decide) dX8_hasNextOrder_38 ?_
      cases h
      try dsimp only at hQ
      exact z_zret _ (by rfl) dX8_hasNextOrder_39 hQ
set_option maxHeartbeats 400000 in
set_option maxRecDepth 100000 in
theorem c_X8_laysBestOrder (l : Launch) (g : zG) (a : Nat → Nat) (u : tX8) (r : tX8) (h : f_X8_laysBestOrder u = some r) : Ctr l g true yX8_laysBestOrder cX8_laysBestOrder 6 none 7 162 0 0 [.ref (a 0)] ([cX8 g a u]) ([cX8 g a r]) none := by
  refine ctr_of (by decide) (Nat.le_of_ble_eq_true rfl) (fun X hl _ _ _ hQ => ?_)
  unfold f_X8_laysBestOrder at h
  refine z_lv (lv' := [(0, .ref (a 0))]) [0] rfl ?_
  refine z_iconst (v := (-1)) (by decide) dX8_laysBestOrder_0 ?_
  refine z_istore_n [(1, .int (-1)), (0, .ref (a 0))] rfl (Nat.le_of_ble_eq_true rfl) rfl dX8_laysBestOrder_1 ?_
  refine z_iconst (v := 0) (by decide) dX8_laysBestOrder_2 ?_
  refine z_istore_n [(2, .int 0), (1, .int (-1)), (0, .ref (a 0))] rfl (Nat.le_of_ble_eq_true rfl) rfl dX8_laysBestOrder_3 ?_
  obtain ⟨z1, ez1, h⟩ := zb h
  refine z_lv (lv' := [(0, .ref (a 0)), (1, .int (-1)), (2, .int 0)]) [2, 1, 0] rfl ?_
  suffices hk4 : (fun (s4 : Int32 × zF) => Z true RX8 cX8_laysBestOrder 6 7 162 g X 0 0 ([dX8 g a u.1 u.2.1 u.2.2.1 u.2.2.2.1 u.2.2.2.2.1 u.2.2.2.2.2.1 u.2.2.2.2.2.2.1 u.2.2.2.2.2.2.2.1 u.2.2.2.2.2.2.2.2.1 u.2.2.2.2.2.2.2.2.2.1 u.2.2.2.2.2.2.2.2.2.2.1 u.2.2.2.2.2.2.2.2.2.2.2.1 u.2.2.2.2.2.2.2.2.2.2.2.2.1 u.2.2.2.2.2.2.2.2.2.2.2.2.2.1 s4.2 u.2.2.2.2.2.2.2.2.2.2.2.2.2.2.2]) [(0, .ref (a 0)), (1, .int (-1)), (2, .int s4.1)] 4 []) (0, u.2.2.2.2.2.2.2.2.2.2.2.2.2.2.1) by try dsimp only at hk4; exact hk4
  refine lp_ind (σ := Int32 × zF) (ε := zF) (b_X8_laysBestOrder_4 u) (fun s4 => Z true RX8 cX8_laysBestOrder 6 7 162 g X 0 0 ([dX8 g a u.1 u.2.1 u.2.2.1 u.2.2.2.1 u.2.2.2.2.1 u.2.2.2.2.2.1 u.2.2.2.2.2.2.1 u.2.2.2.2.2.2.2.1 u.2.2.2.2.2.2.2.2.1 u.2.2.2.2.2.2.2.2.2.1 u.2.2.2.2.2.2.2.2.2.2.1 u.2.2.2.2.2.2.2.2.2.2.2.1 u.2.2.2.2.2.2.2.2.2.2.2.2.1 u.2.2.2.2.2.2.2.2.2.2.2.2.2.1 s4.2 u.2.2.2.2.2.2.2.2.2.2.2.2.2.2.2]) [(0, .ref (a 0)), (1, .int (-1)), (2, .int s4.1)] 4 []) (fun z1 => Z true RX8 cX8_laysBestOrder 6 7 162 g X 0 0 ([dX8 g a u.1 u.2.1 u.2.2.1 u.2.2.2.1 u.2.2.2.2.1 u.2.2.2.2.2.1 u.2.2.2.2.2.2.1 u.2.2.2.2.2.2.2.1 u.2.2.2.2.2.2.2.2.1 u.2.2.2.2.2.2.2.2.2.1 u.2.2.2.2.2.2.2.2.2.2.1 u.2.2.2.2.2.2.2.2.2.2.2.1 u.2.2.2.2.2.2.2.2.2.2.2.2.1 u.2.2.2.2.2.2.2.2.2.2.2.2.2.1 z1 u.2.2.2.2.2.2.2.2.2.2.2.2.2.2.2]) [(0, .ref (a 0)), (1, .int (-1))] 29 []) (fun s4 q4 h4 i4 x4 => ?_) 5000 (0, u.2.2.2.2.2.2.2.2.2.2.2.2.2.2.1) z1 ez1 ?_
  · unfold b_X8_laysBestOrder_4 at h4
    refine z_iload_n 2 rfl rfl dX8_laysBestOrder_4 ?_
    refine z_sipush (v := 142) (by decide) dX8_laysBestOrder_5 ?_
    refine z_icmp_ge (tgt := 29) rfl dX8_laysBestOrder_8 (fun c8 => ?_) (fun c8 => ?_)
    · replace h4 := (if_pos c8).symm.trans h4
      cases h4
      have k4 := x4 s4.2 rfl
      try dsimp only at k4
      exact z_lv [0, 1] rfl k4
    · replace h4 := (if_neg c8).symm.trans h4
      refine z_aload_n 0 rfl rfl dX8_laysBestOrder_11 ?_
      refine z_get zcX8 0 rfl 0 rfl 14 (Nat.le_of_ble_eq_true rfl) zfX8_35 (v := .ref (a 9)) rfl dX8_laysBestOrder_12 ?_
      refine z_iload_n 2 rfl rfl dX8_laysBestOrder_15 ?_
      refine z_aload_n 0 rfl rfl dX8_laysBestOrder_16 ?_
      refine z_get zcX8 0 rfl 0 rfl 1 (Nat.le_of_ble_eq_true rfl) zfX8_7 (v := .ref (a 1)) rfl dX8_laysBestOrder_17 ?_
      refine z_iload_n 2 rfl rfl dX8_laysBestOrder_20 ?_
      obtain ⟨r2, er2, h4⟩ := zb h4
      refine z_iald 0 rfl 1 rfl er2 dX8_laysBestOrder_21 ?_
      obtain ⟨r3, er3, h4⟩ := zb h4
      refine z_iast ([dX8 g a u.1 u.2.1 u.2.2.1 u.2.2.2.1 u.2.2.2.2.1 u.2.2.2.2.2.1 u.2.2.2.2.2.2.1 u.2.2.2.2.2.2.2.1 u.2.2.2.2.2.2.2.2.1 u.2.2.2.2.2.2.2.2.2.1 u.2.2.2.2.2.2.2.2.2.2.1 u.2.2.2.2.2.2.2.2.2.2.2.1 u.2.2.2.2.2.2.2.2.2.2.2.2.1 u.2.2.2.2.2.2.2.2.2.2.2.2.2.1 r3 u.2.2.2.2.2.2.2.2.2.2.2.2.2.2.2]) 0 rfl 9 rfl er3 rfl dX8_laysBestOrder_22 ?_
      refine z_iinc 2 [(2, .int (s4.1 + 1)), (0, .ref (a 0)), (1, .int (-1))] rfl (v := (s4.1 + 1)) zinc (Nat.le_of_ble_eq_true rfl) rfl dX8_laysBestOrder_23 ?_
      refine z_goto (tgt := 4) rfl dX8_laysBestOrder_26 ?_
      cases h4
      have k4 := i4 ((s4.1 + 1), r3) rfl
      try dsimp only at k4
      exact z_lv [1, 2, 0] rfl k4
  · skip
    refine z_aload_n 0 rfl rfl dX8_laysBestOrder_29 ?_
    obtain ⟨r4, er4, h⟩ := zb h
    refine z_callVW (rest := []) hl (c_X8_firstOrder l g a (u.1, u.2.1, u.2.2.1, u.2.2.2.1, u.2.2.2.2.1, u.2.2.2.2.2.1, u.2.2.2.2.2.2.1, u.2.2.2.2.2.2.2.1, u.2.2.2.2.2.2.2.2.1, u.2.2.2.2.2.2.2.2.2.1, u.2.2.2.2.2.2.2.2.2.2.1, u.2.2.2.2.2.2.2.2.2.2.2.1, u.2.2.2.2.2.2.2.2.2.2.2.2.1, u.2.2.2.2.2.2.2.2.2.2.2.2.2.1, z1, u.2.2.2.2.2.2.2.2.2.2.2.2.2.2.2) _ er4) zyX8_firstOrder zvX8_firstOrder rfl zlX8_100 zcX8.1 ⟨_, _, rfl⟩ [(0, none)] rfl (by decide) rfl (w' := [cX8 g a r4]) rfl rfl rfl (by decide) (Nat.le_of_ble_eq_true rfl) ⟨Nat.zero_le _, Nat.zero_le _⟩ dX8_laysBestOrder_30 (st2 := []) rfl ?_
    refine z_iconst (v := 0) (by decide) dX8_laysBestOrder_33 ?_
    refine z_istore_n [(2, .int 0), (0, .ref (a 0)), (1, .int (-1))] rfl (Nat.le_of_ble_eq_true rfl) rfl dX8_laysBestOrder_34 ?_
    obtain ⟨z5, ez5, h⟩ := zb h
    refine z_lv (lv' := [(0, .ref (a 0)), (1, .int (-1)), (2, .int 0)]) [1, 2, 0] rfl ?_
    suffices hk35 : (fun (s35 : Int32 × zF) => Z true RX8 cX8_laysBestOrder 6 7 162 g X 0 0 ([dX8 g a r4.1 r4.2.1 r4.2.2.1 r4.2.2.2.1 r4.2.2.2.2.1 r4.2.2.2.2.2.1 r4.2.2.2.2.2.2.1 r4.2.2.2.2.2.2.2.1 r4.2.2.2.2.2.2.2.2.1 r4.2.2.2.2.2.2.2.2.2.1 r4.2.2.2.2.2.2.2.2.2.2.1 r4.2.2.2.2.2.2.2.2.2.2.2.1 s35.2 r4.2.2.2.2.2.2.2.2.2.2.2.2.2.1 r4.2.2.2.2.2.2.2.2.2.2.2.2.2.2.1 r4.2.2.2.2.2.2.2.2.2.2.2.2.2.2.2]) [(0, .ref (a 0)), (1, .int (-1)), (2, .int s35.1)] 35 []) (0, r4.2.2.2.2.2.2.2.2.2.2.2.2.1) by try dsimp only at hk35; exact hk35
    refine lp_ind (σ := Int32 × zF) (ε := zF) (b_X8_laysBestOrder_35 r4) (fun s35 => Z true RX8 cX8_laysBestOrder 6 7 162 g X 0 0 ([dX8 g a r4.1 r4.2.1 r4.2.2.1 r4.2.2.2.1 r4.2.2.2.2.1 r4.2.2.2.2.2.1 r4.2.2.2.2.2.2.1 r4.2.2.2.2.2.2.2.1 r4.2.2.2.2.2.2.2.2.1 r4.2.2.2.2.2.2.2.2.2.1 r4.2.2.2.2.2.2.2.2.2.2.1 r4.2.2.2.2.2.2.2.2.2.2.2.1 s35.2 r4.2.2.2.2.2.2.2.2.2.2.2.2.2.1 r4.2.2.2.2.2.2.2.2.2.2.2.2.2.2.1 r4.2.2.2.2.2.2.2.2.2.2.2.2.2.2.2]) [(0, .ref (a 0)), (1, .int (-1)), (2, .int s35.1)] 35 []) (fun z5 => Z true RX8 cX8_laysBestOrder 6 7 162 g X 0 0 ([dX8 g a r4.1 r4.2.1 r4.2.2.1 r4.2.2.2.1 r4.2.2.2.2.1 r4.2.2.2.2.2.1 r4.2.2.2.2.2.2.1 r4.2.2.2.2.2.2.2.1 r4.2.2.2.2.2.2.2.2.1 r4.2.2.2.2.2.2.2.2.2.1 r4.2.2.2.2.2.2.2.2.2.2.1 r4.2.2.2.2.2.2.2.2.2.2.2.1 z5 r4.2.2.2.2.2.2.2.2.2.2.2.2.2.1 r4.2.2.2.2.2.2.2.2.2.2.2.2.2.2.1 r4.2.2.2.2.2.2.2.2.2.2.2.2.2.2.2]) [(0, .ref (a 0)), (1, .int (-1))] 56 []) (fun s35 q35 h35 i35 x35 => ?_) 5000 (0, r4.2.2.2.2.2.2.2.2.2.2.2.2.1) z5 ez5 ?_
    · unfold b_X8_laysBestOrder_35 at h35
      refine z_iload_n 2 rfl rfl dX8_laysBestOrder_35 ?_
      refine z_aload_n 0 rfl rfl dX8_laysBestOrder_36 ?_
      refine z_get zcX8 0 rfl 0 rfl 10 (Nat.le_of_ble_eq_true rfl) zfX8_83 (v := .int r4.2.2.2.2.2.2.2.2.2.2.1) rfl dX8_laysBestOrder_37 ?_
      refine z_icmp_ge (tgt := 56) rfl dX8_laysBestOrder_40 (fun c40 => ?_) (fun c40 => ?_)
      · replace h35 := (if_pos c40).symm.trans h35
        cases h35
        have k35 := x35 s35.2 rfl
        try dsimp only at k35
        exact z_lv [0, 1] rfl k35
      · replace h35 := (if_neg c40).symm.trans h35
        refine z_aload_n 0 rfl rfl dX8_laysBestOrder_43 ?_
        refine z_get zcX8 0 rfl 0 rfl 12 (Nat.le_of_ble_eq_true rfl) zfX8_28 (v := .ref (a 7)) rfl dX8_laysBestOrder_44 ?_
        refine z_iload_n 2 rfl rfl dX8_laysBestOrder_47 ?_
        refine z_iload_n 2 rfl rfl dX8_laysBestOrder_48 ?_
        obtain ⟨r6, er6, h35⟩ := zb h35
        refine z_iast ([dX8 g a r4.1 r4.2.1 r4.2.2.1 r4.2.2.2.1 r4.2.2.2.2.1 r4.2.2.2.2.2.1 r4.2.2.2.2.2.2.1 r4.2.2.2.2.2.2.2.1 r4.2.2.2.2.2.2.2.2.1 r4.2.2.2.2.2.2.2.2.2.1 r4.2.2.2.2.2.2.2.2.2.2.1 r4.2.2.2.2.2.2.2.2.2.2.2.1 r6 r4.2.2.2.2.2.2.2.2.2.2.2.2.2.1 r4.2.2.2.2.2.2.2.2.2.2.2.2.2.2.1 r4.2.2.2.2.2.2.2.2.2.2.2.2.2.2.2]) 0 rfl 7 rfl er6 rfl dX8_laysBestOrder_49 ?_
        refine z_iinc 2 [(2, .int (s35.1 + 1)), (0, .ref (a 0)), (1, .int (-1))] rfl (v := (s35.1 + 1)) zinc (Nat.le_of_ble_eq_true rfl) rfl dX8_laysBestOrder_50 ?_
        refine z_goto (tgt := 35) rfl dX8_laysBestOrder_53 ?_
        cases h35
        have k35 := i35 ((s35.1 + 1), r6) rfl
        try dsimp only at k35
        exact z_lv [1, 2, 0] rfl k35
    · skip
      refine z_iconst (v := 1) (by decide) dX8_laysBestOrder_56 ?_
      refine z_istore_n [(2, .int (b2i true)), (0, .ref (a 0)), (1, .int (-1))] rfl (Nat.le_of_ble_eq_true rfl) rfl dX8_laysBestOrder_57 ?_
      obtain ⟨z7, ez7, h⟩ := zb h
      refine z_lv (lv' := [(0, .ref (a 0)), (1, .int (-1)), (2, .int (b2i true))]) [1, 2, 0] rfl ?_
      suffices hk58 : (fun (s58 : Int32 × Bool × tX8) => Z true RX8 cX8_laysBestOrder 6 7 162 g X 0 0 ([cX8 g a s58.2.2]) [(0, .ref (a 0)), (1, .int s58.1), (2, .int (b2i s58.2.1))] 58 []) ((-1), true, (r4.1, r4.2.1, r4.2.2.1, r4.2.2.2.1, r4.2.2.2.2.1, r4.2.2.2.2.2.1, r4.2.2.2.2.2.2.1, r4.2.2.2.2.2.2.2.1, r4.2.2.2.2.2.2.2.2.1, r4.2.2.2.2.2.2.2.2.2.1, r4.2.2.2.2.2.2.2.2.2.2.1, r4.2.2.2.2.2.2.2.2.2.2.2.1, z5, r4.2.2.2.2.2.2.2.2.2.2.2.2.2.1, r4.2.2.2.2.2.2.2.2.2.2.2.2.2.2.1, r4.2.2.2.2.2.2.2.2.2.2.2.2.2.2.2)) by try dsimp only at hk58; exact hk58
      refine lp_ind (σ := Int32 × Bool × tX8) (ε := tX8) b_X8_laysBestOrder_58 (fun s58 => Z true RX8 cX8_laysBestOrder 6 7 162 g X 0 0 ([cX8 g a s58.2.2]) [(0, .ref (a 0)), (1, .int s58.1), (2, .int (b2i s58.2.1))] 58 []) (fun z7 => Z true RX8 cX8_laysBestOrder 6 7 162 g X 0 0 ([cX8 g a z7]) [] 187 []) (fun s58 q58 h58 i58 x58 => ?_) 5000 ((-1), true, (r4.1, r4.2.1, r4.2.2.1, r4.2.2.2.1, r4.2.2.2.2.1, r4.2.2.2.2.2.1, r4.2.2.2.2.2.2.1, r4.2.2.2.2.2.2.2.1, r4.2.2.2.2.2.2.2.2.1, r4.2.2.2.2.2.2.2.2.2.1, r4.2.2.2.2.2.2.2.2.2.2.1, r4.2.2.2.2.2.2.2.2.2.2.2.1, z5, r4.2.2.2.2.2.2.2.2.2.2.2.2.2.1, r4.2.2.2.2.2.2.2.2.2.2.2.2.2.2.1, r4.2.2.2.2.2.2.2.2.2.2.2.2.2.2.2)) z7 ez7 ?_
      · unfold b_X8_laysBestOrder_58 at h58
        refine z_iload_n 2 rfl rfl dX8_laysBestOrder_58 ?_
        refine z_ifB_eq (tgt := 187) rfl dX8_laysBestOrder_59 (fun c59 => ?_) (fun c59 => ?_)
        · replace h58 := (if_neg c59).symm.trans h58
          cases h58
          have k58 := x58 s58.2.2 rfl
          try dsimp only at k58
          exact z_lv [] rfl k58
        · replace h58 := (if_pos c59).symm.trans h58
          refine z_aload_n 0 rfl rfl dX8_laysBestOrder_62 ?_
          refine z_aload_n 0 rfl rfl dX8_laysBestOrder_63 ?_
          refine z_get zcX8 0 rfl 0 rfl 11 (Nat.le_of_ble_eq_true rfl) zfX8_25 (v := .ref (a 6)) rfl dX8_laysBestOrder_64 ?_
          obtain ⟨r8, er8, h58⟩ := zb h58
          refine z_callVW (rest := []) hl (c_X8_picksBy_order l g a s58.2.2 _ er8) zyX8_picksBy zvX8_picksBy rfl zlX8_103 zcX8.1 ⟨_, _, rfl⟩ [(0, none)] rfl (by decide) rfl (w' := [cX8 g a r8.2]) rfl rfl rfl (by decide) (Nat.le_of_ble_eq_true rfl) ⟨Nat.zero_le _, Nat.zero_le _⟩ dX8_laysBestOrder_67 (st2 := [.int r8.1]) rfl ?_
          refine z_aload_n 0 rfl rfl dX8_laysBestOrder_70 ?_
          refine z_get zcX8 0 rfl 0 rfl 10 (Nat.le_of_ble_eq_true rfl) zfX8_83 (v := .int r8.2.2.2.2.2.2.2.2.2.2.2.1) rfl dX8_laysBestOrder_71 ?_
          refine z_icmp_ne (tgt := 81) rfl dX8_laysBestOrder_74 (fun c74 => ?_) (fun c74 => ?_)
          · replace h58 := (if_neg c74).symm.trans h58
            refine z_iconst (v := 0) (by decide) dX8_laysBestOrder_81 ?_
            refine z_istore_n [(3, .int 0), (0, .ref (a 0)), (1, .int s58.1), (2, .int (b2i s58.2.1))] rfl (Nat.le_of_ble_eq_true rfl) rfl dX8_laysBestOrder_82 ?_
            refine z_aload_n 1 rfl rfl dX8_laysBestOrder_83 ?_
            refine z_get zcX8 0 rfl 0 rfl 1 (Nat.le_of_ble_eq_true rfl) zfX8_7 (v := .ref (a 1)) rfl dX8_laysBestOrder_84 ?_
            refine z_iconst (v := 4) (by decide) dX8_laysBestOrder_87 ?_
            obtain ⟨r9, er9, h58⟩ := zb h58
            refine z_iald 0 rfl 1 rfl er9 dX8_laysBestOrder_88 ?_
            refine z_aload_n 1 rfl rfl dX8_laysBestOrder_89 ?_
            refine z_get zcX8 0 rfl 0 rfl 14 (Nat.le_of_ble_eq_true rfl) zfX8_35 (v := .ref (a 9)) rfl dX8_laysBestOrder_90 ?_
            refine z_iconst (v := 4) (by decide) dX8_laysBestOrder_93 ?_
            obtain ⟨r10, er10, h58⟩ := zb h58
            refine z_iald 0 rfl 9 rfl er10 dX8_laysBestOrder_94 ?_
            refine z_isub dX8_laysBestOrder_95 ?_
            refine z_istore [(4, .int (r9 - r10)), (3, .int 0), (0, .ref (a 0)), (1, .int s58.1), (2, .int (b2i s58.2.1))] (Nat.le_of_ble_eq_true rfl) rfl dX8_laysBestOrder_96 ?_
            refine z_iconst (v := 0) (by decide) dX8_laysBestOrder_98 ?_
            refine z_istore [(5, .int 0), (4, .int (r9 - r10)), (3, .int 0), (0, .ref (a 0)), (1, .int s58.1), (2, .int (b2i s58.2.1))] (Nat.le_of_ble_eq_true rfl) rfl dX8_laysBestOrder_99 ?_
            obtain ⟨z11, ez11, h58⟩ := zb h58
            refine z_lv (lv' := [(0, .ref (a 0)), (1, .int s58.1), (3, .int 0), (4, .int (r9 - r10)), (5, .int 0)]) [3, 4, 2, 1, 0] rfl ?_
            suffices hk101 : (fun (s101 : Int32 × zF) => Z true RX8 cX8_laysBestOrder 6 7 162 g X 0 0 ([dX8 g a r8.2.1 s101.2 r8.2.2.2.1 r8.2.2.2.2.1 r8.2.2.2.2.2.1 r8.2.2.2.2.2.2.1 r8.2.2.2.2.2.2.2.1 r8.2.2.2.2.2.2.2.2.1 r8.2.2.2.2.2.2.2.2.2.1 r8.2.2.2.2.2.2.2.2.2.2.1 r8.2.2.2.2.2.2.2.2.2.2.2.1 r8.2.2.2.2.2.2.2.2.2.2.2.2.1 r8.2.2.2.2.2.2.2.2.2.2.2.2.2.1 r8.2.2.2.2.2.2.2.2.2.2.2.2.2.2.1 r8.2.2.2.2.2.2.2.2.2.2.2.2.2.2.2.1 r8.2.2.2.2.2.2.2.2.2.2.2.2.2.2.2.2]) [(0, .ref (a 0)), (1, .int s58.1), (3, .int 0), (4, .int (r9 - r10)), (5, .int s101.1)] 101 []) (0, r8.2.2.1) by try dsimp only at hk101; exact hk101
            refine lp_ind (σ := Int32 × zF) (ε := zF) (b_X8_laysBestOrder_101 r8) (fun s101 => Z true RX8 cX8_laysBestOrder 6 7 162 g X 0 0 ([dX8 g a r8.2.1 s101.2 r8.2.2.2.1 r8.2.2.2.2.1 r8.2.2.2.2.2.1 r8.2.2.2.2.2.2.1 r8.2.2.2.2.2.2.2.1 r8.2.2.2.2.2.2.2.2.1 r8.2.2.2.2.2.2.2.2.2.1 r8.2.2.2.2.2.2.2.2.2.2.1 r8.2.2.2.2.2.2.2.2.2.2.2.1 r8.2.2.2.2.2.2.2.2.2.2.2.2.1 r8.2.2.2.2.2.2.2.2.2.2.2.2.2.1 r8.2.2.2.2.2.2.2.2.2.2.2.2.2.2.1 r8.2.2.2.2.2.2.2.2.2.2.2.2.2.2.2.1 r8.2.2.2.2.2.2.2.2.2.2.2.2.2.2.2.2]) [(0, .ref (a 0)), (1, .int s58.1), (3, .int 0), (4, .int (r9 - r10)), (5, .int s101.1)] 101 []) (fun z11 => Z true RX8 cX8_laysBestOrder 6 7 162 g X 0 0 ([dX8 g a r8.2.1 z11 r8.2.2.2.1 r8.2.2.2.2.1 r8.2.2.2.2.2.1 r8.2.2.2.2.2.2.1 r8.2.2.2.2.2.2.2.1 r8.2.2.2.2.2.2.2.2.1 r8.2.2.2.2.2.2.2.2.2.1 r8.2.2.2.2.2.2.2.2.2.2.1 r8.2.2.2.2.2.2.2.2.2.2.2.1 r8.2.2.2.2.2.2.2.2.2.2.2.2.1 r8.2.2.2.2.2.2.2.2.2.2.2.2.2.1 r8.2.2.2.2.2.2.2.2.2.2.2.2.2.2.1 r8.2.2.2.2.2.2.2.2.2.2.2.2.2.2.2.1 r8.2.2.2.2.2.2.2.2.2.2.2.2.2.2.2.2]) [(0, .ref (a 0)), (1, .int s58.1), (3, .int 0), (4, .int (r9 - r10))] 129 []) (fun s101 q101 h101 i101 x101 => ?_) 5000 (0, r8.2.2.1) z11 ez11 ?_
            · unfold b_X8_laysBestOrder_101 at h101
              refine z_iload 4 rfl dX8_laysBestOrder_101 ?_
              refine z_sipush (v := 142) (by decide) dX8_laysBestOrder_103 ?_
              refine z_icmp_ge (tgt := 129) rfl dX8_laysBestOrder_106 (fun c106 => ?_) (fun c106 => ?_)
              · replace h101 := (if_pos c106).symm.trans h101
                cases h101
                have k101 := x101 s101.2 rfl
                try dsimp only at k101
                exact z_lv [0, 1, 2, 3] rfl k101
              · replace h101 := (if_neg c106).symm.trans h101
                refine z_aload_n 0 rfl rfl dX8_laysBestOrder_109 ?_
                refine z_get zcX8 0 rfl 0 rfl 1 (Nat.le_of_ble_eq_true rfl) zfX8_7 (v := .ref (a 1)) rfl dX8_laysBestOrder_110 ?_
                refine z_iload 4 rfl dX8_laysBestOrder_113 ?_
                refine z_aload_n 0 rfl rfl dX8_laysBestOrder_115 ?_
                refine z_get zcX8 0 rfl 0 rfl 14 (Nat.le_of_ble_eq_true rfl) zfX8_35 (v := .ref (a 9)) rfl dX8_laysBestOrder_116 ?_
                refine z_iload 4 rfl dX8_laysBestOrder_119 ?_
                obtain ⟨r12, er12, h101⟩ := zb h101
                refine z_iald 0 rfl 9 rfl er12 dX8_laysBestOrder_121 ?_
                obtain ⟨r13, er13, h101⟩ := zb h101
                refine z_iast ([dX8 g a r8.2.1 r13 r8.2.2.2.1 r8.2.2.2.2.1 r8.2.2.2.2.2.1 r8.2.2.2.2.2.2.1 r8.2.2.2.2.2.2.2.1 r8.2.2.2.2.2.2.2.2.1 r8.2.2.2.2.2.2.2.2.2.1 r8.2.2.2.2.2.2.2.2.2.2.1 r8.2.2.2.2.2.2.2.2.2.2.2.1 r8.2.2.2.2.2.2.2.2.2.2.2.2.1 r8.2.2.2.2.2.2.2.2.2.2.2.2.2.1 r8.2.2.2.2.2.2.2.2.2.2.2.2.2.2.1 r8.2.2.2.2.2.2.2.2.2.2.2.2.2.2.2.1 r8.2.2.2.2.2.2.2.2.2.2.2.2.2.2.2.2]) 0 rfl 1 rfl er13 rfl dX8_laysBestOrder_122 ?_
                refine z_iinc 4 [(5, .int (s101.1 + 1)), (0, .ref (a 0)), (1, .int s58.1), (3, .int 0), (4, .int (r9 - r10))] rfl (v := (s101.1 + 1)) zinc (Nat.le_of_ble_eq_true rfl) rfl dX8_laysBestOrder_123 ?_
                refine z_goto (tgt := 101) rfl dX8_laysBestOrder_126 ?_
                cases h101
                have k101 := i101 ((s101.1 + 1), r13) rfl
                try dsimp only at k101
                exact z_lv [1, 2, 3, 4, 0] rfl k101
            · skip
              refine z_iload_n 2 rfl rfl dX8_laysBestOrder_129 ?_
              refine z_if_eq (tgt := 179) rfl dX8_laysBestOrder_130 (fun c130 => ?_) (fun c130 => ?_)
              · replace h58 := (if_pos c130).symm.trans h58
                refine z_aload_n 0 rfl rfl dX8_laysBestOrder_179 ?_
                obtain ⟨r14, er14, h58⟩ := zb h58
                refine z_callVW (rest := []) hl (c_X8_hasNextOrder l g a (r8.2.1, z11, r8.2.2.2.1, r8.2.2.2.2.1, r8.2.2.2.2.2.1, r8.2.2.2.2.2.2.1, r8.2.2.2.2.2.2.2.1, r8.2.2.2.2.2.2.2.2.1, r8.2.2.2.2.2.2.2.2.2.1, r8.2.2.2.2.2.2.2.2.2.2.1, r8.2.2.2.2.2.2.2.2.2.2.2.1, r8.2.2.2.2.2.2.2.2.2.2.2.2.1, r8.2.2.2.2.2.2.2.2.2.2.2.2.2.1, r8.2.2.2.2.2.2.2.2.2.2.2.2.2.2.1, r8.2.2.2.2.2.2.2.2.2.2.2.2.2.2.2.1, r8.2.2.2.2.2.2.2.2.2.2.2.2.2.2.2.2) _ er14) zyX8_hasNextOrder zvX8_hasNextOrder rfl zlX8_107 zcX8.1 ⟨_, _, rfl⟩ [(0, none)] rfl (by decide) rfl (w' := [cX8 g a r14.2]) rfl rfl rfl (by decide) (Nat.le_of_ble_eq_true rfl) ⟨Nat.zero_le _, Nat.zero_le _⟩ dX8_laysBestOrder_180 (st2 := [.int (b2i r14.1)]) rfl ?_
                refine z_istore_n [(2, .int (b2i r14.1)), (0, .ref (a 0)), (1, .int s58.1), (3, .int 0), (4, .int (r9 - r10))] rfl (Nat.le_of_ble_eq_true rfl) rfl dX8_laysBestOrder_183 ?_
                refine z_goto (tgt := 58) rfl dX8_laysBestOrder_184 ?_
                cases h58
                have k58 := i58 (s58.1, r14.1, r14.2) rfl
                try dsimp only at k58
                exact z_lv [1, 2, 0] rfl k58
              · replace h58 := (if_neg c130).symm.trans h58
                refine z_iload_n 1 rfl rfl dX8_laysBestOrder_133 ?_
                refine z_iconst (v := (-1)) (by decide) dX8_laysBestOrder_134 ?_
                refine z_icmp_eq (tgt := 144) rfl dX8_laysBestOrder_135 (fun c135 => ?_) (fun c135 => ?_)
                · replace h58 := (if_pos c135).symm.trans h58
                  refine z_iload 3 rfl dX8_laysBestOrder_144 ?_
                  refine z_istore_n [(1, .int (r9 - r10)), (0, .ref (a 0)), (3, .int 0), (4, .int (r9 - r10))] rfl (Nat.le_of_ble_eq_true rfl) rfl dX8_laysBestOrder_146 ?_
                  refine z_iconst (v := 0) (by decide) dX8_laysBestOrder_147 ?_
                  refine z_istore [(5, .int 0), (1, .int (r9 - r10)), (0, .ref (a 0)), (3, .int 0), (4, .int (r9 - r10))] (Nat.le_of_ble_eq_true rfl) rfl dX8_laysBestOrder_148 ?_
                  obtain ⟨z15, ez15, h58⟩ := zb h58
                  refine z_lv (lv' := [(0, .ref (a 0)), (1, .int (r9 - r10)), (5, .int 0)]) [2, 1, 0] rfl ?_
                  suffices hk150 : (fun (s150 : Int32 × zF) => Z true RX8 cX8_laysBestOrder 6 7 162 g X 0 0 ([dX8 g a r8.2.1 z11 r8.2.2.2.1 r8.2.2.2.2.1 r8.2.2.2.2.2.1 r8.2.2.2.2.2.2.1 r8.2.2.2.2.2.2.2.1 r8.2.2.2.2.2.2.2.2.1 r8.2.2.2.2.2.2.2.2.2.1 r8.2.2.2.2.2.2.2.2.2.2.1 r8.2.2.2.2.2.2.2.2.2.2.2.1 r8.2.2.2.2.2.2.2.2.2.2.2.2.1 s150.2 r8.2.2.2.2.2.2.2.2.2.2.2.2.2.2.1 r8.2.2.2.2.2.2.2.2.2.2.2.2.2.2.2.1 r8.2.2.2.2.2.2.2.2.2.2.2.2.2.2.2.2]) [(0, .ref (a 0)), (1, .int (r9 - r10)), (5, .int s150.1)] 150 []) (0, r8.2.2.2.2.2.2.2.2.2.2.2.2.2.1) by try dsimp only at hk150; exact hk150
                  refine lp_ind (σ := Int32 × zF) (ε := zF) (b_X8_laysBestOrder_150 r8) (fun s150 => Z true RX8 cX8_laysBestOrder 6 7 162 g X 0 0 ([dX8 g a r8.2.1 z11 r8.2.2.2.1 r8.2.2.2.2.1 r8.2.2.2.2.2.1 r8.2.2.2.2.2.2.1 r8.2.2.2.2.2.2.2.1 r8.2.2.2.2.2.2.2.2.1 r8.2.2.2.2.2.2.2.2.2.1 r8.2.2.2.2.2.2.2.2.2.2.1 r8.2.2.2.2.2.2.2.2.2.2.2.1 r8.2.2.2.2.2.2.2.2.2.2.2.2.1 s150.2 r8.2.2.2.2.2.2.2.2.2.2.2.2.2.2.1 r8.2.2.2.2.2.2.2.2.2.2.2.2.2.2.2.1 r8.2.2.2.2.2.2.2.2.2.2.2.2.2.2.2.2]) [(0, .ref (a 0)), (1, .int (r9 - r10)), (5, .int s150.1)] 150 []) (fun z15 => Z true RX8 cX8_laysBestOrder 6 7 162 g X 0 0 ([dX8 g a r8.2.1 z11 r8.2.2.2.1 r8.2.2.2.2.1 r8.2.2.2.2.2.1 r8.2.2.2.2.2.2.1 r8.2.2.2.2.2.2.2.1 r8.2.2.2.2.2.2.2.2.1 r8.2.2.2.2.2.2.2.2.2.1 r8.2.2.2.2.2.2.2.2.2.2.1 r8.2.2.2.2.2.2.2.2.2.2.2.1 r8.2.2.2.2.2.2.2.2.2.2.2.2.1 z15 r8.2.2.2.2.2.2.2.2.2.2.2.2.2.2.1 r8.2.2.2.2.2.2.2.2.2.2.2.2.2.2.2.1 r8.2.2.2.2.2.2.2.2.2.2.2.2.2.2.2.2]) [(0, .ref (a 0)), (1, .int (r9 - r10))] 179 []) (fun s150 q150 h150 i150 x150 => ?_) 5000 (0, r8.2.2.2.2.2.2.2.2.2.2.2.2.2.1) z15 ez15 ?_
                  · unfold b_X8_laysBestOrder_150 at h150
                    refine z_iload 2 rfl dX8_laysBestOrder_150 ?_
                    refine z_aload_n 0 rfl rfl dX8_laysBestOrder_152 ?_
                    refine z_get zcX8 0 rfl 0 rfl 10 (Nat.le_of_ble_eq_true rfl) zfX8_83 (v := .int r8.2.2.2.2.2.2.2.2.2.2.2.1) rfl dX8_laysBestOrder_153 ?_
                    refine z_icmp_ge (tgt := 179) rfl dX8_laysBestOrder_156 (fun c156 => ?_) (fun c156 => ?_)
                    · replace h150 := (if_pos c156).symm.trans h150
                      cases h150
                      have k150 := x150 s150.2 rfl
                      try dsimp only at k150
                      exact z_lv [0, 1] rfl k150
                    · replace h150 := (if_neg c156).symm.trans h150
                      refine z_aload_n 0 rfl rfl dX8_laysBestOrder_159 ?_
                      refine z_get zcX8 0 rfl 0 rfl 12 (Nat.le_of_ble_eq_true rfl) zfX8_28 (v := .ref (a 7)) rfl dX8_laysBestOrder_160 ?_
                      refine z_iload 2 rfl dX8_laysBestOrder_163 ?_
                      refine z_aload_n 0 rfl rfl dX8_laysBestOrder_165 ?_
                      refine z_get zcX8 0 rfl 0 rfl 11 (Nat.le_of_ble_eq_true rfl) zfX8_25 (v := .ref (a 6)) rfl dX8_laysBestOrder_166 ?_
                      refine z_iload 2 rfl dX8_laysBestOrder_169 ?_
                      obtain ⟨r16, er16, h150⟩ := zb h150
                      refine z_iald 0 rfl 6 rfl er16 dX8_laysBestOrder_171 ?_
                      obtain ⟨r17, er17, h150⟩ := zb h150
                      refine z_iast ([dX8 g a r8.2.1 z11 r8.2.2.2.1 r8.2.2.2.2.1 r8.2.2.2.2.2.1 r8.2.2.2.2.2.2.1 r8.2.2.2.2.2.2.2.1 r8.2.2.2.2.2.2.2.2.1 r8.2.2.2.2.2.2.2.2.2.1 r8.2.2.2.2.2.2.2.2.2.2.1 r8.2.2.2.2.2.2.2.2.2.2.2.1 r8.2.2.2.2.2.2.2.2.2.2.2.2.1 r17 r8.2.2.2.2.2.2.2.2.2.2.2.2.2.2.1 r8.2.2.2.2.2.2.2.2.2.2.2.2.2.2.2.1 r8.2.2.2.2.2.2.2.2.2.2.2.2.2.2.2.2]) 0 rfl 7 rfl er17 rfl dX8_laysBestOrder_172 ?_
                      refine z_iinc 2 [(5, .int (s150.1 + 1)), (0, .ref (a 0)), (1, .int (r9 - r10))] rfl (v := (s150.1 + 1)) zinc (Nat.le_of_ble_eq_true rfl) rfl dX8_laysBestOrder_173 ?_
                      refine z_goto (tgt := 150) rfl dX8_laysBestOrder_176 ?_
                      cases h150
                      have k150 := i150 ((s150.1 + 1), r17) rfl
                      try dsimp only at k150
                      exact z_lv [1, 2, 0] rfl k150
                  · skip
                    refine z_aload_n 0 rfl rfl dX8_laysBestOrder_179 ?_
                    obtain ⟨r18, er18, h58⟩ := zb h58
                    refine z_callVW (rest := []) hl (c_X8_hasNextOrder l g a (r8.2.1, z11, r8.2.2.2.1, r8.2.2.2.2.1, r8.2.2.2.2.2.1, r8.2.2.2.2.2.2.1, r8.2.2.2.2.2.2.2.1, r8.2.2.2.2.2.2.2.2.1, r8.2.2.2.2.2.2.2.2.2.1, r8.2.2.2.2.2.2.2.2.2.2.1, r8.2.2.2.2.2.2.2.2.2.2.2.1, r8.2.2.2.2.2.2.2.2.2.2.2.2.1, z15, r8.2.2.2.2.2.2.2.2.2.2.2.2.2.2.1, r8.2.2.2.2.2.2.2.2.2.2.2.2.2.2.2.1, r8.2.2.2.2.2.2.2.2.2.2.2.2.2.2.2.2) _ er18) zyX8_hasNextOrder zvX8_hasNextOrder rfl zlX8_107 zcX8.1 ⟨_, _, rfl⟩ [(0, none)] rfl (by decide) rfl (w' := [cX8 g a r18.2]) rfl rfl rfl (by decide) (Nat.le_of_ble_eq_true rfl) ⟨Nat.zero_le _, Nat.zero_le _⟩ dX8_laysBestOrder_180 (st2 := [.int (b2i r18.1)]) rfl ?_
                    refine z_istore_n [(2, .int (b2i r18.1)), (0, .ref (a 0)), (1, .int (r9 - r10))] rfl (Nat.le_of_ble_eq_true rfl) rfl dX8_laysBestOrder_183 ?_
                    refine z_goto (tgt := 58) rfl dX8_laysBestOrder_184 ?_
                    cases h58
                    have k58 := i58 ((r9 - r10), r18.1, r18.2) rfl
                    try dsimp only at k58
                    exact z_lv [1, 2, 0] rfl k58
                · replace h58 := (if_neg c135).symm.trans h58
                  refine z_iload 3 rfl dX8_laysBestOrder_138 ?_
                  refine z_iload_n 1 rfl rfl dX8_laysBestOrder_140 ?_
                  refine z_icmp_ge (tgt := 179) rfl dX8_laysBestOrder_141 (fun c141 => ?_) (fun c141 => ?_)
                  · replace h58 := (if_pos c141).symm.trans h58
                    refine z_aload_n 0 rfl rfl dX8_laysBestOrder_179 ?_
                    obtain ⟨r19, er19, h58⟩ := zb h58
                    refine z_callVW (rest := []) hl (c_X8_hasNextOrder l g a (r8.2.1, z11, r8.2.2.2.1, r8.2.2.2.2.1, r8.2.2.2.2.2.1, r8.2.2.2.2.2.2.1, r8.2.2.2.2.2.2.2.1, r8.2.2.2.2.2.2.2.2.1, r8.2.2.2.2.2.2.2.2.2.1, r8.2.2.2.2.2.2.2.2.2.2.1, r8.2.2.2.2.2.2.2.2.2.2.2.1, r8.2.2.2.2.2.2.2.2.2.2.2.2.1, r8.2.2.2.2.2.2.2.2.2.2.2.2.2.1, r8.2.2.2.2.2.2.2.2.2.2.2.2.2.2.1, r8.2.2.2.2.2.2.2.2.2.2.2.2.2.2.2.1, r8.2.2.2.2.2.2.2.2.2.2.2.2.2.2.2.2) _ er19) zyX8_hasNextOrder zvX8_hasNextOrder rfl zlX8_107 zcX8.1 ⟨_, _, rfl⟩ [(0, none)] rfl (by decide) rfl (w' := [cX8 g a r19.2]) rfl rfl rfl (by decide) (Nat.le_of_ble_eq_true rfl) ⟨Nat.zero_le _, Nat.zero_le _⟩ dX8_laysBestOrder_180 (st2 := [.int (b2i r19.1)]) rfl ?_
                    refine z_istore_n [(2, .int (b2i r19.1)), (0, .ref (a 0)), (1, .int s58.1), (3, .int 0), (4, .int (r9 - r10))] rfl (Nat.le_of_ble_eq_true rfl) rfl dX8_laysBestOrder_183 ?_
                    refine z_goto (tgt := 58) rfl dX8_laysBestOrder_184 ?_
                    cases h58
                    have k58 := i58 (s58.1, r19.1, r19.2) rfl
                    try dsimp only at k58
                    exact z_lv [1, 2, 0] rfl k58
                  · replace h58 := (if_neg c141).symm.trans h58
                    refine z_iload 3 rfl dX8_laysBestOrder_144 ?_
                    refine z_istore_n [(1, .int (r9 - r10)), (0, .ref (a 0)), (3, .int 0), (4, .int (r9 - r10))] rfl (Nat.le_of_ble_eq_true rfl) rfl dX8_laysBestOrder_146 ?_
                    refine z_iconst (v := 0) (by decide) dX8_laysBestOrder_147 ?_
                    refine z_istore [(5, .int 0), (1, .int (r9 - r10)), (0, .ref (a 0)), (3, .int 0), (4, .int (r9 - r10))] (Nat.le_of_ble_eq_true rfl) rfl dX8_laysBestOrder_148 ?_
                    obtain ⟨z20, ez20, h58⟩ := zb h58
                    refine z_lv (lv' := [(0, .ref (a 0)), (1, .int (r9 - r10)), (5, .int 0)]) [2, 1, 0] rfl ?_
                    suffices hk150 : (fun (s150 : Int32 × zF) => Z true RX8 cX8_laysBestOrder 6 7 162 g X 0 0 ([dX8 g a r8.2.1 z11 r8.2.2.2.1 r8.2.2.2.2.1 r8.2.2.2.2.2.1 r8.2.2.2.2.2.2.1 r8.2.2.2.2.2.2.2.1 r8.2.2.2.2.2.2.2.2.1 r8.2.2.2.2.2.2.2.2.2.1 r8.2.2.2.2.2.2.2.2.2.2.1 r8.2.2.2.2.2.2.2.2.2.2.2.1 r8.2.2.2.2.2.2.2.2.2.2.2.2.1 s150.2 r8.2.2.2.2.2.2.2.2.2.2.2.2.2.2.1 r8.2.2.2.2.2.2.2.2.2.2.2.2.2.2.2.1 r8.2.2.2.2.2.2.2.2.2.2.2.2.2.2.2.2]) [(0, .ref (a 0)), (1, .int (r9 - r10)), (5, .int s150.1)] 150 []) (0, r8.2.2.2.2.2.2.2.2.2.2.2.2.2.1) by try dsimp only at hk150; exact hk150
                    refine lp_ind (σ := Int32 × zF) (ε := zF) (b_X8_laysBestOrder_150_2 r8) (fun s150 => Z true RX8 cX8_laysBestOrder 6 7 162 g X 0 0 ([dX8 g a r8.2.1 z11 r8.2.2.2.1 r8.2.2.2.2.1 r8.2.2.2.2.2.1 r8.2.2.2.2.2.2.1 r8.2.2.2.2.2.2.2.1 r8.2.2.2.2.2.2.2.2.1 r8.2.2.2.2.2.2.2.2.2.1 r8.2.2.2.2.2.2.2.2.2.2.1 r8.2.2.2.2.2.2.2.2.2.2.2.1 r8.2.2.2.2.2.2.2.2.2.2.2.2.1 s150.2 r8.2.2.2.2.2.2.2.2.2.2.2.2.2.2.1 r8.2.2.2.2.2.2.2.2.2.2.2.2.2.2.2.1 r8.2.2.2.2.2.2.2.2.2.2.2.2.2.2.2.2]) [(0, .ref (a 0)), (1, .int (r9 - r10)), (5, .int s150.1)] 150 []) (fun z20 => Z true RX8 cX8_laysBestOrder 6 7 162 g X 0 0 ([dX8 g a r8.2.1 z11 r8.2.2.2.1 r8.2.2.2.2.1 r8.2.2.2.2.2.1 r8.2.2.2.2.2.2.1 r8.2.2.2.2.2.2.2.1 r8.2.2.2.2.2.2.2.2.1 r8.2.2.2.2.2.2.2.2.2.1 r8.2.2.2.2.2.2.2.2.2.2.1 r8.2.2.2.2.2.2.2.2.2.2.2.1 r8.2.2.2.2.2.2.2.2.2.2.2.2.1 z20 r8.2.2.2.2.2.2.2.2.2.2.2.2.2.2.1 r8.2.2.2.2.2.2.2.2.2.2.2.2.2.2.2.1 r8.2.2.2.2.2.2.2.2.2.2.2.2.2.2.2.2]) [(0, .ref (a 0)), (1, .int (r9 - r10))] 179 []) (fun s150 q150 h150 i150 x150 => ?_) 5000 (0, r8.2.2.2.2.2.2.2.2.2.2.2.2.2.1) z20 ez20 ?_
                    · unfold b_X8_laysBestOrder_150_2 at h150
                      refine z_iload 2 rfl dX8_laysBestOrder_150 ?_
                      refine z_aload_n 0 rfl rfl dX8_laysBestOrder_152 ?_
                      refine z_get zcX8 0 rfl 0 rfl 10 (Nat.le_of_ble_eq_true rfl) zfX8_83 (v := .int r8.2.2.2.2.2.2.2.2.2.2.2.1) rfl dX8_laysBestOrder_153 ?_
                      refine z_icmp_ge (tgt := 179) rfl dX8_laysBestOrder_156 (fun c156 => ?_) (fun c156 => ?_)
                      · replace h150 := (if_pos c156).symm.trans h150
                        cases h150
                        have k150 := x150 s150.2 rfl
                        try dsimp only at k150
                        exact z_lv [0, 1] rfl k150
                      · replace h150 := (if_neg c156).symm.trans h150
                        refine z_aload_n 0 rfl rfl dX8_laysBestOrder_159 ?_
                        refine z_get zcX8 0 rfl 0 rfl 12 (Nat.le_of_ble_eq_true rfl) zfX8_28 (v := .ref (a 7)) rfl dX8_laysBestOrder_160 ?_
                        refine z_iload 2 rfl dX8_laysBestOrder_163 ?_
                        refine z_aload_n 0 rfl rfl dX8_laysBestOrder_165 ?_
                        refine z_get zcX8 0 rfl 0 rfl 11 (Nat.le_of_ble_eq_true rfl) zfX8_25 (v := .ref (a 6)) rfl dX8_laysBestOrder_166 ?_
                        refine z_iload 2 rfl dX8_laysBestOrder_169 ?_
                        obtain ⟨r21, er21, h150⟩ := zb h150
                        refine z_iald 0 rfl 6 rfl er21 dX8_laysBestOrder_171 ?_
                        obtain ⟨r22, er22, h150⟩ := zb h150
                        refine z_iast ([dX8 g a r8.2.1 z11 r8.2.2.2.1 r8.2.2.2.2.1 r8.2.2.2.2.2.1 r8.2.2.2.2.2.2.1 r8.2.2.2.2.2.2.2.1 r8.2.2.2.2.2.2.2.2.1 r8.2.2.2.2.2.2.2.2.2.1 r8.2.2.2.2.2.2.2.2.2.2.1 r8.2.2.2.2.2.2.2.2.2.2.2.1 r8.2.2.2.2.2.2.2.2.2.2.2.2.1 r22 r8.2.2.2.2.2.2.2.2.2.2.2.2.2.2.1 r8.2.2.2.2.2.2.2.2.2.2.2.2.2.2.2.1 r8.2.2.2.2.2.2.2.2.2.2.2.2.2.2.2.2]) 0 rfl 7 rfl er22 rfl dX8_laysBestOrder_172 ?_
                        refine z_iinc 2 [(5, .int (s150.1 + 1)), (0, .ref (a 0)), (1, .int (r9 - r10))] rfl (v := (s150.1 + 1)) zinc (Nat.le_of_ble_eq_true rfl) rfl dX8_laysBestOrder_173 ?_
                        refine z_goto (tgt := 150) rfl dX8_laysBestOrder_176 ?_
                        cases h150
                        have k150 := i150 ((s150.1 + 1), r22) rfl
                        try dsimp only at k150
                        exact z_lv [1, 2, 0] rfl k150
                    · skip
                      refine z_aload_n 0 rfl rfl dX8_laysBestOrder_179 ?_
                      obtain ⟨r23, er23, h58⟩ := zb h58
                      refine z_callVW (rest := []) hl (c_X8_hasNextOrder l g a (r8.2.1, z11, r8.2.2.2.1, r8.2.2.2.2.1, r8.2.2.2.2.2.1, r8.2.2.2.2.2.2.1, r8.2.2.2.2.2.2.2.1, r8.2.2.2.2.2.2.2.2.1, r8.2.2.2.2.2.2.2.2.2.1, r8.2.2.2.2.2.2.2.2.2.2.1, r8.2.2.2.2.2.2.2.2.2.2.2.1, r8.2.2.2.2.2.2.2.2.2.2.2.2.1, z20, r8.2.2.2.2.2.2.2.2.2.2.2.2.2.2.1, r8.2.2.2.2.2.2.2.2.2.2.2.2.2.2.2.1, r8.2.2.2.2.2.2.2.2.2.2.2.2.2.2.2.2) _ er23) zyX8_hasNextOrder zvX8_hasNextOrder rfl zlX8_107 zcX8.1 ⟨_, _, rfl⟩ [(0, none)] rfl (by decide) rfl (w' := [cX8 g a r23.2]) rfl rfl rfl (by decide) (Nat.le_of_ble_eq_true rfl) ⟨Nat.zero_le _, Nat.zero_le _⟩ dX8_laysBestOrder_180 (st2 := [.int (b2i r23.1)]) rfl ?_
                      refine z_istore_n [(2, .int (b2i r23.1)), (0, .ref (a 0)), (1, .int (r9 - r10))] rfl (Nat.le_of_ble_eq_true rfl) rfl dX8_laysBestOrder_183 ?_
                      refine z_goto (tgt := 58) rfl dX8_laysBestOrder_184 ?_
                      cases h58
                      have k58 := i58 ((r9 - r10), r23.1, r23.2) rfl
                      try dsimp only at k58
                      exact z_lv [1, 2, 0] rfl k58
          · replace h58 := (if_pos c74).symm.trans h58
            refine z_iconst (v := 1) (by decide) dX8_laysBestOrder_77 ?_
            refine z_goto (tgt := 82) rfl dX8_laysBestOrder_78 ?_
            refine z_istore_n [(3, .int 1), (0, .ref (a 0)), (1, .int s58.1), (2, .int (b2i s58.2.1))] rfl (Nat.le_of_ble_eq_true rfl) rfl dX8_laysBestOrder_82 ?_
            refine z_aload_n 1 rfl rfl dX8_laysBestOrder_83 ?_
            refine z_get zcX8 0 rfl 0 rfl 1 (Nat.le_of_ble_eq_true rfl) zfX8_7 (v := .ref (a 1)) rfl dX8_laysBestOrder_84 ?_
            refine z_iconst (v := 4) (by decide) dX8_laysBestOrder_87 ?_
            obtain ⟨r24, er24, h58⟩ := zb h58
            refine z_iald 0 rfl 1 rfl er24 dX8_laysBestOrder_88 ?_
            refine z_aload_n 1 rfl rfl dX8_laysBestOrder_89 ?_
            refine z_get zcX8 0 rfl 0 rfl 14 (Nat.le_of_ble_eq_true rfl) zfX8_35 (v := .ref (a 9)) rfl dX8_laysBestOrder_90 ?_
            refine z_iconst (v := 4) (by decide) dX8_laysBestOrder_93 ?_
            obtain ⟨r25, er25, h58⟩ := zb h58
            refine z_iald 0 rfl 9 rfl er25 dX8_laysBestOrder_94 ?_
            refine z_isub dX8_laysBestOrder_95 ?_
            refine z_istore [(4, .int (r24 - r25)), (3, .int 1), (0, .ref (a 0)), (1, .int s58.1), (2, .int (b2i s58.2.1))] (Nat.le_of_ble_eq_true rfl) rfl dX8_laysBestOrder_96 ?_
            refine z_iconst (v := 0) (by decide) dX8_laysBestOrder_98 ?_
            refine z_istore [(5, .int 0), (4, .int (r24 - r25)), (3, .int 1), (0, .ref (a 0)), (1, .int s58.1), (2, .int (b2i s58.2.1))] (Nat.le_of_ble_eq_true rfl) rfl dX8_laysBestOrder_99 ?_
            obtain ⟨z26, ez26, h58⟩ := zb h58
            refine z_lv (lv' := [(0, .ref (a 0)), (1, .int s58.1), (3, .int 1), (4, .int (r24 - r25)), (5, .int 0)]) [3, 4, 2, 1, 0] rfl ?_
            suffices hk101 : (fun (s101 : Int32 × zF) => Z true RX8 cX8_laysBestOrder 6 7 162 g X 0 0 ([dX8 g a r8.2.1 s101.2 r8.2.2.2.1 r8.2.2.2.2.1 r8.2.2.2.2.2.1 r8.2.2.2.2.2.2.1 r8.2.2.2.2.2.2.2.1 r8.2.2.2.2.2.2.2.2.1 r8.2.2.2.2.2.2.2.2.2.1 r8.2.2.2.2.2.2.2.2.2.2.1 r8.2.2.2.2.2.2.2.2.2.2.2.1 r8.2.2.2.2.2.2.2.2.2.2.2.2.1 r8.2.2.2.2.2.2.2.2.2.2.2.2.2.1 r8.2.2.2.2.2.2.2.2.2.2.2.2.2.2.1 r8.2.2.2.2.2.2.2.2.2.2.2.2.2.2.2.1 r8.2.2.2.2.2.2.2.2.2.2.2.2.2.2.2.2]) [(0, .ref (a 0)), (1, .int s58.1), (3, .int 1), (4, .int (r24 - r25)), (5, .int s101.1)] 101 []) (0, r8.2.2.1) by try dsimp only at hk101; exact hk101
            refine lp_ind (σ := Int32 × zF) (ε := zF) (b_X8_laysBestOrder_101_2 r8) (fun s101 => Z true RX8 cX8_laysBestOrder 6 7 162 g X 0 0 ([dX8 g a r8.2.1 s101.2 r8.2.2.2.1 r8.2.2.2.2.1 r8.2.2.2.2.2.1 r8.2.2.2.2.2.2.1 r8.2.2.2.2.2.2.2.1 r8.2.2.2.2.2.2.2.2.1 r8.2.2.2.2.2.2.2.2.2.1 r8.2.2.2.2.2.2.2.2.2.2.1 r8.2.2.2.2.2.2.2.2.2.2.2.1 r8.2.2.2.2.2.2.2.2.2.2.2.2.1 r8.2.2.2.2.2.2.2.2.2.2.2.2.2.1 r8.2.2.2.2.2.2.2.2.2.2.2.2.2.2.1 r8.2.2.2.2.2.2.2.2.2.2.2.2.2.2.2.1 r8.2.2.2.2.2.2.2.2.2.2.2.2.2.2.2.2]) [(0, .ref (a 0)), (1, .int s58.1), (3, .int 1), (4, .int (r24 - r25)), (5, .int s101.1)] 101 []) (fun z26 => Z true RX8 cX8_laysBestOrder 6 7 162 g X 0 0 ([dX8 g a r8.2.1 z26 r8.2.2.2.1 r8.2.2.2.2.1 r8.2.2.2.2.2.1 r8.2.2.2.2.2.2.1 r8.2.2.2.2.2.2.2.1 r8.2.2.2.2.2.2.2.2.1 r8.2.2.2.2.2.2.2.2.2.1 r8.2.2.2.2.2.2.2.2.2.2.1 r8.2.2.2.2.2.2.2.2.2.2.2.1 r8.2.2.2.2.2.2.2.2.2.2.2.2.1 r8.2.2.2.2.2.2.2.2.2.2.2.2.2.1 r8.2.2.2.2.2.2.2.2.2.2.2.2.2.2.1 r8.2.2.2.2.2.2.2.2.2.2.2.2.2.2.2.1 r8.2.2.2.2.2.2.2.2.2.2.2.2.2.2.2.2]) [(0, .ref (a 0)), (1, .int s58.1), (3, .int 1), (4, .int (r24 - r25))] 129 []) (fun s101 q101 h101 i101 x101 => ?_) 5000 (0, r8.2.2.1) z26 ez26 ?_
            · unfold b_X8_laysBestOrder_101_2 at h101
              refine z_iload 4 rfl dX8_laysBestOrder_101 ?_
              refine z_sipush (v := 142) (by decide) dX8_laysBestOrder_103 ?_
              refine z_icmp_ge (tgt := 129) rfl dX8_laysBestOrder_106 (fun c106 => ?_) (fun c106 => ?_)
              · replace h101 := (if_pos c106).symm.trans h101
                cases h101
                have k101 := x101 s101.2 rfl
                try dsimp only at k101
                exact z_lv [0, 1, 2, 3] rfl k101
              · replace h101 := (if_neg c106).symm.trans h101
                refine z_aload_n 0 rfl rfl dX8_laysBestOrder_109 ?_
                refine z_get zcX8 0 rfl 0 rfl 1 (Nat.le_of_ble_eq_true rfl) zfX8_7 (v := .ref (a 1)) rfl dX8_laysBestOrder_110 ?_
                refine z_iload 4 rfl dX8_laysBestOrder_113 ?_
                refine z_aload_n 0 rfl rfl dX8_laysBestOrder_115 ?_
                refine z_get zcX8 0 rfl 0 rfl 14 (Nat.le_of_ble_eq_true rfl) zfX8_35 (v := .ref (a 9)) rfl dX8_laysBestOrder_116 ?_
                refine z_iload 4 rfl dX8_laysBestOrder_119 ?_
                obtain ⟨r27, er27, h101⟩ := zb h101
                refine z_iald 0 rfl 9 rfl er27 dX8_laysBestOrder_121 ?_
                obtain ⟨r28, er28, h101⟩ := zb h101
                refine z_iast ([dX8 g a r8.2.1 r28 r8.2.2.2.1 r8.2.2.2.2.1 r8.2.2.2.2.2.1 r8.2.2.2.2.2.2.1 r8.2.2.2.2.2.2.2.1 r8.2.2.2.2.2.2.2.2.1 r8.2.2.2.2.2.2.2.2.2.1 r8.2.2.2.2.2.2.2.2.2.2.1 r8.2.2.2.2.2.2.2.2.2.2.2.1 r8.2.2.2.2.2.2.2.2.2.2.2.2.1 r8.2.2.2.2.2.2.2.2.2.2.2.2.2.1 r8.2.2.2.2.2.2.2.2.2.2.2.2.2.2.1 r8.2.2.2.2.2.2.2.2.2.2.2.2.2.2.2.1 r8.2.2.2.2.2.2.2.2.2.2.2.2.2.2.2.2]) 0 rfl 1 rfl er28 rfl dX8_laysBestOrder_122 ?_
                refine z_iinc 4 [(5, .int (s101.1 + 1)), (0, .ref (a 0)), (1, .int s58.1), (3, .int 1), (4, .int (r24 - r25))] rfl (v := (s101.1 + 1)) zinc (Nat.le_of_ble_eq_true rfl) rfl dX8_laysBestOrder_123 ?_
                refine z_goto (tgt := 101) rfl dX8_laysBestOrder_126 ?_
                cases h101
                have k101 := i101 ((s101.1 + 1), r28) rfl
                try dsimp only at k101
                exact z_lv [1, 2, 3, 4, 0] rfl k101
            · skip
              refine z_iload_n 2 rfl rfl dX8_laysBestOrder_129 ?_
              refine z_if_eq (tgt := 179) rfl dX8_laysBestOrder_130 (fun c130 => ?_) (fun c130 => ?_)
              · replace h58 := (if_pos c130).symm.trans h58
                refine z_aload_n 0 rfl rfl dX8_laysBestOrder_179 ?_
                obtain ⟨r29, er29, h58⟩ := zb h58
                refine z_callVW (rest := []) hl (c_X8_hasNextOrder l g a (r8.2.1, z26, r8.2.2.2.1, r8.2.2.2.2.1, r8.2.2.2.2.2.1, r8.2.2.2.2.2.2.1, r8.2.2.2.2.2.2.2.1, r8.2.2.2.2.2.2.2.2.1, r8.2.2.2.2.2.2.2.2.2.1, r8.2.2.2.2.2.2.2.2.2.2.1, r8.2.2.2.2.2.2.2.2.2.2.2.1, r8.2.2.2.2.2.2.2.2.2.2.2.2.1, r8.2.2.2.2.2.2.2.2.2.2.2.2.2.1, r8.2.2.2.2.2.2.2.2.2.2.2.2.2.2.1, r8.2.2.2.2.2.2.2.2.2.2.2.2.2.2.2.1, r8.2.2.2.2.2.2.2.2.2.2.2.2.2.2.2.2) _ er29) zyX8_hasNextOrder zvX8_hasNextOrder rfl zlX8_107 zcX8.1 ⟨_, _, rfl⟩ [(0, none)] rfl (by decide) rfl (w' := [cX8 g a r29.2]) rfl rfl rfl (by decide) (Nat.le_of_ble_eq_true rfl) ⟨Nat.zero_le _, Nat.zero_le _⟩ dX8_laysBestOrder_180 (st2 := [.int (b2i r29.1)]) rfl ?_
                refine z_istore_n [(2, .int (b2i r29.1)), (0, .ref (a 0)), (1, .int s58.1), (3, .int 1), (4, .int (r24 - r25))] rfl (Nat.le_of_ble_eq_true rfl) rfl dX8_laysBestOrder_183 ?_
                refine z_goto (tgt := 58) rfl dX8_laysBestOrder_184 ?_
                cases h58
                have k58 := i58 (s58.1, r29.1, r29.2) rfl
                try dsimp only at k58
                exact z_lv [1, 2, 0] rfl k58
              · replace h58 := (if_neg c130).symm.trans h58
                refine z_iload_n 1 rfl rfl dX8_laysBestOrder_133 ?_
                refine z_iconst (v := (-1)) (by decide) dX8_laysBestOrder_134 ?_
                refine z_icmp_eq (tgt := 144) rfl dX8_laysBestOrder_135 (fun c135 => ?_) (fun c135 => ?_)
                · replace h58 := (if_pos c135).symm.trans h58
                  refine z_iload 3 rfl dX8_laysBestOrder_144 ?_
                  refine z_istore_n [(1, .int (r24 - r25)), (0, .ref (a 0)), (3, .int 1), (4, .int (r24 - r25))] rfl (Nat.le_of_ble_eq_true rfl) rfl dX8_laysBestOrder_146 ?_
                  refine z_iconst (v := 0) (by decide) dX8_laysBestOrder_147 ?_
                  refine z_istore [(5, .int 0), (1, .int (r24 - r25)), (0, .ref (a 0)), (3, .int 1), (4, .int (r24 - r25))] (Nat.le_of_ble_eq_true rfl) rfl dX8_laysBestOrder_148 ?_
                  obtain ⟨z30, ez30, h58⟩ := zb h58
                  refine z_lv (lv' := [(0, .ref (a 0)), (1, .int (r24 - r25)), (5, .int 0)]) [2, 1, 0] rfl ?_
                  suffices hk150 : (fun (s150 : Int32 × zF) => Z true RX8 cX8_laysBestOrder 6 7 162 g X 0 0 ([dX8 g a r8.2.1 z26 r8.2.2.2.1 r8.2.2.2.2.1 r8.2.2.2.2.2.1 r8.2.2.2.2.2.2.1 r8.2.2.2.2.2.2.2.1 r8.2.2.2.2.2.2.2.2.1 r8.2.2.2.2.2.2.2.2.2.1 r8.2.2.2.2.2.2.2.2.2.2.1 r8.2.2.2.2.2.2.2.2.2.2.2.1 r8.2.2.2.2.2.2.2.2.2.2.2.2.1 s150.2 r8.2.2.2.2.2.2.2.2.2.2.2.2.2.2.1 r8.2.2.2.2.2.2.2.2.2.2.2.2.2.2.2.1 r8.2.2.2.2.2.2.2.2.2.2.2.2.2.2.2.2]) [(0, .ref (a 0)), (1, .int (r24 - r25)), (5, .int s150.1)] 150 []) (0, r8.2.2.2.2.2.2.2.2.2.2.2.2.2.1) by try dsimp only at hk150; exact hk150
                  refine lp_ind (σ := Int32 × zF) (ε := zF) (b_X8_laysBestOrder_150_3 r8) (fun s150 => Z true RX8 cX8_laysBestOrder 6 7 162 g X 0 0 ([dX8 g a r8.2.1 z26 r8.2.2.2.1 r8.2.2.2.2.1 r8.2.2.2.2.2.1 r8.2.2.2.2.2.2.1 r8.2.2.2.2.2.2.2.1 r8.2.2.2.2.2.2.2.2.1 r8.2.2.2.2.2.2.2.2.2.1 r8.2.2.2.2.2.2.2.2.2.2.1 r8.2.2.2.2.2.2.2.2.2.2.2.1 r8.2.2.2.2.2.2.2.2.2.2.2.2.1 s150.2 r8.2.2.2.2.2.2.2.2.2.2.2.2.2.2.1 r8.2.2.2.2.2.2.2.2.2.2.2.2.2.2.2.1 r8.2.2.2.2.2.2.2.2.2.2.2.2.2.2.2.2]) [(0, .ref (a 0)), (1, .int (r24 - r25)), (5, .int s150.1)] 150 []) (fun z30 => Z true RX8 cX8_laysBestOrder 6 7 162 g X 0 0 ([dX8 g a r8.2.1 z26 r8.2.2.2.1 r8.2.2.2.2.1 r8.2.2.2.2.2.1 r8.2.2.2.2.2.2.1 r8.2.2.2.2.2.2.2.1 r8.2.2.2.2.2.2.2.2.1 r8.2.2.2.2.2.2.2.2.2.1 r8.2.2.2.2.2.2.2.2.2.2.1 r8.2.2.2.2.2.2.2.2.2.2.2.1 r8.2.2.2.2.2.2.2.2.2.2.2.2.1 z30 r8.2.2.2.2.2.2.2.2.2.2.2.2.2.2.1 r8.2.2.2.2.2.2.2.2.2.2.2.2.2.2.2.1 r8.2.2.2.2.2.2.2.2.2.2.2.2.2.2.2.2]) [(0, .ref (a 0)), (1, .int (r24 - r25))] 179 []) (fun s150 q150 h150 i150 x150 => ?_) 5000 (0, r8.2.2.2.2.2.2.2.2.2.2.2.2.2.1) z30 ez30 ?_
                  · unfold b_X8_laysBestOrder_150_3 at h150
                    refine z_iload 2 rfl dX8_laysBestOrder_150 ?_
                    refine z_aload_n 0 rfl rfl dX8_laysBestOrder_152 ?_
                    refine z_get zcX8 0 rfl 0 rfl 10 (Nat.le_of_ble_eq_true rfl) zfX8_83 (v := .int r8.2.2.2.2.2.2.2.2.2.2.2.1) rfl dX8_laysBestOrder_153 ?_
                    refine z_icmp_ge (tgt := 179) rfl dX8_laysBestOrder_156 (fun c156 => ?_) (fun c156 => ?_)
                    · replace h150 := (if_pos c156).symm.trans h150
                      cases h150
                      have k150 := x150 s150.2 rfl
                      try dsimp only at k150
                      exact z_lv [0, 1] rfl k150
                    · replace h150 := (if_neg c156).symm.trans h150
                      refine z_aload_n 0 rfl rfl dX8_laysBestOrder_159 ?_
                      refine z_get zcX8 0 rfl 0 rfl 12 (Nat.le_of_ble_eq_true rfl) zfX8_28 (v := .ref (a 7)) rfl dX8_laysBestOrder_160 ?_
                      refine z_iload 2 rfl dX8_laysBestOrder_163 ?_
                      refine z_aload_n 0 rfl rfl dX8_laysBestOrder_165 ?_
                      refine z_get zcX8 0 rfl 0 rfl 11 (Nat.le_of_ble_eq_true rfl) zfX8_25 (v := .ref (a 6)) rfl dX8_laysBestOrder_166 ?_
                      refine z_iload 2 rfl dX8_laysBestOrder_169 ?_
                      obtain ⟨r31, er31, h150⟩ := zb h150
                      refine z_iald 0 rfl 6 rfl er31 dX8_laysBestOrder_171 ?_
                      obtain ⟨r32, er32, h150⟩ := zb h150
                      refine z_iast ([dX8 g a r8.2.1 z26 r8.2.2.2.1 r8.2.2.2.2.1 r8.2.2.2.2.2.1 r8.2.2.2.2.2.2.1 r8.2.2.2.2.2.2.2.1 r8.2.2.2.2.2.2.2.2.1 r8.2.2.2.2.2.2.2.2.2.1 r8.2.2.2.2.2.2.2.2.2.2.1 r8.2.2.2.2.2.2.2.2.2.2.2.1 r8.2.2.2.2.2.2.2.2.2.2.2.2.1 r32 r8.2.2.2.2.2.2.2.2.2.2.2.2.2.2.1 r8.2.2.2.2.2.2.2.2.2.2.2.2.2.2.2.1 r8.2.2.2.2.2.2.2.2.2.2.2.2.2.2.2.2]) 0 rfl 7 rfl er32 rfl dX8_laysBestOrder_172 ?_
                      refine z_iinc 2 [(5, .int (s150.1 + 1)), (0, .ref (a 0)), (1, .int (r24 - r25))] rfl (v := (s150.1 + 1)) zinc (Nat.le_of_ble_eq_true rfl) rfl dX8_laysBestOrder_173 ?_
                      refine z_goto (tgt := 150) rfl dX8_laysBestOrder_176 ?_
                      cases h150
                      have k150 := i150 ((s150.1 + 1), r32) rfl
                      try dsimp only at k150
                      exact z_lv [1, 2, 0] rfl k150
                  · skip
                    refine z_aload_n 0 rfl rfl dX8_laysBestOrder_179 ?_
                    obtain ⟨r33, er33, h58⟩ := zb h58
                    refine z_callVW (rest := []) hl (c_X8_hasNextOrder l g a (r8.2.1, z26, r8.2.2.2.1, r8.2.2.2.2.1, r8.2.2.2.2.2.1, r8.2.2.2.2.2.2.1, r8.2.2.2.2.2.2.2.1, r8.2.2.2.2.2.2.2.2.1, r8.2.2.2.2.2.2.2.2.2.1, r8.2.2.2.2.2.2.2.2.2.2.1, r8.2.2.2.2.2.2.2.2.2.2.2.1, r8.2.2.2.2.2.2.2.2.2.2.2.2.1, z30, r8.2.2.2.2.2.2.2.2.2.2.2.2.2.2.1, r8.2.2.2.2.2.2.2.2.2.2.2.2.2.2.2.1, r8.2.2.2.2.2.2.2.2.2.2.2.2.2.2.2.2) _ er33) zyX8_hasNextOrder zvX8_hasNextOrder rfl zlX8_107 zcX8.1 ⟨_, _, rfl⟩ [(0, none)] rfl (by decide) rfl (w' := [cX8 g a r33.2]) rfl rfl rfl (by decide) (Nat.le_of_ble_eq_true rfl) ⟨Nat.zero_le _, Nat.zero_le _⟩ dX8_laysBestOrder_180 (st2 := [.int (b2i r33.1)]) rfl ?_
                    refine z_istore_n [(2, .int (b2i r33.1)), (0, .ref (a 0)), (1, .int (r24 - r25))] rfl (Nat.le_of_ble_eq_true rfl) rfl dX8_laysBestOrder_183 ?_
                    refine z_goto (tgt := 58) rfl dX8_laysBestOrder_184 ?_
                    cases h58
                    have k58 := i58 ((r24 - r25), r33.1, r33.2) rfl
                    try dsimp only at k58
                    exact z_lv [1, 2, 0] rfl k58
                · replace h58 := (if_neg c135).symm.trans h58
                  refine z_iload 3 rfl dX8_laysBestOrder_138 ?_
                  refine z_iload_n 1 rfl rfl dX8_laysBestOrder_140 ?_
                  refine z_icmp_ge (tgt := 179) rfl dX8_laysBestOrder_141 (fun c141 => ?_) (fun c141 => ?_)
                  · replace h58 := (if_pos c141).symm.trans h58
                    refine z_aload_n 0 rfl rfl dX8_laysBestOrder_179 ?_
                    obtain ⟨r34, er34, h58⟩ := zb h58
                    refine z_callVW (rest := []) hl (c_X8_hasNextOrder l g a (r8.2.1, z26, r8.2.2.2.1, r8.2.2.2.2.1, r8.2.2.2.2.2.1, r8.2.2.2.2.2.2.1, r8.2.2.2.2.2.2.2.1, r8.2.2.2.2.2.2.2.2.1, r8.2.2.2.2.2.2.2.2.2.1, r8.2.2.2.2.2.2.2.2.2.2.1, r8.2.2.2.2.2.2.2.2.2.2.2.1, r8.2.2.2.2.2.2.2.2.2.2.2.2.1, r8.2.2.2.2.2.2.2.2.2.2.2.2.2.1, r8.2.2.2.2.2.2.2.2.2.2.2.2.2.2.1, r8.2.2.2.2.2.2.2.2.2.2.2.2.2.2.2.1, r8.2.2.2.2.2.2.2.2.2.2.2.2.2.2.2.2) _ er34) zyX8_hasNextOrder zvX8_hasNextOrder rfl zlX8_107 zcX8.1 ⟨_, _, rfl⟩ [(0, none)] rfl (by decide) rfl (w' := [cX8 g a r34.2]) rfl rfl rfl (by decide) (Nat.le_of_ble_eq_true rfl) ⟨Nat.zero_le _, Nat.zero_le _⟩ dX8_laysBestOrder_180 (st2 := [.int (b2i r34.1)]) rfl ?_
                    refine z_istore_n [(2, .int (b2i r34.1)), (0, .ref (a 0)), (1, .int s58.1), (3, .int 1), (4, .int (r24 - r25))] rfl (Nat.le_of_ble_eq_true rfl) rfl dX8_laysBestOrder_183 ?_
                    refine z_goto (tgt := 58) rfl dX8_laysBestOrder_184 ?_
                    cases h58
                    have k58 := i58 (s58.1, r34.1, r34.2) rfl
                    try dsimp only at k58
                    exact z_lv [1, 2, 0] rfl k58
                  · replace h58 := (if_neg c141).symm.trans h58
                    refine z_iload 3 rfl dX8_laysBestOrder_144 ?_
                    refine z_istore_n [(1, .int (r24 - r25)), (0, .ref (a 0)), (3, .int 1), (4, .int (r24 - r25))] rfl (Nat.le_of_ble_eq_true rfl) rfl dX8_laysBestOrder_146 ?_
                    refine z_iconst (v := 0) (by decide) dX8_laysBestOrder_147 ?_
                    refine z_istore [(5, .int 0), (1, .int (r24 - r25)), (0, .ref (a 0)), (3, .int 1), (4, .int (r24 - r25))] (Nat.le_of_ble_eq_true rfl) rfl dX8_laysBestOrder_148 ?_
                    obtain ⟨z35, ez35, h58⟩ := zb h58
                    refine z_lv (lv' := [(0, .ref (a 0)), (1, .int (r24 - r25)), (5, .int 0)]) [2, 1, 0] rfl ?_
                    suffices hk150 : (fun (s150 : Int32 × zF) => Z true RX8 cX8_laysBestOrder 6 7 162 g X 0 0 ([dX8 g a r8.2.1 z26 r8.2.2.2.1 r8.2.2.2.2.1 r8.2.2.2.2.2.1 r8.2.2.2.2.2.2.1 r8.2.2.2.2.2.2.2.1 r8.2.2.2.2.2.2.2.2.1 r8.2.2.2.2.2.2.2.2.2.1 r8.2.2.2.2.2.2.2.2.2.2.1 r8.2.2.2.2.2.2.2.2.2.2.2.1 r8.2.2.2.2.2.2.2.2.2.2.2.2.1 s150.2 r8.2.2.2.2.2.2.2.2.2.2.2.2.2.2.1 r8.2.2.2.2.2.2.2.2.2.2.2.2.2.2.2.1 r8.2.2.2.2.2.2.2.2.2.2.2.2.2.2.2.2]) [(0, .ref (a 0)), (1, .int (r24 - r25)), (5, .int s150.1)] 150 []) (0, r8.2.2.2.2.2.2.2.2.2.2.2.2.2.1) by try dsimp only at hk150; exact hk150
                    refine lp_ind (σ := Int32 × zF) (ε := zF) (b_X8_laysBestOrder_150_4 r8) (fun s150 => Z true RX8 cX8_laysBestOrder 6 7 162 g X 0 0 ([dX8 g a r8.2.1 z26 r8.2.2.2.1 r8.2.2.2.2.1 r8.2.2.2.2.2.1 r8.2.2.2.2.2.2.1 r8.2.2.2.2.2.2.2.1 r8.2.2.2.2.2.2.2.2.1 r8.2.2.2.2.2.2.2.2.2.1 r8.2.2.2.2.2.2.2.2.2.2.1 r8.2.2.2.2.2.2.2.2.2.2.2.1 r8.2.2.2.2.2.2.2.2.2.2.2.2.1 s150.2 r8.2.2.2.2.2.2.2.2.2.2.2.2.2.2.1 r8.2.2.2.2.2.2.2.2.2.2.2.2.2.2.2.1 r8.2.2.2.2.2.2.2.2.2.2.2.2.2.2.2.2]) [(0, .ref (a 0)), (1, .int (r24 - r25)), (5, .int s150.1)] 150 []) (fun z35 => Z true RX8 cX8_laysBestOrder 6 7 162 g X 0 0 ([dX8 g a r8.2.1 z26 r8.2.2.2.1 r8.2.2.2.2.1 r8.2.2.2.2.2.1 r8.2.2.2.2.2.2.1 r8.2.2.2.2.2.2.2.1 r8.2.2.2.2.2.2.2.2.1 r8.2.2.2.2.2.2.2.2.2.1 r8.2.2.2.2.2.2.2.2.2.2.1 r8.2.2.2.2.2.2.2.2.2.2.2.1 r8.2.2.2.2.2.2.2.2.2.2.2.2.1 z35 r8.2.2.2.2.2.2.2.2.2.2.2.2.2.2.1 r8.2.2.2.2.2.2.2.2.2.2.2.2.2.2.2.1 r8.2.2.2.2.2.2.2.2.2.2.2.2.2.2.2.2]) [(0, .ref (a 0)), (1, .int (r24 - r25))] 179 []) (fun s150 q150 h150 i150 x150 => ?_) 5000 (0, r8.2.2.2.2.2.2.2.2.2.2.2.2.2.1) z35 ez35 ?_
                    · unfold b_X8_laysBestOrder_150_4 at h150
                      refine z_iload 2 rfl dX8_laysBestOrder_150 ?_
                      refine z_aload_n 0 rfl rfl dX8_laysBestOrder_152 ?_
                      refine z_get zcX8 0 rfl 0 rfl 10 (Nat.le_of_ble_eq_true rfl) zfX8_83 (v := .int r8.2.2.2.2.2.2.2.2.2.2.2.1) rfl dX8_laysBestOrder_153 ?_
                      refine z_icmp_ge (tgt := 179) rfl dX8_laysBestOrder_156 (fun c156 => ?_) (fun c156 => ?_)
                      · replace h150 := (if_pos c156).symm.trans h150
                        cases h150
                        have k150 := x150 s150.2 rfl
                        try dsimp only at k150
                        exact z_lv [0, 1] rfl k150
                      · replace h150 := (if_neg c156).symm.trans h150
                        refine z_aload_n 0 rfl rfl dX8_laysBestOrder_159 ?_
                        refine z_get zcX8 0 rfl 0 rfl 12 (Nat.le_of_ble_eq_true rfl) zfX8_28 (v := .ref (a 7)) rfl dX8_laysBestOrder_160 ?_
                        refine z_iload 2 rfl dX8_laysBestOrder_163 ?_
                        refine z_aload_n 0 rfl rfl dX8_laysBestOrder_165 ?_
                        refine z_get zcX8 0 rfl 0 rfl 11 (Nat.le_of_ble_eq_true rfl) zfX8_25 (v := .ref (a 6)) rfl dX8_laysBestOrder_166 ?_
                        refine z_iload 2 rfl dX8_laysBestOrder_169 ?_
                        obtain ⟨r36, er36, h150⟩ := zb h150
                        refine z_iald 0 rfl 6 rfl er36 dX8_laysBestOrder_171 ?_
                        obtain ⟨r37, er37, h150⟩ := zb h150
                        refine z_iast ([dX8 g a r8.2.1 z26 r8.2.2.2.1 r8.2.2.2.2.1 r8.2.2.2.2.2.1 r8.2.2.2.2.2.2.1 r8.2.2.2.2.2.2.2.1 r8.2.2.2.2.2.2.2.2.1 r8.2.2.2.2.2.2.2.2.2.1 r8.2.2.2.2.2.2.2.2.2.2.1 r8.2.2.2.2.2.2.2.2.2.2.2.1 r8.2.2.2.2.2.2.2.2.2.2.2.2.1 r37 r8.2.2.2.2.2.2.2.2.2.2.2.2.2.2.1 r8.2.2.2.2.2.2.2.2.2.2.2.2.2.2.2.1 r8.2.2.2.2.2.2.2.2.2.2.2.2.2.2.2.2]) 0 rfl 7 rfl er37 rfl dX8_laysBestOrder_172 ?_
                        refine z_iinc 2 [(5, .int (s150.1 + 1)), (0, .ref (a 0)), (1, .int (r24 - r25))] rfl (v := (s150.1 + 1)) zinc (Nat.le_of_ble_eq_true rfl) rfl dX8_laysBestOrder_173 ?_
                        refine z_goto (tgt := 150) rfl dX8_laysBestOrder_176 ?_
                        cases h150
                        have k150 := i150 ((s150.1 + 1), r37) rfl
                        try dsimp only at k150
                        exact z_lv [1, 2, 0] rfl k150
                    · skip
                      refine z_aload_n 0 rfl rfl dX8_laysBestOrder_179 ?_
                      obtain ⟨r38, er38, h58⟩ := zb h58
                      refine z_callVW (rest := []) hl (c_X8_hasNextOrder l g a (r8.2.1, z26, r8.2.2.2.1, r8.2.2.2.2.1, r8.2.2.2.2.2.1, r8.2.2.2.2.2.2.1, r8.2.2.2.2.2.2.2.1, r8.2.2.2.2.2.2.2.2.1, r8.2.2.2.2.2.2.2.2.2.1, r8.2.2.2.2.2.2.2.2.2.2.1, r8.2.2.2.2.2.2.2.2.2.2.2.1, r8.2.2.2.2.2.2.2.2.2.2.2.2.1, z35, r8.2.2.2.2.2.2.2.2.2.2.2.2.2.2.1, r8.2.2.2.2.2.2.2.2.2.2.2.2.2.2.2.1, r8.2.2.2.2.2.2.2.2.2.2.2.2.2.2.2.2) _ er38) zyX8_hasNextOrder zvX8_hasNextOrder rfl zlX8_107 zcX8.1 ⟨_, _, rfl⟩ [(0, none)] rfl (by decide) rfl (w' := [cX8 g a r38.2]) rfl rfl rfl (by decide) (Nat.le_of_ble_eq_true rfl) ⟨Nat.zero_le _, Nat.zero_le _⟩ dX8_laysBestOrder_180 (st2 := [.int (b2i r38.1)]) rfl ?_
                      refine z_istore_n [(2, .int (b2i r38.1)), (0, .ref (a 0)), (1, .int (r24 - r25))] rfl (Nat.le_of_ble_eq_true rfl) rfl dX8_laysBestOrder_183 ?_
                      refine z_goto (tgt := 58) rfl dX8_laysBestOrder_184 ?_
                      cases h58
                      have k58 := i58 ((r24 - r25), r38.1, r38.2) rfl
                      try dsimp only at k58
                      exact z_lv [1, 2, 0] rfl k58
      · skip
        cases h
        exact z_vret dX8_laysBestOrder_187 hQ
set_option maxHeartbeats 400000 in
set_option maxRecDepth 100000 in
theorem c_X8_picksBatch (l : Launch) (g : zG) (a : Nat → Nat) (u : tX8) (p0 : Int32) (r : Int32 × tX8) (h : f_X8_picksBatch u p0 = some r) : Ctr l g true yX8_picksBatch cX8_picksBatch 2 (some .int) 8 187 0 0 [.ref (a 0), .int p0] ([cX8 g a u]) ([cX8 g a r.2]) (some (.int r.1)) := by
  refine ctr_of (by decide) (Nat.le_of_ble_eq_true rfl) (fun X hl _ _ _ hQ => ?_)
  unfold f_X8_picksBatch at h
  refine z_lv (lv' := [(0, .ref (a 0)), (1, .int p0)]) [0, 1] rfl ?_
  refine z_iload_n 1 rfl rfl dX8_picksBatch_0 ?_
  refine z_iconst (v := 1) (by decide) dX8_picksBatch_1 ?_
  refine z_icmp_ne (tgt := 10) rfl dX8_picksBatch_2 (fun c2 => ?_) (fun c2 => ?_)
  · replace h := (if_neg c2).symm.trans h
    refine z_iload_n 1 rfl rfl dX8_picksBatch_10 ?_
    refine z_iconst (v := 2) (by decide) dX8_picksBatch_11 ?_
    refine z_icmp_ne (tgt := 28) rfl dX8_picksBatch_12 (fun c12 => ?_) (fun c12 => ?_)
    · replace h := (if_neg c12).symm.trans h
      refine z_aload_n 0 rfl rfl dX8_picksBatch_28 ?_
      obtain ⟨r1, er1, h⟩ := zb h
      refine z_callVW (rest := []) hl (c_X8_firstOrder l g a u _ er1) zyX8_firstOrder zvX8_firstOrder rfl zlX8_100 zcX8.1 ⟨_, _, rfl⟩ [(0, none)] rfl (by decide) rfl (w' := [cX8 g a r1]) rfl rfl rfl (by decide) (Nat.le_of_ble_eq_true rfl) ⟨Nat.zero_le _, Nat.zero_le _⟩ dX8_picksBatch_29 (st2 := []) rfl ?_
      refine z_aload_n 0 rfl rfl dX8_picksBatch_32 ?_
      refine z_aload_n 0 rfl rfl dX8_picksBatch_33 ?_
      refine z_get zcX8 0 rfl 0 rfl 11 (Nat.le_of_ble_eq_true rfl) zfX8_25 (v := .ref (a 6)) rfl dX8_picksBatch_34 ?_
      obtain ⟨r2, er2, h⟩ := zb h
      refine z_callVW (rest := []) hl (c_X8_picksBy_order l g a r1 _ er2) zyX8_picksBy zvX8_picksBy rfl zlX8_103 zcX8.1 ⟨_, _, rfl⟩ [(0, none)] rfl (by decide) rfl (w' := [cX8 g a r2.2]) rfl rfl rfl (by decide) (Nat.le_of_ble_eq_true rfl) ⟨Nat.zero_le _, Nat.zero_le _⟩ dX8_picksBatch_37 (st2 := [.int r2.1]) rfl ?_
      cases h
      try dsimp only at hQ
      exact z_iret dX8_picksBatch_40 hQ
    · replace h := (if_pos c12).symm.trans h
      refine z_aload_n 0 rfl rfl dX8_picksBatch_15 ?_
      obtain ⟨r3, er3, h⟩ := zb h
      refine z_callVW (rest := []) hl (c_X8_laysBestOrder l g a u _ er3) zyX8_laysBestOrder zvX8_laysBestOrder rfl zlX8_114 zcX8.1 ⟨_, _, rfl⟩ [(0, none)] rfl (by decide) rfl (w' := [cX8 g a r3]) rfl rfl rfl (by decide) (Nat.le_of_ble_eq_true rfl) ⟨Nat.zero_le _, Nat.zero_le _⟩ dX8_picksBatch_16 (st2 := []) rfl ?_
      refine z_aload_n 0 rfl rfl dX8_picksBatch_19 ?_
      refine z_aload_n 0 rfl rfl dX8_picksBatch_20 ?_
      refine z_get zcX8 0 rfl 0 rfl 12 (Nat.le_of_ble_eq_true rfl) zfX8_28 (v := .ref (a 7)) rfl dX8_picksBatch_21 ?_
      obtain ⟨r4, er4, h⟩ := zb h
      refine z_callVW (rest := []) hl (c_X8_picksBy_bestOrder l g a r3 _ er4) zyX8_picksBy zvX8_picksBy rfl zlX8_103 zcX8.1 ⟨_, _, rfl⟩ [(0, none)] rfl (by decide) rfl (w' := [cX8 g a r4.2]) rfl rfl rfl (by decide) (Nat.le_of_ble_eq_true rfl) ⟨Nat.zero_le _, Nat.zero_le _⟩ dX8_picksBatch_24 (st2 := [.int r4.1]) rfl ?_
      cases h
      try dsimp only at hQ
      exact z_iret dX8_picksBatch_27 hQ
  · replace h := (if_pos c2).symm.trans h
    refine z_aload_n 0 rfl rfl dX8_picksBatch_5 ?_
    obtain ⟨r5, er5, h⟩ := zb h
    refine z_callVW (rest := []) hl (c_X8_picksNearest l g a u _ er5) zyX8_picksNearest zvX8_picksNearest rfl zlX8_111 zcX8.1 ⟨_, _, rfl⟩ [(0, none)] rfl (by decide) rfl (w' := [cX8 g a r5.2]) rfl rfl rfl (by decide) (Nat.le_of_ble_eq_true rfl) ⟨Nat.zero_le _, Nat.zero_le _⟩ dX8_picksBatch_6 (st2 := [.int r5.1]) rfl ?_
    cases h
    try dsimp only at hQ
    exact z_iret dX8_picksBatch_9 hQ
set_option maxHeartbeats 400000 in
set_option maxRecDepth 100000 in
theorem c_X8_put (l : Launch) (g : zG) (a : Nat → Nat) (u : tX8) (p0 : Int32) (p1 : Int32) (r : Int32 × tX8) (h : f_X8_put u p0 p1 = some r) : Ctr l g true yX8_put cX8_put 4 (some .int) 2 46 0 0 [.ref (a 0), .int p0, .int p1] ([cX8 g a u]) ([cX8 g a r.2]) (some (.int r.1)) := by
  refine ctr_of (by decide) (Nat.le_of_ble_eq_true rfl) (fun X hl _ _ _ hQ => ?_)
  unfold f_X8_put at h
  refine z_lv (lv' := [(0, .ref (a 0)), (1, .int p0), (2, .int p1)]) [0, 1, 2] rfl ?_
  refine z_aload_n 0 rfl rfl dX8_put_0 ?_
  refine z_iconst (v := 0) (by decide) dX8_put_1 ?_
  refine z_put (t := .int) ([dX8 g a 0 u.2.1 u.2.2.1 u.2.2.2.1 u.2.2.2.2.1 u.2.2.2.2.2.1 u.2.2.2.2.2.2.1 u.2.2.2.2.2.2.2.1 u.2.2.2.2.2.2.2.2.1 u.2.2.2.2.2.2.2.2.2.1 u.2.2.2.2.2.2.2.2.2.2.1 u.2.2.2.2.2.2.2.2.2.2.2.1 u.2.2.2.2.2.2.2.2.2.2.2.2.1 u.2.2.2.2.2.2.2.2.2.2.2.2.2.1 u.2.2.2.2.2.2.2.2.2.2.2.2.2.2.1 u.2.2.2.2.2.2.2.2.2.2.2.2.2.2.2]) zcX8 0 rfl 0 rfl 0 (Nat.le_of_ble_eq_true rfl) zfX8_38 zpX8_0 (zn_i _) (zf_i _) (Nat.le_of_ble_eq_true rfl) rfl dX8_put_2 ?_
  refine z_iload_n 1 rfl rfl dX8_put_5 ?_
  refine z_callSR (rest := []) hl (c_X8_isDrawer l g p0 _ rfl) zyX8_isDrawer zsX8_isDrawer zlX8_117 [] rfl rfl rfl (by decide) (Nat.le_of_ble_eq_true rfl) ⟨Nat.zero_le _, Nat.zero_le _⟩ dX8_put_6 (st2 := [.int (b2i (f_X8_isDrawer p0))]) rfl ?_
  refine z_ifB_ne (tgt := 18) rfl dX8_put_9 (fun c9 => ?_) (fun c9 => ?_)
  · replace h := (if_pos c9).symm.trans h
    refine z_iload_n 2 rfl rfl dX8_put_18 ?_
    refine z_iconst (v := 1) (by decide) dX8_put_19 ?_
    refine z_bipush (v := 20) (by decide) dX8_put_20 ?_
    refine z_callSR (rest := []) hl (c_X8_in l g p1 1 20 _ rfl) zyX8_in zsX8_in zlX8_42 [] rfl rfl rfl (by decide) (Nat.le_of_ble_eq_true rfl) ⟨Nat.zero_le _, Nat.zero_le _⟩ dX8_put_22 (st2 := [.int (b2i (f_X8_in p1 1 20))]) rfl ?_
    refine z_ifB_ne (tgt := 34) rfl dX8_put_25 (fun c25 => ?_) (fun c25 => ?_)
    · replace h := (if_pos c25).symm.trans h
      refine z_aload_n 0 rfl rfl dX8_put_34 ?_
      refine z_get zcX8 0 rfl 0 rfl 1 (Nat.le_of_ble_eq_true rfl) zfX8_7 (v := .ref (a 1)) rfl dX8_put_35 ?_
      refine z_bipush (v := 9) (by decide) dX8_put_38 ?_
      obtain ⟨r1, er1, h⟩ := zb h
      refine z_iald 0 rfl 1 rfl er1 dX8_put_40 ?_
      refine z_bipush (v := 40) (by decide) dX8_put_41 ?_
      refine z_icmp_eq (tgt := 75) rfl dX8_put_43 (fun c43 => ?_) (fun c43 => ?_)
      · replace h := (if_pos c43).symm.trans h
        refine z_aload_n 0 rfl rfl dX8_put_75 ?_
        refine z_iconst (v := 3) (by decide) dX8_put_76 ?_
        obtain ⟨r2, er2, h⟩ := zb h
        refine z_callVW (rest := []) hl (c_X8_fails l g a (0, u.2.1, u.2.2.1, u.2.2.2.1, u.2.2.2.2.1, u.2.2.2.2.2.1, u.2.2.2.2.2.2.1, u.2.2.2.2.2.2.2.1, u.2.2.2.2.2.2.2.2.1, u.2.2.2.2.2.2.2.2.2.1, u.2.2.2.2.2.2.2.2.2.2.1, u.2.2.2.2.2.2.2.2.2.2.2.1, u.2.2.2.2.2.2.2.2.2.2.2.2.1, u.2.2.2.2.2.2.2.2.2.2.2.2.2.1, u.2.2.2.2.2.2.2.2.2.2.2.2.2.2.1, u.2.2.2.2.2.2.2.2.2.2.2.2.2.2.2) 3 _ (Option.some.inj er2)) zyX8_fails zvX8_fails rfl zlX8_121 zcX8.1 ⟨_, _, rfl⟩ [(0, none)] rfl (by decide) rfl (w' := [cX8 g a r2.2]) rfl rfl rfl (by decide) (Nat.le_of_ble_eq_true rfl) ⟨Nat.zero_le _, Nat.zero_le _⟩ dX8_put_77 (st2 := [.int r2.1]) rfl ?_
        cases h
        try dsimp only at hQ
        exact z_iret dX8_put_80 hQ
      · replace h := (if_neg c43).symm.trans h
        refine z_aload_n 0 rfl rfl dX8_put_46 ?_
        refine z_get zcX8 0 rfl 0 rfl 1 (Nat.le_of_ble_eq_true rfl) zfX8_7 (v := .ref (a 1)) rfl dX8_put_47 ?_
        refine z_bipush (v := 8) (by decide) dX8_put_50 ?_
        obtain ⟨r3, er3, h⟩ := zb h
        refine z_iald 0 rfl 1 rfl er3 dX8_put_52 ?_
        refine z_sipush (v := 1000) (by decide) dX8_put_53 ?_
        refine z_icmp_eq (tgt := 75) rfl dX8_put_56 (fun c56 => ?_) (fun c56 => ?_)
        · replace h := (if_pos c56).symm.trans h
          refine z_aload_n 0 rfl rfl dX8_put_75 ?_
          refine z_iconst (v := 3) (by decide) dX8_put_76 ?_
          obtain ⟨r4, er4, h⟩ := zb h
          refine z_callVW (rest := []) hl (c_X8_fails l g a (0, u.2.1, u.2.2.1, u.2.2.2.1, u.2.2.2.2.1, u.2.2.2.2.2.1, u.2.2.2.2.2.2.1, u.2.2.2.2.2.2.2.1, u.2.2.2.2.2.2.2.2.1, u.2.2.2.2.2.2.2.2.2.1, u.2.2.2.2.2.2.2.2.2.2.1, u.2.2.2.2.2.2.2.2.2.2.2.1, u.2.2.2.2.2.2.2.2.2.2.2.2.1, u.2.2.2.2.2.2.2.2.2.2.2.2.2.1, u.2.2.2.2.2.2.2.2.2.2.2.2.2.2.1, u.2.2.2.2.2.2.2.2.2.2.2.2.2.2.2) 3 _ (Option.some.inj er4)) zyX8_fails zvX8_fails rfl zlX8_121 zcX8.1 ⟨_, _, rfl⟩ [(0, none)] rfl (by decide) rfl (w' := [cX8 g a r4.2]) rfl rfl rfl (by decide) (Nat.le_of_ble_eq_true rfl) ⟨Nat.zero_le _, Nat.zero_le _⟩ dX8_put_77 (st2 := [.int r4.1]) rfl ?_
          cases h
          try dsimp only at hQ
          exact z_iret dX8_put_80 hQ
        · replace h := (if_neg c56).symm.trans h
          refine z_aload_n 0 rfl rfl dX8_put_59 ?_
          refine z_iload_n 1 rfl rfl dX8_put_60 ?_
          obtain ⟨r5, er5, h⟩ := zb h
          refine z_callVR (rest := []) hl (c_X8_loadOf l g a (0, u.2.1, u.2.2.1, u.2.2.2.1, u.2.2.2.2.1, u.2.2.2.2.2.1, u.2.2.2.2.2.2.1, u.2.2.2.2.2.2.2.1, u.2.2.2.2.2.2.2.2.1, u.2.2.2.2.2.2.2.2.2.1, u.2.2.2.2.2.2.2.2.2.2.1, u.2.2.2.2.2.2.2.2.2.2.2.1, u.2.2.2.2.2.2.2.2.2.2.2.2.1, u.2.2.2.2.2.2.2.2.2.2.2.2.2.1, u.2.2.2.2.2.2.2.2.2.2.2.2.2.2.1, u.2.2.2.2.2.2.2.2.2.2.2.2.2.2.2) p0 _ er5) zyX8_loadOf zvX8_loadOf rfl zlX8_124 zcX8.1 ⟨_, _, rfl⟩ [(0, none)] rfl rfl rfl (by decide) (Nat.le_of_ble_eq_true rfl) ⟨Nat.zero_le _, Nat.zero_le _⟩ dX8_put_61 (st2 := [.int r5]) rfl ?_
          refine z_iload_n 2 rfl rfl dX8_put_64 ?_
          refine z_iadd dX8_put_65 ?_
          refine z_aload_n 0 rfl rfl dX8_put_66 ?_
          refine z_get zcX8 0 rfl 0 rfl 1 (Nat.le_of_ble_eq_true rfl) zfX8_7 (v := .ref (a 1)) rfl dX8_put_67 ?_
          refine z_iconst (v := 1) (by decide) dX8_put_70 ?_
          obtain ⟨r6, er6, h⟩ := zb h
          refine z_iald 0 rfl 1 rfl er6 dX8_put_71 ?_
          refine z_icmp_le (tgt := 81) rfl dX8_put_72 (fun c72 => ?_) (fun c72 => ?_)
          · replace h := (if_pos c72).symm.trans h
            refine z_aload_n 0 rfl rfl dX8_put_81 ?_
            refine z_aload_n 0 rfl rfl dX8_put_82 ?_
            refine z_get zcX8 0 rfl 0 rfl 1 (Nat.le_of_ble_eq_true rfl) zfX8_7 (v := .ref (a 1)) rfl dX8_put_83 ?_
            refine z_bipush (v := 8) (by decide) dX8_put_86 ?_
            obtain ⟨r7, er7, h⟩ := zb h
            refine z_iald 0 rfl 1 rfl er7 dX8_put_88 ?_
            refine z_iload_n 2 rfl rfl dX8_put_89 ?_
            refine z_iload_n 1 rfl rfl dX8_put_90 ?_
            obtain ⟨r8, er8, h⟩ := zb h
            refine z_callVW (rest := []) hl (c_X8_comes l g a (0, u.2.1, u.2.2.1, u.2.2.2.1, u.2.2.2.2.1, u.2.2.2.2.2.1, u.2.2.2.2.2.2.1, u.2.2.2.2.2.2.2.1, u.2.2.2.2.2.2.2.2.1, u.2.2.2.2.2.2.2.2.2.1, u.2.2.2.2.2.2.2.2.2.2.1, u.2.2.2.2.2.2.2.2.2.2.2.1, u.2.2.2.2.2.2.2.2.2.2.2.2.1, u.2.2.2.2.2.2.2.2.2.2.2.2.2.1, u.2.2.2.2.2.2.2.2.2.2.2.2.2.2.1, u.2.2.2.2.2.2.2.2.2.2.2.2.2.2.2) r7 p1 p0 _ er8) zyX8_comes zvX8_comes rfl zlX8_127 zcX8.1 ⟨_, _, rfl⟩ [(0, none)] rfl (by decide) rfl (w' := [cX8 g a r8]) rfl rfl rfl (by decide) (Nat.le_of_ble_eq_true rfl) ⟨Nat.zero_le _, Nat.zero_le _⟩ dX8_put_91 (st2 := []) rfl ?_
            refine z_aload_n 0 rfl rfl dX8_put_94 ?_
            refine z_aload_n 0 rfl rfl dX8_put_95 ?_
            refine z_get zcX8 0 rfl 0 rfl 1 (Nat.le_of_ble_eq_true rfl) zfX8_7 (v := .ref (a 1)) rfl dX8_put_96 ?_
            refine z_iconst (v := 3) (by decide) dX8_put_99 ?_
            obtain ⟨r9, er9, h⟩ := zb h
            refine z_iald 0 rfl 1 rfl er9 dX8_put_100 ?_
            obtain ⟨r10, er10, h⟩ := zb h
            refine z_callVR (rest := []) hl (c_X8_imbalance l g a r8 r9 _ er10) zyX8_imbalance zvX8_imbalance rfl zlX8_56 zcX8.1 ⟨_, _, rfl⟩ [(0, none)] rfl rfl rfl (by decide) (Nat.le_of_ble_eq_true rfl) ⟨Nat.zero_le _, Nat.zero_le _⟩ dX8_put_101 (st2 := [.int r10]) rfl ?_
            refine z_aload_n 0 rfl rfl dX8_put_104 ?_
            refine z_get zcX8 0 rfl 0 rfl 1 (Nat.le_of_ble_eq_true rfl) zfX8_7 (v := .ref (a 1)) rfl dX8_put_105 ?_
            refine z_iconst (v := 0) (by decide) dX8_put_108 ?_
            obtain ⟨r11, er11, h⟩ := zb h
            refine z_iald 0 rfl 1 rfl er11 dX8_put_109 ?_
            obtain ⟨j12, ej12, h⟩ := zb h
            have Kj12 : Z true RX8 cX8_put 4 2 46 g X 0 0 ([cX8 g a r8]) [(0, .ref (a 0)), (1, .int p0), (2, .int p1)] 118 [.int j12] := by
              refine z_istore_n [(3, .int j12), (0, .ref (a 0)), (1, .int p0), (2, .int p1)] rfl (Nat.le_of_ble_eq_true rfl) rfl dX8_put_118 ?_
              refine z_aload_n 1 rfl rfl dX8_put_119 ?_
              refine z_aload_n 1 rfl rfl dX8_put_120 ?_
              refine z_get zcX8 0 rfl 0 rfl 1 (Nat.le_of_ble_eq_true rfl) zfX8_7 (v := .ref (a 1)) rfl dX8_put_121 ?_
              refine z_bipush (v := 9) (by decide) dX8_put_124 ?_
              obtain ⟨r13, er13, h⟩ := zb h
              refine z_iald 0 rfl 1 rfl er13 dX8_put_126 ?_
              refine z_iconst (v := 1) (by decide) dX8_put_127 ?_
              refine z_isub dX8_put_128 ?_
              obtain ⟨r14, er14, h⟩ := zb h
              refine z_callVW (rest := []) hl (c_X8_goes l g a r8 (r13 - 1) _ er14) zyX8_goes zvX8_goes rfl zlX8_80 zcX8.1 ⟨_, _, rfl⟩ [(0, none)] rfl (by decide) rfl (w' := [cX8 g a r14]) rfl rfl rfl (by decide) (Nat.le_of_ble_eq_true rfl) ⟨Nat.zero_le _, Nat.zero_le _⟩ dX8_put_129 (st2 := []) rfl ?_
              refine z_iload_n 0 rfl rfl dX8_put_132 ?_
              refine z_if_ne (tgt := 142) rfl dX8_put_133 (fun c133 => ?_) (fun c133 => ?_)
              · replace h := (if_neg c133).symm.trans h
                refine z_aload_n 1 rfl rfl dX8_put_142 ?_
                obtain ⟨r15, er15, h⟩ := zb h
                refine z_callVW (rest := []) hl (c_X8_saves l g a r14 _ er15) zyX8_saves zvX8_saves rfl zlX8_131 zcX8.1 ⟨_, _, rfl⟩ [(0, none)] rfl (by decide) rfl (w' := [cX8 g a r15]) rfl rfl rfl (by decide) (Nat.le_of_ble_eq_true rfl) ⟨Nat.zero_le _, Nat.zero_le _⟩ dX8_put_143 (st2 := []) rfl ?_
                refine z_aload_n 1 rfl rfl dX8_put_146 ?_
                refine z_aload_n 1 rfl rfl dX8_put_147 ?_
                refine z_get zcX8 0 rfl 0 rfl 1 (Nat.le_of_ble_eq_true rfl) zfX8_7 (v := .ref (a 1)) rfl dX8_put_148 ?_
                refine z_bipush (v := 8) (by decide) dX8_put_151 ?_
                obtain ⟨r16, er16, h⟩ := zb h
                refine z_iald 0 rfl 1 rfl er16 dX8_put_153 ?_
                refine z_iload_n 3 rfl rfl dX8_put_154 ?_
                refine z_iload_n 2 rfl rfl dX8_put_155 ?_
                obtain ⟨r17, er17, h⟩ := zb h
                refine z_callVW (rest := []) hl (c_X8_comes l g a r15 r16 p1 p0 _ er17) zyX8_comes zvX8_comes rfl zlX8_127 zcX8.1 ⟨_, _, rfl⟩ [(0, none)] rfl (by decide) rfl (w' := [cX8 g a r17]) rfl rfl rfl (by decide) (Nat.le_of_ble_eq_true rfl) ⟨Nat.zero_le _, Nat.zero_le _⟩ dX8_put_156 (st2 := []) rfl ?_
                refine z_aload_n 1 rfl rfl dX8_put_159 ?_
                refine z_get zcX8 0 rfl 0 rfl 1 (Nat.le_of_ble_eq_true rfl) zfX8_7 (v := .ref (a 1)) rfl dX8_put_160 ?_
                refine z_bipush (v := 8) (by decide) dX8_put_163 ?_
                refine z_dup2 rfl rfl dX8_put_165 ?_
                obtain ⟨r18, er18, h⟩ := zb h
                refine z_iald 0 rfl 1 rfl er18 dX8_put_166 ?_
                refine z_iconst (v := 1) (by decide) dX8_put_167 ?_
                refine z_iadd dX8_put_168 ?_
                obtain ⟨r19, er19, h⟩ := zb h
                refine z_iast ([dX8 g a r17.1 r19 r17.2.2.1 r17.2.2.2.1 r17.2.2.2.2.1 r17.2.2.2.2.2.1 r17.2.2.2.2.2.2.1 r17.2.2.2.2.2.2.2.1 r17.2.2.2.2.2.2.2.2.1 r17.2.2.2.2.2.2.2.2.2.1 r17.2.2.2.2.2.2.2.2.2.2.1 r17.2.2.2.2.2.2.2.2.2.2.2.1 r17.2.2.2.2.2.2.2.2.2.2.2.2.1 r17.2.2.2.2.2.2.2.2.2.2.2.2.2.1 r17.2.2.2.2.2.2.2.2.2.2.2.2.2.2.1 r17.2.2.2.2.2.2.2.2.2.2.2.2.2.2.2]) 0 rfl 1 rfl er19 rfl dX8_put_169 ?_
                refine z_aload_n 1 rfl rfl dX8_put_170 ?_
                refine z_get zcX8 0 rfl 0 rfl 1 (Nat.le_of_ble_eq_true rfl) zfX8_7 (v := .ref (a 1)) rfl dX8_put_171 ?_
                refine z_bipush (v := 8) (by decide) dX8_put_174 ?_
                obtain ⟨r20, er20, h⟩ := zb h
                refine z_iald 0 rfl 1 rfl er20 dX8_put_176 ?_
                refine z_iconst (v := 1) (by decide) dX8_put_177 ?_
                refine z_isub dX8_put_178 ?_
                cases h
                try dsimp only at hQ
                exact z_iret dX8_put_179 hQ
              · replace h := (if_pos c133).symm.trans h
                refine z_aload_n 1 rfl rfl dX8_put_136 ?_
                refine z_iconst (v := 3) (by decide) dX8_put_137 ?_
                obtain ⟨r21, er21, h⟩ := zb h
                refine z_callVW (rest := []) hl (c_X8_fails l g a r14 3 _ (Option.some.inj er21)) zyX8_fails zvX8_fails rfl zlX8_121 zcX8.1 ⟨_, _, rfl⟩ [(0, none)] rfl (by decide) rfl (w' := [cX8 g a r21.2]) rfl rfl rfl (by decide) (Nat.le_of_ble_eq_true rfl) ⟨Nat.zero_le _, Nat.zero_le _⟩ dX8_put_138 (st2 := [.int r21.1]) rfl ?_
                cases h
                try dsimp only at hQ
                exact z_iret dX8_put_141 hQ
            clear h
            refine z_icmp_gt (tgt := 117) rfl dX8_put_110 (fun c110 => ?_) (fun c110 => ?_)
            · replace ej12 := (if_pos c110).symm.trans ej12
              refine z_iconst (v := 0) (by decide) dX8_put_117 ?_
              cases ej12
              exact z_lv [0, 1, 2] rfl Kj12
            · replace ej12 := (if_neg c110).symm.trans ej12
              refine z_iconst (v := 1) (by decide) dX8_put_113 ?_
              refine z_goto (tgt := 118) rfl dX8_put_114 ?_
              cases ej12
              exact z_lv [0, 1, 2] rfl Kj12
          · replace h := (if_neg c72).symm.trans h
            refine z_aload_n 0 rfl rfl dX8_put_75 ?_
            refine z_iconst (v := 3) (by decide) dX8_put_76 ?_
            obtain ⟨r22, er22, h⟩ := zb h
            refine z_callVW (rest := []) hl (c_X8_fails l g a (0, u.2.1, u.2.2.1, u.2.2.2.1, u.2.2.2.2.1, u.2.2.2.2.2.1, u.2.2.2.2.2.2.1, u.2.2.2.2.2.2.2.1, u.2.2.2.2.2.2.2.2.1, u.2.2.2.2.2.2.2.2.2.1, u.2.2.2.2.2.2.2.2.2.2.1, u.2.2.2.2.2.2.2.2.2.2.2.1, u.2.2.2.2.2.2.2.2.2.2.2.2.1, u.2.2.2.2.2.2.2.2.2.2.2.2.2.1, u.2.2.2.2.2.2.2.2.2.2.2.2.2.2.1, u.2.2.2.2.2.2.2.2.2.2.2.2.2.2.2) 3 _ (Option.some.inj er22)) zyX8_fails zvX8_fails rfl zlX8_121 zcX8.1 ⟨_, _, rfl⟩ [(0, none)] rfl (by decide) rfl (w' := [cX8 g a r22.2]) rfl rfl rfl (by decide) (Nat.le_of_ble_eq_true rfl) ⟨Nat.zero_le _, Nat.zero_le _⟩ dX8_put_77 (st2 := [.int r22.1]) rfl ?_
            cases h
            try dsimp only at hQ
            exact z_iret dX8_put_80 hQ
    · replace h := (if_neg c25).symm.trans h
      refine z_aload_n 0 rfl rfl dX8_put_28 ?_
      refine z_iconst (v := 2) (by decide) dX8_put_29 ?_
      obtain ⟨r23, er23, h⟩ := zb h
      refine z_callVW (rest := []) hl (c_X8_fails l g a (0, u.2.1, u.2.2.1, u.2.2.2.1, u.2.2.2.2.1, u.2.2.2.2.2.1, u.2.2.2.2.2.2.1, u.2.2.2.2.2.2.2.1, u.2.2.2.2.2.2.2.2.1, u.2.2.2.2.2.2.2.2.2.1, u.2.2.2.2.2.2.2.2.2.2.1, u.2.2.2.2.2.2.2.2.2.2.2.1, u.2.2.2.2.2.2.2.2.2.2.2.2.1, u.2.2.2.2.2.2.2.2.2.2.2.2.2.1, u.2.2.2.2.2.2.2.2.2.2.2.2.2.2.1, u.2.2.2.2.2.2.2.2.2.2.2.2.2.2.2) 2 _ (Option.some.inj er23)) zyX8_fails zvX8_fails rfl zlX8_121 zcX8.1 ⟨_, _, rfl⟩ [(0, none)] rfl (by decide) rfl (w' := [cX8 g a r23.2]) rfl rfl rfl (by decide) (Nat.le_of_ble_eq_true rfl) ⟨Nat.zero_le _, Nat.zero_le _⟩ dX8_put_30 (st2 := [.int r23.1]) rfl ?_
      cases h
      try dsimp only at hQ
      exact z_iret dX8_put_33 hQ
  · replace h := (if_neg c9).symm.trans h
    refine z_aload_n 0 rfl rfl dX8_put_12 ?_
    refine z_iconst (v := 1) (by decide) dX8_put_13 ?_
    obtain ⟨r24, er24, h⟩ := zb h
    refine z_callVW (rest := []) hl (c_X8_fails l g a (0, u.2.1, u.2.2.1, u.2.2.2.1, u.2.2.2.2.1, u.2.2.2.2.2.1, u.2.2.2.2.2.2.1, u.2.2.2.2.2.2.2.1, u.2.2.2.2.2.2.2.2.1, u.2.2.2.2.2.2.2.2.2.1, u.2.2.2.2.2.2.2.2.2.2.1, u.2.2.2.2.2.2.2.2.2.2.2.1, u.2.2.2.2.2.2.2.2.2.2.2.2.1, u.2.2.2.2.2.2.2.2.2.2.2.2.2.1, u.2.2.2.2.2.2.2.2.2.2.2.2.2.2.1, u.2.2.2.2.2.2.2.2.2.2.2.2.2.2.2) 1 _ (Option.some.inj er24)) zyX8_fails zvX8_fails rfl zlX8_121 zcX8.1 ⟨_, _, rfl⟩ [(0, none)] rfl (by decide) rfl (w' := [cX8 g a r24.2]) rfl rfl rfl (by decide) (Nat.le_of_ble_eq_true rfl) ⟨Nat.zero_le _, Nat.zero_le _⟩ dX8_put_14 (st2 := [.int r24.1]) rfl ?_
    cases h
    try dsimp only at hQ
    exact z_iret dX8_put_17 hQ
set_option maxHeartbeats 400000 in
set_option maxRecDepth 100000 in
theorem c_X8_move (l : Launch) (g : zG) (a : Nat → Nat) (u : tX8) (p0 : Int32) (p1 : Int32) (r : Int32 × tX8) (h : f_X8_move u p0 p1 = some r) : Ctr l g true yX8_move cX8_move 6 (some .int) 2 46 0 0 [.ref (a 0), .int p0, .int p1] ([cX8 g a u]) ([cX8 g a r.2]) (some (.int r.1)) := by
  refine ctr_of (by decide) (Nat.le_of_ble_eq_true rfl) (fun X hl _ _ _ hQ => ?_)
  unfold f_X8_move at h
  refine z_lv (lv' := [(0, .ref (a 0)), (1, .int p0), (2, .int p1)]) [0, 1, 2] rfl ?_
  refine z_aload_n 0 rfl rfl dX8_move_0 ?_
  refine z_iconst (v := 0) (by decide) dX8_move_1 ?_
  refine z_put (t := .int) ([dX8 g a 0 u.2.1 u.2.2.1 u.2.2.2.1 u.2.2.2.2.1 u.2.2.2.2.2.1 u.2.2.2.2.2.2.1 u.2.2.2.2.2.2.2.1 u.2.2.2.2.2.2.2.2.1 u.2.2.2.2.2.2.2.2.2.1 u.2.2.2.2.2.2.2.2.2.2.1 u.2.2.2.2.2.2.2.2.2.2.2.1 u.2.2.2.2.2.2.2.2.2.2.2.2.1 u.2.2.2.2.2.2.2.2.2.2.2.2.2.1 u.2.2.2.2.2.2.2.2.2.2.2.2.2.2.1 u.2.2.2.2.2.2.2.2.2.2.2.2.2.2.2]) zcX8 0 rfl 0 rfl 0 (Nat.le_of_ble_eq_true rfl) zfX8_38 zpX8_0 (zn_i _) (zf_i _) (Nat.le_of_ble_eq_true rfl) rfl dX8_move_2 ?_
  refine z_aload_n 0 rfl rfl dX8_move_5 ?_
  refine z_iload_n 1 rfl rfl dX8_move_6 ?_
  obtain ⟨r1, er1, h⟩ := zb h
  refine z_callVR (rest := []) hl (c_X8_placeOfItem l g a (0, u.2.1, u.2.2.1, u.2.2.2.1, u.2.2.2.2.1, u.2.2.2.2.2.1, u.2.2.2.2.2.2.1, u.2.2.2.2.2.2.2.1, u.2.2.2.2.2.2.2.2.1, u.2.2.2.2.2.2.2.2.2.1, u.2.2.2.2.2.2.2.2.2.2.1, u.2.2.2.2.2.2.2.2.2.2.2.1, u.2.2.2.2.2.2.2.2.2.2.2.2.1, u.2.2.2.2.2.2.2.2.2.2.2.2.2.1, u.2.2.2.2.2.2.2.2.2.2.2.2.2.2.1, u.2.2.2.2.2.2.2.2.2.2.2.2.2.2.2) p0 _ er1) zyX8_placeOfItem zvX8_placeOfItem rfl zlX8_70 zcX8.1 ⟨_, _, rfl⟩ [(0, none)] rfl rfl rfl (by decide) (Nat.le_of_ble_eq_true rfl) ⟨Nat.zero_le _, Nat.zero_le _⟩ dX8_move_7 (st2 := [.int r1]) rfl ?_
  refine z_istore_n [(3, .int r1), (0, .ref (a 0)), (1, .int p0), (2, .int p1)] rfl (Nat.le_of_ble_eq_true rfl) rfl dX8_move_10 ?_
  refine z_iload_n 0 rfl rfl dX8_move_11 ?_
  refine z_iconst (v := (-1)) (by decide) dX8_move_12 ?_
  refine z_icmp_eq (tgt := 23) rfl dX8_move_13 (fun c13 => ?_) (fun c13 => ?_)
  · replace h := (if_pos c13).symm.trans h
    refine z_aload_n 1 rfl rfl dX8_move_23 ?_
    refine z_iconst (v := 1) (by decide) dX8_move_24 ?_
    obtain ⟨r2, er2, h⟩ := zb h
    refine z_callVW (rest := []) hl (c_X8_fails l g a (0, u.2.1, u.2.2.1, u.2.2.2.1, u.2.2.2.2.1, u.2.2.2.2.2.1, u.2.2.2.2.2.2.1, u.2.2.2.2.2.2.2.1, u.2.2.2.2.2.2.2.2.1, u.2.2.2.2.2.2.2.2.2.1, u.2.2.2.2.2.2.2.2.2.2.1, u.2.2.2.2.2.2.2.2.2.2.2.1, u.2.2.2.2.2.2.2.2.2.2.2.2.1, u.2.2.2.2.2.2.2.2.2.2.2.2.2.1, u.2.2.2.2.2.2.2.2.2.2.2.2.2.2.1, u.2.2.2.2.2.2.2.2.2.2.2.2.2.2.2) 1 _ (Option.some.inj er2)) zyX8_fails zvX8_fails rfl zlX8_121 zcX8.1 ⟨_, _, rfl⟩ [(0, none)] rfl (by decide) rfl (w' := [cX8 g a r2.2]) rfl rfl rfl (by decide) (Nat.le_of_ble_eq_true rfl) ⟨Nat.zero_le _, Nat.zero_le _⟩ dX8_move_25 (st2 := [.int r2.1]) rfl ?_
    cases h
    try dsimp only at hQ
    exact z_iret dX8_move_28 hQ
  · replace h := (if_neg c13).symm.trans h
    refine z_iload_n 3 rfl rfl dX8_move_16 ?_
    refine z_callSR (rest := []) hl (c_X8_isDrawer l g p1 _ rfl) zyX8_isDrawer zsX8_isDrawer zlX8_117 [] rfl rfl rfl (by decide) (Nat.le_of_ble_eq_true rfl) ⟨Nat.zero_le _, Nat.zero_le _⟩ dX8_move_17 (st2 := [.int (b2i (f_X8_isDrawer p1))]) rfl ?_
    refine z_ifB_ne (tgt := 29) rfl dX8_move_20 (fun c20 => ?_) (fun c20 => ?_)
    · replace h := (if_pos c20).symm.trans h
      refine z_aload_n 1 rfl rfl dX8_move_29 ?_
      refine z_iload_n 0 rfl rfl dX8_move_30 ?_
      refine z_iconst (v := 2) (by decide) dX8_move_31 ?_
      obtain ⟨r3, er3, h⟩ := zb h
      refine z_callVR (rest := []) hl (c_X8_of l g a (0, u.2.1, u.2.2.1, u.2.2.2.1, u.2.2.2.2.1, u.2.2.2.2.2.1, u.2.2.2.2.2.2.1, u.2.2.2.2.2.2.2.1, u.2.2.2.2.2.2.2.2.1, u.2.2.2.2.2.2.2.2.2.1, u.2.2.2.2.2.2.2.2.2.2.1, u.2.2.2.2.2.2.2.2.2.2.2.1, u.2.2.2.2.2.2.2.2.2.2.2.2.1, u.2.2.2.2.2.2.2.2.2.2.2.2.2.1, u.2.2.2.2.2.2.2.2.2.2.2.2.2.2.1, u.2.2.2.2.2.2.2.2.2.2.2.2.2.2.2) r1 2 _ er3) zyX8_of zvX8_of rfl zlX8_49 zcX8.1 ⟨_, _, rfl⟩ [(0, none)] rfl rfl rfl (by decide) (Nat.le_of_ble_eq_true rfl) ⟨Nat.zero_le _, Nat.zero_le _⟩ dX8_move_32 (st2 := [.int r3]) rfl ?_
      refine z_istore [(4, .int r3), (3, .int r1), (0, .ref (a 0)), (1, .int p0), (2, .int p1)] (Nat.le_of_ble_eq_true rfl) rfl dX8_move_35 ?_
      refine z_aload_n 2 rfl rfl dX8_move_37 ?_
      refine z_get zcX8 0 rfl 0 rfl 1 (Nat.le_of_ble_eq_true rfl) zfX8_7 (v := .ref (a 1)) rfl dX8_move_38 ?_
      refine z_bipush (v := 22) (by decide) dX8_move_41 ?_
      refine z_iconst (v := 3) (by decide) dX8_move_43 ?_
      refine z_iload_n 1 rfl rfl dX8_move_44 ?_
      refine z_imul dX8_move_45 ?_
      refine z_iadd dX8_move_46 ?_
      refine z_iconst (v := 2) (by decide) dX8_move_47 ?_
      refine z_iadd dX8_move_48 ?_
      refine z_iload_n 4 rfl rfl dX8_move_49 ?_
      obtain ⟨r4, er4, h⟩ := zb h
      refine z_iast ([dX8 g a 0 r4 u.2.2.1 u.2.2.2.1 u.2.2.2.2.1 u.2.2.2.2.2.1 u.2.2.2.2.2.2.1 u.2.2.2.2.2.2.2.1 u.2.2.2.2.2.2.2.2.1 u.2.2.2.2.2.2.2.2.2.1 u.2.2.2.2.2.2.2.2.2.2.1 u.2.2.2.2.2.2.2.2.2.2.2.1 u.2.2.2.2.2.2.2.2.2.2.2.2.1 u.2.2.2.2.2.2.2.2.2.2.2.2.2.1 u.2.2.2.2.2.2.2.2.2.2.2.2.2.2.1 u.2.2.2.2.2.2.2.2.2.2.2.2.2.2.2]) 0 rfl 1 rfl er4 rfl dX8_move_50 ?_
      refine z_aload_n 2 rfl rfl dX8_move_51 ?_
      refine z_get zcX8 0 rfl 0 rfl 1 (Nat.le_of_ble_eq_true rfl) zfX8_7 (v := .ref (a 1)) rfl dX8_move_52 ?_
      refine z_bipush (v := 10) (by decide) dX8_move_55 ?_
      refine z_iload 0 rfl dX8_move_57 ?_
      refine z_iadd dX8_move_59 ?_
      obtain ⟨r5, er5, h⟩ := zb h
      refine z_iald 0 rfl 1 rfl er5 dX8_move_60 ?_
      obtain ⟨j6, ej6, h⟩ := zb h
      have Kj6 : Z true RX8 cX8_move 6 2 46 g X 0 0 ([dX8 g a 0 r4 u.2.2.1 u.2.2.2.1 u.2.2.2.2.1 u.2.2.2.2.2.1 u.2.2.2.2.2.2.1 u.2.2.2.2.2.2.2.1 u.2.2.2.2.2.2.2.2.1 u.2.2.2.2.2.2.2.2.2.1 u.2.2.2.2.2.2.2.2.2.2.1 u.2.2.2.2.2.2.2.2.2.2.2.1 u.2.2.2.2.2.2.2.2.2.2.2.2.1 u.2.2.2.2.2.2.2.2.2.2.2.2.2.1 u.2.2.2.2.2.2.2.2.2.2.2.2.2.2.1 u.2.2.2.2.2.2.2.2.2.2.2.2.2.2.2]) [(0, .ref (a 0)), (2, .int p1), (3, .int r1), (4, .int r3)] 114 [.int j6] := by
        refine z_istore [(5, .int j6), (0, .ref (a 0)), (2, .int p1), (3, .int r1), (4, .int r3)] (Nat.le_of_ble_eq_true rfl) rfl dX8_move_114 ?_
        refine z_aload_n 1 rfl rfl dX8_move_116 ?_
        refine z_get zcX8 0 rfl 0 rfl 1 (Nat.le_of_ble_eq_true rfl) zfX8_7 (v := .ref (a 1)) rfl dX8_move_117 ?_
        refine z_bipush (v := 22) (by decide) dX8_move_120 ?_
        refine z_iconst (v := 3) (by decide) dX8_move_122 ?_
        refine z_iload_n 3 rfl rfl dX8_move_123 ?_
        refine z_imul dX8_move_124 ?_
        refine z_iadd dX8_move_125 ?_
        refine z_iconst (v := 2) (by decide) dX8_move_126 ?_
        refine z_iadd dX8_move_127 ?_
        refine z_iload 4 rfl dX8_move_128 ?_
        obtain ⟨r7, er7, h⟩ := zb h
        refine z_iast ([dX8 g a 0 r7 u.2.2.1 u.2.2.2.1 u.2.2.2.2.1 u.2.2.2.2.2.1 u.2.2.2.2.2.2.1 u.2.2.2.2.2.2.2.1 u.2.2.2.2.2.2.2.2.1 u.2.2.2.2.2.2.2.2.2.1 u.2.2.2.2.2.2.2.2.2.2.1 u.2.2.2.2.2.2.2.2.2.2.2.1 u.2.2.2.2.2.2.2.2.2.2.2.2.1 u.2.2.2.2.2.2.2.2.2.2.2.2.2.1 u.2.2.2.2.2.2.2.2.2.2.2.2.2.2.1 u.2.2.2.2.2.2.2.2.2.2.2.2.2.2.2]) 0 rfl 1 rfl er7 rfl dX8_move_130 ?_
        refine z_iload 0 rfl dX8_move_131 ?_
        refine z_if_ne (tgt := 142) rfl dX8_move_133 (fun c133 => ?_) (fun c133 => ?_)
        · replace h := (if_neg c133).symm.trans h
          refine z_aload_n 1 rfl rfl dX8_move_142 ?_
          obtain ⟨r8, er8, h⟩ := zb h
          refine z_callVW (rest := []) hl (c_X8_saves l g a (0, r7, u.2.2.1, u.2.2.2.1, u.2.2.2.2.1, u.2.2.2.2.2.1, u.2.2.2.2.2.2.1, u.2.2.2.2.2.2.2.1, u.2.2.2.2.2.2.2.2.1, u.2.2.2.2.2.2.2.2.2.1, u.2.2.2.2.2.2.2.2.2.2.1, u.2.2.2.2.2.2.2.2.2.2.2.1, u.2.2.2.2.2.2.2.2.2.2.2.2.1, u.2.2.2.2.2.2.2.2.2.2.2.2.2.1, u.2.2.2.2.2.2.2.2.2.2.2.2.2.2.1, u.2.2.2.2.2.2.2.2.2.2.2.2.2.2.2) _ er8) zyX8_saves zvX8_saves rfl zlX8_131 zcX8.1 ⟨_, _, rfl⟩ [(0, none)] rfl (by decide) rfl (w' := [cX8 g a r8]) rfl rfl rfl (by decide) (Nat.le_of_ble_eq_true rfl) ⟨Nat.zero_le _, Nat.zero_le _⟩ dX8_move_143 (st2 := []) rfl ?_
          refine z_aload_n 1 rfl rfl dX8_move_146 ?_
          refine z_get zcX8 0 rfl 0 rfl 1 (Nat.le_of_ble_eq_true rfl) zfX8_7 (v := .ref (a 1)) rfl dX8_move_147 ?_
          refine z_bipush (v := 22) (by decide) dX8_move_150 ?_
          refine z_iconst (v := 3) (by decide) dX8_move_152 ?_
          refine z_iload_n 3 rfl rfl dX8_move_153 ?_
          refine z_imul dX8_move_154 ?_
          refine z_iadd dX8_move_155 ?_
          refine z_iconst (v := 2) (by decide) dX8_move_156 ?_
          refine z_iadd dX8_move_157 ?_
          refine z_iload_n 2 rfl rfl dX8_move_158 ?_
          obtain ⟨r9, er9, h⟩ := zb h
          refine z_iast ([dX8 g a r8.1 r9 r8.2.2.1 r8.2.2.2.1 r8.2.2.2.2.1 r8.2.2.2.2.2.1 r8.2.2.2.2.2.2.1 r8.2.2.2.2.2.2.2.1 r8.2.2.2.2.2.2.2.2.1 r8.2.2.2.2.2.2.2.2.2.1 r8.2.2.2.2.2.2.2.2.2.2.1 r8.2.2.2.2.2.2.2.2.2.2.2.1 r8.2.2.2.2.2.2.2.2.2.2.2.2.1 r8.2.2.2.2.2.2.2.2.2.2.2.2.2.1 r8.2.2.2.2.2.2.2.2.2.2.2.2.2.2.1 r8.2.2.2.2.2.2.2.2.2.2.2.2.2.2.2]) 0 rfl 1 rfl er9 rfl dX8_move_159 ?_
          refine z_iload 4 rfl dX8_move_160 ?_
          cases h
          try dsimp only at hQ
          exact z_iret dX8_move_162 hQ
        · replace h := (if_pos c133).symm.trans h
          refine z_aload_n 1 rfl rfl dX8_move_136 ?_
          refine z_iconst (v := 2) (by decide) dX8_move_137 ?_
          obtain ⟨r10, er10, h⟩ := zb h
          refine z_callVW (rest := []) hl (c_X8_fails l g a (0, r7, u.2.2.1, u.2.2.2.1, u.2.2.2.2.1, u.2.2.2.2.2.1, u.2.2.2.2.2.2.1, u.2.2.2.2.2.2.2.1, u.2.2.2.2.2.2.2.2.1, u.2.2.2.2.2.2.2.2.2.1, u.2.2.2.2.2.2.2.2.2.2.1, u.2.2.2.2.2.2.2.2.2.2.2.1, u.2.2.2.2.2.2.2.2.2.2.2.2.1, u.2.2.2.2.2.2.2.2.2.2.2.2.2.1, u.2.2.2.2.2.2.2.2.2.2.2.2.2.2.1, u.2.2.2.2.2.2.2.2.2.2.2.2.2.2.2) 2 _ (Option.some.inj er10)) zyX8_fails zvX8_fails rfl zlX8_121 zcX8.1 ⟨_, _, rfl⟩ [(0, none)] rfl (by decide) rfl (w' := [cX8 g a r10.2]) rfl rfl rfl (by decide) (Nat.le_of_ble_eq_true rfl) ⟨Nat.zero_le _, Nat.zero_le _⟩ dX8_move_138 (st2 := [.int r10.1]) rfl ?_
          cases h
          try dsimp only at hQ
          exact z_iret dX8_move_141 hQ
      clear h
      refine z_if_ne (tgt := 113) rfl dX8_move_61 (fun c61 => ?_) (fun c61 => ?_)
      · replace ej6 := (if_neg c61).symm.trans ej6
        refine z_iconst (v := 0) (by decide) dX8_move_113 ?_
        cases ej6
        exact z_lv [2, 4, 1, 0] rfl Kj6
      · replace ej6 := (if_pos c61).symm.trans ej6
        refine z_aload_n 2 rfl rfl dX8_move_64 ?_
        refine z_get zcX8 0 rfl 0 rfl 1 (Nat.le_of_ble_eq_true rfl) zfX8_7 (v := .ref (a 1)) rfl dX8_move_65 ?_
        refine z_bipush (v := 10) (by decide) dX8_move_68 ?_
        refine z_iload_n 4 rfl rfl dX8_move_70 ?_
        refine z_iadd dX8_move_71 ?_
        obtain ⟨r11, er11, ej6⟩ := zb ej6
        refine z_iald 0 rfl 1 rfl er11 dX8_move_72 ?_
        refine z_if_ne (tgt := 113) rfl dX8_move_73 (fun c73 => ?_) (fun c73 => ?_)
        · replace ej6 := (if_neg c73).symm.trans ej6
          refine z_iconst (v := 0) (by decide) dX8_move_113 ?_
          cases ej6
          exact z_lv [2, 4, 1, 0] rfl Kj6
        · replace ej6 := (if_pos c73).symm.trans ej6
          refine z_aload_n 2 rfl rfl dX8_move_76 ?_
          refine z_iload_n 4 rfl rfl dX8_move_77 ?_
          obtain ⟨r12, er12, ej6⟩ := zb ej6
          refine z_callVR (rest := []) hl (c_X8_loadOf l g a (0, r4, u.2.2.1, u.2.2.2.1, u.2.2.2.2.1, u.2.2.2.2.2.1, u.2.2.2.2.2.2.1, u.2.2.2.2.2.2.2.1, u.2.2.2.2.2.2.2.2.1, u.2.2.2.2.2.2.2.2.2.1, u.2.2.2.2.2.2.2.2.2.2.1, u.2.2.2.2.2.2.2.2.2.2.2.1, u.2.2.2.2.2.2.2.2.2.2.2.2.1, u.2.2.2.2.2.2.2.2.2.2.2.2.2.1, u.2.2.2.2.2.2.2.2.2.2.2.2.2.2.1, u.2.2.2.2.2.2.2.2.2.2.2.2.2.2.2) p1 _ er12) zyX8_loadOf zvX8_loadOf rfl zlX8_124 zcX8.1 ⟨_, _, rfl⟩ [(0, none)] rfl rfl rfl (by decide) (Nat.le_of_ble_eq_true rfl) ⟨Nat.zero_le _, Nat.zero_le _⟩ dX8_move_78 (st2 := [.int r12]) rfl ?_
          refine z_aload_n 2 rfl rfl dX8_move_81 ?_
          refine z_get zcX8 0 rfl 0 rfl 1 (Nat.le_of_ble_eq_true rfl) zfX8_7 (v := .ref (a 1)) rfl dX8_move_82 ?_
          refine z_iconst (v := 1) (by decide) dX8_move_85 ?_
          obtain ⟨r13, er13, ej6⟩ := zb ej6
          refine z_iald 0 rfl 1 rfl er13 dX8_move_86 ?_
          refine z_icmp_gt (tgt := 113) rfl dX8_move_87 (fun c87 => ?_) (fun c87 => ?_)
          · replace ej6 := (if_pos c87).symm.trans ej6
            refine z_iconst (v := 0) (by decide) dX8_move_113 ?_
            cases ej6
            exact z_lv [2, 4, 1, 0] rfl Kj6
          · replace ej6 := (if_neg c87).symm.trans ej6
            refine z_aload_n 2 rfl rfl dX8_move_90 ?_
            refine z_aload_n 2 rfl rfl dX8_move_91 ?_
            refine z_get zcX8 0 rfl 0 rfl 1 (Nat.le_of_ble_eq_true rfl) zfX8_7 (v := .ref (a 1)) rfl dX8_move_92 ?_
            refine z_iconst (v := 3) (by decide) dX8_move_95 ?_
            obtain ⟨r14, er14, ej6⟩ := zb ej6
            refine z_iald 0 rfl 1 rfl er14 dX8_move_96 ?_
            obtain ⟨r15, er15, ej6⟩ := zb ej6
            refine z_callVR (rest := []) hl (c_X8_imbalance l g a (0, r4, u.2.2.1, u.2.2.2.1, u.2.2.2.2.1, u.2.2.2.2.2.1, u.2.2.2.2.2.2.1, u.2.2.2.2.2.2.2.1, u.2.2.2.2.2.2.2.2.1, u.2.2.2.2.2.2.2.2.2.1, u.2.2.2.2.2.2.2.2.2.2.1, u.2.2.2.2.2.2.2.2.2.2.2.1, u.2.2.2.2.2.2.2.2.2.2.2.2.1, u.2.2.2.2.2.2.2.2.2.2.2.2.2.1, u.2.2.2.2.2.2.2.2.2.2.2.2.2.2.1, u.2.2.2.2.2.2.2.2.2.2.2.2.2.2.2) r14 _ er15) zyX8_imbalance zvX8_imbalance rfl zlX8_56 zcX8.1 ⟨_, _, rfl⟩ [(0, none)] rfl rfl rfl (by decide) (Nat.le_of_ble_eq_true rfl) ⟨Nat.zero_le _, Nat.zero_le _⟩ dX8_move_97 (st2 := [.int r15]) rfl ?_
            refine z_aload_n 2 rfl rfl dX8_move_100 ?_
            refine z_get zcX8 0 rfl 0 rfl 1 (Nat.le_of_ble_eq_true rfl) zfX8_7 (v := .ref (a 1)) rfl dX8_move_101 ?_
            refine z_iconst (v := 0) (by decide) dX8_move_104 ?_
            obtain ⟨r16, er16, ej6⟩ := zb ej6
            refine z_iald 0 rfl 1 rfl er16 dX8_move_105 ?_
            refine z_icmp_gt (tgt := 113) rfl dX8_move_106 (fun c106 => ?_) (fun c106 => ?_)
            · replace ej6 := (if_pos c106).symm.trans ej6
              refine z_iconst (v := 0) (by decide) dX8_move_113 ?_
              cases ej6
              exact z_lv [2, 4, 1, 0] rfl Kj6
            · replace ej6 := (if_neg c106).symm.trans ej6
              refine z_iconst (v := 1) (by decide) dX8_move_109 ?_
              refine z_goto (tgt := 114) rfl dX8_move_110 ?_
              cases ej6
              exact z_lv [2, 4, 1, 0] rfl Kj6
    · replace h := (if_neg c20).symm.trans h
      refine z_aload_n 1 rfl rfl dX8_move_23 ?_
      refine z_iconst (v := 1) (by decide) dX8_move_24 ?_
      obtain ⟨r17, er17, h⟩ := zb h
      refine z_callVW (rest := []) hl (c_X8_fails l g a (0, u.2.1, u.2.2.1, u.2.2.2.1, u.2.2.2.2.1, u.2.2.2.2.2.1, u.2.2.2.2.2.2.1, u.2.2.2.2.2.2.2.1, u.2.2.2.2.2.2.2.2.1, u.2.2.2.2.2.2.2.2.2.1, u.2.2.2.2.2.2.2.2.2.2.1, u.2.2.2.2.2.2.2.2.2.2.2.1, u.2.2.2.2.2.2.2.2.2.2.2.2.1, u.2.2.2.2.2.2.2.2.2.2.2.2.2.1, u.2.2.2.2.2.2.2.2.2.2.2.2.2.2.1, u.2.2.2.2.2.2.2.2.2.2.2.2.2.2.2) 1 _ (Option.some.inj er17)) zyX8_fails zvX8_fails rfl zlX8_121 zcX8.1 ⟨_, _, rfl⟩ [(0, none)] rfl (by decide) rfl (w' := [cX8 g a r17.2]) rfl rfl rfl (by decide) (Nat.le_of_ble_eq_true rfl) ⟨Nat.zero_le _, Nat.zero_le _⟩ dX8_move_25 (st2 := [.int r17.1]) rfl ?_
      cases h
      try dsimp only at hQ
      exact z_iret dX8_move_28 hQ
set_option maxHeartbeats 400000 in
set_option maxRecDepth 100000 in
theorem c_X8_pick (l : Launch) (g : zG) (a : Nat → Nat) (u : tX8) (p0 : Int32) (r : Int32 × tX8) (h : f_X8_pick u p0 = some r) : Ctr l g true yX8_pick cX8_pick 3 (some .int) 6 140 0 0 [.ref (a 0), .int p0] ([cX8 g a u]) ([cX8 g a r.2]) (some (.int r.1)) := by
  refine ctr_of (by decide) (Nat.le_of_ble_eq_true rfl) (fun X hl _ _ _ hQ => ?_)
  unfold f_X8_pick at h
  refine z_lv (lv' := [(0, .ref (a 0)), (1, .int p0)]) [0, 1] rfl ?_
  refine z_aload_n 0 rfl rfl dX8_pick_0 ?_
  refine z_iconst (v := 0) (by decide) dX8_pick_1 ?_
  refine z_put (t := .int) ([dX8 g a 0 u.2.1 u.2.2.1 u.2.2.2.1 u.2.2.2.2.1 u.2.2.2.2.2.1 u.2.2.2.2.2.2.1 u.2.2.2.2.2.2.2.1 u.2.2.2.2.2.2.2.2.1 u.2.2.2.2.2.2.2.2.2.1 u.2.2.2.2.2.2.2.2.2.2.1 u.2.2.2.2.2.2.2.2.2.2.2.1 u.2.2.2.2.2.2.2.2.2.2.2.2.1 u.2.2.2.2.2.2.2.2.2.2.2.2.2.1 u.2.2.2.2.2.2.2.2.2.2.2.2.2.2.1 u.2.2.2.2.2.2.2.2.2.2.2.2.2.2.2]) zcX8 0 rfl 0 rfl 0 (Nat.le_of_ble_eq_true rfl) zfX8_38 zpX8_0 (zn_i _) (zf_i _) (Nat.le_of_ble_eq_true rfl) rfl dX8_pick_2 ?_
  refine z_aload_n 0 rfl rfl dX8_pick_5 ?_
  refine z_iload_n 1 rfl rfl dX8_pick_6 ?_
  obtain ⟨r1, er1, h⟩ := zb h
  refine z_callVR (rest := []) hl (c_X8_reason l g a (0, u.2.1, u.2.2.1, u.2.2.2.1, u.2.2.2.2.1, u.2.2.2.2.2.1, u.2.2.2.2.2.2.1, u.2.2.2.2.2.2.2.1, u.2.2.2.2.2.2.2.2.1, u.2.2.2.2.2.2.2.2.2.1, u.2.2.2.2.2.2.2.2.2.2.1, u.2.2.2.2.2.2.2.2.2.2.2.1, u.2.2.2.2.2.2.2.2.2.2.2.2.1, u.2.2.2.2.2.2.2.2.2.2.2.2.2.1, u.2.2.2.2.2.2.2.2.2.2.2.2.2.2.1, u.2.2.2.2.2.2.2.2.2.2.2.2.2.2.2) p0 _ er1) zyX8_reason zvX8_reason rfl zlX8_86 zcX8.1 ⟨_, _, rfl⟩ [(0, none)] rfl rfl rfl (by decide) (Nat.le_of_ble_eq_true rfl) ⟨Nat.zero_le _, Nat.zero_le _⟩ dX8_pick_7 (st2 := [.int r1]) rfl ?_
  refine z_istore_n [(2, .int r1), (0, .ref (a 0)), (1, .int p0)] rfl (Nat.le_of_ble_eq_true rfl) rfl dX8_pick_10 ?_
  refine z_iload_n 0 rfl rfl dX8_pick_11 ?_
  refine z_if_eq (tgt := 30) rfl dX8_pick_12 (fun c12 => ?_) (fun c12 => ?_)
  · replace h := (if_pos c12).symm.trans h
    refine z_aload_n 1 rfl rfl dX8_pick_30 ?_
    obtain ⟨r2, er2, h⟩ := zb h
    refine z_callVW (rest := []) hl (c_X8_saves l g a (0, u.2.1, u.2.2.1, u.2.2.2.1, u.2.2.2.2.1, u.2.2.2.2.2.1, u.2.2.2.2.2.2.1, u.2.2.2.2.2.2.2.1, u.2.2.2.2.2.2.2.2.1, u.2.2.2.2.2.2.2.2.2.1, u.2.2.2.2.2.2.2.2.2.2.1, u.2.2.2.2.2.2.2.2.2.2.2.1, u.2.2.2.2.2.2.2.2.2.2.2.2.1, u.2.2.2.2.2.2.2.2.2.2.2.2.2.1, u.2.2.2.2.2.2.2.2.2.2.2.2.2.2.1, u.2.2.2.2.2.2.2.2.2.2.2.2.2.2.2) _ er2) zyX8_saves zvX8_saves rfl zlX8_131 zcX8.1 ⟨_, _, rfl⟩ [(0, none)] rfl (by decide) rfl (w' := [cX8 g a r2]) rfl rfl rfl (by decide) (Nat.le_of_ble_eq_true rfl) ⟨Nat.zero_le _, Nat.zero_le _⟩ dX8_pick_31 (st2 := []) rfl ?_
    refine z_aload_n 1 rfl rfl dX8_pick_34 ?_
    refine z_iload_n 2 rfl rfl dX8_pick_35 ?_
    obtain ⟨r3, er3, h⟩ := zb h
    refine z_callVW (rest := []) hl (c_X8_picks l g a r2 p0 _ er3) zyX8_picks zvX8_picks rfl zlX8_89 zcX8.1 ⟨_, _, rfl⟩ [(0, none)] rfl (by decide) rfl (w' := [cX8 g a r3.2]) rfl rfl rfl (by decide) (Nat.le_of_ble_eq_true rfl) ⟨Nat.zero_le _, Nat.zero_le _⟩ dX8_pick_36 (st2 := [.int r3.1]) rfl ?_
    cases h
    try dsimp only at hQ
    exact z_iret dX8_pick_39 hQ
  · replace h := (if_neg c12).symm.trans h
    refine z_aload_n 1 rfl rfl dX8_pick_15 ?_
    refine z_iload_n 0 rfl rfl dX8_pick_16 ?_
    refine z_iconst (v := 1) (by decide) dX8_pick_17 ?_
    refine z_icmp_ne (tgt := 25) rfl dX8_pick_18 (fun c18 => ?_) (fun c18 => ?_)
    · replace h := (if_neg c18).symm.trans h
      refine z_iconst (v := 2) (by decide) dX8_pick_25 ?_
      obtain ⟨r4, er4, h⟩ := zb h
      refine z_callVW (rest := []) hl (c_X8_fails l g a (0, u.2.1, u.2.2.1, u.2.2.2.1, u.2.2.2.2.1, u.2.2.2.2.2.1, u.2.2.2.2.2.2.1, u.2.2.2.2.2.2.2.1, u.2.2.2.2.2.2.2.2.1, u.2.2.2.2.2.2.2.2.2.1, u.2.2.2.2.2.2.2.2.2.2.1, u.2.2.2.2.2.2.2.2.2.2.2.1, u.2.2.2.2.2.2.2.2.2.2.2.2.1, u.2.2.2.2.2.2.2.2.2.2.2.2.2.1, u.2.2.2.2.2.2.2.2.2.2.2.2.2.2.1, u.2.2.2.2.2.2.2.2.2.2.2.2.2.2.2) 2 _ (Option.some.inj er4)) zyX8_fails zvX8_fails rfl zlX8_121 zcX8.1 ⟨_, _, rfl⟩ [(0, none)] rfl (by decide) rfl (w' := [cX8 g a r4.2]) rfl rfl rfl (by decide) (Nat.le_of_ble_eq_true rfl) ⟨Nat.zero_le _, Nat.zero_le _⟩ dX8_pick_26 (st2 := [.int r4.1]) rfl ?_
      cases h
      try dsimp only at hQ
      exact z_iret dX8_pick_29 hQ
    · replace h := (if_pos c18).symm.trans h
      refine z_iconst (v := 1) (by decide) dX8_pick_21 ?_
      refine z_goto (tgt := 26) rfl dX8_pick_22 ?_
      obtain ⟨r5, er5, h⟩ := zb h
      refine z_callVW (rest := []) hl (c_X8_fails l g a (0, u.2.1, u.2.2.1, u.2.2.2.1, u.2.2.2.2.1, u.2.2.2.2.2.1, u.2.2.2.2.2.2.1, u.2.2.2.2.2.2.2.1, u.2.2.2.2.2.2.2.2.1, u.2.2.2.2.2.2.2.2.2.1, u.2.2.2.2.2.2.2.2.2.2.1, u.2.2.2.2.2.2.2.2.2.2.2.1, u.2.2.2.2.2.2.2.2.2.2.2.2.1, u.2.2.2.2.2.2.2.2.2.2.2.2.2.1, u.2.2.2.2.2.2.2.2.2.2.2.2.2.2.1, u.2.2.2.2.2.2.2.2.2.2.2.2.2.2.2) 1 _ (Option.some.inj er5)) zyX8_fails zvX8_fails rfl zlX8_121 zcX8.1 ⟨_, _, rfl⟩ [(0, none)] rfl (by decide) rfl (w' := [cX8 g a r5.2]) rfl rfl rfl (by decide) (Nat.le_of_ble_eq_true rfl) ⟨Nat.zero_le _, Nat.zero_le _⟩ dX8_pick_26 (st2 := [.int r5.1]) rfl ?_
      cases h
      try dsimp only at hQ
      exact z_iret dX8_pick_29 hQ
set_option maxHeartbeats 400000 in
set_option maxRecDepth 100000 in
theorem c_X8_turn (l : Launch) (g : zG) (a : Nat → Nat) (u : tX8) (p0 : Int32) (r : Int32 × tX8) (h : f_X8_turn u p0 = some r) : Ctr l g true yX8_turn cX8_turn 3 (some .int) 5 117 0 0 [.ref (a 0), .int p0] ([cX8 g a u]) ([cX8 g a r.2]) (some (.int r.1)) := by
  refine ctr_of (by decide) (Nat.le_of_ble_eq_true rfl) (fun X hl _ _ _ hQ => ?_)
  unfold f_X8_turn at h
  refine z_lv (lv' := [(0, .ref (a 0)), (1, .int p0)]) [0, 1] rfl ?_
  refine z_aload_n 0 rfl rfl dX8_turn_0 ?_
  refine z_iconst (v := 0) (by decide) dX8_turn_1 ?_
  refine z_put (t := .int) ([dX8 g a 0 u.2.1 u.2.2.1 u.2.2.2.1 u.2.2.2.2.1 u.2.2.2.2.2.1 u.2.2.2.2.2.2.1 u.2.2.2.2.2.2.2.1 u.2.2.2.2.2.2.2.2.1 u.2.2.2.2.2.2.2.2.2.1 u.2.2.2.2.2.2.2.2.2.2.1 u.2.2.2.2.2.2.2.2.2.2.2.1 u.2.2.2.2.2.2.2.2.2.2.2.2.1 u.2.2.2.2.2.2.2.2.2.2.2.2.2.1 u.2.2.2.2.2.2.2.2.2.2.2.2.2.2.1 u.2.2.2.2.2.2.2.2.2.2.2.2.2.2.2]) zcX8 0 rfl 0 rfl 0 (Nat.le_of_ble_eq_true rfl) zfX8_38 zpX8_0 (zn_i _) (zf_i _) (Nat.le_of_ble_eq_true rfl) rfl dX8_turn_2 ?_
  refine z_iload_n 1 rfl rfl dX8_turn_5 ?_
  refine z_callSR (rest := []) hl (c_X8_isDrawer l g p0 _ rfl) zyX8_isDrawer zsX8_isDrawer zlX8_117 [] rfl rfl rfl (by decide) (Nat.le_of_ble_eq_true rfl) ⟨Nat.zero_le _, Nat.zero_le _⟩ dX8_turn_6 (st2 := [.int (b2i (f_X8_isDrawer p0))]) rfl ?_
  refine z_ifB_ne (tgt := 18) rfl dX8_turn_9 (fun c9 => ?_) (fun c9 => ?_)
  · replace h := (if_pos c9).symm.trans h
    refine z_aload_n 0 rfl rfl dX8_turn_18 ?_
    refine z_iload_n 1 rfl rfl dX8_turn_19 ?_
    obtain ⟨r1, er1, h⟩ := zb h
    refine z_callVR (rest := []) hl (c_X8_wayTo l g a (0, u.2.1, u.2.2.1, u.2.2.2.1, u.2.2.2.2.1, u.2.2.2.2.2.1, u.2.2.2.2.2.2.1, u.2.2.2.2.2.2.2.1, u.2.2.2.2.2.2.2.2.1, u.2.2.2.2.2.2.2.2.2.1, u.2.2.2.2.2.2.2.2.2.2.1, u.2.2.2.2.2.2.2.2.2.2.2.1, u.2.2.2.2.2.2.2.2.2.2.2.2.1, u.2.2.2.2.2.2.2.2.2.2.2.2.2.1, u.2.2.2.2.2.2.2.2.2.2.2.2.2.2.1, u.2.2.2.2.2.2.2.2.2.2.2.2.2.2.2) p0 _ er1) zyX8_wayTo zvX8_wayTo rfl zlX8_64 zcX8.1 ⟨_, _, rfl⟩ [(0, none)] rfl rfl rfl (by decide) (Nat.le_of_ble_eq_true rfl) ⟨Nat.zero_le _, Nat.zero_le _⟩ dX8_turn_20 (st2 := [.int r1]) rfl ?_
    refine z_istore_n [(2, .int r1), (0, .ref (a 0)), (1, .int p0)] rfl (Nat.le_of_ble_eq_true rfl) rfl dX8_turn_23 ?_
    refine z_iload_n 0 rfl rfl dX8_turn_24 ?_
    refine z_bipush (v := 99) (by decide) dX8_turn_25 ?_
    refine z_icmp_ne (tgt := 36) rfl dX8_turn_27 (fun c27 => ?_) (fun c27 => ?_)
    · replace h := (if_neg c27).symm.trans h
      refine z_aload_n 1 rfl rfl dX8_turn_36 ?_
      obtain ⟨r2, er2, h⟩ := zb h
      refine z_callVW (rest := []) hl (c_X8_saves l g a (0, u.2.1, u.2.2.1, u.2.2.2.1, u.2.2.2.2.1, u.2.2.2.2.2.1, u.2.2.2.2.2.2.1, u.2.2.2.2.2.2.2.1, u.2.2.2.2.2.2.2.2.1, u.2.2.2.2.2.2.2.2.2.1, u.2.2.2.2.2.2.2.2.2.2.1, u.2.2.2.2.2.2.2.2.2.2.2.1, u.2.2.2.2.2.2.2.2.2.2.2.2.1, u.2.2.2.2.2.2.2.2.2.2.2.2.2.1, u.2.2.2.2.2.2.2.2.2.2.2.2.2.2.1, u.2.2.2.2.2.2.2.2.2.2.2.2.2.2.2) _ er2) zyX8_saves zvX8_saves rfl zlX8_131 zcX8.1 ⟨_, _, rfl⟩ [(0, none)] rfl (by decide) rfl (w' := [cX8 g a r2]) rfl rfl rfl (by decide) (Nat.le_of_ble_eq_true rfl) ⟨Nat.zero_le _, Nat.zero_le _⟩ dX8_turn_37 (st2 := []) rfl ?_
      refine z_aload_n 1 rfl rfl dX8_turn_40 ?_
      refine z_iload_n 2 rfl rfl dX8_turn_41 ?_
      obtain ⟨r3, er3, h⟩ := zb h
      refine z_callVW (rest := []) hl (c_X8_turns l g a r2 p0 _ er3) zyX8_turns zvX8_turns rfl zlX8_76 zcX8.1 ⟨_, _, rfl⟩ [(0, none)] rfl (by decide) rfl (w' := [cX8 g a r3]) rfl rfl rfl (by decide) (Nat.le_of_ble_eq_true rfl) ⟨Nat.zero_le _, Nat.zero_le _⟩ dX8_turn_42 (st2 := []) rfl ?_
      refine z_iload_n 0 rfl rfl dX8_turn_45 ?_
      cases h
      try dsimp only at hQ
      exact z_iret dX8_turn_46 hQ
    · replace h := (if_pos c27).symm.trans h
      refine z_aload_n 1 rfl rfl dX8_turn_30 ?_
      refine z_iconst (v := 2) (by decide) dX8_turn_31 ?_
      obtain ⟨r4, er4, h⟩ := zb h
      refine z_callVW (rest := []) hl (c_X8_fails l g a (0, u.2.1, u.2.2.1, u.2.2.2.1, u.2.2.2.2.1, u.2.2.2.2.2.1, u.2.2.2.2.2.2.1, u.2.2.2.2.2.2.2.1, u.2.2.2.2.2.2.2.2.1, u.2.2.2.2.2.2.2.2.2.1, u.2.2.2.2.2.2.2.2.2.2.1, u.2.2.2.2.2.2.2.2.2.2.2.1, u.2.2.2.2.2.2.2.2.2.2.2.2.1, u.2.2.2.2.2.2.2.2.2.2.2.2.2.1, u.2.2.2.2.2.2.2.2.2.2.2.2.2.2.1, u.2.2.2.2.2.2.2.2.2.2.2.2.2.2.2) 2 _ (Option.some.inj er4)) zyX8_fails zvX8_fails rfl zlX8_121 zcX8.1 ⟨_, _, rfl⟩ [(0, none)] rfl (by decide) rfl (w' := [cX8 g a r4.2]) rfl rfl rfl (by decide) (Nat.le_of_ble_eq_true rfl) ⟨Nat.zero_le _, Nat.zero_le _⟩ dX8_turn_32 (st2 := [.int r4.1]) rfl ?_
      cases h
      try dsimp only at hQ
      exact z_iret dX8_turn_35 hQ
  · replace h := (if_neg c9).symm.trans h
    refine z_aload_n 0 rfl rfl dX8_turn_12 ?_
    refine z_iconst (v := 1) (by decide) dX8_turn_13 ?_
    obtain ⟨r5, er5, h⟩ := zb h
    refine z_callVW (rest := []) hl (c_X8_fails l g a (0, u.2.1, u.2.2.1, u.2.2.2.1, u.2.2.2.2.1, u.2.2.2.2.2.1, u.2.2.2.2.2.2.1, u.2.2.2.2.2.2.2.1, u.2.2.2.2.2.2.2.2.1, u.2.2.2.2.2.2.2.2.2.1, u.2.2.2.2.2.2.2.2.2.2.1, u.2.2.2.2.2.2.2.2.2.2.2.1, u.2.2.2.2.2.2.2.2.2.2.2.2.1, u.2.2.2.2.2.2.2.2.2.2.2.2.2.1, u.2.2.2.2.2.2.2.2.2.2.2.2.2.2.1, u.2.2.2.2.2.2.2.2.2.2.2.2.2.2.2) 1 _ (Option.some.inj er5)) zyX8_fails zvX8_fails rfl zlX8_121 zcX8.1 ⟨_, _, rfl⟩ [(0, none)] rfl (by decide) rfl (w' := [cX8 g a r5.2]) rfl rfl rfl (by decide) (Nat.le_of_ble_eq_true rfl) ⟨Nat.zero_le _, Nat.zero_le _⟩ dX8_turn_14 (st2 := [.int r5.1]) rfl ?_
    cases h
    try dsimp only at hQ
    exact z_iret dX8_turn_17 hQ
set_option maxHeartbeats 400000 in
set_option maxRecDepth 100000 in
theorem c_X8_jam (l : Launch) (g : zG) (a : Nat → Nat) (u : tX8) (p0 : Int32) (p1 : Bool) (r : Int32 × tX8) (h : f_X8_jam u p0 p1 = some r) : Ctr l g true yX8_jam cX8_jam 4 (some .int) 2 42 0 0 [.ref (a 0), .int p0, .int (b2i p1)] ([cX8 g a u]) ([cX8 g a r.2]) (some (.int r.1)) := by
  refine ctr_of (by decide) (Nat.le_of_ble_eq_true rfl) (fun X hl _ _ _ hQ => ?_)
  unfold f_X8_jam at h
  refine z_lv (lv' := [(0, .ref (a 0)), (1, .int p0), (2, .int (b2i p1))]) [0, 1, 2] rfl ?_
  refine z_aload_n 0 rfl rfl dX8_jam_0 ?_
  refine z_iconst (v := 0) (by decide) dX8_jam_1 ?_
  refine z_put (t := .int) ([dX8 g a 0 u.2.1 u.2.2.1 u.2.2.2.1 u.2.2.2.2.1 u.2.2.2.2.2.1 u.2.2.2.2.2.2.1 u.2.2.2.2.2.2.2.1 u.2.2.2.2.2.2.2.2.1 u.2.2.2.2.2.2.2.2.2.1 u.2.2.2.2.2.2.2.2.2.2.1 u.2.2.2.2.2.2.2.2.2.2.2.1 u.2.2.2.2.2.2.2.2.2.2.2.2.1 u.2.2.2.2.2.2.2.2.2.2.2.2.2.1 u.2.2.2.2.2.2.2.2.2.2.2.2.2.2.1 u.2.2.2.2.2.2.2.2.2.2.2.2.2.2.2]) zcX8 0 rfl 0 rfl 0 (Nat.le_of_ble_eq_true rfl) zfX8_38 zpX8_0 (zn_i _) (zf_i _) (Nat.le_of_ble_eq_true rfl) rfl dX8_jam_2 ?_
  refine z_iload_n 1 rfl rfl dX8_jam_5 ?_
  refine z_callSR (rest := []) hl (c_X8_isDrawer l g p0 _ rfl) zyX8_isDrawer zsX8_isDrawer zlX8_117 [] rfl rfl rfl (by decide) (Nat.le_of_ble_eq_true rfl) ⟨Nat.zero_le _, Nat.zero_le _⟩ dX8_jam_6 (st2 := [.int (b2i (f_X8_isDrawer p0))]) rfl ?_
  refine z_ifB_ne (tgt := 18) rfl dX8_jam_9 (fun c9 => ?_) (fun c9 => ?_)
  · replace h := (if_pos c9).symm.trans h
    refine z_aload_n 0 rfl rfl dX8_jam_18 ?_
    obtain ⟨r1, er1, h⟩ := zb h
    refine z_callVW (rest := []) hl (c_X8_saves l g a (0, u.2.1, u.2.2.1, u.2.2.2.1, u.2.2.2.2.1, u.2.2.2.2.2.1, u.2.2.2.2.2.2.1, u.2.2.2.2.2.2.2.1, u.2.2.2.2.2.2.2.2.1, u.2.2.2.2.2.2.2.2.2.1, u.2.2.2.2.2.2.2.2.2.2.1, u.2.2.2.2.2.2.2.2.2.2.2.1, u.2.2.2.2.2.2.2.2.2.2.2.2.1, u.2.2.2.2.2.2.2.2.2.2.2.2.2.1, u.2.2.2.2.2.2.2.2.2.2.2.2.2.2.1, u.2.2.2.2.2.2.2.2.2.2.2.2.2.2.2) _ er1) zyX8_saves zvX8_saves rfl zlX8_131 zcX8.1 ⟨_, _, rfl⟩ [(0, none)] rfl (by decide) rfl (w' := [cX8 g a r1]) rfl rfl rfl (by decide) (Nat.le_of_ble_eq_true rfl) ⟨Nat.zero_le _, Nat.zero_le _⟩ dX8_jam_19 (st2 := []) rfl ?_
    refine z_aload_n 0 rfl rfl dX8_jam_22 ?_
    refine z_get zcX8 0 rfl 0 rfl 1 (Nat.le_of_ble_eq_true rfl) zfX8_7 (v := .ref (a 1)) rfl dX8_jam_23 ?_
    refine z_bipush (v := 10) (by decide) dX8_jam_26 ?_
    refine z_iload_n 1 rfl rfl dX8_jam_28 ?_
    refine z_iadd dX8_jam_29 ?_
    obtain ⟨r2, er2, h⟩ := zb h
    refine z_iald 0 rfl 1 rfl er2 dX8_jam_30 ?_
    refine z_istore_n [(3, .int r2), (0, .ref (a 0)), (1, .int p0), (2, .int (b2i p1))] rfl (Nat.le_of_ble_eq_true rfl) rfl dX8_jam_31 ?_
    refine z_aload_n 1 rfl rfl dX8_jam_32 ?_
    refine z_get zcX8 0 rfl 0 rfl 1 (Nat.le_of_ble_eq_true rfl) zfX8_7 (v := .ref (a 1)) rfl dX8_jam_33 ?_
    refine z_bipush (v := 10) (by decide) dX8_jam_36 ?_
    refine z_iload_n 2 rfl rfl dX8_jam_38 ?_
    refine z_iadd dX8_jam_39 ?_
    refine z_iload_n 3 rfl rfl dX8_jam_40 ?_
    refine z_ifB_eq (tgt := 48) rfl dX8_jam_41 (fun c41 => ?_) (fun c41 => ?_)
    · replace h := (if_neg c41).symm.trans h
      refine z_iconst (v := 0) (by decide) dX8_jam_48 ?_
      obtain ⟨r3, er3, h⟩ := zb h
      refine z_iast ([dX8 g a r1.1 r3 r1.2.2.1 r1.2.2.2.1 r1.2.2.2.2.1 r1.2.2.2.2.2.1 r1.2.2.2.2.2.2.1 r1.2.2.2.2.2.2.2.1 r1.2.2.2.2.2.2.2.2.1 r1.2.2.2.2.2.2.2.2.2.1 r1.2.2.2.2.2.2.2.2.2.2.1 r1.2.2.2.2.2.2.2.2.2.2.2.1 r1.2.2.2.2.2.2.2.2.2.2.2.2.1 r1.2.2.2.2.2.2.2.2.2.2.2.2.2.1 r1.2.2.2.2.2.2.2.2.2.2.2.2.2.2.1 r1.2.2.2.2.2.2.2.2.2.2.2.2.2.2.2]) 0 rfl 1 rfl er3 rfl dX8_jam_49 ?_
      refine z_iload_n 0 rfl rfl dX8_jam_50 ?_
      cases h
      try dsimp only at hQ
      exact z_iret dX8_jam_51 hQ
    · replace h := (if_pos c41).symm.trans h
      refine z_iconst (v := 1) (by decide) dX8_jam_44 ?_
      refine z_goto (tgt := 49) rfl dX8_jam_45 ?_
      obtain ⟨r4, er4, h⟩ := zb h
      refine z_iast ([dX8 g a r1.1 r4 r1.2.2.1 r1.2.2.2.1 r1.2.2.2.2.1 r1.2.2.2.2.2.1 r1.2.2.2.2.2.2.1 r1.2.2.2.2.2.2.2.1 r1.2.2.2.2.2.2.2.2.1 r1.2.2.2.2.2.2.2.2.2.1 r1.2.2.2.2.2.2.2.2.2.2.1 r1.2.2.2.2.2.2.2.2.2.2.2.1 r1.2.2.2.2.2.2.2.2.2.2.2.2.1 r1.2.2.2.2.2.2.2.2.2.2.2.2.2.1 r1.2.2.2.2.2.2.2.2.2.2.2.2.2.2.1 r1.2.2.2.2.2.2.2.2.2.2.2.2.2.2.2]) 0 rfl 1 rfl er4 rfl dX8_jam_49 ?_
      refine z_iload_n 0 rfl rfl dX8_jam_50 ?_
      cases h
      try dsimp only at hQ
      exact z_iret dX8_jam_51 hQ
  · replace h := (if_neg c9).symm.trans h
    refine z_aload_n 0 rfl rfl dX8_jam_12 ?_
    refine z_iconst (v := 1) (by decide) dX8_jam_13 ?_
    obtain ⟨r5, er5, h⟩ := zb h
    refine z_callVW (rest := []) hl (c_X8_fails l g a (0, u.2.1, u.2.2.1, u.2.2.2.1, u.2.2.2.2.1, u.2.2.2.2.2.1, u.2.2.2.2.2.2.1, u.2.2.2.2.2.2.2.1, u.2.2.2.2.2.2.2.2.1, u.2.2.2.2.2.2.2.2.2.1, u.2.2.2.2.2.2.2.2.2.2.1, u.2.2.2.2.2.2.2.2.2.2.2.1, u.2.2.2.2.2.2.2.2.2.2.2.2.1, u.2.2.2.2.2.2.2.2.2.2.2.2.2.1, u.2.2.2.2.2.2.2.2.2.2.2.2.2.2.1, u.2.2.2.2.2.2.2.2.2.2.2.2.2.2.2) 1 _ (Option.some.inj er5)) zyX8_fails zvX8_fails rfl zlX8_121 zcX8.1 ⟨_, _, rfl⟩ [(0, none)] rfl (by decide) rfl (w' := [cX8 g a r5.2]) rfl rfl rfl (by decide) (Nat.le_of_ble_eq_true rfl) ⟨Nat.zero_le _, Nat.zero_le _⟩ dX8_jam_14 (st2 := [.int r5.1]) rfl ?_
    cases h
    try dsimp only at hQ
    exact z_iret dX8_jam_17 hQ
set_option maxHeartbeats 400000 in
set_option maxRecDepth 100000 in
theorem c_X8_greatestLoad (l : Launch) (g : zG) (a : Nat → Nat) (u : tX8) (r : Int32) (h : f_X8_greatestLoad u = some r) : Ctr l g false yX8_greatestLoad cX8_greatestLoad 3 (some .int) 2 45 0 0 [.ref (a 0)] ([cX8 g a u]) ([cX8 g a u]) (some (.int r)) := by
  refine ctr_of (by decide) (Nat.le_of_ble_eq_true rfl) (fun X hl _ _ _ hQ => ?_)
  unfold f_X8_greatestLoad at h
  refine z_lv (lv' := [(0, .ref (a 0))]) [0] rfl ?_
  refine z_iconst (v := 0) (by decide) dX8_greatestLoad_0 ?_
  refine z_istore_n [(1, .int 0), (0, .ref (a 0))] rfl (Nat.le_of_ble_eq_true rfl) rfl dX8_greatestLoad_1 ?_
  refine z_iconst (v := 0) (by decide) dX8_greatestLoad_2 ?_
  refine z_istore_n [(2, .int 0), (1, .int 0), (0, .ref (a 0))] rfl (Nat.le_of_ble_eq_true rfl) rfl dX8_greatestLoad_3 ?_
  obtain ⟨z1, ez1, h⟩ := zb h
  refine z_lv (lv' := [(0, .ref (a 0)), (1, .int 0), (2, .int 0)]) [2, 1, 0] rfl ?_
  suffices hk4 : (fun (s4 : Int32 × Int32) => Z false RX8 cX8_greatestLoad 3 2 45 g X 0 0 ([cX8 g a u]) [(0, .ref (a 0)), (1, .int s4.1), (2, .int s4.2)] 4 []) (0, 0) by try dsimp only at hk4; exact hk4
  refine lp_ind (σ := Int32 × Int32) (ε := Int32) (b_X8_greatestLoad_4 u) (fun s4 => Z false RX8 cX8_greatestLoad 3 2 45 g X 0 0 ([cX8 g a u]) [(0, .ref (a 0)), (1, .int s4.1), (2, .int s4.2)] 4 []) (fun z1 => Z false RX8 cX8_greatestLoad 3 2 45 g X 0 0 ([cX8 g a u]) [(1, .int z1)] 35 []) (fun s4 q4 h4 i4 x4 => ?_) 5000 (0, 0) z1 ez1 ?_
  · unfold b_X8_greatestLoad_4 at h4
    refine z_iload_n 2 rfl rfl dX8_greatestLoad_4 ?_
    refine z_bipush (v := 12) (by decide) dX8_greatestLoad_5 ?_
    refine z_icmp_ge (tgt := 35) rfl dX8_greatestLoad_7 (fun c7 => ?_) (fun c7 => ?_)
    · replace h4 := (if_pos c7).symm.trans h4
      cases h4
      have k4 := x4 s4.1 rfl
      try dsimp only at k4
      exact z_lv [1] rfl k4
    · replace h4 := (if_neg c7).symm.trans h4
      refine z_aload_n 0 rfl rfl dX8_greatestLoad_10 ?_
      refine z_iload_n 2 rfl rfl dX8_greatestLoad_11 ?_
      obtain ⟨r2, er2, h4⟩ := zb h4
      refine z_callVR (rest := []) hl (c_X8_loadOf l g a u s4.2 _ er2) zyX8_loadOf zvX8_loadOf rfl zlX8_124 zcX8.1 ⟨_, _, rfl⟩ [(0, none)] rfl rfl rfl (by decide) (Nat.le_of_ble_eq_true rfl) ⟨Nat.zero_le _, Nat.zero_le _⟩ dX8_greatestLoad_12 (st2 := [.int r2]) rfl ?_
      refine z_iload_n 1 rfl rfl dX8_greatestLoad_15 ?_
      refine z_icmp_le (tgt := 27) rfl dX8_greatestLoad_16 (fun c16 => ?_) (fun c16 => ?_)
      · replace h4 := (if_pos c16).symm.trans h4
        refine z_iload_n 1 rfl rfl dX8_greatestLoad_27 ?_
        refine z_istore_n [(1, .int s4.1), (0, .ref (a 0)), (2, .int s4.2)] rfl (Nat.le_of_ble_eq_true rfl) rfl dX8_greatestLoad_28 ?_
        refine z_iinc 2 [(2, .int (s4.2 + 1)), (1, .int s4.1), (0, .ref (a 0))] rfl (v := (s4.2 + 1)) zinc (Nat.le_of_ble_eq_true rfl) rfl dX8_greatestLoad_29 ?_
        refine z_goto (tgt := 4) rfl dX8_greatestLoad_32 ?_
        cases h4
        have k4 := i4 (s4.1, (s4.2 + 1)) rfl
        try dsimp only at k4
        exact z_lv [2, 1, 0] rfl k4
      · replace h4 := (if_neg c16).symm.trans h4
        refine z_aload_n 0 rfl rfl dX8_greatestLoad_19 ?_
        refine z_iload_n 2 rfl rfl dX8_greatestLoad_20 ?_
        obtain ⟨r3, er3, h4⟩ := zb h4
        refine z_callVR (rest := []) hl (c_X8_loadOf l g a u s4.2 _ er3) zyX8_loadOf zvX8_loadOf rfl zlX8_124 zcX8.1 ⟨_, _, rfl⟩ [(0, none)] rfl rfl rfl (by decide) (Nat.le_of_ble_eq_true rfl) ⟨Nat.zero_le _, Nat.zero_le _⟩ dX8_greatestLoad_21 (st2 := [.int r3]) rfl ?_
        refine z_goto (tgt := 28) rfl dX8_greatestLoad_24 ?_
        refine z_istore_n [(1, .int r3), (0, .ref (a 0)), (2, .int s4.2)] rfl (Nat.le_of_ble_eq_true rfl) rfl dX8_greatestLoad_28 ?_
        refine z_iinc 2 [(2, .int (s4.2 + 1)), (1, .int r3), (0, .ref (a 0))] rfl (v := (s4.2 + 1)) zinc (Nat.le_of_ble_eq_true rfl) rfl dX8_greatestLoad_29 ?_
        refine z_goto (tgt := 4) rfl dX8_greatestLoad_32 ?_
        cases h4
        have k4 := i4 (r3, (s4.2 + 1)) rfl
        try dsimp only at k4
        exact z_lv [2, 1, 0] rfl k4
  · skip
    refine z_iload_n 0 rfl rfl dX8_greatestLoad_35 ?_
    cases h
    exact z_iret dX8_greatestLoad_36 hQ
set_option maxHeartbeats 400000 in
set_option maxRecDepth 100000 in
theorem c_X8_set (l : Launch) (g : zG) (a : Nat → Nat) (u : tX8) (p0 : Int32) (p1 : Int32) (r : Int32 × tX8) (h : f_X8_set u p0 p1 = some r) : Ctr l g true yX8_set cX8_set 5 (some .int) 3 67 0 0 [.ref (a 0), .int p0, .int p1] ([cX8 g a u]) ([cX8 g a r.2]) (some (.int r.1)) := by
  refine ctr_of (by decide) (Nat.le_of_ble_eq_true rfl) (fun X hl _ _ _ hQ => ?_)
  unfold f_X8_set at h
  refine z_lv (lv' := [(0, .ref (a 0)), (1, .int p0), (2, .int p1)]) [0, 1, 2] rfl ?_
  refine z_aload_n 0 rfl rfl dX8_set_0 ?_
  refine z_iconst (v := 0) (by decide) dX8_set_1 ?_
  refine z_put (t := .int) ([dX8 g a 0 u.2.1 u.2.2.1 u.2.2.2.1 u.2.2.2.2.1 u.2.2.2.2.2.1 u.2.2.2.2.2.2.1 u.2.2.2.2.2.2.2.1 u.2.2.2.2.2.2.2.2.1 u.2.2.2.2.2.2.2.2.2.1 u.2.2.2.2.2.2.2.2.2.2.1 u.2.2.2.2.2.2.2.2.2.2.2.1 u.2.2.2.2.2.2.2.2.2.2.2.2.1 u.2.2.2.2.2.2.2.2.2.2.2.2.2.1 u.2.2.2.2.2.2.2.2.2.2.2.2.2.2.1 u.2.2.2.2.2.2.2.2.2.2.2.2.2.2.2]) zcX8 0 rfl 0 rfl 0 (Nat.le_of_ble_eq_true rfl) zfX8_38 zpX8_0 (zn_i _) (zf_i _) (Nat.le_of_ble_eq_true rfl) rfl dX8_set_2 ?_
  refine z_iload_n 1 rfl rfl dX8_set_5 ?_
  refine z_iconst (v := 0) (by decide) dX8_set_6 ?_
  refine z_iconst (v := 2) (by decide) dX8_set_7 ?_
  refine z_callSR (rest := []) hl (c_X8_in l g p0 0 2 _ rfl) zyX8_in zsX8_in zlX8_42 [] rfl rfl rfl (by decide) (Nat.le_of_ble_eq_true rfl) ⟨Nat.zero_le _, Nat.zero_le _⟩ dX8_set_8 (st2 := [.int (b2i (f_X8_in p0 0 2))]) rfl ?_
  refine z_ifB_ne (tgt := 20) rfl dX8_set_11 (fun c11 => ?_) (fun c11 => ?_)
  · replace h := (if_pos c11).symm.trans h
    refine z_iload_n 1 rfl rfl dX8_set_20 ?_
    obtain ⟨j1, ej1, h⟩ := zb h
    have Kj1 : Z true RX8 cX8_set 5 3 67 g X 0 0 ([dX8 g a 0 u.2.1 u.2.2.1 u.2.2.2.1 u.2.2.2.2.1 u.2.2.2.2.2.1 u.2.2.2.2.2.2.1 u.2.2.2.2.2.2.2.1 u.2.2.2.2.2.2.2.2.1 u.2.2.2.2.2.2.2.2.2.1 u.2.2.2.2.2.2.2.2.2.2.1 u.2.2.2.2.2.2.2.2.2.2.2.1 u.2.2.2.2.2.2.2.2.2.2.2.2.1 u.2.2.2.2.2.2.2.2.2.2.2.2.2.1 u.2.2.2.2.2.2.2.2.2.2.2.2.2.2.1 u.2.2.2.2.2.2.2.2.2.2.2.2.2.2.2]) [(0, .ref (a 0)), (1, .int p0), (2, .int p1)] 57 [.int (b2i j1)] := by
      refine z_istore_n [(3, .int (b2i j1)), (0, .ref (a 0)), (1, .int p0), (2, .int p1)] rfl (Nat.le_of_ble_eq_true rfl) rfl dX8_set_57 ?_
      refine z_iload_n 0 rfl rfl dX8_set_58 ?_
      refine z_ifB_ne (tgt := 68) rfl dX8_set_59 (fun c59 => ?_) (fun c59 => ?_)
      · replace h := (if_pos c59).symm.trans h
        refine z_iload_n 2 rfl rfl dX8_set_68 ?_
        refine z_iconst (v := 1) (by decide) dX8_set_69 ?_
        refine z_icmp_ne (tgt := 87) rfl dX8_set_70 (fun c70 => ?_) (fun c70 => ?_)
        · replace h := (if_neg c70).symm.trans h
          refine z_aload_n 1 rfl rfl dX8_set_87 ?_
          obtain ⟨r2, er2, h⟩ := zb h
          refine z_callVW (rest := []) hl (c_X8_saves l g a (0, u.2.1, u.2.2.1, u.2.2.2.1, u.2.2.2.2.1, u.2.2.2.2.2.1, u.2.2.2.2.2.2.1, u.2.2.2.2.2.2.2.1, u.2.2.2.2.2.2.2.2.1, u.2.2.2.2.2.2.2.2.2.1, u.2.2.2.2.2.2.2.2.2.2.1, u.2.2.2.2.2.2.2.2.2.2.2.1, u.2.2.2.2.2.2.2.2.2.2.2.2.1, u.2.2.2.2.2.2.2.2.2.2.2.2.2.1, u.2.2.2.2.2.2.2.2.2.2.2.2.2.2.1, u.2.2.2.2.2.2.2.2.2.2.2.2.2.2.2) _ er2) zyX8_saves zvX8_saves rfl zlX8_131 zcX8.1 ⟨_, _, rfl⟩ [(0, none)] rfl (by decide) rfl (w' := [cX8 g a r2]) rfl rfl rfl (by decide) (Nat.le_of_ble_eq_true rfl) ⟨Nat.zero_le _, Nat.zero_le _⟩ dX8_set_88 (st2 := []) rfl ?_
          refine z_aload_n 1 rfl rfl dX8_set_91 ?_
          refine z_get zcX8 0 rfl 0 rfl 1 (Nat.le_of_ble_eq_true rfl) zfX8_7 (v := .ref (a 1)) rfl dX8_set_92 ?_
          refine z_iload_n 2 rfl rfl dX8_set_95 ?_
          obtain ⟨r3, er3, h⟩ := zb h
          refine z_iald 0 rfl 1 rfl er3 dX8_set_96 ?_
          refine z_istore [(4, .int r3), (3, .int (b2i j1)), (0, .ref (a 0)), (1, .int p0), (2, .int p1)] (Nat.le_of_ble_eq_true rfl) rfl dX8_set_97 ?_
          refine z_aload_n 2 rfl rfl dX8_set_99 ?_
          refine z_get zcX8 0 rfl 0 rfl 1 (Nat.le_of_ble_eq_true rfl) zfX8_7 (v := .ref (a 1)) rfl dX8_set_100 ?_
          refine z_iload_n 3 rfl rfl dX8_set_103 ?_
          refine z_iload_n 4 rfl rfl dX8_set_104 ?_
          obtain ⟨r4, er4, h⟩ := zb h
          refine z_iast ([dX8 g a r2.1 r4 r2.2.2.1 r2.2.2.2.1 r2.2.2.2.2.1 r2.2.2.2.2.2.1 r2.2.2.2.2.2.2.1 r2.2.2.2.2.2.2.2.1 r2.2.2.2.2.2.2.2.2.1 r2.2.2.2.2.2.2.2.2.2.1 r2.2.2.2.2.2.2.2.2.2.2.1 r2.2.2.2.2.2.2.2.2.2.2.2.1 r2.2.2.2.2.2.2.2.2.2.2.2.2.1 r2.2.2.2.2.2.2.2.2.2.2.2.2.2.1 r2.2.2.2.2.2.2.2.2.2.2.2.2.2.2.1 r2.2.2.2.2.2.2.2.2.2.2.2.2.2.2.2]) 0 rfl 1 rfl er4 rfl dX8_set_105 ?_
          refine z_iload 0 rfl dX8_set_106 ?_
          cases h
          try dsimp only at hQ
          exact z_iret dX8_set_108 hQ
        · replace h := (if_pos c70).symm.trans h
          refine z_iload_n 3 rfl rfl dX8_set_73 ?_
          refine z_aload_n 1 rfl rfl dX8_set_74 ?_
          obtain ⟨r5, er5, h⟩ := zb h
          refine z_callVR (rest := [.int p1]) hl (c_X8_greatestLoad l g a (0, u.2.1, u.2.2.1, u.2.2.2.1, u.2.2.2.2.1, u.2.2.2.2.2.1, u.2.2.2.2.2.2.1, u.2.2.2.2.2.2.2.1, u.2.2.2.2.2.2.2.2.1, u.2.2.2.2.2.2.2.2.2.1, u.2.2.2.2.2.2.2.2.2.2.1, u.2.2.2.2.2.2.2.2.2.2.2.1, u.2.2.2.2.2.2.2.2.2.2.2.2.1, u.2.2.2.2.2.2.2.2.2.2.2.2.2.1, u.2.2.2.2.2.2.2.2.2.2.2.2.2.2.1, u.2.2.2.2.2.2.2.2.2.2.2.2.2.2.2) _ er5) zyX8_greatestLoad zvX8_greatestLoad rfl zlX8_134 zcX8.1 ⟨_, _, rfl⟩ [(0, none)] rfl rfl rfl (by decide) (Nat.le_of_ble_eq_true rfl) ⟨Nat.zero_le _, Nat.zero_le _⟩ dX8_set_75 (st2 := [.int r5, .int p1]) rfl ?_
          refine z_icmp_ge (tgt := 87) rfl dX8_set_78 (fun c78 => ?_) (fun c78 => ?_)
          · replace h := (if_pos c78).symm.trans h
            refine z_aload_n 1 rfl rfl dX8_set_87 ?_
            obtain ⟨r6, er6, h⟩ := zb h
            refine z_callVW (rest := []) hl (c_X8_saves l g a (0, u.2.1, u.2.2.1, u.2.2.2.1, u.2.2.2.2.1, u.2.2.2.2.2.1, u.2.2.2.2.2.2.1, u.2.2.2.2.2.2.2.1, u.2.2.2.2.2.2.2.2.1, u.2.2.2.2.2.2.2.2.2.1, u.2.2.2.2.2.2.2.2.2.2.1, u.2.2.2.2.2.2.2.2.2.2.2.1, u.2.2.2.2.2.2.2.2.2.2.2.2.1, u.2.2.2.2.2.2.2.2.2.2.2.2.2.1, u.2.2.2.2.2.2.2.2.2.2.2.2.2.2.1, u.2.2.2.2.2.2.2.2.2.2.2.2.2.2.2) _ er6) zyX8_saves zvX8_saves rfl zlX8_131 zcX8.1 ⟨_, _, rfl⟩ [(0, none)] rfl (by decide) rfl (w' := [cX8 g a r6]) rfl rfl rfl (by decide) (Nat.le_of_ble_eq_true rfl) ⟨Nat.zero_le _, Nat.zero_le _⟩ dX8_set_88 (st2 := []) rfl ?_
            refine z_aload_n 1 rfl rfl dX8_set_91 ?_
            refine z_get zcX8 0 rfl 0 rfl 1 (Nat.le_of_ble_eq_true rfl) zfX8_7 (v := .ref (a 1)) rfl dX8_set_92 ?_
            refine z_iload_n 2 rfl rfl dX8_set_95 ?_
            obtain ⟨r7, er7, h⟩ := zb h
            refine z_iald 0 rfl 1 rfl er7 dX8_set_96 ?_
            refine z_istore [(4, .int r7), (3, .int (b2i j1)), (0, .ref (a 0)), (1, .int p0), (2, .int p1)] (Nat.le_of_ble_eq_true rfl) rfl dX8_set_97 ?_
            refine z_aload_n 2 rfl rfl dX8_set_99 ?_
            refine z_get zcX8 0 rfl 0 rfl 1 (Nat.le_of_ble_eq_true rfl) zfX8_7 (v := .ref (a 1)) rfl dX8_set_100 ?_
            refine z_iload_n 3 rfl rfl dX8_set_103 ?_
            refine z_iload_n 4 rfl rfl dX8_set_104 ?_
            obtain ⟨r8, er8, h⟩ := zb h
            refine z_iast ([dX8 g a r6.1 r8 r6.2.2.1 r6.2.2.2.1 r6.2.2.2.2.1 r6.2.2.2.2.2.1 r6.2.2.2.2.2.2.1 r6.2.2.2.2.2.2.2.1 r6.2.2.2.2.2.2.2.2.1 r6.2.2.2.2.2.2.2.2.2.1 r6.2.2.2.2.2.2.2.2.2.2.1 r6.2.2.2.2.2.2.2.2.2.2.2.1 r6.2.2.2.2.2.2.2.2.2.2.2.2.1 r6.2.2.2.2.2.2.2.2.2.2.2.2.2.1 r6.2.2.2.2.2.2.2.2.2.2.2.2.2.2.1 r6.2.2.2.2.2.2.2.2.2.2.2.2.2.2.2]) 0 rfl 1 rfl er8 rfl dX8_set_105 ?_
            refine z_iload 0 rfl dX8_set_106 ?_
            cases h
            try dsimp only at hQ
            exact z_iret dX8_set_108 hQ
          · replace h := (if_neg c78).symm.trans h
            refine z_aload_n 1 rfl rfl dX8_set_81 ?_
            refine z_iconst (v := 3) (by decide) dX8_set_82 ?_
            obtain ⟨r9, er9, h⟩ := zb h
            refine z_callVW (rest := []) hl (c_X8_fails l g a (0, u.2.1, u.2.2.1, u.2.2.2.1, u.2.2.2.2.1, u.2.2.2.2.2.1, u.2.2.2.2.2.2.1, u.2.2.2.2.2.2.2.1, u.2.2.2.2.2.2.2.2.1, u.2.2.2.2.2.2.2.2.2.1, u.2.2.2.2.2.2.2.2.2.2.1, u.2.2.2.2.2.2.2.2.2.2.2.1, u.2.2.2.2.2.2.2.2.2.2.2.2.1, u.2.2.2.2.2.2.2.2.2.2.2.2.2.1, u.2.2.2.2.2.2.2.2.2.2.2.2.2.2.1, u.2.2.2.2.2.2.2.2.2.2.2.2.2.2.2) 3 _ (Option.some.inj er9)) zyX8_fails zvX8_fails rfl zlX8_121 zcX8.1 ⟨_, _, rfl⟩ [(0, none)] rfl (by decide) rfl (w' := [cX8 g a r9.2]) rfl rfl rfl (by decide) (Nat.le_of_ble_eq_true rfl) ⟨Nat.zero_le _, Nat.zero_le _⟩ dX8_set_83 (st2 := [.int r9.1]) rfl ?_
            cases h
            try dsimp only at hQ
            exact z_iret dX8_set_86 hQ
      · replace h := (if_neg c59).symm.trans h
        refine z_aload_n 1 rfl rfl dX8_set_62 ?_
        refine z_iconst (v := 2) (by decide) dX8_set_63 ?_
        obtain ⟨r10, er10, h⟩ := zb h
        refine z_callVW (rest := []) hl (c_X8_fails l g a (0, u.2.1, u.2.2.1, u.2.2.2.1, u.2.2.2.2.1, u.2.2.2.2.2.1, u.2.2.2.2.2.2.1, u.2.2.2.2.2.2.2.1, u.2.2.2.2.2.2.2.2.1, u.2.2.2.2.2.2.2.2.2.1, u.2.2.2.2.2.2.2.2.2.2.1, u.2.2.2.2.2.2.2.2.2.2.2.1, u.2.2.2.2.2.2.2.2.2.2.2.2.1, u.2.2.2.2.2.2.2.2.2.2.2.2.2.1, u.2.2.2.2.2.2.2.2.2.2.2.2.2.2.1, u.2.2.2.2.2.2.2.2.2.2.2.2.2.2.2) 2 _ (Option.some.inj er10)) zyX8_fails zvX8_fails rfl zlX8_121 zcX8.1 ⟨_, _, rfl⟩ [(0, none)] rfl (by decide) rfl (w' := [cX8 g a r10.2]) rfl rfl rfl (by decide) (Nat.le_of_ble_eq_true rfl) ⟨Nat.zero_le _, Nat.zero_le _⟩ dX8_set_64 (st2 := [.int r10.1]) rfl ?_
        cases h
        try dsimp only at hQ
        exact z_iret dX8_set_67 hQ
    clear h
    refine z_if_ne (tgt := 35) rfl dX8_set_21 (fun c21 => ?_) (fun c21 => ?_)
    · replace ej1 := (if_neg c21).symm.trans ej1
      refine z_iload_n 1 rfl rfl dX8_set_35 ?_
      refine z_iconst (v := 1) (by decide) dX8_set_36 ?_
      refine z_icmp_ne (tgt := 51) rfl dX8_set_37 (fun c37 => ?_) (fun c37 => ?_)
      · replace ej1 := (if_neg c37).symm.trans ej1
        refine z_iload_n 2 rfl rfl dX8_set_51 ?_
        refine z_iconst (v := 0) (by decide) dX8_set_52 ?_
        refine z_iconst (v := 2) (by decide) dX8_set_53 ?_
        refine z_callSR (rest := []) hl (c_X8_in l g p1 0 2 _ rfl) zyX8_in zsX8_in zlX8_42 [] rfl rfl rfl (by decide) (Nat.le_of_ble_eq_true rfl) ⟨Nat.zero_le _, Nat.zero_le _⟩ dX8_set_54 (st2 := [.int (b2i (f_X8_in p1 0 2))]) rfl ?_
        cases ej1
        exact z_lv [0, 1, 2] rfl Kj1
      · replace ej1 := (if_pos c37).symm.trans ej1
        refine z_iload_n 2 rfl rfl dX8_set_40 ?_
        refine z_bipush (v := 10) (by decide) dX8_set_41 ?_
        refine z_bipush (v := 100) (by decide) dX8_set_43 ?_
        refine z_callSR (rest := []) hl (c_X8_in l g p1 10 100 _ rfl) zyX8_in zsX8_in zlX8_42 [] rfl rfl rfl (by decide) (Nat.le_of_ble_eq_true rfl) ⟨Nat.zero_le _, Nat.zero_le _⟩ dX8_set_45 (st2 := [.int (b2i (f_X8_in p1 10 100))]) rfl ?_
        refine z_goto (tgt := 57) rfl dX8_set_48 ?_
        cases ej1
        exact z_lv [0, 1, 2] rfl Kj1
    · replace ej1 := (if_pos c21).symm.trans ej1
      refine z_iload_n 2 rfl rfl dX8_set_24 ?_
      refine z_iconst (v := 0) (by decide) dX8_set_25 ?_
      refine z_sipush (v := 300) (by decide) dX8_set_26 ?_
      refine z_callSR (rest := []) hl (c_X8_in l g p1 0 300 _ rfl) zyX8_in zsX8_in zlX8_42 [] rfl rfl rfl (by decide) (Nat.le_of_ble_eq_true rfl) ⟨Nat.zero_le _, Nat.zero_le _⟩ dX8_set_29 (st2 := [.int (b2i (f_X8_in p1 0 300))]) rfl ?_
      refine z_goto (tgt := 57) rfl dX8_set_32 ?_
      cases ej1
      exact z_lv [0, 1, 2] rfl Kj1
  · replace h := (if_neg c11).symm.trans h
    refine z_aload_n 0 rfl rfl dX8_set_14 ?_
    refine z_iconst (v := 1) (by decide) dX8_set_15 ?_
    obtain ⟨r11, er11, h⟩ := zb h
    refine z_callVW (rest := []) hl (c_X8_fails l g a (0, u.2.1, u.2.2.1, u.2.2.2.1, u.2.2.2.2.1, u.2.2.2.2.2.1, u.2.2.2.2.2.2.1, u.2.2.2.2.2.2.2.1, u.2.2.2.2.2.2.2.2.1, u.2.2.2.2.2.2.2.2.2.1, u.2.2.2.2.2.2.2.2.2.2.1, u.2.2.2.2.2.2.2.2.2.2.2.1, u.2.2.2.2.2.2.2.2.2.2.2.2.1, u.2.2.2.2.2.2.2.2.2.2.2.2.2.1, u.2.2.2.2.2.2.2.2.2.2.2.2.2.2.1, u.2.2.2.2.2.2.2.2.2.2.2.2.2.2.2) 1 _ (Option.some.inj er11)) zyX8_fails zvX8_fails rfl zlX8_121 zcX8.1 ⟨_, _, rfl⟩ [(0, none)] rfl (by decide) rfl (w' := [cX8 g a r11.2]) rfl rfl rfl (by decide) (Nat.le_of_ble_eq_true rfl) ⟨Nat.zero_le _, Nat.zero_le _⟩ dX8_set_16 (st2 := [.int r11.1]) rfl ?_
    cases h
    try dsimp only at hQ
    exact z_iret dX8_set_19 hQ
set_option maxHeartbeats 400000 in
set_option maxRecDepth 100000 in
theorem c_X8_append (l : Launch) (g : zG) (a : Nat → Nat) (u : tX8) (p0 : Int32) (r : Int32 × tX8) (h : f_X8_append u p0 = some r) : Ctr l g true yX8_append cX8_append 2 (some .int) 1 22 0 0 [.ref (a 0), .int p0] ([cX8 g a u]) ([cX8 g a r.2]) (some (.int r.1)) := by
  refine ctr_of (by decide) (Nat.le_of_ble_eq_true rfl) (fun X hl _ _ _ hQ => ?_)
  unfold f_X8_append at h
  refine z_lv (lv' := [(0, .ref (a 0)), (1, .int p0)]) [0, 1] rfl ?_
  refine z_aload_n 0 rfl rfl dX8_append_0 ?_
  refine z_iconst (v := 0) (by decide) dX8_append_1 ?_
  refine z_put (t := .int) ([dX8 g a 0 u.2.1 u.2.2.1 u.2.2.2.1 u.2.2.2.2.1 u.2.2.2.2.2.1 u.2.2.2.2.2.2.1 u.2.2.2.2.2.2.2.1 u.2.2.2.2.2.2.2.2.1 u.2.2.2.2.2.2.2.2.2.1 u.2.2.2.2.2.2.2.2.2.2.1 u.2.2.2.2.2.2.2.2.2.2.2.1 u.2.2.2.2.2.2.2.2.2.2.2.2.1 u.2.2.2.2.2.2.2.2.2.2.2.2.2.1 u.2.2.2.2.2.2.2.2.2.2.2.2.2.2.1 u.2.2.2.2.2.2.2.2.2.2.2.2.2.2.2]) zcX8 0 rfl 0 rfl 0 (Nat.le_of_ble_eq_true rfl) zfX8_38 zpX8_0 (zn_i _) (zf_i _) (Nat.le_of_ble_eq_true rfl) rfl dX8_append_2 ?_
  refine z_iload_n 1 rfl rfl dX8_append_5 ?_
  refine z_bipush (v := 33) (by decide) dX8_append_6 ?_
  refine z_bipush (v := 126) (by decide) dX8_append_8 ?_
  refine z_callSR (rest := []) hl (c_X8_in l g p0 33 126 _ rfl) zyX8_in zsX8_in zlX8_42 [] rfl rfl rfl (by decide) (Nat.le_of_ble_eq_true rfl) ⟨Nat.zero_le _, Nat.zero_le _⟩ dX8_append_10 (st2 := [.int (b2i (f_X8_in p0 33 126))]) rfl ?_
  refine z_ifB_ne (tgt := 22) rfl dX8_append_13 (fun c13 => ?_) (fun c13 => ?_)
  · replace h := (if_pos c13).symm.trans h
    refine z_aload_n 0 rfl rfl dX8_append_22 ?_
    refine z_get zcX8 0 rfl 0 rfl 6 (Nat.le_of_ble_eq_true rfl) zfX8_137 (v := .int u.2.2.2.2.2.2.1) rfl dX8_append_23 ?_
    refine z_bipush (v := 60) (by decide) dX8_append_26 ?_
    refine z_icmp_ne (tgt := 37) rfl dX8_append_28 (fun c28 => ?_) (fun c28 => ?_)
    · replace h := (if_neg c28).symm.trans h
      refine z_aload_n 0 rfl rfl dX8_append_37 ?_
      refine z_get zcX8 0 rfl 0 rfl 5 (Nat.le_of_ble_eq_true rfl) zfX8_19 (v := .ref (a 4)) rfl dX8_append_38 ?_
      refine z_aload_n 0 rfl rfl dX8_append_41 ?_
      refine z_get zcX8 0 rfl 0 rfl 6 (Nat.le_of_ble_eq_true rfl) zfX8_137 (v := .int u.2.2.2.2.2.2.1) rfl dX8_append_42 ?_
      refine z_iload_n 1 rfl rfl dX8_append_45 ?_
      obtain ⟨r1, er1, h⟩ := zb h
      refine z_iast ([dX8 g a 0 u.2.1 u.2.2.1 u.2.2.2.1 u.2.2.2.2.1 r1 u.2.2.2.2.2.2.1 u.2.2.2.2.2.2.2.1 u.2.2.2.2.2.2.2.2.1 u.2.2.2.2.2.2.2.2.2.1 u.2.2.2.2.2.2.2.2.2.2.1 u.2.2.2.2.2.2.2.2.2.2.2.1 u.2.2.2.2.2.2.2.2.2.2.2.2.1 u.2.2.2.2.2.2.2.2.2.2.2.2.2.1 u.2.2.2.2.2.2.2.2.2.2.2.2.2.2.1 u.2.2.2.2.2.2.2.2.2.2.2.2.2.2.2]) 0 rfl 4 rfl er1 rfl dX8_append_46 ?_
      refine z_aload_n 0 rfl rfl dX8_append_47 ?_
      refine z_dup rfl dX8_append_48 ?_
      refine z_get zcX8 0 rfl 0 rfl 6 (Nat.le_of_ble_eq_true rfl) zfX8_137 (v := .int u.2.2.2.2.2.2.1) rfl dX8_append_49 ?_
      refine z_iconst (v := 1) (by decide) dX8_append_52 ?_
      refine z_iadd dX8_append_53 ?_
      refine z_put (t := .int) ([dX8 g a 0 u.2.1 u.2.2.1 u.2.2.2.1 u.2.2.2.2.1 r1 (u.2.2.2.2.2.2.1 + 1) u.2.2.2.2.2.2.2.1 u.2.2.2.2.2.2.2.2.1 u.2.2.2.2.2.2.2.2.2.1 u.2.2.2.2.2.2.2.2.2.2.1 u.2.2.2.2.2.2.2.2.2.2.2.1 u.2.2.2.2.2.2.2.2.2.2.2.2.1 u.2.2.2.2.2.2.2.2.2.2.2.2.2.1 u.2.2.2.2.2.2.2.2.2.2.2.2.2.2.1 u.2.2.2.2.2.2.2.2.2.2.2.2.2.2.2]) zcX8 0 rfl 0 rfl 6 (Nat.le_of_ble_eq_true rfl) zfX8_137 zpX8_6 (zn_i _) (zf_i _) (Nat.le_of_ble_eq_true rfl) rfl dX8_append_54 ?_
      refine z_aload_n 0 rfl rfl dX8_append_57 ?_
      refine z_get zcX8 0 rfl 0 rfl 6 (Nat.le_of_ble_eq_true rfl) zfX8_137 (v := .int (u.2.2.2.2.2.2.1 + 1)) rfl dX8_append_58 ?_
      cases h
      try dsimp only at hQ
      exact z_iret dX8_append_61 hQ
    · replace h := (if_pos c28).symm.trans h
      refine z_aload_n 0 rfl rfl dX8_append_31 ?_
      refine z_iconst (v := 2) (by decide) dX8_append_32 ?_
      obtain ⟨r2, er2, h⟩ := zb h
      refine z_callVW (rest := []) hl (c_X8_fails l g a (0, u.2.1, u.2.2.1, u.2.2.2.1, u.2.2.2.2.1, u.2.2.2.2.2.1, u.2.2.2.2.2.2.1, u.2.2.2.2.2.2.2.1, u.2.2.2.2.2.2.2.2.1, u.2.2.2.2.2.2.2.2.2.1, u.2.2.2.2.2.2.2.2.2.2.1, u.2.2.2.2.2.2.2.2.2.2.2.1, u.2.2.2.2.2.2.2.2.2.2.2.2.1, u.2.2.2.2.2.2.2.2.2.2.2.2.2.1, u.2.2.2.2.2.2.2.2.2.2.2.2.2.2.1, u.2.2.2.2.2.2.2.2.2.2.2.2.2.2.2) 2 _ (Option.some.inj er2)) zyX8_fails zvX8_fails rfl zlX8_121 zcX8.1 ⟨_, _, rfl⟩ [(0, none)] rfl (by decide) rfl (w' := [cX8 g a r2.2]) rfl rfl rfl (by decide) (Nat.le_of_ble_eq_true rfl) ⟨Nat.zero_le _, Nat.zero_le _⟩ dX8_append_33 (st2 := [.int r2.1]) rfl ?_
      cases h
      try dsimp only at hQ
      exact z_iret dX8_append_36 hQ
  · replace h := (if_neg c13).symm.trans h
    refine z_aload_n 0 rfl rfl dX8_append_16 ?_
    refine z_iconst (v := 1) (by decide) dX8_append_17 ?_
    obtain ⟨r3, er3, h⟩ := zb h
    refine z_callVW (rest := []) hl (c_X8_fails l g a (0, u.2.1, u.2.2.1, u.2.2.2.1, u.2.2.2.2.1, u.2.2.2.2.2.1, u.2.2.2.2.2.2.1, u.2.2.2.2.2.2.2.1, u.2.2.2.2.2.2.2.2.1, u.2.2.2.2.2.2.2.2.2.1, u.2.2.2.2.2.2.2.2.2.2.1, u.2.2.2.2.2.2.2.2.2.2.2.1, u.2.2.2.2.2.2.2.2.2.2.2.2.1, u.2.2.2.2.2.2.2.2.2.2.2.2.2.1, u.2.2.2.2.2.2.2.2.2.2.2.2.2.2.1, u.2.2.2.2.2.2.2.2.2.2.2.2.2.2.2) 1 _ (Option.some.inj er3)) zyX8_fails zvX8_fails rfl zlX8_121 zcX8.1 ⟨_, _, rfl⟩ [(0, none)] rfl (by decide) rfl (w' := [cX8 g a r3.2]) rfl rfl rfl (by decide) (Nat.le_of_ble_eq_true rfl) ⟨Nat.zero_le _, Nat.zero_le _⟩ dX8_append_18 (st2 := [.int r3.1]) rfl ?_
    cases h
    try dsimp only at hQ
    exact z_iret dX8_append_21 hQ
set_option maxHeartbeats 400000 in
set_option maxRecDepth 100000 in
theorem c_X8_clearBuffer (l : Launch) (g : zG) (a : Nat → Nat) (u : tX8) (r : Int32 × tX8) (h : f_X8_clearBuffer u = r) : Ctr l g true yX8_clearBuffer cX8_clearBuffer 2 (some .int) 0 0 0 0 [.ref (a 0)] ([cX8 g a u]) ([cX8 g a r.2]) (some (.int r.1)) := by
  refine ctr_of (by decide) (Nat.le_of_ble_eq_true rfl) (fun X hl _ _ _ hQ => ?_)
  unfold f_X8_clearBuffer at h
  refine z_lv (lv' := [(0, .ref (a 0))]) [0] rfl ?_
  refine z_aload_n 0 rfl rfl dX8_clearBuffer_0 ?_
  refine z_iconst (v := 0) (by decide) dX8_clearBuffer_1 ?_
  refine z_put (t := .int) ([dX8 g a 0 u.2.1 u.2.2.1 u.2.2.2.1 u.2.2.2.2.1 u.2.2.2.2.2.1 u.2.2.2.2.2.2.1 u.2.2.2.2.2.2.2.1 u.2.2.2.2.2.2.2.2.1 u.2.2.2.2.2.2.2.2.2.1 u.2.2.2.2.2.2.2.2.2.2.1 u.2.2.2.2.2.2.2.2.2.2.2.1 u.2.2.2.2.2.2.2.2.2.2.2.2.1 u.2.2.2.2.2.2.2.2.2.2.2.2.2.1 u.2.2.2.2.2.2.2.2.2.2.2.2.2.2.1 u.2.2.2.2.2.2.2.2.2.2.2.2.2.2.2]) zcX8 0 rfl 0 rfl 0 (Nat.le_of_ble_eq_true rfl) zfX8_38 zpX8_0 (zn_i _) (zf_i _) (Nat.le_of_ble_eq_true rfl) rfl dX8_clearBuffer_2 ?_
  refine z_aload_n 0 rfl rfl dX8_clearBuffer_5 ?_
  refine z_get zcX8 0 rfl 0 rfl 6 (Nat.le_of_ble_eq_true rfl) zfX8_137 (v := .int u.2.2.2.2.2.2.1) rfl dX8_clearBuffer_6 ?_
  refine z_istore_n [(1, .int u.2.2.2.2.2.2.1), (0, .ref (a 0))] rfl (Nat.le_of_ble_eq_true rfl) rfl dX8_clearBuffer_9 ?_
  refine z_aload_n 1 rfl rfl dX8_clearBuffer_10 ?_
  refine z_iconst (v := 0) (by decide) dX8_clearBuffer_11 ?_
  refine z_put (t := .int) ([dX8 g a 0 u.2.1 u.2.2.1 u.2.2.2.1 u.2.2.2.2.1 u.2.2.2.2.2.1 0 u.2.2.2.2.2.2.2.1 u.2.2.2.2.2.2.2.2.1 u.2.2.2.2.2.2.2.2.2.1 u.2.2.2.2.2.2.2.2.2.2.1 u.2.2.2.2.2.2.2.2.2.2.2.1 u.2.2.2.2.2.2.2.2.2.2.2.2.1 u.2.2.2.2.2.2.2.2.2.2.2.2.2.1 u.2.2.2.2.2.2.2.2.2.2.2.2.2.2.1 u.2.2.2.2.2.2.2.2.2.2.2.2.2.2.2]) zcX8 0 rfl 0 rfl 6 (Nat.le_of_ble_eq_true rfl) zfX8_137 zpX8_6 (zn_i _) (zf_i _) (Nat.le_of_ble_eq_true rfl) rfl dX8_clearBuffer_12 ?_
  refine z_iload_n 0 rfl rfl dX8_clearBuffer_15 ?_
  subst h
  try dsimp only at hQ
  exact z_iret dX8_clearBuffer_16 hQ
set_option maxHeartbeats 400000 in
set_option maxRecDepth 100000 in
theorem c_X8_sign (l : Launch) (g : zG) (a : Nat → Nat) (u : tX8) (r : Int32) (h : f_X8_sign u = some r) : Ctr l g false yX8_sign cX8_sign 1 (some .int) 0 0 0 0 [.ref (a 0)] ([cX8 g a u]) ([cX8 g a u]) (some (.int r)) := by
  refine ctr_of (by decide) (Nat.le_of_ble_eq_true rfl) (fun X hl _ _ _ hQ => ?_)
  unfold f_X8_sign at h
  refine z_lv (lv' := [(0, .ref (a 0))]) [0] rfl ?_
  refine z_aload_n 0 rfl rfl dX8_sign_0 ?_
  refine z_get zcX8 0 rfl 0 rfl 7 (Nat.le_of_ble_eq_true rfl) zfX8_140 (v := .int u.2.2.2.2.2.2.2.1) rfl dX8_sign_1 ?_
  refine z_aload_n 0 rfl rfl dX8_sign_4 ?_
  refine z_get zcX8 0 rfl 0 rfl 6 (Nat.le_of_ble_eq_true rfl) zfX8_137 (v := .int u.2.2.2.2.2.2.1) rfl dX8_sign_5 ?_
  refine z_icmp_ge (tgt := 23) rfl dX8_sign_8 (fun c8 => ?_) (fun c8 => ?_)
  · replace h := (if_pos c8).symm.trans h
    refine z_iconst (v := 0) (by decide) dX8_sign_23 ?_
    cases h
    exact z_iret dX8_sign_24 hQ
  · replace h := (if_neg c8).symm.trans h
    refine z_aload_n 0 rfl rfl dX8_sign_11 ?_
    refine z_get zcX8 0 rfl 0 rfl 5 (Nat.le_of_ble_eq_true rfl) zfX8_19 (v := .ref (a 4)) rfl dX8_sign_12 ?_
    refine z_aload_n 0 rfl rfl dX8_sign_15 ?_
    refine z_get zcX8 0 rfl 0 rfl 7 (Nat.le_of_ble_eq_true rfl) zfX8_140 (v := .int u.2.2.2.2.2.2.2.1) rfl dX8_sign_16 ?_
    obtain ⟨r1, er1, h⟩ := zb h
    refine z_iald 0 rfl 4 rfl er1 dX8_sign_19 ?_
    refine z_goto (tgt := 24) rfl dX8_sign_20 ?_
    cases h
    exact z_iret dX8_sign_24 hQ
set_option maxHeartbeats 400000 in
set_option maxRecDepth 100000 in
theorem c_X8_isTold (l : Launch) (g : zG) (a : Nat → Nat) (u : tX8) (p0 : Int32) (r : Bool) (h : f_X8_isTold u p0 = some r) : Ctr l g false yX8_isTold cX8_isTold 4 (some .boolean) 0 0 0 0 [.ref (a 0), .int p0] ([cX8 g a u]) ([cX8 g a u]) (some (.int (b2i r))) := by
  refine ctr_of (by decide) (Nat.le_of_ble_eq_true rfl) (fun X hl _ _ _ hQ => ?_)
  unfold f_X8_isTold at h
  refine z_lv (lv' := [(0, .ref (a 0)), (1, .int p0)]) [0, 1] rfl ?_
  refine z_iconst (v := 0) (by decide) dX8_isTold_0 ?_
  refine z_istore_n [(2, .int (b2i false)), (0, .ref (a 0)), (1, .int p0)] rfl (Nat.le_of_ble_eq_true rfl) rfl dX8_isTold_1 ?_
  refine z_iconst (v := 0) (by decide) dX8_isTold_2 ?_
  refine z_istore_n [(3, .int 0), (2, .int (b2i false)), (0, .ref (a 0)), (1, .int p0)] rfl (Nat.le_of_ble_eq_true rfl) rfl dX8_isTold_3 ?_
  obtain ⟨z1, ez1, h⟩ := zb h
  refine z_lv (lv' := [(0, .ref (a 0)), (1, .int p0), (2, .int (b2i false)), (3, .int 0)]) [2, 3, 1, 0] rfl ?_
  suffices hk4 : (fun (s4 : Bool × Int32) => Z false RX8 cX8_isTold 4 0 0 g X 0 0 ([cX8 g a u]) [(0, .ref (a 0)), (1, .int p0), (2, .int (b2i s4.1)), (3, .int s4.2)] 4 []) (false, 0) by try dsimp only at hk4; exact hk4
  refine lp_ind (σ := Bool × Int32) (ε := Bool) (b_X8_isTold_4 u p0) (fun s4 => Z false RX8 cX8_isTold 4 0 0 g X 0 0 ([cX8 g a u]) [(0, .ref (a 0)), (1, .int p0), (2, .int (b2i s4.1)), (3, .int s4.2)] 4 []) (fun z1 => Z false RX8 cX8_isTold 4 0 0 g X 0 0 ([cX8 g a u]) [(2, .int (b2i z1))] 38 []) (fun s4 q4 h4 i4 x4 => ?_) 5000 (false, 0) z1 ez1 ?_
  · unfold b_X8_isTold_4 at h4
    refine z_iload_n 3 rfl rfl dX8_isTold_4 ?_
    refine z_aload_n 0 rfl rfl dX8_isTold_5 ?_
    refine z_get zcX8 0 rfl 0 rfl 10 (Nat.le_of_ble_eq_true rfl) zfX8_83 (v := .int u.2.2.2.2.2.2.2.2.2.2.1) rfl dX8_isTold_6 ?_
    refine z_icmp_ge (tgt := 38) rfl dX8_isTold_9 (fun c9 => ?_) (fun c9 => ?_)
    · replace h4 := (if_pos c9).symm.trans h4
      cases h4
      have k4 := x4 s4.1 rfl
      try dsimp only at k4
      exact z_lv [2] rfl k4
    · replace h4 := (if_neg c9).symm.trans h4
      refine z_iload_n 2 rfl rfl dX8_isTold_12 ?_
      refine z_ifB_ne (tgt := 26) rfl dX8_isTold_13 (fun c13 => ?_) (fun c13 => ?_)
      · replace h4 := (if_pos c13).symm.trans h4
        refine z_iconst (v := 1) (by decide) dX8_isTold_26 ?_
        refine z_goto (tgt := 31) rfl dX8_isTold_27 ?_
        refine z_istore_n [(2, .int (b2i true)), (0, .ref (a 0)), (1, .int p0), (3, .int s4.2)] rfl (Nat.le_of_ble_eq_true rfl) rfl dX8_isTold_31 ?_
        refine z_iinc 3 [(3, .int (s4.2 + 1)), (2, .int (b2i true)), (0, .ref (a 0)), (1, .int p0)] rfl (v := (s4.2 + 1)) zinc (Nat.le_of_ble_eq_true rfl) rfl dX8_isTold_32 ?_
        refine z_goto (tgt := 4) rfl dX8_isTold_35 ?_
        cases h4
        have k4 := i4 (true, (s4.2 + 1)) rfl
        try dsimp only at k4
        exact z_lv [2, 3, 1, 0] rfl k4
      · replace h4 := (if_neg c13).symm.trans h4
        refine z_aload_n 0 rfl rfl dX8_isTold_16 ?_
        refine z_get zcX8 0 rfl 0 rfl 9 (Nat.le_of_ble_eq_true rfl) zfX8_22 (v := .ref (a 5)) rfl dX8_isTold_17 ?_
        refine z_iload_n 3 rfl rfl dX8_isTold_20 ?_
        obtain ⟨r2, er2, h4⟩ := zb h4
        refine z_iald 0 rfl 5 rfl er2 dX8_isTold_21 ?_
        refine z_iload_n 1 rfl rfl dX8_isTold_22 ?_
        refine z_icmp_ne (tgt := 30) rfl dX8_isTold_23 (fun c23 => ?_) (fun c23 => ?_)
        · replace h4 := (if_neg c23).symm.trans h4
          refine z_iconst (v := 0) (by decide) dX8_isTold_30 ?_
          refine z_istore_n [(2, .int (b2i false)), (0, .ref (a 0)), (1, .int p0), (3, .int s4.2)] rfl (Nat.le_of_ble_eq_true rfl) rfl dX8_isTold_31 ?_
          refine z_iinc 3 [(3, .int (s4.2 + 1)), (2, .int (b2i false)), (0, .ref (a 0)), (1, .int p0)] rfl (v := (s4.2 + 1)) zinc (Nat.le_of_ble_eq_true rfl) rfl dX8_isTold_32 ?_
          refine z_goto (tgt := 4) rfl dX8_isTold_35 ?_
          cases h4
          have k4 := i4 (false, (s4.2 + 1)) rfl
          try dsimp only at k4
          exact z_lv [2, 3, 1, 0] rfl k4
        · replace h4 := (if_pos c23).symm.trans h4
          refine z_iconst (v := 1) (by decide) dX8_isTold_26 ?_
          refine z_goto (tgt := 31) rfl dX8_isTold_27 ?_
          refine z_istore_n [(2, .int (b2i true)), (0, .ref (a 0)), (1, .int p0), (3, .int s4.2)] rfl (Nat.le_of_ble_eq_true rfl) rfl dX8_isTold_31 ?_
          refine z_iinc 3 [(3, .int (s4.2 + 1)), (2, .int (b2i true)), (0, .ref (a 0)), (1, .int p0)] rfl (v := (s4.2 + 1)) zinc (Nat.le_of_ble_eq_true rfl) rfl dX8_isTold_32 ?_
          refine z_goto (tgt := 4) rfl dX8_isTold_35 ?_
          cases h4
          have k4 := i4 (true, (s4.2 + 1)) rfl
          try dsimp only at k4
          exact z_lv [2, 3, 1, 0] rfl k4
  · skip
    refine z_iload_n 0 rfl rfl dX8_isTold_38 ?_
    cases h
    exact z_zret _ (by rfl) dX8_isTold_39 hQ
set_option maxHeartbeats 400000 in
set_option maxRecDepth 100000 in
theorem c_X8_readsNumber (l : Launch) (g : zG) (a : Nat → Nat) (u : tX8) (r : tX8) (h : f_X8_readsNumber u = some r) : Ctr l g true yX8_readsNumber cX8_readsNumber 3 none 1 23 0 0 [.ref (a 0)] ([cX8 g a u]) ([cX8 g a r]) none := by
  refine ctr_of (by decide) (Nat.le_of_ble_eq_true rfl) (fun X hl _ _ _ hQ => ?_)
  unfold f_X8_readsNumber at h
  refine z_lv (lv' := [(0, .ref (a 0))]) [0] rfl ?_
  refine z_aload_n 0 rfl rfl dX8_readsNumber_0 ?_
  refine z_aload_n 0 rfl rfl dX8_readsNumber_1 ?_
  obtain ⟨r1, er1, h⟩ := zb h
  refine z_callVR (rest := [.ref (a 0)]) hl (c_X8_sign l g a u _ er1) zyX8_sign zvX8_sign rfl zlX8_143 zcX8.1 ⟨_, _, rfl⟩ [(0, none)] rfl rfl rfl (by decide) (Nat.le_of_ble_eq_true rfl) ⟨Nat.zero_le _, Nat.zero_le _⟩ dX8_readsNumber_2 (st2 := [.int r1, .ref (a 0)]) rfl ?_
  refine z_bipush (v := 48) (by decide) dX8_readsNumber_5 ?_
  refine z_bipush (v := 57) (by decide) dX8_readsNumber_7 ?_
  refine z_callSR (rest := [.ref (a 0)]) hl (c_X8_in l g r1 48 57 _ rfl) zyX8_in zsX8_in zlX8_42 [] rfl rfl rfl (by decide) (Nat.le_of_ble_eq_true rfl) ⟨Nat.zero_le _, Nat.zero_le _⟩ dX8_readsNumber_9 (st2 := [.int (b2i (f_X8_in r1 48 57)), .ref (a 0)]) rfl ?_
  refine z_put (t := .boolean) ([dX8 g a u.1 u.2.1 u.2.2.1 u.2.2.2.1 u.2.2.2.2.1 u.2.2.2.2.2.1 u.2.2.2.2.2.2.1 u.2.2.2.2.2.2.2.1 (f_X8_in r1 48 57) u.2.2.2.2.2.2.2.2.2.1 u.2.2.2.2.2.2.2.2.2.2.1 u.2.2.2.2.2.2.2.2.2.2.2.1 u.2.2.2.2.2.2.2.2.2.2.2.2.1 u.2.2.2.2.2.2.2.2.2.2.2.2.2.1 u.2.2.2.2.2.2.2.2.2.2.2.2.2.2.1 u.2.2.2.2.2.2.2.2.2.2.2.2.2.2.2]) zcX8 0 rfl 0 rfl 8 (Nat.le_of_ble_eq_true rfl) zfX8_146 zpX8_8 (b2i_nar (f_X8_in r1 48 57)) (b2i_fits (f_X8_in r1 48 57)) (Nat.le_of_ble_eq_true rfl) rfl dX8_readsNumber_12 ?_
  refine z_aload_n 0 rfl rfl dX8_readsNumber_15 ?_
  obtain ⟨r2, er2, h⟩ := zb h
  refine z_callVR (rest := []) hl (c_X8_sign l g a (u.1, u.2.1, u.2.2.1, u.2.2.2.1, u.2.2.2.2.1, u.2.2.2.2.2.1, u.2.2.2.2.2.2.1, u.2.2.2.2.2.2.2.1, (f_X8_in r1 48 57), u.2.2.2.2.2.2.2.2.2.1, u.2.2.2.2.2.2.2.2.2.2.1, u.2.2.2.2.2.2.2.2.2.2.2.1, u.2.2.2.2.2.2.2.2.2.2.2.2.1, u.2.2.2.2.2.2.2.2.2.2.2.2.2.1, u.2.2.2.2.2.2.2.2.2.2.2.2.2.2.1, u.2.2.2.2.2.2.2.2.2.2.2.2.2.2.2) _ er2) zyX8_sign zvX8_sign rfl zlX8_143 zcX8.1 ⟨_, _, rfl⟩ [(0, none)] rfl rfl rfl (by decide) (Nat.le_of_ble_eq_true rfl) ⟨Nat.zero_le _, Nat.zero_le _⟩ dX8_readsNumber_16 (st2 := [.int r2]) rfl ?_
  refine z_bipush (v := 48) (by decide) dX8_readsNumber_19 ?_
  refine z_isub dX8_readsNumber_21 ?_
  refine z_istore_n [(1, .int (r2 - 48)), (0, .ref (a 0))] rfl (Nat.le_of_ble_eq_true rfl) rfl dX8_readsNumber_22 ?_
  refine z_aload_n 1 rfl rfl dX8_readsNumber_23 ?_
  refine z_dup rfl dX8_readsNumber_24 ?_
  refine z_get zcX8 0 rfl 0 rfl 7 (Nat.le_of_ble_eq_true rfl) zfX8_140 (v := .int u.2.2.2.2.2.2.2.1) rfl dX8_readsNumber_25 ?_
  refine z_aload_n 1 rfl rfl dX8_readsNumber_28 ?_
  refine z_get zcX8 0 rfl 0 rfl 8 (Nat.le_of_ble_eq_true rfl) zfX8_146 (v := .int (b2i (f_X8_in r1 48 57))) rfl dX8_readsNumber_29 ?_
  obtain ⟨j3, ej3, h⟩ := zb h
  have Kj3 : Z true RX8 cX8_readsNumber 3 1 23 g X 0 0 ([dX8 g a u.1 u.2.1 u.2.2.1 u.2.2.2.1 u.2.2.2.2.1 u.2.2.2.2.2.1 u.2.2.2.2.2.2.1 u.2.2.2.2.2.2.2.1 (f_X8_in r1 48 57) u.2.2.2.2.2.2.2.2.2.1 u.2.2.2.2.2.2.2.2.2.2.1 u.2.2.2.2.2.2.2.2.2.2.2.1 u.2.2.2.2.2.2.2.2.2.2.2.2.1 u.2.2.2.2.2.2.2.2.2.2.2.2.2.1 u.2.2.2.2.2.2.2.2.2.2.2.2.2.2.1 u.2.2.2.2.2.2.2.2.2.2.2.2.2.2.2]) [(0, .ref (a 0)), (1, .int (r2 - 48))] 40 [.int j3, .int u.2.2.2.2.2.2.2.1, .ref (a 0)] := by
    refine z_iadd dX8_readsNumber_40 ?_
    refine z_put (t := .int) ([dX8 g a u.1 u.2.1 u.2.2.1 u.2.2.2.1 u.2.2.2.2.1 u.2.2.2.2.2.1 u.2.2.2.2.2.2.1 (u.2.2.2.2.2.2.2.1 + j3) (f_X8_in r1 48 57) u.2.2.2.2.2.2.2.2.2.1 u.2.2.2.2.2.2.2.2.2.2.1 u.2.2.2.2.2.2.2.2.2.2.2.1 u.2.2.2.2.2.2.2.2.2.2.2.2.1 u.2.2.2.2.2.2.2.2.2.2.2.2.2.1 u.2.2.2.2.2.2.2.2.2.2.2.2.2.2.1 u.2.2.2.2.2.2.2.2.2.2.2.2.2.2.2]) zcX8 0 rfl 0 rfl 7 (Nat.le_of_ble_eq_true rfl) zfX8_140 zpX8_7 (zn_i _) (zf_i _) (Nat.le_of_ble_eq_true rfl) rfl dX8_readsNumber_41 ?_
    refine z_iconst (v := 1) (by decide) dX8_readsNumber_44 ?_
    refine z_istore_n [(2, .int 1), (0, .ref (a 0)), (1, .int (r2 - 48))] rfl (Nat.le_of_ble_eq_true rfl) rfl dX8_readsNumber_45 ?_
    obtain ⟨z4, ez4, h⟩ := zb h
    refine z_lv (lv' := [(0, .ref (a 0)), (1, .int (r2 - 48)), (2, .int 1)]) [1, 2, 0] rfl ?_
    suffices hk46 : (fun (s46 : Int32 × Int32 × Int32) => Z true RX8 cX8_readsNumber 3 1 23 g X 0 0 ([dX8 g a u.1 u.2.1 u.2.2.1 u.2.2.2.1 u.2.2.2.2.1 u.2.2.2.2.2.1 u.2.2.2.2.2.2.1 s46.2.2 (f_X8_in r1 48 57) u.2.2.2.2.2.2.2.2.2.1 u.2.2.2.2.2.2.2.2.2.2.1 u.2.2.2.2.2.2.2.2.2.2.2.1 u.2.2.2.2.2.2.2.2.2.2.2.2.1 u.2.2.2.2.2.2.2.2.2.2.2.2.2.1 u.2.2.2.2.2.2.2.2.2.2.2.2.2.2.1 u.2.2.2.2.2.2.2.2.2.2.2.2.2.2.2]) [(0, .ref (a 0)), (1, .int s46.1), (2, .int s46.2.1)] 46 []) ((r2 - 48), 1, (u.2.2.2.2.2.2.2.1 + j3)) by try dsimp only at hk46; exact hk46
    refine lp_ind (σ := Int32 × Int32 × Int32) (ε := Int32 × Int32 × Int32) (b_X8_readsNumber_46 u r1) (fun s46 => Z true RX8 cX8_readsNumber 3 1 23 g X 0 0 ([dX8 g a u.1 u.2.1 u.2.2.1 u.2.2.2.1 u.2.2.2.2.1 u.2.2.2.2.2.1 u.2.2.2.2.2.2.1 s46.2.2 (f_X8_in r1 48 57) u.2.2.2.2.2.2.2.2.2.1 u.2.2.2.2.2.2.2.2.2.2.1 u.2.2.2.2.2.2.2.2.2.2.2.1 u.2.2.2.2.2.2.2.2.2.2.2.2.1 u.2.2.2.2.2.2.2.2.2.2.2.2.2.1 u.2.2.2.2.2.2.2.2.2.2.2.2.2.2.1 u.2.2.2.2.2.2.2.2.2.2.2.2.2.2.2]) [(0, .ref (a 0)), (1, .int s46.1), (2, .int s46.2.1)] 46 []) (fun z4 => Z true RX8 cX8_readsNumber 3 1 23 g X 0 0 ([dX8 g a u.1 u.2.1 u.2.2.1 u.2.2.2.1 u.2.2.2.2.1 u.2.2.2.2.2.1 u.2.2.2.2.2.2.1 z4.2.2 (f_X8_in r1 48 57) u.2.2.2.2.2.2.2.2.2.1 u.2.2.2.2.2.2.2.2.2.2.1 u.2.2.2.2.2.2.2.2.2.2.2.1 u.2.2.2.2.2.2.2.2.2.2.2.2.1 u.2.2.2.2.2.2.2.2.2.2.2.2.2.1 u.2.2.2.2.2.2.2.2.2.2.2.2.2.2.1 u.2.2.2.2.2.2.2.2.2.2.2.2.2.2.2]) [(0, .ref (a 0)), (1, .int z4.1), (2, .int z4.2.1)] 105 []) (fun s46 q46 h46 i46 x46 => ?_) 5000 ((r2 - 48), 1, (u.2.2.2.2.2.2.2.1 + j3)) z4 ez4 ?_
    · unfold b_X8_readsNumber_46 at h46
      refine z_aload_n 0 rfl rfl dX8_readsNumber_46 ?_
      refine z_get zcX8 0 rfl 0 rfl 8 (Nat.le_of_ble_eq_true rfl) zfX8_146 (v := .int (b2i (f_X8_in r1 48 57))) rfl dX8_readsNumber_47 ?_
      refine z_ifB_eq (tgt := 105) rfl dX8_readsNumber_50 (fun c50 => ?_) (fun c50 => ?_)
      · replace h46 := (if_neg c50).symm.trans h46
        cases h46
        have k46 := x46 (s46.1, s46.2.1, s46.2.2) rfl
        try dsimp only at k46
        exact z_lv [0, 1, 2] rfl k46
      · replace h46 := (if_pos c50).symm.trans h46
        refine z_iload_n 1 rfl rfl dX8_readsNumber_53 ?_
        refine z_if_le (tgt := 105) rfl dX8_readsNumber_54 (fun c54 => ?_) (fun c54 => ?_)
        · replace h46 := (if_pos c54).symm.trans h46
          cases h46
          have k46 := x46 (s46.1, s46.2.1, s46.2.2) rfl
          try dsimp only at k46
          exact z_lv [0, 1, 2] rfl k46
        · replace h46 := (if_neg c54).symm.trans h46
          refine z_iload_n 2 rfl rfl dX8_readsNumber_57 ?_
          refine z_iconst (v := 3) (by decide) dX8_readsNumber_58 ?_
          refine z_icmp_ge (tgt := 105) rfl dX8_readsNumber_59 (fun c59 => ?_) (fun c59 => ?_)
          · replace h46 := (if_pos c59).symm.trans h46
            cases h46
            have k46 := x46 (s46.1, s46.2.1, s46.2.2) rfl
            try dsimp only at k46
            exact z_lv [0, 1, 2] rfl k46
          · replace h46 := (if_neg c59).symm.trans h46
            refine z_aload_n 0 rfl rfl dX8_readsNumber_62 ?_
            obtain ⟨r5, er5, h46⟩ := zb h46
            refine z_callVR (rest := []) hl (c_X8_sign l g a (u.1, u.2.1, u.2.2.1, u.2.2.2.1, u.2.2.2.2.1, u.2.2.2.2.2.1, u.2.2.2.2.2.2.1, s46.2.2, (f_X8_in r1 48 57), u.2.2.2.2.2.2.2.2.2.1, u.2.2.2.2.2.2.2.2.2.2.1, u.2.2.2.2.2.2.2.2.2.2.2.1, u.2.2.2.2.2.2.2.2.2.2.2.2.1, u.2.2.2.2.2.2.2.2.2.2.2.2.2.1, u.2.2.2.2.2.2.2.2.2.2.2.2.2.2.1, u.2.2.2.2.2.2.2.2.2.2.2.2.2.2.2) _ er5) zyX8_sign zvX8_sign rfl zlX8_143 zcX8.1 ⟨_, _, rfl⟩ [(0, none)] rfl rfl rfl (by decide) (Nat.le_of_ble_eq_true rfl) ⟨Nat.zero_le _, Nat.zero_le _⟩ dX8_readsNumber_63 (st2 := [.int r5]) rfl ?_
            refine z_bipush (v := 48) (by decide) dX8_readsNumber_66 ?_
            refine z_bipush (v := 57) (by decide) dX8_readsNumber_68 ?_
            refine z_callSR (rest := []) hl (c_X8_in l g r5 48 57 _ rfl) zyX8_in zsX8_in zlX8_42 [] rfl rfl rfl (by decide) (Nat.le_of_ble_eq_true rfl) ⟨Nat.zero_le _, Nat.zero_le _⟩ dX8_readsNumber_70 (st2 := [.int (b2i (f_X8_in r5 48 57))]) rfl ?_
            refine z_ifB_eq (tgt := 105) rfl dX8_readsNumber_73 (fun c73 => ?_) (fun c73 => ?_)
            · replace h46 := (if_neg c73).symm.trans h46
              cases h46
              have k46 := x46 (s46.1, s46.2.1, s46.2.2) rfl
              try dsimp only at k46
              exact z_lv [0, 1, 2] rfl k46
            · replace h46 := (if_pos c73).symm.trans h46
              refine z_bipush (v := 10) (by decide) dX8_readsNumber_76 ?_
              refine z_iload_n 1 rfl rfl dX8_readsNumber_78 ?_
              refine z_imul dX8_readsNumber_79 ?_
              refine z_aload_n 0 rfl rfl dX8_readsNumber_80 ?_
              obtain ⟨r6, er6, h46⟩ := zb h46
              refine z_callVR (rest := [.int (10 * s46.1)]) hl (c_X8_sign l g a (u.1, u.2.1, u.2.2.1, u.2.2.2.1, u.2.2.2.2.1, u.2.2.2.2.2.1, u.2.2.2.2.2.2.1, s46.2.2, (f_X8_in r1 48 57), u.2.2.2.2.2.2.2.2.2.1, u.2.2.2.2.2.2.2.2.2.2.1, u.2.2.2.2.2.2.2.2.2.2.2.1, u.2.2.2.2.2.2.2.2.2.2.2.2.1, u.2.2.2.2.2.2.2.2.2.2.2.2.2.1, u.2.2.2.2.2.2.2.2.2.2.2.2.2.2.1, u.2.2.2.2.2.2.2.2.2.2.2.2.2.2.2) _ er6) zyX8_sign zvX8_sign rfl zlX8_143 zcX8.1 ⟨_, _, rfl⟩ [(0, none)] rfl rfl rfl (by decide) (Nat.le_of_ble_eq_true rfl) ⟨Nat.zero_le _, Nat.zero_le _⟩ dX8_readsNumber_81 (st2 := [.int r6, .int (10 * s46.1)]) rfl ?_
              refine z_iadd dX8_readsNumber_84 ?_
              refine z_bipush (v := 48) (by decide) dX8_readsNumber_85 ?_
              refine z_isub dX8_readsNumber_87 ?_
              refine z_istore_n [(1, .int (((10 * s46.1) + r6) - 48)), (0, .ref (a 0)), (2, .int s46.2.1)] rfl (Nat.le_of_ble_eq_true rfl) rfl dX8_readsNumber_88 ?_
              refine z_aload_n 1 rfl rfl dX8_readsNumber_89 ?_
              refine z_dup rfl dX8_readsNumber_90 ?_
              refine z_get zcX8 0 rfl 0 rfl 7 (Nat.le_of_ble_eq_true rfl) zfX8_140 (v := .int s46.2.2) rfl dX8_readsNumber_91 ?_
              refine z_iconst (v := 1) (by decide) dX8_readsNumber_94 ?_
              refine z_iadd dX8_readsNumber_95 ?_
              refine z_put (t := .int) ([dX8 g a u.1 u.2.1 u.2.2.1 u.2.2.2.1 u.2.2.2.2.1 u.2.2.2.2.2.1 u.2.2.2.2.2.2.1 (s46.2.2 + 1) (f_X8_in r1 48 57) u.2.2.2.2.2.2.2.2.2.1 u.2.2.2.2.2.2.2.2.2.2.1 u.2.2.2.2.2.2.2.2.2.2.2.1 u.2.2.2.2.2.2.2.2.2.2.2.2.1 u.2.2.2.2.2.2.2.2.2.2.2.2.2.1 u.2.2.2.2.2.2.2.2.2.2.2.2.2.2.1 u.2.2.2.2.2.2.2.2.2.2.2.2.2.2.2]) zcX8 0 rfl 0 rfl 7 (Nat.le_of_ble_eq_true rfl) zfX8_140 zpX8_7 (zn_i _) (zf_i _) (Nat.le_of_ble_eq_true rfl) rfl dX8_readsNumber_96 ?_
              refine z_iinc 2 [(2, .int (s46.2.1 + 1)), (1, .int (((10 * s46.1) + r6) - 48)), (0, .ref (a 0))] rfl (v := (s46.2.1 + 1)) zinc (Nat.le_of_ble_eq_true rfl) rfl dX8_readsNumber_99 ?_
              refine z_goto (tgt := 46) rfl dX8_readsNumber_102 ?_
              cases h46
              have k46 := i46 ((((10 * s46.1) + r6) - 48), (s46.2.1 + 1), (s46.2.2 + 1)) rfl
              try dsimp only at k46
              exact z_lv [2, 1, 0] rfl k46
    · skip
      refine z_aload_n 0 rfl rfl dX8_readsNumber_105 ?_
      refine z_get zcX8 0 rfl 0 rfl 8 (Nat.le_of_ble_eq_true rfl) zfX8_146 (v := .int (b2i (f_X8_in r1 48 57))) rfl dX8_readsNumber_106 ?_
      refine z_ifB_eq (tgt := 151) rfl dX8_readsNumber_109 (fun c109 => ?_) (fun c109 => ?_)
      · replace h := (if_neg c109).symm.trans h
        refine z_aload_n 0 rfl rfl dX8_readsNumber_151 ?_
        refine z_get zcX8 0 rfl 0 rfl 8 (Nat.le_of_ble_eq_true rfl) zfX8_146 (v := .int (b2i (f_X8_in r1 48 57))) rfl dX8_readsNumber_152 ?_
        refine z_ifB_eq (tgt := 178) rfl dX8_readsNumber_155 (fun c155 => ?_) (fun c155 => ?_)
        · replace h := (if_neg c155).symm.trans h
          cases h
          exact z_vret dX8_readsNumber_178 hQ
        · replace h := (if_pos c155).symm.trans h
          refine z_aload_n 0 rfl rfl dX8_readsNumber_158 ?_
          refine z_get zcX8 0 rfl 0 rfl 9 (Nat.le_of_ble_eq_true rfl) zfX8_22 (v := .ref (a 5)) rfl dX8_readsNumber_159 ?_
          refine z_aload_n 0 rfl rfl dX8_readsNumber_162 ?_
          refine z_get zcX8 0 rfl 0 rfl 10 (Nat.le_of_ble_eq_true rfl) zfX8_83 (v := .int u.2.2.2.2.2.2.2.2.2.2.1) rfl dX8_readsNumber_163 ?_
          refine z_iload_n 1 rfl rfl dX8_readsNumber_166 ?_
          obtain ⟨r7, er7, h⟩ := zb h
          refine z_iast ([dX8 g a u.1 u.2.1 u.2.2.1 u.2.2.2.1 u.2.2.2.2.1 u.2.2.2.2.2.1 u.2.2.2.2.2.2.1 z4.2.2 (f_X8_in r1 48 57) r7 u.2.2.2.2.2.2.2.2.2.2.1 u.2.2.2.2.2.2.2.2.2.2.2.1 u.2.2.2.2.2.2.2.2.2.2.2.2.1 u.2.2.2.2.2.2.2.2.2.2.2.2.2.1 u.2.2.2.2.2.2.2.2.2.2.2.2.2.2.1 u.2.2.2.2.2.2.2.2.2.2.2.2.2.2.2]) 0 rfl 5 rfl er7 rfl dX8_readsNumber_167 ?_
          refine z_aload_n 0 rfl rfl dX8_readsNumber_168 ?_
          refine z_dup rfl dX8_readsNumber_169 ?_
          refine z_get zcX8 0 rfl 0 rfl 10 (Nat.le_of_ble_eq_true rfl) zfX8_83 (v := .int u.2.2.2.2.2.2.2.2.2.2.1) rfl dX8_readsNumber_170 ?_
          refine z_iconst (v := 1) (by decide) dX8_readsNumber_173 ?_
          refine z_iadd dX8_readsNumber_174 ?_
          refine z_put (t := .int) ([dX8 g a u.1 u.2.1 u.2.2.1 u.2.2.2.1 u.2.2.2.2.1 u.2.2.2.2.2.1 u.2.2.2.2.2.2.1 z4.2.2 (f_X8_in r1 48 57) r7 (u.2.2.2.2.2.2.2.2.2.2.1 + 1) u.2.2.2.2.2.2.2.2.2.2.2.1 u.2.2.2.2.2.2.2.2.2.2.2.2.1 u.2.2.2.2.2.2.2.2.2.2.2.2.2.1 u.2.2.2.2.2.2.2.2.2.2.2.2.2.2.1 u.2.2.2.2.2.2.2.2.2.2.2.2.2.2.2]) zcX8 0 rfl 0 rfl 10 (Nat.le_of_ble_eq_true rfl) zfX8_83 zpX8_10 (zn_i _) (zf_i _) (Nat.le_of_ble_eq_true rfl) rfl dX8_readsNumber_175 ?_
          cases h
          exact z_vret dX8_readsNumber_178 hQ
      · replace h := (if_pos c109).symm.trans h
        refine z_aload_n 0 rfl rfl dX8_readsNumber_112 ?_
        refine z_iload_n 1 rfl rfl dX8_readsNumber_113 ?_
        obtain ⟨r8, er8, h⟩ := zb h
        refine z_callVR (rest := []) hl (c_X8_isTold l g a (u.1, u.2.1, u.2.2.1, u.2.2.2.1, u.2.2.2.2.1, u.2.2.2.2.2.1, u.2.2.2.2.2.2.1, z4.2.2, (f_X8_in r1 48 57), u.2.2.2.2.2.2.2.2.2.1, u.2.2.2.2.2.2.2.2.2.2.1, u.2.2.2.2.2.2.2.2.2.2.2.1, u.2.2.2.2.2.2.2.2.2.2.2.2.1, u.2.2.2.2.2.2.2.2.2.2.2.2.2.1, u.2.2.2.2.2.2.2.2.2.2.2.2.2.2.1, u.2.2.2.2.2.2.2.2.2.2.2.2.2.2.2) z4.1 _ er8) zyX8_isTold zvX8_isTold rfl zlX8_150 zcX8.1 ⟨_, _, rfl⟩ [(0, none)] rfl rfl rfl (by decide) (Nat.le_of_ble_eq_true rfl) ⟨Nat.zero_le _, Nat.zero_le _⟩ dX8_readsNumber_114 (st2 := [.int (b2i r8)]) rfl ?_
        refine z_ifB_eq (tgt := 151) rfl dX8_readsNumber_117 (fun c117 => ?_) (fun c117 => ?_)
        · replace h := (if_neg c117).symm.trans h
          refine z_aload_n 0 rfl rfl dX8_readsNumber_151 ?_
          refine z_get zcX8 0 rfl 0 rfl 8 (Nat.le_of_ble_eq_true rfl) zfX8_146 (v := .int (b2i (f_X8_in r1 48 57))) rfl dX8_readsNumber_152 ?_
          refine z_ifB_eq (tgt := 178) rfl dX8_readsNumber_155 (fun c155 => ?_) (fun c155 => ?_)
          · replace h := (if_neg c155).symm.trans h
            cases h
            exact z_vret dX8_readsNumber_178 hQ
          · replace h := (if_pos c155).symm.trans h
            refine z_aload_n 0 rfl rfl dX8_readsNumber_158 ?_
            refine z_get zcX8 0 rfl 0 rfl 9 (Nat.le_of_ble_eq_true rfl) zfX8_22 (v := .ref (a 5)) rfl dX8_readsNumber_159 ?_
            refine z_aload_n 0 rfl rfl dX8_readsNumber_162 ?_
            refine z_get zcX8 0 rfl 0 rfl 10 (Nat.le_of_ble_eq_true rfl) zfX8_83 (v := .int u.2.2.2.2.2.2.2.2.2.2.1) rfl dX8_readsNumber_163 ?_
            refine z_iload_n 1 rfl rfl dX8_readsNumber_166 ?_
            obtain ⟨r9, er9, h⟩ := zb h
            refine z_iast ([dX8 g a u.1 u.2.1 u.2.2.1 u.2.2.2.1 u.2.2.2.2.1 u.2.2.2.2.2.1 u.2.2.2.2.2.2.1 z4.2.2 (f_X8_in r1 48 57) r9 u.2.2.2.2.2.2.2.2.2.2.1 u.2.2.2.2.2.2.2.2.2.2.2.1 u.2.2.2.2.2.2.2.2.2.2.2.2.1 u.2.2.2.2.2.2.2.2.2.2.2.2.2.1 u.2.2.2.2.2.2.2.2.2.2.2.2.2.2.1 u.2.2.2.2.2.2.2.2.2.2.2.2.2.2.2]) 0 rfl 5 rfl er9 rfl dX8_readsNumber_167 ?_
            refine z_aload_n 0 rfl rfl dX8_readsNumber_168 ?_
            refine z_dup rfl dX8_readsNumber_169 ?_
            refine z_get zcX8 0 rfl 0 rfl 10 (Nat.le_of_ble_eq_true rfl) zfX8_83 (v := .int u.2.2.2.2.2.2.2.2.2.2.1) rfl dX8_readsNumber_170 ?_
            refine z_iconst (v := 1) (by decide) dX8_readsNumber_173 ?_
            refine z_iadd dX8_readsNumber_174 ?_
            refine z_put (t := .int) ([dX8 g a u.1 u.2.1 u.2.2.1 u.2.2.2.1 u.2.2.2.2.1 u.2.2.2.2.2.1 u.2.2.2.2.2.2.1 z4.2.2 (f_X8_in r1 48 57) r9 (u.2.2.2.2.2.2.2.2.2.2.1 + 1) u.2.2.2.2.2.2.2.2.2.2.2.1 u.2.2.2.2.2.2.2.2.2.2.2.2.1 u.2.2.2.2.2.2.2.2.2.2.2.2.2.1 u.2.2.2.2.2.2.2.2.2.2.2.2.2.2.1 u.2.2.2.2.2.2.2.2.2.2.2.2.2.2.2]) zcX8 0 rfl 0 rfl 10 (Nat.le_of_ble_eq_true rfl) zfX8_83 zpX8_10 (zn_i _) (zf_i _) (Nat.le_of_ble_eq_true rfl) rfl dX8_readsNumber_175 ?_
            cases h
            exact z_vret dX8_readsNumber_178 hQ
        · replace h := (if_pos c117).symm.trans h
          refine z_aload_n 0 rfl rfl dX8_readsNumber_120 ?_
          refine z_iconst (v := 0) (by decide) dX8_readsNumber_121 ?_
          refine z_put (t := .boolean) ([dX8 g a u.1 u.2.1 u.2.2.1 u.2.2.2.1 u.2.2.2.2.1 u.2.2.2.2.2.1 u.2.2.2.2.2.2.1 z4.2.2 false u.2.2.2.2.2.2.2.2.2.1 u.2.2.2.2.2.2.2.2.2.2.1 u.2.2.2.2.2.2.2.2.2.2.2.1 u.2.2.2.2.2.2.2.2.2.2.2.2.1 u.2.2.2.2.2.2.2.2.2.2.2.2.2.1 u.2.2.2.2.2.2.2.2.2.2.2.2.2.2.1 u.2.2.2.2.2.2.2.2.2.2.2.2.2.2.2]) zcX8 0 rfl 0 rfl 8 (Nat.le_of_ble_eq_true rfl) zfX8_146 zpX8_8 (b2i_nar false) (b2i_fits false) (Nat.le_of_ble_eq_true rfl) rfl dX8_readsNumber_122 ?_
          refine z_aload_n 0 rfl rfl dX8_readsNumber_125 ?_
          refine z_dup rfl dX8_readsNumber_126 ?_
          refine z_get zcX8 0 rfl 0 rfl 7 (Nat.le_of_ble_eq_true rfl) zfX8_140 (v := .int z4.2.2) rfl dX8_readsNumber_127 ?_
          refine z_iload_n 1 rfl rfl dX8_readsNumber_130 ?_
          refine z_if_eq (tgt := 139) rfl dX8_readsNumber_131 (fun c131 => ?_) (fun c131 => ?_)
          · replace h := (if_pos c131).symm.trans h
            refine z_iconst (v := 1) (by decide) dX8_readsNumber_139 ?_
            refine z_goto (tgt := 144) rfl dX8_readsNumber_140 ?_
            refine z_isub dX8_readsNumber_144 ?_
            refine z_put (t := .int) ([dX8 g a u.1 u.2.1 u.2.2.1 u.2.2.2.1 u.2.2.2.2.1 u.2.2.2.2.2.1 u.2.2.2.2.2.2.1 (z4.2.2 - 1) false u.2.2.2.2.2.2.2.2.2.1 u.2.2.2.2.2.2.2.2.2.2.1 u.2.2.2.2.2.2.2.2.2.2.2.1 u.2.2.2.2.2.2.2.2.2.2.2.2.1 u.2.2.2.2.2.2.2.2.2.2.2.2.2.1 u.2.2.2.2.2.2.2.2.2.2.2.2.2.2.1 u.2.2.2.2.2.2.2.2.2.2.2.2.2.2.2]) zcX8 0 rfl 0 rfl 7 (Nat.le_of_ble_eq_true rfl) zfX8_140 zpX8_7 (zn_i _) (zf_i _) (Nat.le_of_ble_eq_true rfl) rfl dX8_readsNumber_145 ?_
            refine z_goto (tgt := 178) rfl dX8_readsNumber_148 ?_
            cases h
            exact z_vret dX8_readsNumber_178 hQ
          · replace h := (if_neg c131).symm.trans h
            refine z_iload_n 2 rfl rfl dX8_readsNumber_134 ?_
            refine z_iconst (v := 3) (by decide) dX8_readsNumber_135 ?_
            refine z_icmp_ne (tgt := 143) rfl dX8_readsNumber_136 (fun c136 => ?_) (fun c136 => ?_)
            · replace h := (if_neg c136).symm.trans h
              refine z_iconst (v := 0) (by decide) dX8_readsNumber_143 ?_
              refine z_isub dX8_readsNumber_144 ?_
              refine z_put (t := .int) ([dX8 g a u.1 u.2.1 u.2.2.1 u.2.2.2.1 u.2.2.2.2.1 u.2.2.2.2.2.1 u.2.2.2.2.2.2.1 (z4.2.2 - 0) false u.2.2.2.2.2.2.2.2.2.1 u.2.2.2.2.2.2.2.2.2.2.1 u.2.2.2.2.2.2.2.2.2.2.2.1 u.2.2.2.2.2.2.2.2.2.2.2.2.1 u.2.2.2.2.2.2.2.2.2.2.2.2.2.1 u.2.2.2.2.2.2.2.2.2.2.2.2.2.2.1 u.2.2.2.2.2.2.2.2.2.2.2.2.2.2.2]) zcX8 0 rfl 0 rfl 7 (Nat.le_of_ble_eq_true rfl) zfX8_140 zpX8_7 (zn_i _) (zf_i _) (Nat.le_of_ble_eq_true rfl) rfl dX8_readsNumber_145 ?_
              refine z_goto (tgt := 178) rfl dX8_readsNumber_148 ?_
              cases h
              exact z_vret dX8_readsNumber_178 hQ
            · replace h := (if_pos c136).symm.trans h
              refine z_iconst (v := 1) (by decide) dX8_readsNumber_139 ?_
              refine z_goto (tgt := 144) rfl dX8_readsNumber_140 ?_
              refine z_isub dX8_readsNumber_144 ?_
              refine z_put (t := .int) ([dX8 g a u.1 u.2.1 u.2.2.1 u.2.2.2.1 u.2.2.2.2.1 u.2.2.2.2.2.1 u.2.2.2.2.2.2.1 (z4.2.2 - 1) false u.2.2.2.2.2.2.2.2.2.1 u.2.2.2.2.2.2.2.2.2.2.1 u.2.2.2.2.2.2.2.2.2.2.2.1 u.2.2.2.2.2.2.2.2.2.2.2.2.1 u.2.2.2.2.2.2.2.2.2.2.2.2.2.1 u.2.2.2.2.2.2.2.2.2.2.2.2.2.2.1 u.2.2.2.2.2.2.2.2.2.2.2.2.2.2.2]) zcX8 0 rfl 0 rfl 7 (Nat.le_of_ble_eq_true rfl) zfX8_140 zpX8_7 (zn_i _) (zf_i _) (Nat.le_of_ble_eq_true rfl) rfl dX8_readsNumber_145 ?_
              refine z_goto (tgt := 178) rfl dX8_readsNumber_148 ?_
              cases h
              exact z_vret dX8_readsNumber_178 hQ
  clear h
  refine z_ifB_eq (tgt := 39) rfl dX8_readsNumber_32 (fun c32 => ?_) (fun c32 => ?_)
  · replace ej3 := (if_neg c32).symm.trans ej3
    refine z_iconst (v := 0) (by decide) dX8_readsNumber_39 ?_
    cases ej3
    exact z_lv [1, 0] rfl Kj3
  · replace ej3 := (if_pos c32).symm.trans ej3
    refine z_iconst (v := 1) (by decide) dX8_readsNumber_35 ?_
    refine z_goto (tgt := 40) rfl dX8_readsNumber_36 ?_
    cases ej3
    exact z_lv [1, 0] rfl Kj3
set_option maxHeartbeats 400000 in
set_option maxRecDepth 100000 in
theorem c_X8_readsAll (l : Launch) (g : zG) (a : Nat → Nat) (u : tX8) (r : tX8) (h : f_X8_readsAll u = some r) : Ctr l g true yX8_readsAll cX8_readsAll 1 none 2 45 0 0 [.ref (a 0)] ([cX8 g a u]) ([cX8 g a r]) none := by
  refine ctr_of (by decide) (Nat.le_of_ble_eq_true rfl) (fun X hl _ _ _ hQ => ?_)
  unfold f_X8_readsAll at h
  refine z_lv (lv' := [(0, .ref (a 0))]) [0] rfl ?_
  refine z_aload_n 0 rfl rfl dX8_readsAll_0 ?_
  refine z_iconst (v := 0) (by decide) dX8_readsAll_1 ?_
  refine z_put (t := .int) ([dX8 g a u.1 u.2.1 u.2.2.1 u.2.2.2.1 u.2.2.2.2.1 u.2.2.2.2.2.1 u.2.2.2.2.2.2.1 0 u.2.2.2.2.2.2.2.2.1 u.2.2.2.2.2.2.2.2.2.1 u.2.2.2.2.2.2.2.2.2.2.1 u.2.2.2.2.2.2.2.2.2.2.2.1 u.2.2.2.2.2.2.2.2.2.2.2.2.1 u.2.2.2.2.2.2.2.2.2.2.2.2.2.1 u.2.2.2.2.2.2.2.2.2.2.2.2.2.2.1 u.2.2.2.2.2.2.2.2.2.2.2.2.2.2.2]) zcX8 0 rfl 0 rfl 7 (Nat.le_of_ble_eq_true rfl) zfX8_140 zpX8_7 (zn_i _) (zf_i _) (Nat.le_of_ble_eq_true rfl) rfl dX8_readsAll_2 ?_
  refine z_aload_n 0 rfl rfl dX8_readsAll_5 ?_
  refine z_iconst (v := 0) (by decide) dX8_readsAll_6 ?_
  refine z_put (t := .int) ([dX8 g a u.1 u.2.1 u.2.2.1 u.2.2.2.1 u.2.2.2.2.1 u.2.2.2.2.2.1 u.2.2.2.2.2.2.1 0 u.2.2.2.2.2.2.2.2.1 u.2.2.2.2.2.2.2.2.2.1 0 u.2.2.2.2.2.2.2.2.2.2.2.1 u.2.2.2.2.2.2.2.2.2.2.2.2.1 u.2.2.2.2.2.2.2.2.2.2.2.2.2.1 u.2.2.2.2.2.2.2.2.2.2.2.2.2.2.1 u.2.2.2.2.2.2.2.2.2.2.2.2.2.2.2]) zcX8 0 rfl 0 rfl 10 (Nat.le_of_ble_eq_true rfl) zfX8_83 zpX8_10 (zn_i _) (zf_i _) (Nat.le_of_ble_eq_true rfl) rfl dX8_readsAll_7 ?_
  refine z_aload_n 0 rfl rfl dX8_readsAll_10 ?_
  obtain ⟨r1, er1, h⟩ := zb h
  refine z_callVW (rest := []) hl (c_X8_readsNumber l g a (u.1, u.2.1, u.2.2.1, u.2.2.2.1, u.2.2.2.2.1, u.2.2.2.2.2.1, u.2.2.2.2.2.2.1, 0, u.2.2.2.2.2.2.2.2.1, u.2.2.2.2.2.2.2.2.2.1, 0, u.2.2.2.2.2.2.2.2.2.2.2.1, u.2.2.2.2.2.2.2.2.2.2.2.2.1, u.2.2.2.2.2.2.2.2.2.2.2.2.2.1, u.2.2.2.2.2.2.2.2.2.2.2.2.2.2.1, u.2.2.2.2.2.2.2.2.2.2.2.2.2.2.2) _ er1) zyX8_readsNumber zvX8_readsNumber rfl zlX8_153 zcX8.1 ⟨_, _, rfl⟩ [(0, none)] rfl (by decide) rfl (w' := [cX8 g a r1]) rfl rfl rfl (by decide) (Nat.le_of_ble_eq_true rfl) ⟨Nat.zero_le _, Nat.zero_le _⟩ dX8_readsAll_11 (st2 := []) rfl ?_
  obtain ⟨z2, ez2, h⟩ := zb h
  refine z_lv (lv' := [(0, .ref (a 0))]) [0] rfl ?_
  suffices hk14 : (fun (s14 : tX8) => Z true RX8 cX8_readsAll 1 2 45 g X 0 0 ([cX8 g a s14]) [(0, .ref (a 0))] 14 []) r1 by try dsimp only at hk14; exact hk14
  refine lp_ind (σ := tX8) (ε := tX8) b_X8_readsAll_14 (fun s14 => Z true RX8 cX8_readsAll 1 2 45 g X 0 0 ([cX8 g a s14]) [(0, .ref (a 0))] 14 []) (fun z2 => Z true RX8 cX8_readsAll 1 2 45 g X 0 0 ([cX8 g a z2]) [] 94 []) (fun s14 q14 h14 i14 x14 => ?_) 5000 r1 z2 ez2 ?_
  · unfold b_X8_readsAll_14 at h14
    refine z_aload_n 0 rfl rfl dX8_readsAll_14 ?_
    refine z_get zcX8 0 rfl 0 rfl 8 (Nat.le_of_ble_eq_true rfl) zfX8_146 (v := .int (b2i s14.2.2.2.2.2.2.2.2.1)) rfl dX8_readsAll_15 ?_
    refine z_ifB_eq (tgt := 94) rfl dX8_readsAll_18 (fun c18 => ?_) (fun c18 => ?_)
    · replace h14 := (if_neg c18).symm.trans h14
      cases h14
      have k14 := x14 s14 rfl
      try dsimp only at k14
      exact z_lv [] rfl k14
    · replace h14 := (if_pos c18).symm.trans h14
      refine z_aload_n 0 rfl rfl dX8_readsAll_21 ?_
      refine z_get zcX8 0 rfl 0 rfl 7 (Nat.le_of_ble_eq_true rfl) zfX8_140 (v := .int s14.2.2.2.2.2.2.2.1) rfl dX8_readsAll_22 ?_
      refine z_aload_n 0 rfl rfl dX8_readsAll_25 ?_
      refine z_get zcX8 0 rfl 0 rfl 6 (Nat.le_of_ble_eq_true rfl) zfX8_137 (v := .int s14.2.2.2.2.2.2.1) rfl dX8_readsAll_26 ?_
      refine z_icmp_ge (tgt := 94) rfl dX8_readsAll_29 (fun c29 => ?_) (fun c29 => ?_)
      · replace h14 := (if_pos c29).symm.trans h14
        cases h14
        have k14 := x14 s14 rfl
        try dsimp only at k14
        exact z_lv [] rfl k14
      · replace h14 := (if_neg c29).symm.trans h14
        refine z_aload_n 0 rfl rfl dX8_readsAll_32 ?_
        refine z_aload_n 0 rfl rfl dX8_readsAll_33 ?_
        obtain ⟨r3, er3, h14⟩ := zb h14
        refine z_callVR (rest := [.ref (a 0)]) hl (c_X8_sign l g a s14 _ er3) zyX8_sign zvX8_sign rfl zlX8_143 zcX8.1 ⟨_, _, rfl⟩ [(0, none)] rfl rfl rfl (by decide) (Nat.le_of_ble_eq_true rfl) ⟨Nat.zero_le _, Nat.zero_le _⟩ dX8_readsAll_34 (st2 := [.int r3, .ref (a 0)]) rfl ?_
        refine z_bipush (v := 44) (by decide) dX8_readsAll_37 ?_
        refine z_icmp_ne (tgt := 55) rfl dX8_readsAll_39 (fun c39 => ?_) (fun c39 => ?_)
        · replace h14 := (if_neg c39).symm.trans h14
          refine z_iconst (v := 0) (by decide) dX8_readsAll_55 ?_
          refine z_put (t := .boolean) ([dX8 g a s14.1 s14.2.1 s14.2.2.1 s14.2.2.2.1 s14.2.2.2.2.1 s14.2.2.2.2.2.1 s14.2.2.2.2.2.2.1 s14.2.2.2.2.2.2.2.1 false s14.2.2.2.2.2.2.2.2.2.1 s14.2.2.2.2.2.2.2.2.2.2.1 s14.2.2.2.2.2.2.2.2.2.2.2.1 s14.2.2.2.2.2.2.2.2.2.2.2.2.1 s14.2.2.2.2.2.2.2.2.2.2.2.2.2.1 s14.2.2.2.2.2.2.2.2.2.2.2.2.2.2.1 s14.2.2.2.2.2.2.2.2.2.2.2.2.2.2.2]) zcX8 0 rfl 0 rfl 8 (Nat.le_of_ble_eq_true rfl) zfX8_146 zpX8_8 (b2i_nar false) (b2i_fits false) (Nat.le_of_ble_eq_true rfl) rfl dX8_readsAll_56 ?_
          refine z_aload_n 0 rfl rfl dX8_readsAll_59 ?_
          refine z_dup rfl dX8_readsAll_60 ?_
          refine z_get zcX8 0 rfl 0 rfl 7 (Nat.le_of_ble_eq_true rfl) zfX8_140 (v := .int s14.2.2.2.2.2.2.2.1) rfl dX8_readsAll_61 ?_
          refine z_aload_n 0 rfl rfl dX8_readsAll_64 ?_
          refine z_get zcX8 0 rfl 0 rfl 8 (Nat.le_of_ble_eq_true rfl) zfX8_146 (v := .int (b2i false)) rfl dX8_readsAll_65 ?_
          refine z_ifB_eq (tgt := 75) rfl dX8_readsAll_68 (fun c68 => ?_) (fun c68 => ?_)
          · replace h14 := (if_neg c68).symm.trans h14
            refine z_iconst (v := 0) (by decide) dX8_readsAll_75 ?_
            refine z_iadd dX8_readsAll_76 ?_
            refine z_put (t := .int) ([dX8 g a s14.1 s14.2.1 s14.2.2.1 s14.2.2.2.1 s14.2.2.2.2.1 s14.2.2.2.2.2.1 s14.2.2.2.2.2.2.1 (s14.2.2.2.2.2.2.2.1 + 0) false s14.2.2.2.2.2.2.2.2.2.1 s14.2.2.2.2.2.2.2.2.2.2.1 s14.2.2.2.2.2.2.2.2.2.2.2.1 s14.2.2.2.2.2.2.2.2.2.2.2.2.1 s14.2.2.2.2.2.2.2.2.2.2.2.2.2.1 s14.2.2.2.2.2.2.2.2.2.2.2.2.2.2.1 s14.2.2.2.2.2.2.2.2.2.2.2.2.2.2.2]) zcX8 0 rfl 0 rfl 7 (Nat.le_of_ble_eq_true rfl) zfX8_140 zpX8_7 (zn_i _) (zf_i _) (Nat.le_of_ble_eq_true rfl) rfl dX8_readsAll_77 ?_
            refine z_aload_n 0 rfl rfl dX8_readsAll_80 ?_
            refine z_get zcX8 0 rfl 0 rfl 8 (Nat.le_of_ble_eq_true rfl) zfX8_146 (v := .int (b2i false)) rfl dX8_readsAll_81 ?_
            refine z_ifB_eq (tgt := 14) rfl dX8_readsAll_84 (fun c84 => ?_) (fun c84 => ?_)
            · replace h14 := (if_neg c84).symm.trans h14
              cases h14
              have k14 := i14 (s14.1, s14.2.1, s14.2.2.1, s14.2.2.2.1, s14.2.2.2.2.1, s14.2.2.2.2.2.1, s14.2.2.2.2.2.2.1, (s14.2.2.2.2.2.2.2.1 + 0), false, s14.2.2.2.2.2.2.2.2.2.1, s14.2.2.2.2.2.2.2.2.2.2.1, s14.2.2.2.2.2.2.2.2.2.2.2.1, s14.2.2.2.2.2.2.2.2.2.2.2.2.1, s14.2.2.2.2.2.2.2.2.2.2.2.2.2.1, s14.2.2.2.2.2.2.2.2.2.2.2.2.2.2.1, s14.2.2.2.2.2.2.2.2.2.2.2.2.2.2.2) rfl
              try dsimp only at k14
              exact z_lv [0] rfl k14
            · replace h14 := (if_pos c84).symm.trans h14
              refine z_aload_n 0 rfl rfl dX8_readsAll_87 ?_
              obtain ⟨r4, er4, h14⟩ := zb h14
              refine z_callVW (rest := []) hl (c_X8_readsNumber l g a (s14.1, s14.2.1, s14.2.2.1, s14.2.2.2.1, s14.2.2.2.2.1, s14.2.2.2.2.2.1, s14.2.2.2.2.2.2.1, (s14.2.2.2.2.2.2.2.1 + 0), false, s14.2.2.2.2.2.2.2.2.2.1, s14.2.2.2.2.2.2.2.2.2.2.1, s14.2.2.2.2.2.2.2.2.2.2.2.1, s14.2.2.2.2.2.2.2.2.2.2.2.2.1, s14.2.2.2.2.2.2.2.2.2.2.2.2.2.1, s14.2.2.2.2.2.2.2.2.2.2.2.2.2.2.1, s14.2.2.2.2.2.2.2.2.2.2.2.2.2.2.2) _ er4) zyX8_readsNumber zvX8_readsNumber rfl zlX8_153 zcX8.1 ⟨_, _, rfl⟩ [(0, none)] rfl (by decide) rfl (w' := [cX8 g a r4]) rfl rfl rfl (by decide) (Nat.le_of_ble_eq_true rfl) ⟨Nat.zero_le _, Nat.zero_le _⟩ dX8_readsAll_88 (st2 := []) rfl ?_
              refine z_goto (tgt := 14) rfl dX8_readsAll_91 ?_
              cases h14
              have k14 := i14 r4 rfl
              try dsimp only at k14
              exact z_lv [0] rfl k14
          · replace h14 := (if_pos c68).symm.trans h14
            refine z_iconst (v := 1) (by decide) dX8_readsAll_71 ?_
            refine z_goto (tgt := 76) rfl dX8_readsAll_72 ?_
            refine z_iadd dX8_readsAll_76 ?_
            refine z_put (t := .int) ([dX8 g a s14.1 s14.2.1 s14.2.2.1 s14.2.2.2.1 s14.2.2.2.2.1 s14.2.2.2.2.2.1 s14.2.2.2.2.2.2.1 (s14.2.2.2.2.2.2.2.1 + 1) false s14.2.2.2.2.2.2.2.2.2.1 s14.2.2.2.2.2.2.2.2.2.2.1 s14.2.2.2.2.2.2.2.2.2.2.2.1 s14.2.2.2.2.2.2.2.2.2.2.2.2.1 s14.2.2.2.2.2.2.2.2.2.2.2.2.2.1 s14.2.2.2.2.2.2.2.2.2.2.2.2.2.2.1 s14.2.2.2.2.2.2.2.2.2.2.2.2.2.2.2]) zcX8 0 rfl 0 rfl 7 (Nat.le_of_ble_eq_true rfl) zfX8_140 zpX8_7 (zn_i _) (zf_i _) (Nat.le_of_ble_eq_true rfl) rfl dX8_readsAll_77 ?_
            refine z_aload_n 0 rfl rfl dX8_readsAll_80 ?_
            refine z_get zcX8 0 rfl 0 rfl 8 (Nat.le_of_ble_eq_true rfl) zfX8_146 (v := .int (b2i false)) rfl dX8_readsAll_81 ?_
            refine z_ifB_eq (tgt := 14) rfl dX8_readsAll_84 (fun c84 => ?_) (fun c84 => ?_)
            · replace h14 := (if_neg c84).symm.trans h14
              cases h14
              have k14 := i14 (s14.1, s14.2.1, s14.2.2.1, s14.2.2.2.1, s14.2.2.2.2.1, s14.2.2.2.2.2.1, s14.2.2.2.2.2.2.1, (s14.2.2.2.2.2.2.2.1 + 1), false, s14.2.2.2.2.2.2.2.2.2.1, s14.2.2.2.2.2.2.2.2.2.2.1, s14.2.2.2.2.2.2.2.2.2.2.2.1, s14.2.2.2.2.2.2.2.2.2.2.2.2.1, s14.2.2.2.2.2.2.2.2.2.2.2.2.2.1, s14.2.2.2.2.2.2.2.2.2.2.2.2.2.2.1, s14.2.2.2.2.2.2.2.2.2.2.2.2.2.2.2) rfl
              try dsimp only at k14
              exact z_lv [0] rfl k14
            · replace h14 := (if_pos c84).symm.trans h14
              refine z_aload_n 0 rfl rfl dX8_readsAll_87 ?_
              obtain ⟨r5, er5, h14⟩ := zb h14
              refine z_callVW (rest := []) hl (c_X8_readsNumber l g a (s14.1, s14.2.1, s14.2.2.1, s14.2.2.2.1, s14.2.2.2.2.1, s14.2.2.2.2.2.1, s14.2.2.2.2.2.2.1, (s14.2.2.2.2.2.2.2.1 + 1), false, s14.2.2.2.2.2.2.2.2.2.1, s14.2.2.2.2.2.2.2.2.2.2.1, s14.2.2.2.2.2.2.2.2.2.2.2.1, s14.2.2.2.2.2.2.2.2.2.2.2.2.1, s14.2.2.2.2.2.2.2.2.2.2.2.2.2.1, s14.2.2.2.2.2.2.2.2.2.2.2.2.2.2.1, s14.2.2.2.2.2.2.2.2.2.2.2.2.2.2.2) _ er5) zyX8_readsNumber zvX8_readsNumber rfl zlX8_153 zcX8.1 ⟨_, _, rfl⟩ [(0, none)] rfl (by decide) rfl (w' := [cX8 g a r5]) rfl rfl rfl (by decide) (Nat.le_of_ble_eq_true rfl) ⟨Nat.zero_le _, Nat.zero_le _⟩ dX8_readsAll_88 (st2 := []) rfl ?_
              refine z_goto (tgt := 14) rfl dX8_readsAll_91 ?_
              cases h14
              have k14 := i14 r5 rfl
              try dsimp only at k14
              exact z_lv [0] rfl k14
        · replace h14 := (if_pos c39).symm.trans h14
          refine z_aload_n 0 rfl rfl dX8_readsAll_42 ?_
          refine z_get zcX8 0 rfl 0 rfl 10 (Nat.le_of_ble_eq_true rfl) zfX8_83 (v := .int s14.2.2.2.2.2.2.2.2.2.2.1) rfl dX8_readsAll_43 ?_
          refine z_bipush (v := 6) (by decide) dX8_readsAll_46 ?_
          refine z_icmp_ge (tgt := 55) rfl dX8_readsAll_48 (fun c48 => ?_) (fun c48 => ?_)
          · replace h14 := (if_pos c48).symm.trans h14
            refine z_iconst (v := 0) (by decide) dX8_readsAll_55 ?_
            refine z_put (t := .boolean) ([dX8 g a s14.1 s14.2.1 s14.2.2.1 s14.2.2.2.1 s14.2.2.2.2.1 s14.2.2.2.2.2.1 s14.2.2.2.2.2.2.1 s14.2.2.2.2.2.2.2.1 false s14.2.2.2.2.2.2.2.2.2.1 s14.2.2.2.2.2.2.2.2.2.2.1 s14.2.2.2.2.2.2.2.2.2.2.2.1 s14.2.2.2.2.2.2.2.2.2.2.2.2.1 s14.2.2.2.2.2.2.2.2.2.2.2.2.2.1 s14.2.2.2.2.2.2.2.2.2.2.2.2.2.2.1 s14.2.2.2.2.2.2.2.2.2.2.2.2.2.2.2]) zcX8 0 rfl 0 rfl 8 (Nat.le_of_ble_eq_true rfl) zfX8_146 zpX8_8 (b2i_nar false) (b2i_fits false) (Nat.le_of_ble_eq_true rfl) rfl dX8_readsAll_56 ?_
            refine z_aload_n 0 rfl rfl dX8_readsAll_59 ?_
            refine z_dup rfl dX8_readsAll_60 ?_
            refine z_get zcX8 0 rfl 0 rfl 7 (Nat.le_of_ble_eq_true rfl) zfX8_140 (v := .int s14.2.2.2.2.2.2.2.1) rfl dX8_readsAll_61 ?_
            refine z_aload_n 0 rfl rfl dX8_readsAll_64 ?_
            refine z_get zcX8 0 rfl 0 rfl 8 (Nat.le_of_ble_eq_true rfl) zfX8_146 (v := .int (b2i false)) rfl dX8_readsAll_65 ?_
            refine z_ifB_eq (tgt := 75) rfl dX8_readsAll_68 (fun c68 => ?_) (fun c68 => ?_)
            · replace h14 := (if_neg c68).symm.trans h14
              refine z_iconst (v := 0) (by decide) dX8_readsAll_75 ?_
              refine z_iadd dX8_readsAll_76 ?_
              refine z_put (t := .int) ([dX8 g a s14.1 s14.2.1 s14.2.2.1 s14.2.2.2.1 s14.2.2.2.2.1 s14.2.2.2.2.2.1 s14.2.2.2.2.2.2.1 (s14.2.2.2.2.2.2.2.1 + 0) false s14.2.2.2.2.2.2.2.2.2.1 s14.2.2.2.2.2.2.2.2.2.2.1 s14.2.2.2.2.2.2.2.2.2.2.2.1 s14.2.2.2.2.2.2.2.2.2.2.2.2.1 s14.2.2.2.2.2.2.2.2.2.2.2.2.2.1 s14.2.2.2.2.2.2.2.2.2.2.2.2.2.2.1 s14.2.2.2.2.2.2.2.2.2.2.2.2.2.2.2]) zcX8 0 rfl 0 rfl 7 (Nat.le_of_ble_eq_true rfl) zfX8_140 zpX8_7 (zn_i _) (zf_i _) (Nat.le_of_ble_eq_true rfl) rfl dX8_readsAll_77 ?_
              refine z_aload_n 0 rfl rfl dX8_readsAll_80 ?_
              refine z_get zcX8 0 rfl 0 rfl 8 (Nat.le_of_ble_eq_true rfl) zfX8_146 (v := .int (b2i false)) rfl dX8_readsAll_81 ?_
              refine z_ifB_eq (tgt := 14) rfl dX8_readsAll_84 (fun c84 => ?_) (fun c84 => ?_)
              · replace h14 := (if_neg c84).symm.trans h14
                cases h14
                have k14 := i14 (s14.1, s14.2.1, s14.2.2.1, s14.2.2.2.1, s14.2.2.2.2.1, s14.2.2.2.2.2.1, s14.2.2.2.2.2.2.1, (s14.2.2.2.2.2.2.2.1 + 0), false, s14.2.2.2.2.2.2.2.2.2.1, s14.2.2.2.2.2.2.2.2.2.2.1, s14.2.2.2.2.2.2.2.2.2.2.2.1, s14.2.2.2.2.2.2.2.2.2.2.2.2.1, s14.2.2.2.2.2.2.2.2.2.2.2.2.2.1, s14.2.2.2.2.2.2.2.2.2.2.2.2.2.2.1, s14.2.2.2.2.2.2.2.2.2.2.2.2.2.2.2) rfl
                try dsimp only at k14
                exact z_lv [0] rfl k14
              · replace h14 := (if_pos c84).symm.trans h14
                refine z_aload_n 0 rfl rfl dX8_readsAll_87 ?_
                obtain ⟨r6, er6, h14⟩ := zb h14
                refine z_callVW (rest := []) hl (c_X8_readsNumber l g a (s14.1, s14.2.1, s14.2.2.1, s14.2.2.2.1, s14.2.2.2.2.1, s14.2.2.2.2.2.1, s14.2.2.2.2.2.2.1, (s14.2.2.2.2.2.2.2.1 + 0), false, s14.2.2.2.2.2.2.2.2.2.1, s14.2.2.2.2.2.2.2.2.2.2.1, s14.2.2.2.2.2.2.2.2.2.2.2.1, s14.2.2.2.2.2.2.2.2.2.2.2.2.1, s14.2.2.2.2.2.2.2.2.2.2.2.2.2.1, s14.2.2.2.2.2.2.2.2.2.2.2.2.2.2.1, s14.2.2.2.2.2.2.2.2.2.2.2.2.2.2.2) _ er6) zyX8_readsNumber zvX8_readsNumber rfl zlX8_153 zcX8.1 ⟨_, _, rfl⟩ [(0, none)] rfl (by decide) rfl (w' := [cX8 g a r6]) rfl rfl rfl (by decide) (Nat.le_of_ble_eq_true rfl) ⟨Nat.zero_le _, Nat.zero_le _⟩ dX8_readsAll_88 (st2 := []) rfl ?_
                refine z_goto (tgt := 14) rfl dX8_readsAll_91 ?_
                cases h14
                have k14 := i14 r6 rfl
                try dsimp only at k14
                exact z_lv [0] rfl k14
            · replace h14 := (if_pos c68).symm.trans h14
              refine z_iconst (v := 1) (by decide) dX8_readsAll_71 ?_
              refine z_goto (tgt := 76) rfl dX8_readsAll_72 ?_
              refine z_iadd dX8_readsAll_76 ?_
              refine z_put (t := .int) ([dX8 g a s14.1 s14.2.1 s14.2.2.1 s14.2.2.2.1 s14.2.2.2.2.1 s14.2.2.2.2.2.1 s14.2.2.2.2.2.2.1 (s14.2.2.2.2.2.2.2.1 + 1) false s14.2.2.2.2.2.2.2.2.2.1 s14.2.2.2.2.2.2.2.2.2.2.1 s14.2.2.2.2.2.2.2.2.2.2.2.1 s14.2.2.2.2.2.2.2.2.2.2.2.2.1 s14.2.2.2.2.2.2.2.2.2.2.2.2.2.1 s14.2.2.2.2.2.2.2.2.2.2.2.2.2.2.1 s14.2.2.2.2.2.2.2.2.2.2.2.2.2.2.2]) zcX8 0 rfl 0 rfl 7 (Nat.le_of_ble_eq_true rfl) zfX8_140 zpX8_7 (zn_i _) (zf_i _) (Nat.le_of_ble_eq_true rfl) rfl dX8_readsAll_77 ?_
              refine z_aload_n 0 rfl rfl dX8_readsAll_80 ?_
              refine z_get zcX8 0 rfl 0 rfl 8 (Nat.le_of_ble_eq_true rfl) zfX8_146 (v := .int (b2i false)) rfl dX8_readsAll_81 ?_
              refine z_ifB_eq (tgt := 14) rfl dX8_readsAll_84 (fun c84 => ?_) (fun c84 => ?_)
              · replace h14 := (if_neg c84).symm.trans h14
                cases h14
                have k14 := i14 (s14.1, s14.2.1, s14.2.2.1, s14.2.2.2.1, s14.2.2.2.2.1, s14.2.2.2.2.2.1, s14.2.2.2.2.2.2.1, (s14.2.2.2.2.2.2.2.1 + 1), false, s14.2.2.2.2.2.2.2.2.2.1, s14.2.2.2.2.2.2.2.2.2.2.1, s14.2.2.2.2.2.2.2.2.2.2.2.1, s14.2.2.2.2.2.2.2.2.2.2.2.2.1, s14.2.2.2.2.2.2.2.2.2.2.2.2.2.1, s14.2.2.2.2.2.2.2.2.2.2.2.2.2.2.1, s14.2.2.2.2.2.2.2.2.2.2.2.2.2.2.2) rfl
                try dsimp only at k14
                exact z_lv [0] rfl k14
              · replace h14 := (if_pos c84).symm.trans h14
                refine z_aload_n 0 rfl rfl dX8_readsAll_87 ?_
                obtain ⟨r7, er7, h14⟩ := zb h14
                refine z_callVW (rest := []) hl (c_X8_readsNumber l g a (s14.1, s14.2.1, s14.2.2.1, s14.2.2.2.1, s14.2.2.2.2.1, s14.2.2.2.2.2.1, s14.2.2.2.2.2.2.1, (s14.2.2.2.2.2.2.2.1 + 1), false, s14.2.2.2.2.2.2.2.2.2.1, s14.2.2.2.2.2.2.2.2.2.2.1, s14.2.2.2.2.2.2.2.2.2.2.2.1, s14.2.2.2.2.2.2.2.2.2.2.2.2.1, s14.2.2.2.2.2.2.2.2.2.2.2.2.2.1, s14.2.2.2.2.2.2.2.2.2.2.2.2.2.2.1, s14.2.2.2.2.2.2.2.2.2.2.2.2.2.2.2) _ er7) zyX8_readsNumber zvX8_readsNumber rfl zlX8_153 zcX8.1 ⟨_, _, rfl⟩ [(0, none)] rfl (by decide) rfl (w' := [cX8 g a r7]) rfl rfl rfl (by decide) (Nat.le_of_ble_eq_true rfl) ⟨Nat.zero_le _, Nat.zero_le _⟩ dX8_readsAll_88 (st2 := []) rfl ?_
                refine z_goto (tgt := 14) rfl dX8_readsAll_91 ?_
                cases h14
                have k14 := i14 r7 rfl
                try dsimp only at k14
                exact z_lv [0] rfl k14
          · replace h14 := (if_neg c48).symm.trans h14
            refine z_iconst (v := 1) (by decide) dX8_readsAll_51 ?_
            refine z_goto (tgt := 56) rfl dX8_readsAll_52 ?_
            refine z_put (t := .boolean) ([dX8 g a s14.1 s14.2.1 s14.2.2.1 s14.2.2.2.1 s14.2.2.2.2.1 s14.2.2.2.2.2.1 s14.2.2.2.2.2.2.1 s14.2.2.2.2.2.2.2.1 true s14.2.2.2.2.2.2.2.2.2.1 s14.2.2.2.2.2.2.2.2.2.2.1 s14.2.2.2.2.2.2.2.2.2.2.2.1 s14.2.2.2.2.2.2.2.2.2.2.2.2.1 s14.2.2.2.2.2.2.2.2.2.2.2.2.2.1 s14.2.2.2.2.2.2.2.2.2.2.2.2.2.2.1 s14.2.2.2.2.2.2.2.2.2.2.2.2.2.2.2]) zcX8 0 rfl 0 rfl 8 (Nat.le_of_ble_eq_true rfl) zfX8_146 zpX8_8 (b2i_nar true) (b2i_fits true) (Nat.le_of_ble_eq_true rfl) rfl dX8_readsAll_56 ?_
            refine z_aload_n 0 rfl rfl dX8_readsAll_59 ?_
            refine z_dup rfl dX8_readsAll_60 ?_
            refine z_get zcX8 0 rfl 0 rfl 7 (Nat.le_of_ble_eq_true rfl) zfX8_140 (v := .int s14.2.2.2.2.2.2.2.1) rfl dX8_readsAll_61 ?_
            refine z_aload_n 0 rfl rfl dX8_readsAll_64 ?_
            refine z_get zcX8 0 rfl 0 rfl 8 (Nat.le_of_ble_eq_true rfl) zfX8_146 (v := .int (b2i true)) rfl dX8_readsAll_65 ?_
            refine z_ifB_eq (tgt := 75) rfl dX8_readsAll_68 (fun c68 => ?_) (fun c68 => ?_)
            · replace h14 := (if_neg c68).symm.trans h14
              refine z_iconst (v := 0) (by decide) dX8_readsAll_75 ?_
              refine z_iadd dX8_readsAll_76 ?_
              refine z_put (t := .int) ([dX8 g a s14.1 s14.2.1 s14.2.2.1 s14.2.2.2.1 s14.2.2.2.2.1 s14.2.2.2.2.2.1 s14.2.2.2.2.2.2.1 (s14.2.2.2.2.2.2.2.1 + 0) true s14.2.2.2.2.2.2.2.2.2.1 s14.2.2.2.2.2.2.2.2.2.2.1 s14.2.2.2.2.2.2.2.2.2.2.2.1 s14.2.2.2.2.2.2.2.2.2.2.2.2.1 s14.2.2.2.2.2.2.2.2.2.2.2.2.2.1 s14.2.2.2.2.2.2.2.2.2.2.2.2.2.2.1 s14.2.2.2.2.2.2.2.2.2.2.2.2.2.2.2]) zcX8 0 rfl 0 rfl 7 (Nat.le_of_ble_eq_true rfl) zfX8_140 zpX8_7 (zn_i _) (zf_i _) (Nat.le_of_ble_eq_true rfl) rfl dX8_readsAll_77 ?_
              refine z_aload_n 0 rfl rfl dX8_readsAll_80 ?_
              refine z_get zcX8 0 rfl 0 rfl 8 (Nat.le_of_ble_eq_true rfl) zfX8_146 (v := .int (b2i true)) rfl dX8_readsAll_81 ?_
              refine z_ifB_eq (tgt := 14) rfl dX8_readsAll_84 (fun c84 => ?_) (fun c84 => ?_)
              · replace h14 := (if_neg c84).symm.trans h14
                cases h14
                have k14 := i14 (s14.1, s14.2.1, s14.2.2.1, s14.2.2.2.1, s14.2.2.2.2.1, s14.2.2.2.2.2.1, s14.2.2.2.2.2.2.1, (s14.2.2.2.2.2.2.2.1 + 0), true, s14.2.2.2.2.2.2.2.2.2.1, s14.2.2.2.2.2.2.2.2.2.2.1, s14.2.2.2.2.2.2.2.2.2.2.2.1, s14.2.2.2.2.2.2.2.2.2.2.2.2.1, s14.2.2.2.2.2.2.2.2.2.2.2.2.2.1, s14.2.2.2.2.2.2.2.2.2.2.2.2.2.2.1, s14.2.2.2.2.2.2.2.2.2.2.2.2.2.2.2) rfl
                try dsimp only at k14
                exact z_lv [0] rfl k14
              · replace h14 := (if_pos c84).symm.trans h14
                refine z_aload_n 0 rfl rfl dX8_readsAll_87 ?_
                obtain ⟨r8, er8, h14⟩ := zb h14
                refine z_callVW (rest := []) hl (c_X8_readsNumber l g a (s14.1, s14.2.1, s14.2.2.1, s14.2.2.2.1, s14.2.2.2.2.1, s14.2.2.2.2.2.1, s14.2.2.2.2.2.2.1, (s14.2.2.2.2.2.2.2.1 + 0), true, s14.2.2.2.2.2.2.2.2.2.1, s14.2.2.2.2.2.2.2.2.2.2.1, s14.2.2.2.2.2.2.2.2.2.2.2.1, s14.2.2.2.2.2.2.2.2.2.2.2.2.1, s14.2.2.2.2.2.2.2.2.2.2.2.2.2.1, s14.2.2.2.2.2.2.2.2.2.2.2.2.2.2.1, s14.2.2.2.2.2.2.2.2.2.2.2.2.2.2.2) _ er8) zyX8_readsNumber zvX8_readsNumber rfl zlX8_153 zcX8.1 ⟨_, _, rfl⟩ [(0, none)] rfl (by decide) rfl (w' := [cX8 g a r8]) rfl rfl rfl (by decide) (Nat.le_of_ble_eq_true rfl) ⟨Nat.zero_le _, Nat.zero_le _⟩ dX8_readsAll_88 (st2 := []) rfl ?_
                refine z_goto (tgt := 14) rfl dX8_readsAll_91 ?_
                cases h14
                have k14 := i14 r8 rfl
                try dsimp only at k14
                exact z_lv [0] rfl k14
            · replace h14 := (if_pos c68).symm.trans h14
              refine z_iconst (v := 1) (by decide) dX8_readsAll_71 ?_
              refine z_goto (tgt := 76) rfl dX8_readsAll_72 ?_
              refine z_iadd dX8_readsAll_76 ?_
              refine z_put (t := .int) ([dX8 g a s14.1 s14.2.1 s14.2.2.1 s14.2.2.2.1 s14.2.2.2.2.1 s14.2.2.2.2.2.1 s14.2.2.2.2.2.2.1 (s14.2.2.2.2.2.2.2.1 + 1) true s14.2.2.2.2.2.2.2.2.2.1 s14.2.2.2.2.2.2.2.2.2.2.1 s14.2.2.2.2.2.2.2.2.2.2.2.1 s14.2.2.2.2.2.2.2.2.2.2.2.2.1 s14.2.2.2.2.2.2.2.2.2.2.2.2.2.1 s14.2.2.2.2.2.2.2.2.2.2.2.2.2.2.1 s14.2.2.2.2.2.2.2.2.2.2.2.2.2.2.2]) zcX8 0 rfl 0 rfl 7 (Nat.le_of_ble_eq_true rfl) zfX8_140 zpX8_7 (zn_i _) (zf_i _) (Nat.le_of_ble_eq_true rfl) rfl dX8_readsAll_77 ?_
              refine z_aload_n 0 rfl rfl dX8_readsAll_80 ?_
              refine z_get zcX8 0 rfl 0 rfl 8 (Nat.le_of_ble_eq_true rfl) zfX8_146 (v := .int (b2i true)) rfl dX8_readsAll_81 ?_
              refine z_ifB_eq (tgt := 14) rfl dX8_readsAll_84 (fun c84 => ?_) (fun c84 => ?_)
              · replace h14 := (if_neg c84).symm.trans h14
                cases h14
                have k14 := i14 (s14.1, s14.2.1, s14.2.2.1, s14.2.2.2.1, s14.2.2.2.2.1, s14.2.2.2.2.2.1, s14.2.2.2.2.2.2.1, (s14.2.2.2.2.2.2.2.1 + 1), true, s14.2.2.2.2.2.2.2.2.2.1, s14.2.2.2.2.2.2.2.2.2.2.1, s14.2.2.2.2.2.2.2.2.2.2.2.1, s14.2.2.2.2.2.2.2.2.2.2.2.2.1, s14.2.2.2.2.2.2.2.2.2.2.2.2.2.1, s14.2.2.2.2.2.2.2.2.2.2.2.2.2.2.1, s14.2.2.2.2.2.2.2.2.2.2.2.2.2.2.2) rfl
                try dsimp only at k14
                exact z_lv [0] rfl k14
              · replace h14 := (if_pos c84).symm.trans h14
                refine z_aload_n 0 rfl rfl dX8_readsAll_87 ?_
                obtain ⟨r9, er9, h14⟩ := zb h14
                refine z_callVW (rest := []) hl (c_X8_readsNumber l g a (s14.1, s14.2.1, s14.2.2.1, s14.2.2.2.1, s14.2.2.2.2.1, s14.2.2.2.2.2.1, s14.2.2.2.2.2.2.1, (s14.2.2.2.2.2.2.2.1 + 1), true, s14.2.2.2.2.2.2.2.2.2.1, s14.2.2.2.2.2.2.2.2.2.2.1, s14.2.2.2.2.2.2.2.2.2.2.2.1, s14.2.2.2.2.2.2.2.2.2.2.2.2.1, s14.2.2.2.2.2.2.2.2.2.2.2.2.2.1, s14.2.2.2.2.2.2.2.2.2.2.2.2.2.2.1, s14.2.2.2.2.2.2.2.2.2.2.2.2.2.2.2) _ er9) zyX8_readsNumber zvX8_readsNumber rfl zlX8_153 zcX8.1 ⟨_, _, rfl⟩ [(0, none)] rfl (by decide) rfl (w' := [cX8 g a r9]) rfl rfl rfl (by decide) (Nat.le_of_ble_eq_true rfl) ⟨Nat.zero_le _, Nat.zero_le _⟩ dX8_readsAll_88 (st2 := []) rfl ?_
                refine z_goto (tgt := 14) rfl dX8_readsAll_91 ?_
                cases h14
                have k14 := i14 r9 rfl
                try dsimp only at k14
                exact z_lv [0] rfl k14
  · skip
    cases h
    exact z_vret dX8_readsAll_94 hQ
set_option maxHeartbeats 400000 in
set_option maxRecDepth 100000 in
theorem c_X8_firstError (l : Launch) (g : zG) (a : Nat → Nat) (u : tX8) (r : Int32 × tX8) (h : f_X8_firstError u = some r) : Ctr l g true yX8_firstError cX8_firstError 1 (some .int) 3 65 0 0 [.ref (a 0)] ([cX8 g a u]) ([cX8 g a r.2]) (some (.int r.1)) := by
  refine ctr_of (by decide) (Nat.le_of_ble_eq_true rfl) (fun X hl _ _ _ hQ => ?_)
  unfold f_X8_firstError at h
  refine z_lv (lv' := [(0, .ref (a 0))]) [0] rfl ?_
  refine z_aload_n 0 rfl rfl dX8_firstError_0 ?_
  refine z_iconst (v := 0) (by decide) dX8_firstError_1 ?_
  refine z_put (t := .int) ([dX8 g a 0 u.2.1 u.2.2.1 u.2.2.2.1 u.2.2.2.2.1 u.2.2.2.2.2.1 u.2.2.2.2.2.2.1 u.2.2.2.2.2.2.2.1 u.2.2.2.2.2.2.2.2.1 u.2.2.2.2.2.2.2.2.2.1 u.2.2.2.2.2.2.2.2.2.2.1 u.2.2.2.2.2.2.2.2.2.2.2.1 u.2.2.2.2.2.2.2.2.2.2.2.2.1 u.2.2.2.2.2.2.2.2.2.2.2.2.2.1 u.2.2.2.2.2.2.2.2.2.2.2.2.2.2.1 u.2.2.2.2.2.2.2.2.2.2.2.2.2.2.2]) zcX8 0 rfl 0 rfl 0 (Nat.le_of_ble_eq_true rfl) zfX8_38 zpX8_0 (zn_i _) (zf_i _) (Nat.le_of_ble_eq_true rfl) rfl dX8_firstError_2 ?_
  refine z_aload_n 0 rfl rfl dX8_firstError_5 ?_
  obtain ⟨r1, er1, h⟩ := zb h
  refine z_callVW (rest := []) hl (c_X8_readsAll l g a (0, u.2.1, u.2.2.1, u.2.2.2.1, u.2.2.2.2.1, u.2.2.2.2.2.1, u.2.2.2.2.2.2.1, u.2.2.2.2.2.2.2.1, u.2.2.2.2.2.2.2.2.1, u.2.2.2.2.2.2.2.2.2.1, u.2.2.2.2.2.2.2.2.2.2.1, u.2.2.2.2.2.2.2.2.2.2.2.1, u.2.2.2.2.2.2.2.2.2.2.2.2.1, u.2.2.2.2.2.2.2.2.2.2.2.2.2.1, u.2.2.2.2.2.2.2.2.2.2.2.2.2.2.1, u.2.2.2.2.2.2.2.2.2.2.2.2.2.2.2) _ er1) zyX8_readsAll zvX8_readsAll rfl zlX8_156 zcX8.1 ⟨_, _, rfl⟩ [(0, none)] rfl (by decide) rfl (w' := [cX8 g a r1]) rfl rfl rfl (by decide) (Nat.le_of_ble_eq_true rfl) ⟨Nat.zero_le _, Nat.zero_le _⟩ dX8_firstError_6 (st2 := []) rfl ?_
  refine z_aload_n 0 rfl rfl dX8_firstError_9 ?_
  refine z_get zcX8 0 rfl 0 rfl 7 (Nat.le_of_ble_eq_true rfl) zfX8_140 (v := .int r1.2.2.2.2.2.2.2.1) rfl dX8_firstError_10 ?_
  cases h
  try dsimp only at hQ
  exact z_iret dX8_firstError_13 hQ
set_option maxHeartbeats 400000 in
set_option maxRecDepth 100000 in
theorem c_X8_pickAll (l : Launch) (g : zG) (a : Nat → Nat) (u : tX8) (r : Int32 × tX8) (h : f_X8_pickAll u = some r) : Ctr l g true yX8_pickAll cX8_pickAll 1 (some .int) 9 208 0 0 [.ref (a 0)] ([cX8 g a u]) ([cX8 g a r.2]) (some (.int r.1)) := by
  refine ctr_of (by decide) (Nat.le_of_ble_eq_true rfl) (fun X hl _ _ _ hQ => ?_)
  unfold f_X8_pickAll at h
  refine z_lv (lv' := [(0, .ref (a 0))]) [0] rfl ?_
  refine z_aload_n 0 rfl rfl dX8_pickAll_0 ?_
  refine z_iconst (v := 0) (by decide) dX8_pickAll_1 ?_
  refine z_put (t := .int) ([dX8 g a 0 u.2.1 u.2.2.1 u.2.2.2.1 u.2.2.2.2.1 u.2.2.2.2.2.1 u.2.2.2.2.2.2.1 u.2.2.2.2.2.2.2.1 u.2.2.2.2.2.2.2.2.1 u.2.2.2.2.2.2.2.2.2.1 u.2.2.2.2.2.2.2.2.2.2.1 u.2.2.2.2.2.2.2.2.2.2.2.1 u.2.2.2.2.2.2.2.2.2.2.2.2.1 u.2.2.2.2.2.2.2.2.2.2.2.2.2.1 u.2.2.2.2.2.2.2.2.2.2.2.2.2.2.1 u.2.2.2.2.2.2.2.2.2.2.2.2.2.2.2]) zcX8 0 rfl 0 rfl 0 (Nat.le_of_ble_eq_true rfl) zfX8_38 zpX8_0 (zn_i _) (zf_i _) (Nat.le_of_ble_eq_true rfl) rfl dX8_pickAll_2 ?_
  refine z_aload_n 0 rfl rfl dX8_pickAll_5 ?_
  obtain ⟨r1, er1, h⟩ := zb h
  refine z_callVW (rest := []) hl (c_X8_readsAll l g a (0, u.2.1, u.2.2.1, u.2.2.2.1, u.2.2.2.2.1, u.2.2.2.2.2.1, u.2.2.2.2.2.2.1, u.2.2.2.2.2.2.2.1, u.2.2.2.2.2.2.2.2.1, u.2.2.2.2.2.2.2.2.2.1, u.2.2.2.2.2.2.2.2.2.2.1, u.2.2.2.2.2.2.2.2.2.2.2.1, u.2.2.2.2.2.2.2.2.2.2.2.2.1, u.2.2.2.2.2.2.2.2.2.2.2.2.2.1, u.2.2.2.2.2.2.2.2.2.2.2.2.2.2.1, u.2.2.2.2.2.2.2.2.2.2.2.2.2.2.2) _ er1) zyX8_readsAll zvX8_readsAll rfl zlX8_156 zcX8.1 ⟨_, _, rfl⟩ [(0, none)] rfl (by decide) rfl (w' := [cX8 g a r1]) rfl rfl rfl (by decide) (Nat.le_of_ble_eq_true rfl) ⟨Nat.zero_le _, Nat.zero_le _⟩ dX8_pickAll_6 (st2 := []) rfl ?_
  refine z_aload_n 0 rfl rfl dX8_pickAll_9 ?_
  refine z_get zcX8 0 rfl 0 rfl 8 (Nat.le_of_ble_eq_true rfl) zfX8_146 (v := .int (b2i r1.2.2.2.2.2.2.2.2.1)) rfl dX8_pickAll_10 ?_
  refine z_ifB_ne (tgt := 22) rfl dX8_pickAll_13 (fun c13 => ?_) (fun c13 => ?_)
  · replace h := (if_pos c13).symm.trans h
    refine z_aload_n 0 rfl rfl dX8_pickAll_22 ?_
    obtain ⟨r2, er2, h⟩ := zb h
    refine z_callVW (rest := []) hl (c_X8_saves l g a r1 _ er2) zyX8_saves zvX8_saves rfl zlX8_131 zcX8.1 ⟨_, _, rfl⟩ [(0, none)] rfl (by decide) rfl (w' := [cX8 g a r2]) rfl rfl rfl (by decide) (Nat.le_of_ble_eq_true rfl) ⟨Nat.zero_le _, Nat.zero_le _⟩ dX8_pickAll_23 (st2 := []) rfl ?_
    refine z_aload_n 0 rfl rfl dX8_pickAll_26 ?_
    refine z_iconst (v := 0) (by decide) dX8_pickAll_27 ?_
    refine z_put (t := .int) ([dX8 g a r2.1 r2.2.1 r2.2.2.1 r2.2.2.2.1 r2.2.2.2.2.1 r2.2.2.2.2.2.1 0 r2.2.2.2.2.2.2.2.1 r2.2.2.2.2.2.2.2.2.1 r2.2.2.2.2.2.2.2.2.2.1 r2.2.2.2.2.2.2.2.2.2.2.1 r2.2.2.2.2.2.2.2.2.2.2.2.1 r2.2.2.2.2.2.2.2.2.2.2.2.2.1 r2.2.2.2.2.2.2.2.2.2.2.2.2.2.1 r2.2.2.2.2.2.2.2.2.2.2.2.2.2.2.1 r2.2.2.2.2.2.2.2.2.2.2.2.2.2.2.2]) zcX8 0 rfl 0 rfl 6 (Nat.le_of_ble_eq_true rfl) zfX8_137 zpX8_6 (zn_i _) (zf_i _) (Nat.le_of_ble_eq_true rfl) rfl dX8_pickAll_28 ?_
    refine z_aload_n 0 rfl rfl dX8_pickAll_31 ?_
    refine z_aload_n 0 rfl rfl dX8_pickAll_32 ?_
    refine z_get zcX8 0 rfl 0 rfl 1 (Nat.le_of_ble_eq_true rfl) zfX8_7 (v := .ref (a 1)) rfl dX8_pickAll_33 ?_
    refine z_iconst (v := 2) (by decide) dX8_pickAll_36 ?_
    obtain ⟨r3, er3, h⟩ := zb h
    refine z_iald 0 rfl 1 rfl er3 dX8_pickAll_37 ?_
    obtain ⟨r4, er4, h⟩ := zb h
    refine z_callVW (rest := []) hl (c_X8_picksBatch l g a (r2.1, r2.2.1, r2.2.2.1, r2.2.2.2.1, r2.2.2.2.2.1, r2.2.2.2.2.2.1, 0, r2.2.2.2.2.2.2.2.1, r2.2.2.2.2.2.2.2.2.1, r2.2.2.2.2.2.2.2.2.2.1, r2.2.2.2.2.2.2.2.2.2.2.1, r2.2.2.2.2.2.2.2.2.2.2.2.1, r2.2.2.2.2.2.2.2.2.2.2.2.2.1, r2.2.2.2.2.2.2.2.2.2.2.2.2.2.1, r2.2.2.2.2.2.2.2.2.2.2.2.2.2.2.1, r2.2.2.2.2.2.2.2.2.2.2.2.2.2.2.2) r3 _ er4) zyX8_picksBatch zvX8_picksBatch rfl zlX8_159 zcX8.1 ⟨_, _, rfl⟩ [(0, none)] rfl (by decide) rfl (w' := [cX8 g a r4.2]) rfl rfl rfl (by decide) (Nat.le_of_ble_eq_true rfl) ⟨Nat.zero_le _, Nat.zero_le _⟩ dX8_pickAll_38 (st2 := [.int r4.1]) rfl ?_
    cases h
    try dsimp only at hQ
    exact z_iret dX8_pickAll_41 hQ
  · replace h := (if_neg c13).symm.trans h
    refine z_aload_n 0 rfl rfl dX8_pickAll_16 ?_
    refine z_iconst (v := 1) (by decide) dX8_pickAll_17 ?_
    obtain ⟨r5, er5, h⟩ := zb h
    refine z_callVW (rest := []) hl (c_X8_fails l g a r1 1 _ (Option.some.inj er5)) zyX8_fails zvX8_fails rfl zlX8_121 zcX8.1 ⟨_, _, rfl⟩ [(0, none)] rfl (by decide) rfl (w' := [cX8 g a r5.2]) rfl rfl rfl (by decide) (Nat.le_of_ble_eq_true rfl) ⟨Nat.zero_le _, Nat.zero_le _⟩ dX8_pickAll_18 (st2 := [.int r5.1]) rfl ?_
    cases h
    try dsimp only at hQ
    exact z_iret dX8_pickAll_21 hQ
set_option maxHeartbeats 400000 in
set_option maxRecDepth 100000 in
theorem c_X8_undo (l : Launch) (g : zG) (a : Nat → Nat) (u : tX8) (r : Int32 × tX8) (h : f_X8_undo u = some r) : Ctr l g true yX8_undo cX8_undo 2 (some .int) 1 21 0 0 [.ref (a 0)] ([cX8 g a u]) ([cX8 g a r.2]) (some (.int r.1)) := by
  refine ctr_of (by decide) (Nat.le_of_ble_eq_true rfl) (fun X hl _ _ _ hQ => ?_)
  unfold f_X8_undo at h
  refine z_lv (lv' := [(0, .ref (a 0))]) [0] rfl ?_
  refine z_aload_n 0 rfl rfl dX8_undo_0 ?_
  refine z_iconst (v := 0) (by decide) dX8_undo_1 ?_
  refine z_put (t := .int) ([dX8 g a 0 u.2.1 u.2.2.1 u.2.2.2.1 u.2.2.2.2.1 u.2.2.2.2.2.1 u.2.2.2.2.2.2.1 u.2.2.2.2.2.2.2.1 u.2.2.2.2.2.2.2.2.1 u.2.2.2.2.2.2.2.2.2.1 u.2.2.2.2.2.2.2.2.2.2.1 u.2.2.2.2.2.2.2.2.2.2.2.1 u.2.2.2.2.2.2.2.2.2.2.2.2.1 u.2.2.2.2.2.2.2.2.2.2.2.2.2.1 u.2.2.2.2.2.2.2.2.2.2.2.2.2.2.1 u.2.2.2.2.2.2.2.2.2.2.2.2.2.2.2]) zcX8 0 rfl 0 rfl 0 (Nat.le_of_ble_eq_true rfl) zfX8_38 zpX8_0 (zn_i _) (zf_i _) (Nat.le_of_ble_eq_true rfl) rfl dX8_undo_2 ?_
  refine z_aload_n 0 rfl rfl dX8_undo_5 ?_
  refine z_get zcX8 0 rfl 0 rfl 4 (Nat.le_of_ble_eq_true rfl) zfX8_46 (v := .int u.2.2.2.2.1) rfl dX8_undo_6 ?_
  refine z_if_ne (tgt := 18) rfl dX8_undo_9 (fun c9 => ?_) (fun c9 => ?_)
  · replace h := (if_neg c9).symm.trans h
    refine z_aload_n 0 rfl rfl dX8_undo_18 ?_
    refine z_dup rfl dX8_undo_19 ?_
    refine z_get zcX8 0 rfl 0 rfl 4 (Nat.le_of_ble_eq_true rfl) zfX8_46 (v := .int u.2.2.2.2.1) rfl dX8_undo_20 ?_
    refine z_iconst (v := 1) (by decide) dX8_undo_23 ?_
    refine z_isub dX8_undo_24 ?_
    refine z_put (t := .int) ([dX8 g a 0 u.2.1 u.2.2.1 u.2.2.2.1 (u.2.2.2.2.1 - 1) u.2.2.2.2.2.1 u.2.2.2.2.2.2.1 u.2.2.2.2.2.2.2.1 u.2.2.2.2.2.2.2.2.1 u.2.2.2.2.2.2.2.2.2.1 u.2.2.2.2.2.2.2.2.2.2.1 u.2.2.2.2.2.2.2.2.2.2.2.1 u.2.2.2.2.2.2.2.2.2.2.2.2.1 u.2.2.2.2.2.2.2.2.2.2.2.2.2.1 u.2.2.2.2.2.2.2.2.2.2.2.2.2.2.1 u.2.2.2.2.2.2.2.2.2.2.2.2.2.2.2]) zcX8 0 rfl 0 rfl 4 (Nat.le_of_ble_eq_true rfl) zfX8_46 zpX8_4 (zn_i _) (zf_i _) (Nat.le_of_ble_eq_true rfl) rfl dX8_undo_25 ?_
    refine z_iconst (v := 0) (by decide) dX8_undo_28 ?_
    refine z_istore_n [(1, .int 0), (0, .ref (a 0))] rfl (Nat.le_of_ble_eq_true rfl) rfl dX8_undo_29 ?_
    obtain ⟨z1, ez1, h⟩ := zb h
    refine z_lv (lv' := [(0, .ref (a 0)), (1, .int 0)]) [1, 0] rfl ?_
    suffices hk30 : (fun (s30 : Int32 × zF) => Z true RX8 cX8_undo 2 1 21 g X 0 0 ([dX8 g a 0 s30.2 u.2.2.1 u.2.2.2.1 (u.2.2.2.2.1 - 1) u.2.2.2.2.2.1 u.2.2.2.2.2.2.1 u.2.2.2.2.2.2.2.1 u.2.2.2.2.2.2.2.2.1 u.2.2.2.2.2.2.2.2.2.1 u.2.2.2.2.2.2.2.2.2.2.1 u.2.2.2.2.2.2.2.2.2.2.2.1 u.2.2.2.2.2.2.2.2.2.2.2.2.1 u.2.2.2.2.2.2.2.2.2.2.2.2.2.1 u.2.2.2.2.2.2.2.2.2.2.2.2.2.2.1 u.2.2.2.2.2.2.2.2.2.2.2.2.2.2.2]) [(0, .ref (a 0)), (1, .int s30.1)] 30 []) (0, u.2.1) by try dsimp only at hk30; exact hk30
    refine lp_ind (σ := Int32 × zF) (ε := zF) (b_X8_undo_30 u) (fun s30 => Z true RX8 cX8_undo 2 1 21 g X 0 0 ([dX8 g a 0 s30.2 u.2.2.1 u.2.2.2.1 (u.2.2.2.2.1 - 1) u.2.2.2.2.2.1 u.2.2.2.2.2.2.1 u.2.2.2.2.2.2.2.1 u.2.2.2.2.2.2.2.2.1 u.2.2.2.2.2.2.2.2.2.1 u.2.2.2.2.2.2.2.2.2.2.1 u.2.2.2.2.2.2.2.2.2.2.2.1 u.2.2.2.2.2.2.2.2.2.2.2.2.1 u.2.2.2.2.2.2.2.2.2.2.2.2.2.1 u.2.2.2.2.2.2.2.2.2.2.2.2.2.2.1 u.2.2.2.2.2.2.2.2.2.2.2.2.2.2.2]) [(0, .ref (a 0)), (1, .int s30.1)] 30 []) (fun z1 => Z true RX8 cX8_undo 2 1 21 g X 0 0 ([dX8 g a 0 z1 u.2.2.1 u.2.2.2.1 (u.2.2.2.2.1 - 1) u.2.2.2.2.2.1 u.2.2.2.2.2.2.1 u.2.2.2.2.2.2.2.1 u.2.2.2.2.2.2.2.2.1 u.2.2.2.2.2.2.2.2.2.1 u.2.2.2.2.2.2.2.2.2.2.1 u.2.2.2.2.2.2.2.2.2.2.2.1 u.2.2.2.2.2.2.2.2.2.2.2.2.1 u.2.2.2.2.2.2.2.2.2.2.2.2.2.1 u.2.2.2.2.2.2.2.2.2.2.2.2.2.2.1 u.2.2.2.2.2.2.2.2.2.2.2.2.2.2.2]) [(0, .ref (a 0))] 64 []) (fun s30 q30 h30 i30 x30 => ?_) 5000 (0, u.2.1) z1 ez1 ?_
    · unfold b_X8_undo_30 at h30
      refine z_iload_n 1 rfl rfl dX8_undo_30 ?_
      refine z_sipush (v := 142) (by decide) dX8_undo_31 ?_
      refine z_icmp_ge (tgt := 64) rfl dX8_undo_34 (fun c34 => ?_) (fun c34 => ?_)
      · replace h30 := (if_pos c34).symm.trans h30
        cases h30
        have k30 := x30 s30.2 rfl
        try dsimp only at k30
        exact z_lv [0] rfl k30
      · replace h30 := (if_neg c34).symm.trans h30
        refine z_aload_n 0 rfl rfl dX8_undo_37 ?_
        refine z_get zcX8 0 rfl 0 rfl 1 (Nat.le_of_ble_eq_true rfl) zfX8_7 (v := .ref (a 1)) rfl dX8_undo_38 ?_
        refine z_iload_n 1 rfl rfl dX8_undo_41 ?_
        refine z_aload_n 0 rfl rfl dX8_undo_42 ?_
        refine z_get zcX8 0 rfl 0 rfl 3 (Nat.le_of_ble_eq_true rfl) zfX8_16 (v := .ref (a 3)) rfl dX8_undo_43 ?_
        refine z_sipush (v := 142) (by decide) dX8_undo_46 ?_
        refine z_aload_n 0 rfl rfl dX8_undo_49 ?_
        refine z_get zcX8 0 rfl 0 rfl 4 (Nat.le_of_ble_eq_true rfl) zfX8_46 (v := .int (u.2.2.2.2.1 - 1)) rfl dX8_undo_50 ?_
        refine z_imul dX8_undo_53 ?_
        refine z_iload_n 1 rfl rfl dX8_undo_54 ?_
        refine z_iadd dX8_undo_55 ?_
        obtain ⟨r2, er2, h30⟩ := zb h30
        refine z_iald 0 rfl 3 rfl er2 dX8_undo_56 ?_
        obtain ⟨r3, er3, h30⟩ := zb h30
        refine z_iast ([dX8 g a 0 r3 u.2.2.1 u.2.2.2.1 (u.2.2.2.2.1 - 1) u.2.2.2.2.2.1 u.2.2.2.2.2.2.1 u.2.2.2.2.2.2.2.1 u.2.2.2.2.2.2.2.2.1 u.2.2.2.2.2.2.2.2.2.1 u.2.2.2.2.2.2.2.2.2.2.1 u.2.2.2.2.2.2.2.2.2.2.2.1 u.2.2.2.2.2.2.2.2.2.2.2.2.1 u.2.2.2.2.2.2.2.2.2.2.2.2.2.1 u.2.2.2.2.2.2.2.2.2.2.2.2.2.2.1 u.2.2.2.2.2.2.2.2.2.2.2.2.2.2.2]) 0 rfl 1 rfl er3 rfl dX8_undo_57 ?_
        refine z_iinc 1 [(1, .int (s30.1 + 1)), (0, .ref (a 0))] rfl (v := (s30.1 + 1)) zinc (Nat.le_of_ble_eq_true rfl) rfl dX8_undo_58 ?_
        refine z_goto (tgt := 30) rfl dX8_undo_61 ?_
        cases h30
        have k30 := i30 ((s30.1 + 1), r3) rfl
        try dsimp only at k30
        exact z_lv [1, 0] rfl k30
    · skip
      refine z_aload_n 0 rfl rfl dX8_undo_64 ?_
      refine z_get zcX8 0 rfl 0 rfl 4 (Nat.le_of_ble_eq_true rfl) zfX8_46 (v := .int (u.2.2.2.2.1 - 1)) rfl dX8_undo_65 ?_
      cases h
      try dsimp only at hQ
      exact z_iret dX8_undo_68 hQ
  · replace h := (if_pos c9).symm.trans h
    refine z_aload_n 0 rfl rfl dX8_undo_12 ?_
    refine z_iconst (v := 1) (by decide) dX8_undo_13 ?_
    obtain ⟨r4, er4, h⟩ := zb h
    refine z_callVW (rest := []) hl (c_X8_fails l g a (0, u.2.1, u.2.2.1, u.2.2.2.1, u.2.2.2.2.1, u.2.2.2.2.2.1, u.2.2.2.2.2.2.1, u.2.2.2.2.2.2.2.1, u.2.2.2.2.2.2.2.2.1, u.2.2.2.2.2.2.2.2.2.1, u.2.2.2.2.2.2.2.2.2.2.1, u.2.2.2.2.2.2.2.2.2.2.2.1, u.2.2.2.2.2.2.2.2.2.2.2.2.1, u.2.2.2.2.2.2.2.2.2.2.2.2.2.1, u.2.2.2.2.2.2.2.2.2.2.2.2.2.2.1, u.2.2.2.2.2.2.2.2.2.2.2.2.2.2.2) 1 _ (Option.some.inj er4)) zyX8_fails zvX8_fails rfl zlX8_121 zcX8.1 ⟨_, _, rfl⟩ [(0, none)] rfl (by decide) rfl (w' := [cX8 g a r4.2]) rfl rfl rfl (by decide) (Nat.le_of_ble_eq_true rfl) ⟨Nat.zero_le _, Nat.zero_le _⟩ dX8_undo_14 (st2 := [.int r4.1]) rfl ?_
    cases h
    try dsimp only at hQ
    exact z_iret dX8_undo_17 hQ
set_option maxHeartbeats 400000 in
set_option maxRecDepth 100000 in
theorem c_X8_tellsDrawer (l : Launch) (g : zG) (a : Nat → Nat) (u : tX8) (p0 : Int32) (p1 : Int32) (r : Int32) (h : f_X8_tellsDrawer u p0 p1 = some r) : Ctr l g false yX8_tellsDrawer cX8_tellsDrawer 3 (some .int) 2 46 0 0 [.ref (a 0), .int p0, .int p1] ([cX8 g a u]) ([cX8 g a u]) (some (.int r)) := by
  refine ctr_of (by decide) (Nat.le_of_ble_eq_true rfl) (fun X hl _ _ _ hQ => ?_)
  unfold f_X8_tellsDrawer at h
  refine z_lv (lv' := [(0, .ref (a 0)), (1, .int p0), (2, .int p1)]) [0, 1, 2] rfl ?_
  refine z_iload_n 2 rfl rfl dX8_tellsDrawer_0 ?_
  by_cases c1_0 : p1 = (0 : Int32)
  · replace h := (if_pos c1_0).symm.trans h
    refine z_tabIn (tgt := 36) (off := 35) (by rw [c1_0]; decide) (by rw [c1_0]; decide) (by rw [c1_0]; rfl) rfl dX8_tellsDrawer_1 ?_
    refine z_aload_n 0 rfl rfl dX8_tellsDrawer_36 ?_
    refine z_iload_n 1 rfl rfl dX8_tellsDrawer_37 ?_
    obtain ⟨r1, er1, h⟩ := zb h
    refine z_callVR (rest := []) hl (c_X8_loadOf l g a u p0 _ er1) zyX8_loadOf zvX8_loadOf rfl zlX8_124 zcX8.1 ⟨_, _, rfl⟩ [(0, none)] rfl rfl rfl (by decide) (Nat.le_of_ble_eq_true rfl) ⟨Nat.zero_le _, Nat.zero_le _⟩ dX8_tellsDrawer_38 (st2 := [.int r1]) rfl ?_
    cases h
    exact z_iret dX8_tellsDrawer_41 hQ
  · replace h := (if_neg c1_0).symm.trans h
    by_cases c1_1 : p1 = (1 : Int32)
    · replace h := (if_pos c1_1).symm.trans h
      refine z_tabIn (tgt := 42) (off := 41) (by rw [c1_1]; decide) (by rw [c1_1]; decide) (by rw [c1_1]; rfl) rfl dX8_tellsDrawer_1 ?_
      refine z_aload_n 0 rfl rfl dX8_tellsDrawer_42 ?_
      refine z_iload_n 1 rfl rfl dX8_tellsDrawer_43 ?_
      obtain ⟨r2, er2, h⟩ := zb h
      refine z_callVR (rest := []) hl (c_X8_itemsOf l g a u p0 _ er2) zyX8_itemsOf zvX8_itemsOf rfl zlX8_162 zcX8.1 ⟨_, _, rfl⟩ [(0, none)] rfl rfl rfl (by decide) (Nat.le_of_ble_eq_true rfl) ⟨Nat.zero_le _, Nat.zero_le _⟩ dX8_tellsDrawer_44 (st2 := [.int r2]) rfl ?_
      cases h
      exact z_iret dX8_tellsDrawer_47 hQ
    · replace h := (if_neg c1_1).symm.trans h
      by_cases c1_2 : p1 = (2 : Int32)
      · replace h := (if_pos c1_2).symm.trans h
        refine z_tabIn (tgt := 48) (off := 47) (by rw [c1_2]; decide) (by rw [c1_2]; decide) (by rw [c1_2]; rfl) rfl dX8_tellsDrawer_1 ?_
        refine z_iload_n 1 rfl rfl dX8_tellsDrawer_48 ?_
        refine z_aload_n 0 rfl rfl dX8_tellsDrawer_49 ?_
        refine z_get zcX8 0 rfl 0 rfl 1 (Nat.le_of_ble_eq_true rfl) zfX8_7 (v := .ref (a 1)) rfl dX8_tellsDrawer_50 ?_
        refine z_iconst (v := 3) (by decide) dX8_tellsDrawer_53 ?_
        obtain ⟨r3, er3, h⟩ := zb h
        refine z_iald 0 rfl 1 rfl er3 dX8_tellsDrawer_54 ?_
        refine z_callSR (rest := []) hl (c_X8_placeOf l g p0 r3 _ rfl) zyX8_placeOf zsX8_placeOf zlX8_53 [] rfl rfl rfl (by decide) (Nat.le_of_ble_eq_true rfl) ⟨Nat.zero_le _, Nat.zero_le _⟩ dX8_tellsDrawer_55 (st2 := [.int (f_X8_placeOf p0 r3)]) rfl ?_
        cases h
        exact z_iret dX8_tellsDrawer_58 hQ
      · replace h := (if_neg c1_2).symm.trans h
        by_cases c1_3 : p1 = (3 : Int32)
        · replace h := (if_pos c1_3).symm.trans h
          refine z_tabIn (tgt := 59) (off := 58) (by rw [c1_3]; decide) (by rw [c1_3]; decide) (by rw [c1_3]; rfl) rfl dX8_tellsDrawer_1 ?_
          refine z_aload_n 0 rfl rfl dX8_tellsDrawer_59 ?_
          refine z_get zcX8 0 rfl 0 rfl 1 (Nat.le_of_ble_eq_true rfl) zfX8_7 (v := .ref (a 1)) rfl dX8_tellsDrawer_60 ?_
          refine z_bipush (v := 10) (by decide) dX8_tellsDrawer_63 ?_
          refine z_iload_n 1 rfl rfl dX8_tellsDrawer_65 ?_
          refine z_iadd dX8_tellsDrawer_66 ?_
          obtain ⟨r4, er4, h⟩ := zb h
          refine z_iald 0 rfl 1 rfl er4 dX8_tellsDrawer_67 ?_
          cases h
          exact z_iret dX8_tellsDrawer_68 hQ
        · replace h := (if_neg c1_3).symm.trans h
          by_cases c1_4 : p1 = (4 : Int32)
          · replace h := (if_pos c1_4).symm.trans h
            refine z_tabIn (tgt := 69) (off := 68) (by rw [c1_4]; decide) (by rw [c1_4]; decide) (by rw [c1_4]; rfl) rfl dX8_tellsDrawer_1 ?_
            refine z_aload_n 0 rfl rfl dX8_tellsDrawer_69 ?_
            refine z_iload_n 1 rfl rfl dX8_tellsDrawer_70 ?_
            obtain ⟨r5, er5, h⟩ := zb h
            refine z_callVR (rest := []) hl (c_X8_imbalance l g a u p0 _ er5) zyX8_imbalance zvX8_imbalance rfl zlX8_56 zcX8.1 ⟨_, _, rfl⟩ [(0, none)] rfl rfl rfl (by decide) (Nat.le_of_ble_eq_true rfl) ⟨Nat.zero_le _, Nat.zero_le _⟩ dX8_tellsDrawer_71 (st2 := [.int r5]) rfl ?_
            cases h
            exact z_iret dX8_tellsDrawer_74 hQ
          · replace h := (if_neg c1_4).symm.trans h
            have n1_0 := lv_neT c1_0 (a := 0) rfl
            have n1_1 := lv_neT c1_1 (a := 1) rfl
            have n1_2 := lv_neT c1_2 (a := 2) rfl
            have n1_3 := lv_neT c1_3 (a := 3) rfl
            have n1_4 := lv_neT c1_4 (a := 4) rfl
            refine z_tabOut (tgt := 75) (by omega) rfl dX8_tellsDrawer_1 ?_
            refine z_aload_n 0 rfl rfl dX8_tellsDrawer_75 ?_
            refine z_get zcX8 0 rfl 0 rfl 1 (Nat.le_of_ble_eq_true rfl) zfX8_7 (v := .ref (a 1)) rfl dX8_tellsDrawer_76 ?_
            refine z_iconst (v := 1) (by decide) dX8_tellsDrawer_79 ?_
            obtain ⟨r6, er6, h⟩ := zb h
            refine z_iald 0 rfl 1 rfl er6 dX8_tellsDrawer_80 ?_
            refine z_aload_n 0 rfl rfl dX8_tellsDrawer_81 ?_
            refine z_iload_n 1 rfl rfl dX8_tellsDrawer_82 ?_
            obtain ⟨r7, er7, h⟩ := zb h
            refine z_callVR (rest := [.int r6]) hl (c_X8_loadOf l g a u p0 _ er7) zyX8_loadOf zvX8_loadOf rfl zlX8_124 zcX8.1 ⟨_, _, rfl⟩ [(0, none)] rfl rfl rfl (by decide) (Nat.le_of_ble_eq_true rfl) ⟨Nat.zero_le _, Nat.zero_le _⟩ dX8_tellsDrawer_83 (st2 := [.int r7, .int r6]) rfl ?_
            refine z_isub dX8_tellsDrawer_86 ?_
            cases h
            exact z_iret dX8_tellsDrawer_87 hQ
set_option maxHeartbeats 400000 in
set_option maxRecDepth 100000 in
theorem c_X8_drawer (l : Launch) (g : zG) (a : Nat → Nat) (u : tX8) (p0 : Int32) (p1 : Int32) (r : Int32 × tX8) (h : f_X8_drawer u p0 p1 = some r) : Ctr l g true yX8_drawer cX8_drawer 3 (some .int) 3 68 0 0 [.ref (a 0), .int p0, .int p1] ([cX8 g a u]) ([cX8 g a r.2]) (some (.int r.1)) := by
  refine ctr_of (by decide) (Nat.le_of_ble_eq_true rfl) (fun X hl _ _ _ hQ => ?_)
  unfold f_X8_drawer at h
  refine z_lv (lv' := [(0, .ref (a 0)), (1, .int p0), (2, .int p1)]) [0, 1, 2] rfl ?_
  refine z_aload_n 0 rfl rfl dX8_drawer_0 ?_
  refine z_iconst (v := 0) (by decide) dX8_drawer_1 ?_
  refine z_put (t := .int) ([dX8 g a 0 u.2.1 u.2.2.1 u.2.2.2.1 u.2.2.2.2.1 u.2.2.2.2.2.1 u.2.2.2.2.2.2.1 u.2.2.2.2.2.2.2.1 u.2.2.2.2.2.2.2.2.1 u.2.2.2.2.2.2.2.2.2.1 u.2.2.2.2.2.2.2.2.2.2.1 u.2.2.2.2.2.2.2.2.2.2.2.1 u.2.2.2.2.2.2.2.2.2.2.2.2.1 u.2.2.2.2.2.2.2.2.2.2.2.2.2.1 u.2.2.2.2.2.2.2.2.2.2.2.2.2.2.1 u.2.2.2.2.2.2.2.2.2.2.2.2.2.2.2]) zcX8 0 rfl 0 rfl 0 (Nat.le_of_ble_eq_true rfl) zfX8_38 zpX8_0 (zn_i _) (zf_i _) (Nat.le_of_ble_eq_true rfl) rfl dX8_drawer_2 ?_
  refine z_iload_n 1 rfl rfl dX8_drawer_5 ?_
  refine z_callSR (rest := []) hl (c_X8_isDrawer l g p0 _ rfl) zyX8_isDrawer zsX8_isDrawer zlX8_117 [] rfl rfl rfl (by decide) (Nat.le_of_ble_eq_true rfl) ⟨Nat.zero_le _, Nat.zero_le _⟩ dX8_drawer_6 (st2 := [.int (b2i (f_X8_isDrawer p0))]) rfl ?_
  refine z_ifB_ne (tgt := 18) rfl dX8_drawer_9 (fun c9 => ?_) (fun c9 => ?_)
  · replace h := (if_pos c9).symm.trans h
    refine z_iload_n 2 rfl rfl dX8_drawer_18 ?_
    refine z_iconst (v := 0) (by decide) dX8_drawer_19 ?_
    refine z_iconst (v := 5) (by decide) dX8_drawer_20 ?_
    refine z_callSR (rest := []) hl (c_X8_in l g p1 0 5 _ rfl) zyX8_in zsX8_in zlX8_42 [] rfl rfl rfl (by decide) (Nat.le_of_ble_eq_true rfl) ⟨Nat.zero_le _, Nat.zero_le _⟩ dX8_drawer_21 (st2 := [.int (b2i (f_X8_in p1 0 5))]) rfl ?_
    refine z_ifB_eq (tgt := 36) rfl dX8_drawer_24 (fun c24 => ?_) (fun c24 => ?_)
    · replace h := (if_neg c24).symm.trans h
      refine z_aload_n 0 rfl rfl dX8_drawer_36 ?_
      refine z_iconst (v := 2) (by decide) dX8_drawer_37 ?_
      obtain ⟨r1, er1, h⟩ := zb h
      refine z_callVW (rest := []) hl (c_X8_fails l g a (0, u.2.1, u.2.2.1, u.2.2.2.1, u.2.2.2.2.1, u.2.2.2.2.2.1, u.2.2.2.2.2.2.1, u.2.2.2.2.2.2.2.1, u.2.2.2.2.2.2.2.2.1, u.2.2.2.2.2.2.2.2.2.1, u.2.2.2.2.2.2.2.2.2.2.1, u.2.2.2.2.2.2.2.2.2.2.2.1, u.2.2.2.2.2.2.2.2.2.2.2.2.1, u.2.2.2.2.2.2.2.2.2.2.2.2.2.1, u.2.2.2.2.2.2.2.2.2.2.2.2.2.2.1, u.2.2.2.2.2.2.2.2.2.2.2.2.2.2.2) 2 _ (Option.some.inj er1)) zyX8_fails zvX8_fails rfl zlX8_121 zcX8.1 ⟨_, _, rfl⟩ [(0, none)] rfl (by decide) rfl (w' := [cX8 g a r1.2]) rfl rfl rfl (by decide) (Nat.le_of_ble_eq_true rfl) ⟨Nat.zero_le _, Nat.zero_le _⟩ dX8_drawer_38 (st2 := [.int r1.1]) rfl ?_
      cases h
      try dsimp only at hQ
      exact z_iret dX8_drawer_41 hQ
    · replace h := (if_pos c24).symm.trans h
      refine z_aload_n 0 rfl rfl dX8_drawer_27 ?_
      refine z_iload_n 1 rfl rfl dX8_drawer_28 ?_
      refine z_iload_n 2 rfl rfl dX8_drawer_29 ?_
      obtain ⟨r2, er2, h⟩ := zb h
      refine z_callVR (rest := []) hl (c_X8_tellsDrawer l g a (0, u.2.1, u.2.2.1, u.2.2.2.1, u.2.2.2.2.1, u.2.2.2.2.2.1, u.2.2.2.2.2.2.1, u.2.2.2.2.2.2.2.1, u.2.2.2.2.2.2.2.2.1, u.2.2.2.2.2.2.2.2.2.1, u.2.2.2.2.2.2.2.2.2.2.1, u.2.2.2.2.2.2.2.2.2.2.2.1, u.2.2.2.2.2.2.2.2.2.2.2.2.1, u.2.2.2.2.2.2.2.2.2.2.2.2.2.1, u.2.2.2.2.2.2.2.2.2.2.2.2.2.2.1, u.2.2.2.2.2.2.2.2.2.2.2.2.2.2.2) p0 p1 _ er2) zyX8_tellsDrawer zvX8_tellsDrawer rfl zlX8_165 zcX8.1 ⟨_, _, rfl⟩ [(0, none)] rfl rfl rfl (by decide) (Nat.le_of_ble_eq_true rfl) ⟨Nat.zero_le _, Nat.zero_le _⟩ dX8_drawer_30 (st2 := [.int r2]) rfl ?_
      refine z_goto (tgt := 41) rfl dX8_drawer_33 ?_
      cases h
      try dsimp only at hQ
      exact z_iret dX8_drawer_41 hQ
  · replace h := (if_neg c9).symm.trans h
    refine z_aload_n 0 rfl rfl dX8_drawer_12 ?_
    refine z_iconst (v := 1) (by decide) dX8_drawer_13 ?_
    obtain ⟨r3, er3, h⟩ := zb h
    refine z_callVW (rest := []) hl (c_X8_fails l g a (0, u.2.1, u.2.2.1, u.2.2.2.1, u.2.2.2.2.1, u.2.2.2.2.2.1, u.2.2.2.2.2.2.1, u.2.2.2.2.2.2.2.1, u.2.2.2.2.2.2.2.2.1, u.2.2.2.2.2.2.2.2.2.1, u.2.2.2.2.2.2.2.2.2.2.1, u.2.2.2.2.2.2.2.2.2.2.2.1, u.2.2.2.2.2.2.2.2.2.2.2.2.1, u.2.2.2.2.2.2.2.2.2.2.2.2.2.1, u.2.2.2.2.2.2.2.2.2.2.2.2.2.2.1, u.2.2.2.2.2.2.2.2.2.2.2.2.2.2.2) 1 _ (Option.some.inj er3)) zyX8_fails zvX8_fails rfl zlX8_121 zcX8.1 ⟨_, _, rfl⟩ [(0, none)] rfl (by decide) rfl (w' := [cX8 g a r3.2]) rfl rfl rfl (by decide) (Nat.le_of_ble_eq_true rfl) ⟨Nat.zero_le _, Nat.zero_le _⟩ dX8_drawer_14 (st2 := [.int r3.1]) rfl ?_
    cases h
    try dsimp only at hQ
    exact z_iret dX8_drawer_17 hQ
set_option maxHeartbeats 400000 in
set_option maxRecDepth 100000 in
theorem c_X8_item (l : Launch) (g : zG) (a : Nat → Nat) (u : tX8) (p0 : Int32) (p1 : Int32) (r : Int32 × tX8) (h : f_X8_item u p0 p1 = some r) : Ctr l g true yX8_item cX8_item 4 (some .int) 2 44 0 0 [.ref (a 0), .int p0, .int p1] ([cX8 g a u]) ([cX8 g a r.2]) (some (.int r.1)) := by
  refine ctr_of (by decide) (Nat.le_of_ble_eq_true rfl) (fun X hl _ _ _ hQ => ?_)
  unfold f_X8_item at h
  refine z_lv (lv' := [(0, .ref (a 0)), (1, .int p0), (2, .int p1)]) [0, 1, 2] rfl ?_
  refine z_aload_n 0 rfl rfl dX8_item_0 ?_
  refine z_iconst (v := 0) (by decide) dX8_item_1 ?_
  refine z_put (t := .int) ([dX8 g a 0 u.2.1 u.2.2.1 u.2.2.2.1 u.2.2.2.2.1 u.2.2.2.2.2.1 u.2.2.2.2.2.2.1 u.2.2.2.2.2.2.2.1 u.2.2.2.2.2.2.2.2.1 u.2.2.2.2.2.2.2.2.2.1 u.2.2.2.2.2.2.2.2.2.2.1 u.2.2.2.2.2.2.2.2.2.2.2.1 u.2.2.2.2.2.2.2.2.2.2.2.2.1 u.2.2.2.2.2.2.2.2.2.2.2.2.2.1 u.2.2.2.2.2.2.2.2.2.2.2.2.2.2.1 u.2.2.2.2.2.2.2.2.2.2.2.2.2.2.2]) zcX8 0 rfl 0 rfl 0 (Nat.le_of_ble_eq_true rfl) zfX8_38 zpX8_0 (zn_i _) (zf_i _) (Nat.le_of_ble_eq_true rfl) rfl dX8_item_2 ?_
  refine z_iload_n 1 rfl rfl dX8_item_5 ?_
  refine z_iconst (v := 0) (by decide) dX8_item_6 ?_
  refine z_aload_n 0 rfl rfl dX8_item_7 ?_
  refine z_get zcX8 0 rfl 0 rfl 1 (Nat.le_of_ble_eq_true rfl) zfX8_7 (v := .ref (a 1)) rfl dX8_item_8 ?_
  refine z_bipush (v := 8) (by decide) dX8_item_11 ?_
  obtain ⟨r1, er1, h⟩ := zb h
  refine z_iald 0 rfl 1 rfl er1 dX8_item_13 ?_
  refine z_iconst (v := 1) (by decide) dX8_item_14 ?_
  refine z_isub dX8_item_15 ?_
  refine z_callSR (rest := []) hl (c_X8_in l g p0 0 (r1 - 1) _ rfl) zyX8_in zsX8_in zlX8_42 [] rfl rfl rfl (by decide) (Nat.le_of_ble_eq_true rfl) ⟨Nat.zero_le _, Nat.zero_le _⟩ dX8_item_16 (st2 := [.int (b2i (f_X8_in p0 0 (r1 - 1)))]) rfl ?_
  refine z_ifB_ne (tgt := 28) rfl dX8_item_19 (fun c19 => ?_) (fun c19 => ?_)
  · replace h := (if_pos c19).symm.trans h
    refine z_iload_n 2 rfl rfl dX8_item_28 ?_
    refine z_iconst (v := 0) (by decide) dX8_item_29 ?_
    refine z_iconst (v := 1) (by decide) dX8_item_30 ?_
    refine z_callSR (rest := []) hl (c_X8_in l g p1 0 1 _ rfl) zyX8_in zsX8_in zlX8_42 [] rfl rfl rfl (by decide) (Nat.le_of_ble_eq_true rfl) ⟨Nat.zero_le _, Nat.zero_le _⟩ dX8_item_31 (st2 := [.int (b2i (f_X8_in p1 0 1))]) rfl ?_
    refine z_ifB_ne (tgt := 43) rfl dX8_item_34 (fun c34 => ?_) (fun c34 => ?_)
    · replace h := (if_pos c34).symm.trans h
      refine z_aload_n 0 rfl rfl dX8_item_43 ?_
      refine z_iload_n 1 rfl rfl dX8_item_44 ?_
      obtain ⟨r2, er2, h⟩ := zb h
      refine z_callVR (rest := []) hl (c_X8_placeOfItem l g a (0, u.2.1, u.2.2.1, u.2.2.2.1, u.2.2.2.2.1, u.2.2.2.2.2.1, u.2.2.2.2.2.2.1, u.2.2.2.2.2.2.2.1, u.2.2.2.2.2.2.2.2.1, u.2.2.2.2.2.2.2.2.2.1, u.2.2.2.2.2.2.2.2.2.2.1, u.2.2.2.2.2.2.2.2.2.2.2.1, u.2.2.2.2.2.2.2.2.2.2.2.2.1, u.2.2.2.2.2.2.2.2.2.2.2.2.2.1, u.2.2.2.2.2.2.2.2.2.2.2.2.2.2.1, u.2.2.2.2.2.2.2.2.2.2.2.2.2.2.2) p0 _ er2) zyX8_placeOfItem zvX8_placeOfItem rfl zlX8_70 zcX8.1 ⟨_, _, rfl⟩ [(0, none)] rfl rfl rfl (by decide) (Nat.le_of_ble_eq_true rfl) ⟨Nat.zero_le _, Nat.zero_le _⟩ dX8_item_45 (st2 := [.int r2]) rfl ?_
      refine z_istore_n [(3, .int r2), (0, .ref (a 0)), (1, .int p0), (2, .int p1)] rfl (Nat.le_of_ble_eq_true rfl) rfl dX8_item_48 ?_
      refine z_iload_n 0 rfl rfl dX8_item_49 ?_
      refine z_iconst (v := (-1)) (by decide) dX8_item_50 ?_
      refine z_icmp_ne (tgt := 58) rfl dX8_item_51 (fun c51 => ?_) (fun c51 => ?_)
      · replace h := (if_neg c51).symm.trans h
        refine z_aload_n 1 rfl rfl dX8_item_58 ?_
        refine z_iload_n 0 rfl rfl dX8_item_59 ?_
        refine z_iconst (v := 1) (by decide) dX8_item_60 ?_
        refine z_iload_n 3 rfl rfl dX8_item_61 ?_
        refine z_iadd dX8_item_62 ?_
        obtain ⟨r3, er3, h⟩ := zb h
        refine z_callVR (rest := []) hl (c_X8_of l g a (0, u.2.1, u.2.2.1, u.2.2.2.1, u.2.2.2.2.1, u.2.2.2.2.2.1, u.2.2.2.2.2.2.1, u.2.2.2.2.2.2.2.1, u.2.2.2.2.2.2.2.2.1, u.2.2.2.2.2.2.2.2.2.1, u.2.2.2.2.2.2.2.2.2.2.1, u.2.2.2.2.2.2.2.2.2.2.2.1, u.2.2.2.2.2.2.2.2.2.2.2.2.1, u.2.2.2.2.2.2.2.2.2.2.2.2.2.1, u.2.2.2.2.2.2.2.2.2.2.2.2.2.2.1, u.2.2.2.2.2.2.2.2.2.2.2.2.2.2.2) r2 (1 + p1) _ er3) zyX8_of zvX8_of rfl zlX8_49 zcX8.1 ⟨_, _, rfl⟩ [(0, none)] rfl rfl rfl (by decide) (Nat.le_of_ble_eq_true rfl) ⟨Nat.zero_le _, Nat.zero_le _⟩ dX8_item_63 (st2 := [.int r3]) rfl ?_
        cases h
        try dsimp only at hQ
        exact z_iret dX8_item_66 hQ
      · replace h := (if_pos c51).symm.trans h
        refine z_iconst (v := (-1)) (by decide) dX8_item_54 ?_
        refine z_goto (tgt := 66) rfl dX8_item_55 ?_
        cases h
        try dsimp only at hQ
        exact z_iret dX8_item_66 hQ
    · replace h := (if_neg c34).symm.trans h
      refine z_aload_n 0 rfl rfl dX8_item_37 ?_
      refine z_iconst (v := 2) (by decide) dX8_item_38 ?_
      obtain ⟨r4, er4, h⟩ := zb h
      refine z_callVW (rest := []) hl (c_X8_fails l g a (0, u.2.1, u.2.2.1, u.2.2.2.1, u.2.2.2.2.1, u.2.2.2.2.2.1, u.2.2.2.2.2.2.1, u.2.2.2.2.2.2.2.1, u.2.2.2.2.2.2.2.2.1, u.2.2.2.2.2.2.2.2.2.1, u.2.2.2.2.2.2.2.2.2.2.1, u.2.2.2.2.2.2.2.2.2.2.2.1, u.2.2.2.2.2.2.2.2.2.2.2.2.1, u.2.2.2.2.2.2.2.2.2.2.2.2.2.1, u.2.2.2.2.2.2.2.2.2.2.2.2.2.2.1, u.2.2.2.2.2.2.2.2.2.2.2.2.2.2.2) 2 _ (Option.some.inj er4)) zyX8_fails zvX8_fails rfl zlX8_121 zcX8.1 ⟨_, _, rfl⟩ [(0, none)] rfl (by decide) rfl (w' := [cX8 g a r4.2]) rfl rfl rfl (by decide) (Nat.le_of_ble_eq_true rfl) ⟨Nat.zero_le _, Nat.zero_le _⟩ dX8_item_39 (st2 := [.int r4.1]) rfl ?_
      cases h
      try dsimp only at hQ
      exact z_iret dX8_item_42 hQ
  · replace h := (if_neg c19).symm.trans h
    refine z_aload_n 0 rfl rfl dX8_item_22 ?_
    refine z_iconst (v := 1) (by decide) dX8_item_23 ?_
    obtain ⟨r5, er5, h⟩ := zb h
    refine z_callVW (rest := []) hl (c_X8_fails l g a (0, u.2.1, u.2.2.1, u.2.2.2.1, u.2.2.2.2.1, u.2.2.2.2.2.1, u.2.2.2.2.2.2.1, u.2.2.2.2.2.2.2.1, u.2.2.2.2.2.2.2.2.1, u.2.2.2.2.2.2.2.2.2.1, u.2.2.2.2.2.2.2.2.2.2.1, u.2.2.2.2.2.2.2.2.2.2.2.1, u.2.2.2.2.2.2.2.2.2.2.2.2.1, u.2.2.2.2.2.2.2.2.2.2.2.2.2.1, u.2.2.2.2.2.2.2.2.2.2.2.2.2.2.1, u.2.2.2.2.2.2.2.2.2.2.2.2.2.2.2) 1 _ (Option.some.inj er5)) zyX8_fails zvX8_fails rfl zlX8_121 zcX8.1 ⟨_, _, rfl⟩ [(0, none)] rfl (by decide) rfl (w' := [cX8 g a r5.2]) rfl rfl rfl (by decide) (Nat.le_of_ble_eq_true rfl) ⟨Nat.zero_le _, Nat.zero_le _⟩ dX8_item_24 (st2 := [.int r5.1]) rfl ?_
    cases h
    try dsimp only at hQ
    exact z_iret dX8_item_27 hQ
set_option maxHeartbeats 400000 in
set_option maxRecDepth 100000 in
theorem c_X8_loadOfAll (l : Launch) (g : zG) (a : Nat → Nat) (u : tX8) (r : Int32) (h : f_X8_loadOfAll u = some r) : Ctr l g false yX8_loadOfAll cX8_loadOfAll 3 (some .int) 1 22 0 0 [.ref (a 0)] ([cX8 g a u]) ([cX8 g a u]) (some (.int r)) := by
  refine ctr_of (by decide) (Nat.le_of_ble_eq_true rfl) (fun X hl _ _ _ hQ => ?_)
  unfold f_X8_loadOfAll at h
  refine z_lv (lv' := [(0, .ref (a 0))]) [0] rfl ?_
  refine z_iconst (v := 0) (by decide) dX8_loadOfAll_0 ?_
  refine z_istore_n [(1, .int 0), (0, .ref (a 0))] rfl (Nat.le_of_ble_eq_true rfl) rfl dX8_loadOfAll_1 ?_
  refine z_iconst (v := 0) (by decide) dX8_loadOfAll_2 ?_
  refine z_istore_n [(2, .int 0), (1, .int 0), (0, .ref (a 0))] rfl (Nat.le_of_ble_eq_true rfl) rfl dX8_loadOfAll_3 ?_
  obtain ⟨z1, ez1, h⟩ := zb h
  refine z_lv (lv' := [(0, .ref (a 0)), (1, .int 0), (2, .int 0)]) [2, 1, 0] rfl ?_
  suffices hk4 : (fun (s4 : Int32 × Int32) => Z false RX8 cX8_loadOfAll 3 1 22 g X 0 0 ([cX8 g a u]) [(0, .ref (a 0)), (1, .int s4.1), (2, .int s4.2)] 4 []) (0, 0) by try dsimp only at hk4; exact hk4
  refine lp_ind (σ := Int32 × Int32) (ε := Int32) (b_X8_loadOfAll_4 u) (fun s4 => Z false RX8 cX8_loadOfAll 3 1 22 g X 0 0 ([cX8 g a u]) [(0, .ref (a 0)), (1, .int s4.1), (2, .int s4.2)] 4 []) (fun z1 => Z false RX8 cX8_loadOfAll 3 1 22 g X 0 0 ([cX8 g a u]) [(1, .int z1)] 30 []) (fun s4 q4 h4 i4 x4 => ?_) 5000 (0, 0) z1 ez1 ?_
  · unfold b_X8_loadOfAll_4 at h4
    refine z_iload_n 2 rfl rfl dX8_loadOfAll_4 ?_
    refine z_aload_n 0 rfl rfl dX8_loadOfAll_5 ?_
    refine z_get zcX8 0 rfl 0 rfl 1 (Nat.le_of_ble_eq_true rfl) zfX8_7 (v := .ref (a 1)) rfl dX8_loadOfAll_6 ?_
    refine z_bipush (v := 9) (by decide) dX8_loadOfAll_9 ?_
    obtain ⟨r2, er2, h4⟩ := zb h4
    refine z_iald 0 rfl 1 rfl er2 dX8_loadOfAll_11 ?_
    refine z_icmp_ge (tgt := 30) rfl dX8_loadOfAll_12 (fun c12 => ?_) (fun c12 => ?_)
    · replace h4 := (if_pos c12).symm.trans h4
      cases h4
      have k4 := x4 s4.1 rfl
      try dsimp only at k4
      exact z_lv [1] rfl k4
    · replace h4 := (if_neg c12).symm.trans h4
      refine z_iload_n 1 rfl rfl dX8_loadOfAll_15 ?_
      refine z_aload_n 0 rfl rfl dX8_loadOfAll_16 ?_
      refine z_iload_n 2 rfl rfl dX8_loadOfAll_17 ?_
      refine z_iconst (v := 1) (by decide) dX8_loadOfAll_18 ?_
      obtain ⟨r3, er3, h4⟩ := zb h4
      refine z_callVR (rest := [.int s4.1]) hl (c_X8_of l g a u s4.2 1 _ er3) zyX8_of zvX8_of rfl zlX8_49 zcX8.1 ⟨_, _, rfl⟩ [(0, none)] rfl rfl rfl (by decide) (Nat.le_of_ble_eq_true rfl) ⟨Nat.zero_le _, Nat.zero_le _⟩ dX8_loadOfAll_19 (st2 := [.int r3, .int s4.1]) rfl ?_
      refine z_iadd dX8_loadOfAll_22 ?_
      refine z_istore_n [(1, .int (s4.1 + r3)), (0, .ref (a 0)), (2, .int s4.2)] rfl (Nat.le_of_ble_eq_true rfl) rfl dX8_loadOfAll_23 ?_
      refine z_iinc 2 [(2, .int (s4.2 + 1)), (1, .int (s4.1 + r3)), (0, .ref (a 0))] rfl (v := (s4.2 + 1)) zinc (Nat.le_of_ble_eq_true rfl) rfl dX8_loadOfAll_24 ?_
      refine z_goto (tgt := 4) rfl dX8_loadOfAll_27 ?_
      cases h4
      have k4 := i4 ((s4.1 + r3), (s4.2 + 1)) rfl
      try dsimp only at k4
      exact z_lv [2, 1, 0] rfl k4
  · skip
    refine z_iload_n 0 rfl rfl dX8_loadOfAll_30 ?_
    cases h
    exact z_iret dX8_loadOfAll_31 hQ
set_option maxHeartbeats 400000 in
set_option maxRecDepth 100000 in
theorem c_X8_jammed (l : Launch) (g : zG) (a : Nat → Nat) (u : tX8) (r : Int32) (h : f_X8_jammed u = some r) : Ctr l g false yX8_jammed cX8_jammed 3 (some .int) 0 0 0 0 [.ref (a 0)] ([cX8 g a u]) ([cX8 g a u]) (some (.int r)) := by
  refine ctr_of (by decide) (Nat.le_of_ble_eq_true rfl) (fun X hl _ _ _ hQ => ?_)
  unfold f_X8_jammed at h
  refine z_lv (lv' := [(0, .ref (a 0))]) [0] rfl ?_
  refine z_iconst (v := 0) (by decide) dX8_jammed_0 ?_
  refine z_istore_n [(1, .int 0), (0, .ref (a 0))] rfl (Nat.le_of_ble_eq_true rfl) rfl dX8_jammed_1 ?_
  refine z_iconst (v := 0) (by decide) dX8_jammed_2 ?_
  refine z_istore_n [(2, .int 0), (1, .int 0), (0, .ref (a 0))] rfl (Nat.le_of_ble_eq_true rfl) rfl dX8_jammed_3 ?_
  obtain ⟨z1, ez1, h⟩ := zb h
  refine z_lv (lv' := [(0, .ref (a 0)), (1, .int 0), (2, .int 0)]) [2, 1, 0] rfl ?_
  suffices hk4 : (fun (s4 : Int32 × Int32) => Z false RX8 cX8_jammed 3 0 0 g X 0 0 ([cX8 g a u]) [(0, .ref (a 0)), (1, .int s4.1), (2, .int s4.2)] 4 []) (0, 0) by try dsimp only at hk4; exact hk4
  refine lp_ind (σ := Int32 × Int32) (ε := Int32) (b_X8_jammed_4 u) (fun s4 => Z false RX8 cX8_jammed 3 0 0 g X 0 0 ([cX8 g a u]) [(0, .ref (a 0)), (1, .int s4.1), (2, .int s4.2)] 4 []) (fun z1 => Z false RX8 cX8_jammed 3 0 0 g X 0 0 ([cX8 g a u]) [(1, .int z1)] 28 []) (fun s4 q4 h4 i4 x4 => ?_) 5000 (0, 0) z1 ez1 ?_
  · unfold b_X8_jammed_4 at h4
    refine z_iload_n 2 rfl rfl dX8_jammed_4 ?_
    refine z_bipush (v := 12) (by decide) dX8_jammed_5 ?_
    refine z_icmp_ge (tgt := 28) rfl dX8_jammed_7 (fun c7 => ?_) (fun c7 => ?_)
    · replace h4 := (if_pos c7).symm.trans h4
      cases h4
      have k4 := x4 s4.1 rfl
      try dsimp only at k4
      exact z_lv [1] rfl k4
    · replace h4 := (if_neg c7).symm.trans h4
      refine z_iload_n 1 rfl rfl dX8_jammed_10 ?_
      refine z_aload_n 0 rfl rfl dX8_jammed_11 ?_
      refine z_get zcX8 0 rfl 0 rfl 1 (Nat.le_of_ble_eq_true rfl) zfX8_7 (v := .ref (a 1)) rfl dX8_jammed_12 ?_
      refine z_bipush (v := 10) (by decide) dX8_jammed_15 ?_
      refine z_iload_n 2 rfl rfl dX8_jammed_17 ?_
      refine z_iadd dX8_jammed_18 ?_
      obtain ⟨r2, er2, h4⟩ := zb h4
      refine z_iald 0 rfl 1 rfl er2 dX8_jammed_19 ?_
      refine z_iadd dX8_jammed_20 ?_
      refine z_istore_n [(1, .int (s4.1 + r2)), (0, .ref (a 0)), (2, .int s4.2)] rfl (Nat.le_of_ble_eq_true rfl) rfl dX8_jammed_21 ?_
      refine z_iinc 2 [(2, .int (s4.2 + 1)), (1, .int (s4.1 + r2)), (0, .ref (a 0))] rfl (v := (s4.2 + 1)) zinc (Nat.le_of_ble_eq_true rfl) rfl dX8_jammed_22 ?_
      refine z_goto (tgt := 4) rfl dX8_jammed_25 ?_
      cases h4
      have k4 := i4 ((s4.1 + r2), (s4.2 + 1)) rfl
      try dsimp only at k4
      exact z_lv [2, 1, 0] rfl k4
  · skip
    refine z_iload_n 0 rfl rfl dX8_jammed_28 ?_
    cases h
    exact z_iret dX8_jammed_29 hQ
set_option maxHeartbeats 400000 in
set_option maxRecDepth 100000 in
theorem c_X8_counts (l : Launch) (g : zG) (a : Nat → Nat) (u : tX8) (p0 : Int32) (r : Int32) (h : f_X8_counts u p0 = some r) : Ctr l g false yX8_counts cX8_counts 2 (some .int) 3 68 0 0 [.ref (a 0), .int p0] ([cX8 g a u]) ([cX8 g a u]) (some (.int r)) := by
  refine ctr_of (by decide) (Nat.le_of_ble_eq_true rfl) (fun X hl _ _ _ hQ => ?_)
  unfold f_X8_counts at h
  refine z_lv (lv' := [(0, .ref (a 0)), (1, .int p0)]) [0, 1] rfl ?_
  refine z_iload_n 1 rfl rfl dX8_counts_0 ?_
  by_cases c1_0 : p0 = (0 : Int32)
  · replace h := (if_pos c1_0).symm.trans h
    refine z_tabIn (tgt := 60) (off := 59) (by rw [c1_0]; decide) (by rw [c1_0]; decide) (by rw [c1_0]; rfl) rfl dX8_counts_1 ?_
    refine z_aload_n 0 rfl rfl dX8_counts_60 ?_
    refine z_get zcX8 0 rfl 0 rfl 1 (Nat.le_of_ble_eq_true rfl) zfX8_7 (v := .ref (a 1)) rfl dX8_counts_61 ?_
    refine z_iconst (v := 3) (by decide) dX8_counts_64 ?_
    obtain ⟨r1, er1, h⟩ := zb h
    refine z_iald 0 rfl 1 rfl er1 dX8_counts_65 ?_
    cases h
    exact z_iret dX8_counts_66 hQ
  · replace h := (if_neg c1_0).symm.trans h
    by_cases c1_1 : p0 = (1 : Int32)
    · replace h := (if_pos c1_1).symm.trans h
      refine z_tabIn (tgt := 67) (off := 66) (by rw [c1_1]; decide) (by rw [c1_1]; decide) (by rw [c1_1]; rfl) rfl dX8_counts_1 ?_
      refine z_aload_n 0 rfl rfl dX8_counts_67 ?_
      refine z_get zcX8 0 rfl 0 rfl 1 (Nat.le_of_ble_eq_true rfl) zfX8_7 (v := .ref (a 1)) rfl dX8_counts_68 ?_
      refine z_bipush (v := 9) (by decide) dX8_counts_71 ?_
      obtain ⟨r2, er2, h⟩ := zb h
      refine z_iald 0 rfl 1 rfl er2 dX8_counts_73 ?_
      cases h
      exact z_iret dX8_counts_74 hQ
    · replace h := (if_neg c1_1).symm.trans h
      by_cases c1_2 : p0 = (2 : Int32)
      · replace h := (if_pos c1_2).symm.trans h
        refine z_tabIn (tgt := 75) (off := 74) (by rw [c1_2]; decide) (by rw [c1_2]; decide) (by rw [c1_2]; rfl) rfl dX8_counts_1 ?_
        refine z_aload_n 0 rfl rfl dX8_counts_75 ?_
        obtain ⟨r3, er3, h⟩ := zb h
        refine z_callVR (rest := []) hl (c_X8_loadOfAll l g a u _ er3) zyX8_loadOfAll zvX8_loadOfAll rfl zlX8_168 zcX8.1 ⟨_, _, rfl⟩ [(0, none)] rfl rfl rfl (by decide) (Nat.le_of_ble_eq_true rfl) ⟨Nat.zero_le _, Nat.zero_le _⟩ dX8_counts_76 (st2 := [.int r3]) rfl ?_
        cases h
        exact z_iret dX8_counts_79 hQ
      · replace h := (if_neg c1_2).symm.trans h
        by_cases c1_3 : p0 = (3 : Int32)
        · replace h := (if_pos c1_3).symm.trans h
          refine z_tabIn (tgt := 80) (off := 79) (by rw [c1_3]; decide) (by rw [c1_3]; decide) (by rw [c1_3]; rfl) rfl dX8_counts_1 ?_
          refine z_aload_n 0 rfl rfl dX8_counts_80 ?_
          refine z_aload_n 0 rfl rfl dX8_counts_81 ?_
          refine z_get zcX8 0 rfl 0 rfl 1 (Nat.le_of_ble_eq_true rfl) zfX8_7 (v := .ref (a 1)) rfl dX8_counts_82 ?_
          refine z_iconst (v := 3) (by decide) dX8_counts_85 ?_
          obtain ⟨r4, er4, h⟩ := zb h
          refine z_iald 0 rfl 1 rfl er4 dX8_counts_86 ?_
          obtain ⟨r5, er5, h⟩ := zb h
          refine z_callVR (rest := []) hl (c_X8_imbalance l g a u r4 _ er5) zyX8_imbalance zvX8_imbalance rfl zlX8_56 zcX8.1 ⟨_, _, rfl⟩ [(0, none)] rfl rfl rfl (by decide) (Nat.le_of_ble_eq_true rfl) ⟨Nat.zero_le _, Nat.zero_le _⟩ dX8_counts_87 (st2 := [.int r5]) rfl ?_
          cases h
          exact z_iret dX8_counts_90 hQ
        · replace h := (if_neg c1_3).symm.trans h
          by_cases c1_4 : p0 = (4 : Int32)
          · replace h := (if_pos c1_4).symm.trans h
            refine z_tabIn (tgt := 91) (off := 90) (by rw [c1_4]; decide) (by rw [c1_4]; decide) (by rw [c1_4]; rfl) rfl dX8_counts_1 ?_
            refine z_aload_n 0 rfl rfl dX8_counts_91 ?_
            obtain ⟨r6, er6, h⟩ := zb h
            refine z_callVR (rest := []) hl (c_X8_greatest l g a u _ er6) zyX8_greatest zvX8_greatest rfl zlX8_171 zcX8.1 ⟨_, _, rfl⟩ [(0, none)] rfl rfl rfl (by decide) (Nat.le_of_ble_eq_true rfl) ⟨Nat.zero_le _, Nat.zero_le _⟩ dX8_counts_92 (st2 := [.int r6]) rfl ?_
            cases h
            exact z_iret dX8_counts_95 hQ
          · replace h := (if_neg c1_4).symm.trans h
            by_cases c1_5 : p0 = (5 : Int32)
            · replace h := (if_pos c1_5).symm.trans h
              refine z_tabIn (tgt := 106) (off := 105) (by rw [c1_5]; decide) (by rw [c1_5]; decide) (by rw [c1_5]; rfl) rfl dX8_counts_1 ?_
              refine z_aload_n 0 rfl rfl dX8_counts_106 ?_
              refine z_get zcX8 0 rfl 0 rfl 1 (Nat.le_of_ble_eq_true rfl) zfX8_7 (v := .ref (a 1)) rfl dX8_counts_107 ?_
              refine z_iconst (v := 4) (by decide) dX8_counts_110 ?_
              refine z_iload_n 1 rfl rfl dX8_counts_111 ?_
              refine z_iadd dX8_counts_112 ?_
              refine z_iconst (v := 5) (by decide) dX8_counts_113 ?_
              refine z_isub dX8_counts_114 ?_
              obtain ⟨r7, er7, h⟩ := zb h
              refine z_iald 0 rfl 1 rfl er7 dX8_counts_115 ?_
              cases h
              exact z_iret dX8_counts_116 hQ
            · replace h := (if_neg c1_5).symm.trans h
              by_cases c1_6 : p0 = (6 : Int32)
              · replace h := (if_pos c1_6).symm.trans h
                refine z_tabIn (tgt := 106) (off := 105) (by rw [c1_6]; decide) (by rw [c1_6]; decide) (by rw [c1_6]; rfl) rfl dX8_counts_1 ?_
                refine z_aload_n 0 rfl rfl dX8_counts_106 ?_
                refine z_get zcX8 0 rfl 0 rfl 1 (Nat.le_of_ble_eq_true rfl) zfX8_7 (v := .ref (a 1)) rfl dX8_counts_107 ?_
                refine z_iconst (v := 4) (by decide) dX8_counts_110 ?_
                refine z_iload_n 1 rfl rfl dX8_counts_111 ?_
                refine z_iadd dX8_counts_112 ?_
                refine z_iconst (v := 5) (by decide) dX8_counts_113 ?_
                refine z_isub dX8_counts_114 ?_
                obtain ⟨r8, er8, h⟩ := zb h
                refine z_iald 0 rfl 1 rfl er8 dX8_counts_115 ?_
                cases h
                exact z_iret dX8_counts_116 hQ
              · replace h := (if_neg c1_6).symm.trans h
                by_cases c1_7 : p0 = (7 : Int32)
                · replace h := (if_pos c1_7).symm.trans h
                  refine z_tabIn (tgt := 106) (off := 105) (by rw [c1_7]; decide) (by rw [c1_7]; decide) (by rw [c1_7]; rfl) rfl dX8_counts_1 ?_
                  refine z_aload_n 0 rfl rfl dX8_counts_106 ?_
                  refine z_get zcX8 0 rfl 0 rfl 1 (Nat.le_of_ble_eq_true rfl) zfX8_7 (v := .ref (a 1)) rfl dX8_counts_107 ?_
                  refine z_iconst (v := 4) (by decide) dX8_counts_110 ?_
                  refine z_iload_n 1 rfl rfl dX8_counts_111 ?_
                  refine z_iadd dX8_counts_112 ?_
                  refine z_iconst (v := 5) (by decide) dX8_counts_113 ?_
                  refine z_isub dX8_counts_114 ?_
                  obtain ⟨r9, er9, h⟩ := zb h
                  refine z_iald 0 rfl 1 rfl er9 dX8_counts_115 ?_
                  cases h
                  exact z_iret dX8_counts_116 hQ
                · replace h := (if_neg c1_7).symm.trans h
                  by_cases c1_8 : p0 = (8 : Int32)
                  · replace h := (if_pos c1_8).symm.trans h
                    refine z_tabIn (tgt := 106) (off := 105) (by rw [c1_8]; decide) (by rw [c1_8]; decide) (by rw [c1_8]; rfl) rfl dX8_counts_1 ?_
                    refine z_aload_n 0 rfl rfl dX8_counts_106 ?_
                    refine z_get zcX8 0 rfl 0 rfl 1 (Nat.le_of_ble_eq_true rfl) zfX8_7 (v := .ref (a 1)) rfl dX8_counts_107 ?_
                    refine z_iconst (v := 4) (by decide) dX8_counts_110 ?_
                    refine z_iload_n 1 rfl rfl dX8_counts_111 ?_
                    refine z_iadd dX8_counts_112 ?_
                    refine z_iconst (v := 5) (by decide) dX8_counts_113 ?_
                    refine z_isub dX8_counts_114 ?_
                    obtain ⟨r10, er10, h⟩ := zb h
                    refine z_iald 0 rfl 1 rfl er10 dX8_counts_115 ?_
                    cases h
                    exact z_iret dX8_counts_116 hQ
                  · replace h := (if_neg c1_8).symm.trans h
                    by_cases c1_9 : p0 = (9 : Int32)
                    · replace h := (if_pos c1_9).symm.trans h
                      refine z_tabIn (tgt := 96) (off := 95) (by rw [c1_9]; decide) (by rw [c1_9]; decide) (by rw [c1_9]; rfl) rfl dX8_counts_1 ?_
                      refine z_aload_n 0 rfl rfl dX8_counts_96 ?_
                      obtain ⟨r11, er11, h⟩ := zb h
                      refine z_callVR (rest := []) hl (c_X8_jammed l g a u _ er11) zyX8_jammed zvX8_jammed rfl zlX8_174 zcX8.1 ⟨_, _, rfl⟩ [(0, none)] rfl rfl rfl (by decide) (Nat.le_of_ble_eq_true rfl) ⟨Nat.zero_le _, Nat.zero_le _⟩ dX8_counts_97 (st2 := [.int r11]) rfl ?_
                      cases h
                      exact z_iret dX8_counts_100 hQ
                    · replace h := (if_neg c1_9).symm.trans h
                      by_cases c1_10 : p0 = (10 : Int32)
                      · replace h := (if_pos c1_10).symm.trans h
                        refine z_tabIn (tgt := 101) (off := 100) (by rw [c1_10]; decide) (by rw [c1_10]; decide) (by rw [c1_10]; rfl) rfl dX8_counts_1 ?_
                        refine z_aload_n 0 rfl rfl dX8_counts_101 ?_
                        refine z_get zcX8 0 rfl 0 rfl 4 (Nat.le_of_ble_eq_true rfl) zfX8_46 (v := .int u.2.2.2.2.1) rfl dX8_counts_102 ?_
                        cases h
                        exact z_iret dX8_counts_105 hQ
                      · replace h := (if_neg c1_10).symm.trans h
                        have n1_0 := lv_neT c1_0 (a := 0) rfl
                        have n1_1 := lv_neT c1_1 (a := 1) rfl
                        have n1_2 := lv_neT c1_2 (a := 2) rfl
                        have n1_3 := lv_neT c1_3 (a := 3) rfl
                        have n1_4 := lv_neT c1_4 (a := 4) rfl
                        have n1_5 := lv_neT c1_5 (a := 5) rfl
                        have n1_6 := lv_neT c1_6 (a := 6) rfl
                        have n1_7 := lv_neT c1_7 (a := 7) rfl
                        have n1_8 := lv_neT c1_8 (a := 8) rfl
                        have n1_9 := lv_neT c1_9 (a := 9) rfl
                        have n1_10 := lv_neT c1_10 (a := 10) rfl
                        refine z_tabOut (tgt := 106) (by omega) rfl dX8_counts_1 ?_
                        refine z_aload_n 0 rfl rfl dX8_counts_106 ?_
                        refine z_get zcX8 0 rfl 0 rfl 1 (Nat.le_of_ble_eq_true rfl) zfX8_7 (v := .ref (a 1)) rfl dX8_counts_107 ?_
                        refine z_iconst (v := 4) (by decide) dX8_counts_110 ?_
                        refine z_iload_n 1 rfl rfl dX8_counts_111 ?_
                        refine z_iadd dX8_counts_112 ?_
                        refine z_iconst (v := 5) (by decide) dX8_counts_113 ?_
                        refine z_isub dX8_counts_114 ?_
                        obtain ⟨r12, er12, h⟩ := zb h
                        refine z_iald 0 rfl 1 rfl er12 dX8_counts_115 ?_
                        cases h
                        exact z_iret dX8_counts_116 hQ
set_option maxHeartbeats 400000 in
set_option maxRecDepth 100000 in
theorem c_X8_count (l : Launch) (g : zG) (a : Nat → Nat) (u : tX8) (p0 : Int32) (r : Int32 × tX8) (h : f_X8_count u p0 = some r) : Ctr l g true yX8_count cX8_count 2 (some .int) 4 89 0 0 [.ref (a 0), .int p0] ([cX8 g a u]) ([cX8 g a r.2]) (some (.int r.1)) := by
  refine ctr_of (by decide) (Nat.le_of_ble_eq_true rfl) (fun X hl _ _ _ hQ => ?_)
  unfold f_X8_count at h
  refine z_lv (lv' := [(0, .ref (a 0)), (1, .int p0)]) [0, 1] rfl ?_
  refine z_aload_n 0 rfl rfl dX8_count_0 ?_
  refine z_iconst (v := 0) (by decide) dX8_count_1 ?_
  refine z_put (t := .int) ([dX8 g a 0 u.2.1 u.2.2.1 u.2.2.2.1 u.2.2.2.2.1 u.2.2.2.2.2.1 u.2.2.2.2.2.2.1 u.2.2.2.2.2.2.2.1 u.2.2.2.2.2.2.2.2.1 u.2.2.2.2.2.2.2.2.2.1 u.2.2.2.2.2.2.2.2.2.2.1 u.2.2.2.2.2.2.2.2.2.2.2.1 u.2.2.2.2.2.2.2.2.2.2.2.2.1 u.2.2.2.2.2.2.2.2.2.2.2.2.2.1 u.2.2.2.2.2.2.2.2.2.2.2.2.2.2.1 u.2.2.2.2.2.2.2.2.2.2.2.2.2.2.2]) zcX8 0 rfl 0 rfl 0 (Nat.le_of_ble_eq_true rfl) zfX8_38 zpX8_0 (zn_i _) (zf_i _) (Nat.le_of_ble_eq_true rfl) rfl dX8_count_2 ?_
  refine z_iload_n 1 rfl rfl dX8_count_5 ?_
  refine z_iconst (v := 0) (by decide) dX8_count_6 ?_
  refine z_bipush (v := 10) (by decide) dX8_count_7 ?_
  refine z_callSR (rest := []) hl (c_X8_in l g p0 0 10 _ rfl) zyX8_in zsX8_in zlX8_42 [] rfl rfl rfl (by decide) (Nat.le_of_ble_eq_true rfl) ⟨Nat.zero_le _, Nat.zero_le _⟩ dX8_count_9 (st2 := [.int (b2i (f_X8_in p0 0 10))]) rfl ?_
  refine z_ifB_eq (tgt := 23) rfl dX8_count_12 (fun c12 => ?_) (fun c12 => ?_)
  · replace h := (if_neg c12).symm.trans h
    refine z_aload_n 0 rfl rfl dX8_count_23 ?_
    refine z_iconst (v := 1) (by decide) dX8_count_24 ?_
    obtain ⟨r1, er1, h⟩ := zb h
    refine z_callVW (rest := []) hl (c_X8_fails l g a (0, u.2.1, u.2.2.1, u.2.2.2.1, u.2.2.2.2.1, u.2.2.2.2.2.1, u.2.2.2.2.2.2.1, u.2.2.2.2.2.2.2.1, u.2.2.2.2.2.2.2.2.1, u.2.2.2.2.2.2.2.2.2.1, u.2.2.2.2.2.2.2.2.2.2.1, u.2.2.2.2.2.2.2.2.2.2.2.1, u.2.2.2.2.2.2.2.2.2.2.2.2.1, u.2.2.2.2.2.2.2.2.2.2.2.2.2.1, u.2.2.2.2.2.2.2.2.2.2.2.2.2.2.1, u.2.2.2.2.2.2.2.2.2.2.2.2.2.2.2) 1 _ (Option.some.inj er1)) zyX8_fails zvX8_fails rfl zlX8_121 zcX8.1 ⟨_, _, rfl⟩ [(0, none)] rfl (by decide) rfl (w' := [cX8 g a r1.2]) rfl rfl rfl (by decide) (Nat.le_of_ble_eq_true rfl) ⟨Nat.zero_le _, Nat.zero_le _⟩ dX8_count_25 (st2 := [.int r1.1]) rfl ?_
    cases h
    try dsimp only at hQ
    exact z_iret dX8_count_28 hQ
  · replace h := (if_pos c12).symm.trans h
    refine z_aload_n 0 rfl rfl dX8_count_15 ?_
    refine z_iload_n 1 rfl rfl dX8_count_16 ?_
    obtain ⟨r2, er2, h⟩ := zb h
    refine z_callVR (rest := []) hl (c_X8_counts l g a (0, u.2.1, u.2.2.1, u.2.2.2.1, u.2.2.2.2.1, u.2.2.2.2.2.1, u.2.2.2.2.2.2.1, u.2.2.2.2.2.2.2.1, u.2.2.2.2.2.2.2.2.1, u.2.2.2.2.2.2.2.2.2.1, u.2.2.2.2.2.2.2.2.2.2.1, u.2.2.2.2.2.2.2.2.2.2.2.1, u.2.2.2.2.2.2.2.2.2.2.2.2.1, u.2.2.2.2.2.2.2.2.2.2.2.2.2.1, u.2.2.2.2.2.2.2.2.2.2.2.2.2.2.1, u.2.2.2.2.2.2.2.2.2.2.2.2.2.2.2) p0 _ er2) zyX8_counts zvX8_counts rfl zlX8_177 zcX8.1 ⟨_, _, rfl⟩ [(0, none)] rfl rfl rfl (by decide) (Nat.le_of_ble_eq_true rfl) ⟨Nat.zero_le _, Nat.zero_le _⟩ dX8_count_17 (st2 := [.int r2]) rfl ?_
    refine z_goto (tgt := 28) rfl dX8_count_20 ?_
    cases h
    try dsimp only at hQ
    exact z_iret dX8_count_28 hQ
set_option maxHeartbeats 400000 in
set_option maxRecDepth 100000 in
theorem c_X8_setting (l : Launch) (g : zG) (a : Nat → Nat) (u : tX8) (p0 : Int32) (r : Int32 × tX8) (h : f_X8_setting u p0 = some r) : Ctr l g true yX8_setting cX8_setting 2 (some .int) 1 22 0 0 [.ref (a 0), .int p0] ([cX8 g a u]) ([cX8 g a r.2]) (some (.int r.1)) := by
  refine ctr_of (by decide) (Nat.le_of_ble_eq_true rfl) (fun X hl _ _ _ hQ => ?_)
  unfold f_X8_setting at h
  refine z_lv (lv' := [(0, .ref (a 0)), (1, .int p0)]) [0, 1] rfl ?_
  refine z_aload_n 0 rfl rfl dX8_setting_0 ?_
  refine z_iconst (v := 0) (by decide) dX8_setting_1 ?_
  refine z_put (t := .int) ([dX8 g a 0 u.2.1 u.2.2.1 u.2.2.2.1 u.2.2.2.2.1 u.2.2.2.2.2.1 u.2.2.2.2.2.2.1 u.2.2.2.2.2.2.2.1 u.2.2.2.2.2.2.2.2.1 u.2.2.2.2.2.2.2.2.2.1 u.2.2.2.2.2.2.2.2.2.2.1 u.2.2.2.2.2.2.2.2.2.2.2.1 u.2.2.2.2.2.2.2.2.2.2.2.2.1 u.2.2.2.2.2.2.2.2.2.2.2.2.2.1 u.2.2.2.2.2.2.2.2.2.2.2.2.2.2.1 u.2.2.2.2.2.2.2.2.2.2.2.2.2.2.2]) zcX8 0 rfl 0 rfl 0 (Nat.le_of_ble_eq_true rfl) zfX8_38 zpX8_0 (zn_i _) (zf_i _) (Nat.le_of_ble_eq_true rfl) rfl dX8_setting_2 ?_
  refine z_iload_n 1 rfl rfl dX8_setting_5 ?_
  refine z_iconst (v := 0) (by decide) dX8_setting_6 ?_
  refine z_iconst (v := 2) (by decide) dX8_setting_7 ?_
  refine z_callSR (rest := []) hl (c_X8_in l g p0 0 2 _ rfl) zyX8_in zsX8_in zlX8_42 [] rfl rfl rfl (by decide) (Nat.le_of_ble_eq_true rfl) ⟨Nat.zero_le _, Nat.zero_le _⟩ dX8_setting_8 (st2 := [.int (b2i (f_X8_in p0 0 2))]) rfl ?_
  refine z_ifB_eq (tgt := 23) rfl dX8_setting_11 (fun c11 => ?_) (fun c11 => ?_)
  · replace h := (if_neg c11).symm.trans h
    refine z_aload_n 0 rfl rfl dX8_setting_23 ?_
    refine z_iconst (v := 1) (by decide) dX8_setting_24 ?_
    obtain ⟨r1, er1, h⟩ := zb h
    refine z_callVW (rest := []) hl (c_X8_fails l g a (0, u.2.1, u.2.2.1, u.2.2.2.1, u.2.2.2.2.1, u.2.2.2.2.2.1, u.2.2.2.2.2.2.1, u.2.2.2.2.2.2.2.1, u.2.2.2.2.2.2.2.2.1, u.2.2.2.2.2.2.2.2.2.1, u.2.2.2.2.2.2.2.2.2.2.1, u.2.2.2.2.2.2.2.2.2.2.2.1, u.2.2.2.2.2.2.2.2.2.2.2.2.1, u.2.2.2.2.2.2.2.2.2.2.2.2.2.1, u.2.2.2.2.2.2.2.2.2.2.2.2.2.2.1, u.2.2.2.2.2.2.2.2.2.2.2.2.2.2.2) 1 _ (Option.some.inj er1)) zyX8_fails zvX8_fails rfl zlX8_121 zcX8.1 ⟨_, _, rfl⟩ [(0, none)] rfl (by decide) rfl (w' := [cX8 g a r1.2]) rfl rfl rfl (by decide) (Nat.le_of_ble_eq_true rfl) ⟨Nat.zero_le _, Nat.zero_le _⟩ dX8_setting_25 (st2 := [.int r1.1]) rfl ?_
    cases h
    try dsimp only at hQ
    exact z_iret dX8_setting_28 hQ
  · replace h := (if_pos c11).symm.trans h
    refine z_aload_n 0 rfl rfl dX8_setting_14 ?_
    refine z_get zcX8 0 rfl 0 rfl 1 (Nat.le_of_ble_eq_true rfl) zfX8_7 (v := .ref (a 1)) rfl dX8_setting_15 ?_
    refine z_iload_n 1 rfl rfl dX8_setting_18 ?_
    obtain ⟨r2, er2, h⟩ := zb h
    refine z_iald 0 rfl 1 rfl er2 dX8_setting_19 ?_
    refine z_goto (tgt := 28) rfl dX8_setting_20 ?_
    cases h
    try dsimp only at hQ
    exact z_iret dX8_setting_28 hQ
set_option maxHeartbeats 400000 in
set_option maxRecDepth 100000 in
theorem c_X8_refusal (l : Launch) (g : zG) (a : Nat → Nat) (u : tX8) (p0 : Int32) (r : Int32 × tX8) (h : f_X8_refusal u p0 = some r) : Ctr l g true yX8_refusal cX8_refusal 2 (some .int) 5 117 0 0 [.ref (a 0), .int p0] ([cX8 g a u]) ([cX8 g a r.2]) (some (.int r.1)) := by
  refine ctr_of (by decide) (Nat.le_of_ble_eq_true rfl) (fun X hl _ _ _ hQ => ?_)
  unfold f_X8_refusal at h
  refine z_lv (lv' := [(0, .ref (a 0)), (1, .int p0)]) [0, 1] rfl ?_
  refine z_aload_n 0 rfl rfl dX8_refusal_0 ?_
  refine z_iconst (v := 0) (by decide) dX8_refusal_1 ?_
  refine z_put (t := .int) ([dX8 g a 0 u.2.1 u.2.2.1 u.2.2.2.1 u.2.2.2.2.1 u.2.2.2.2.2.1 u.2.2.2.2.2.2.1 u.2.2.2.2.2.2.2.1 u.2.2.2.2.2.2.2.2.1 u.2.2.2.2.2.2.2.2.2.1 u.2.2.2.2.2.2.2.2.2.2.1 u.2.2.2.2.2.2.2.2.2.2.2.1 u.2.2.2.2.2.2.2.2.2.2.2.2.1 u.2.2.2.2.2.2.2.2.2.2.2.2.2.1 u.2.2.2.2.2.2.2.2.2.2.2.2.2.2.1 u.2.2.2.2.2.2.2.2.2.2.2.2.2.2.2]) zcX8 0 rfl 0 rfl 0 (Nat.le_of_ble_eq_true rfl) zfX8_38 zpX8_0 (zn_i _) (zf_i _) (Nat.le_of_ble_eq_true rfl) rfl dX8_refusal_2 ?_
  refine z_aload_n 0 rfl rfl dX8_refusal_5 ?_
  refine z_iload_n 1 rfl rfl dX8_refusal_6 ?_
  obtain ⟨r1, er1, h⟩ := zb h
  refine z_callVR (rest := []) hl (c_X8_reason l g a (0, u.2.1, u.2.2.1, u.2.2.2.1, u.2.2.2.2.1, u.2.2.2.2.2.1, u.2.2.2.2.2.2.1, u.2.2.2.2.2.2.2.1, u.2.2.2.2.2.2.2.2.1, u.2.2.2.2.2.2.2.2.2.1, u.2.2.2.2.2.2.2.2.2.2.1, u.2.2.2.2.2.2.2.2.2.2.2.1, u.2.2.2.2.2.2.2.2.2.2.2.2.1, u.2.2.2.2.2.2.2.2.2.2.2.2.2.1, u.2.2.2.2.2.2.2.2.2.2.2.2.2.2.1, u.2.2.2.2.2.2.2.2.2.2.2.2.2.2.2) p0 _ er1) zyX8_reason zvX8_reason rfl zlX8_86 zcX8.1 ⟨_, _, rfl⟩ [(0, none)] rfl rfl rfl (by decide) (Nat.le_of_ble_eq_true rfl) ⟨Nat.zero_le _, Nat.zero_le _⟩ dX8_refusal_7 (st2 := [.int r1]) rfl ?_
  cases h
  try dsimp only at hQ
  exact z_iret dX8_refusal_10 hQ
set_option maxHeartbeats 400000 in
set_option maxRecDepth 100000 in
theorem c_X8_way (l : Launch) (g : zG) (a : Nat → Nat) (u : tX8) (p0 : Int32) (r : Int32 × tX8) (h : f_X8_way u p0 = some r) : Ctr l g true yX8_way cX8_way 2 (some .int) 4 95 0 0 [.ref (a 0), .int p0] ([cX8 g a u]) ([cX8 g a r.2]) (some (.int r.1)) := by
  refine ctr_of (by decide) (Nat.le_of_ble_eq_true rfl) (fun X hl _ _ _ hQ => ?_)
  unfold f_X8_way at h
  refine z_lv (lv' := [(0, .ref (a 0)), (1, .int p0)]) [0, 1] rfl ?_
  refine z_aload_n 0 rfl rfl dX8_way_0 ?_
  refine z_iconst (v := 0) (by decide) dX8_way_1 ?_
  refine z_put (t := .int) ([dX8 g a 0 u.2.1 u.2.2.1 u.2.2.2.1 u.2.2.2.2.1 u.2.2.2.2.2.1 u.2.2.2.2.2.2.1 u.2.2.2.2.2.2.2.1 u.2.2.2.2.2.2.2.2.1 u.2.2.2.2.2.2.2.2.2.1 u.2.2.2.2.2.2.2.2.2.2.1 u.2.2.2.2.2.2.2.2.2.2.2.1 u.2.2.2.2.2.2.2.2.2.2.2.2.1 u.2.2.2.2.2.2.2.2.2.2.2.2.2.1 u.2.2.2.2.2.2.2.2.2.2.2.2.2.2.1 u.2.2.2.2.2.2.2.2.2.2.2.2.2.2.2]) zcX8 0 rfl 0 rfl 0 (Nat.le_of_ble_eq_true rfl) zfX8_38 zpX8_0 (zn_i _) (zf_i _) (Nat.le_of_ble_eq_true rfl) rfl dX8_way_2 ?_
  refine z_iload_n 1 rfl rfl dX8_way_5 ?_
  refine z_callSR (rest := []) hl (c_X8_isDrawer l g p0 _ rfl) zyX8_isDrawer zsX8_isDrawer zlX8_117 [] rfl rfl rfl (by decide) (Nat.le_of_ble_eq_true rfl) ⟨Nat.zero_le _, Nat.zero_le _⟩ dX8_way_6 (st2 := [.int (b2i (f_X8_isDrawer p0))]) rfl ?_
  refine z_ifB_eq (tgt := 20) rfl dX8_way_9 (fun c9 => ?_) (fun c9 => ?_)
  · replace h := (if_neg c9).symm.trans h
    refine z_aload_n 0 rfl rfl dX8_way_20 ?_
    refine z_iconst (v := 1) (by decide) dX8_way_21 ?_
    obtain ⟨r1, er1, h⟩ := zb h
    refine z_callVW (rest := []) hl (c_X8_fails l g a (0, u.2.1, u.2.2.1, u.2.2.2.1, u.2.2.2.2.1, u.2.2.2.2.2.1, u.2.2.2.2.2.2.1, u.2.2.2.2.2.2.2.1, u.2.2.2.2.2.2.2.2.1, u.2.2.2.2.2.2.2.2.2.1, u.2.2.2.2.2.2.2.2.2.2.1, u.2.2.2.2.2.2.2.2.2.2.2.1, u.2.2.2.2.2.2.2.2.2.2.2.2.1, u.2.2.2.2.2.2.2.2.2.2.2.2.2.1, u.2.2.2.2.2.2.2.2.2.2.2.2.2.2.1, u.2.2.2.2.2.2.2.2.2.2.2.2.2.2.2) 1 _ (Option.some.inj er1)) zyX8_fails zvX8_fails rfl zlX8_121 zcX8.1 ⟨_, _, rfl⟩ [(0, none)] rfl (by decide) rfl (w' := [cX8 g a r1.2]) rfl rfl rfl (by decide) (Nat.le_of_ble_eq_true rfl) ⟨Nat.zero_le _, Nat.zero_le _⟩ dX8_way_22 (st2 := [.int r1.1]) rfl ?_
    cases h
    try dsimp only at hQ
    exact z_iret dX8_way_25 hQ
  · replace h := (if_pos c9).symm.trans h
    refine z_aload_n 0 rfl rfl dX8_way_12 ?_
    refine z_iload_n 1 rfl rfl dX8_way_13 ?_
    obtain ⟨r2, er2, h⟩ := zb h
    refine z_callVR (rest := []) hl (c_X8_wayTo l g a (0, u.2.1, u.2.2.1, u.2.2.2.1, u.2.2.2.2.1, u.2.2.2.2.2.1, u.2.2.2.2.2.2.1, u.2.2.2.2.2.2.2.1, u.2.2.2.2.2.2.2.2.1, u.2.2.2.2.2.2.2.2.2.1, u.2.2.2.2.2.2.2.2.2.2.1, u.2.2.2.2.2.2.2.2.2.2.2.1, u.2.2.2.2.2.2.2.2.2.2.2.2.1, u.2.2.2.2.2.2.2.2.2.2.2.2.2.1, u.2.2.2.2.2.2.2.2.2.2.2.2.2.2.1, u.2.2.2.2.2.2.2.2.2.2.2.2.2.2.2) p0 _ er2) zyX8_wayTo zvX8_wayTo rfl zlX8_64 zcX8.1 ⟨_, _, rfl⟩ [(0, none)] rfl rfl rfl (by decide) (Nat.le_of_ble_eq_true rfl) ⟨Nat.zero_le _, Nat.zero_le _⟩ dX8_way_14 (st2 := [.int r2]) rfl ?_
    refine z_goto (tgt := 25) rfl dX8_way_17 ?_
    cases h
    try dsimp only at hQ
    exact z_iret dX8_way_25 hQ
set_option maxHeartbeats 400000 in
set_option maxRecDepth 100000 in
theorem c_X8_greatestWith (l : Launch) (g : zG) (a : Nat → Nat) (u : tX8) (p0 : Int32) (p1 : Int32) (r : Int32) (h : f_X8_greatestWith u p0 p1 = some r) : Ctr l g false yX8_greatestWith cX8_greatestWith 9 (some .int) 2 45 0 0 [.ref (a 0), .int p0, .int p1] ([cX8 g a u]) ([cX8 g a u]) (some (.int r)) := by
  refine ctr_of (by decide) (Nat.le_of_ble_eq_true rfl) (fun X hl _ _ _ hQ => ?_)
  unfold f_X8_greatestWith at h
  refine z_lv (lv' := [(0, .ref (a 0)), (1, .int p0), (2, .int p1)]) [0, 1, 2] rfl ?_
  refine z_iconst (v := 0) (by decide) dX8_greatestWith_0 ?_
  refine z_istore_n [(3, .int 0), (0, .ref (a 0)), (1, .int p0), (2, .int p1)] rfl (Nat.le_of_ble_eq_true rfl) rfl dX8_greatestWith_1 ?_
  refine z_iconst (v := 0) (by decide) dX8_greatestWith_2 ?_
  refine z_istore [(4, .int 0), (3, .int 0), (0, .ref (a 0)), (1, .int p0), (2, .int p1)] (Nat.le_of_ble_eq_true rfl) rfl dX8_greatestWith_3 ?_
  obtain ⟨z1, ez1, h⟩ := zb h
  refine z_lv (lv' := [(0, .ref (a 0)), (1, .int p0), (2, .int p1), (3, .int 0), (4, .int 0)]) [2, 3, 4, 1, 0] rfl ?_
  suffices hk5 : (fun (s5 : Int32 × Int32) => Z false RX8 cX8_greatestWith 9 2 45 g X 0 0 ([cX8 g a u]) [(0, .ref (a 0)), (1, .int p0), (2, .int p1), (3, .int s5.1), (4, .int s5.2)] 5 []) (0, 0) by try dsimp only at hk5; exact hk5
  refine lp_ind (σ := Int32 × Int32) (ε := Int32) (b_X8_greatestWith_5 u p0 p1) (fun s5 => Z false RX8 cX8_greatestWith 9 2 45 g X 0 0 ([cX8 g a u]) [(0, .ref (a 0)), (1, .int p0), (2, .int p1), (3, .int s5.1), (4, .int s5.2)] 5 []) (fun z1 => Z false RX8 cX8_greatestWith 9 2 45 g X 0 0 ([cX8 g a u]) [(3, .int z1)] 121 []) (fun s5 q5 h5 i5 x5 => ?_) 5000 (0, 0) z1 ez1 ?_
  · unfold b_X8_greatestWith_5 at h5
    refine z_iload 4 rfl dX8_greatestWith_5 ?_
    refine z_bipush (v := 12) (by decide) dX8_greatestWith_7 ?_
    refine z_icmp_ge (tgt := 121) rfl dX8_greatestWith_9 (fun c9 => ?_) (fun c9 => ?_)
    · replace h5 := (if_pos c9).symm.trans h5
      cases h5
      have k5 := x5 s5.1 rfl
      try dsimp only at k5
      exact z_lv [3] rfl k5
    · replace h5 := (if_neg c9).symm.trans h5
      refine z_iconst (v := 0) (by decide) dX8_greatestWith_12 ?_
      refine z_istore [(5, .int 0), (0, .ref (a 0)), (1, .int p0), (2, .int p1), (3, .int s5.1), (4, .int s5.2)] (Nat.le_of_ble_eq_true rfl) rfl dX8_greatestWith_13 ?_
      refine z_iconst (v := 0) (by decide) dX8_greatestWith_15 ?_
      refine z_istore [(6, .int 0), (5, .int 0), (0, .ref (a 0)), (1, .int p0), (2, .int p1), (3, .int s5.1), (4, .int s5.2)] (Nat.le_of_ble_eq_true rfl) rfl dX8_greatestWith_16 ?_
      obtain ⟨z2, ez2, h5⟩ := zb h5
      refine z_lv (lv' := [(0, .ref (a 0)), (1, .int p0), (2, .int p1), (3, .int s5.1), (4, .int s5.2), (5, .int 0), (6, .int 0)]) [2, 3, 4, 5, 6, 1, 0] rfl ?_
      suffices hk18 : (fun (s18 : Int32 × Int32) => Z false RX8 cX8_greatestWith 9 2 45 g X 0 0 ([cX8 g a u]) [(0, .ref (a 0)), (1, .int p0), (2, .int p1), (3, .int s5.1), (4, .int s5.2), (5, .int s18.1), (6, .int s18.2)] 18 []) (0, 0) by try dsimp only at hk18; exact hk18
      refine lp_ind (σ := Int32 × Int32) (ε := Int32) (b_X8_greatestWith_18 u p0 p1 s5) (fun s18 => Z false RX8 cX8_greatestWith 9 2 45 g X 0 0 ([cX8 g a u]) [(0, .ref (a 0)), (1, .int p0), (2, .int p1), (3, .int s5.1), (4, .int s5.2), (5, .int s18.1), (6, .int s18.2)] 18 []) (fun z2 => Z false RX8 cX8_greatestWith 9 2 45 g X 0 0 ([cX8 g a u]) [(0, .ref (a 0)), (1, .int p0), (2, .int p1), (3, .int s5.1), (4, .int s5.2), (5, .int z2)] 96 []) (fun s18 q18 h18 i18 x18 => ?_) 5000 (0, 0) z2 ez2 ?_
      · unfold b_X8_greatestWith_18 at h18
        refine z_iload 6 rfl dX8_greatestWith_18 ?_
        refine z_bipush (v := 12) (by decide) dX8_greatestWith_20 ?_
        refine z_icmp_ge (tgt := 96) rfl dX8_greatestWith_22 (fun c22 => ?_) (fun c22 => ?_)
        · replace h18 := (if_pos c22).symm.trans h18
          cases h18
          have k18 := x18 s18.1 rfl
          try dsimp only at k18
          exact z_lv [0, 1, 2, 3, 4, 5] rfl k18
        · replace h18 := (if_neg c22).symm.trans h18
          refine z_iload 6 rfl dX8_greatestWith_25 ?_
          refine z_iload 4 rfl dX8_greatestWith_27 ?_
          refine z_callSR (rest := []) hl (c_X8_placeOf l g s18.2 s5.2 _ rfl) zyX8_placeOf zsX8_placeOf zlX8_53 [] rfl rfl rfl (by decide) (Nat.le_of_ble_eq_true rfl) ⟨Nat.zero_le _, Nat.zero_le _⟩ dX8_greatestWith_29 (st2 := [.int (f_X8_placeOf s18.2 s5.2)]) rfl ?_
          refine z_istore [(7, .int (f_X8_placeOf s18.2 s5.2)), (0, .ref (a 0)), (1, .int p0), (2, .int p1), (3, .int s5.1), (4, .int s5.2), (5, .int s18.1), (6, .int s18.2)] (Nat.le_of_ble_eq_true rfl) rfl dX8_greatestWith_32 ?_
          refine z_aload_n 1 rfl rfl dX8_greatestWith_34 ?_
          refine z_iload 7 rfl dX8_greatestWith_35 ?_
          obtain ⟨r3, er3, h18⟩ := zb h18
          refine z_callVR (rest := []) hl (c_X8_loadOf l g a u s18.2 _ er3) zyX8_loadOf zvX8_loadOf rfl zlX8_124 zcX8.1 ⟨_, _, rfl⟩ [(0, none)] rfl rfl rfl (by decide) (Nat.le_of_ble_eq_true rfl) ⟨Nat.zero_le _, Nat.zero_le _⟩ dX8_greatestWith_37 (st2 := [.int r3]) rfl ?_
          refine z_iload 7 rfl dX8_greatestWith_40 ?_
          refine z_iload_n 2 rfl rfl dX8_greatestWith_42 ?_
          refine z_icmp_ne (tgt := 50) rfl dX8_greatestWith_43 (fun c43 => ?_) (fun c43 => ?_)
          · replace h18 := (if_neg c43).symm.trans h18
            refine z_iconst (v := 0) (by decide) dX8_greatestWith_50 ?_
            refine z_iadd dX8_greatestWith_51 ?_
            refine z_istore [(8, .int (r3 + 0)), (7, .int (f_X8_placeOf s18.2 s5.2)), (0, .ref (a 0)), (1, .int p0), (2, .int p1), (3, .int s5.1), (4, .int s5.2), (5, .int s18.1), (6, .int s18.2)] (Nat.le_of_ble_eq_true rfl) rfl dX8_greatestWith_52 ?_
            refine z_iload 7 rfl dX8_greatestWith_54 ?_
            refine z_iload 1 rfl dX8_greatestWith_56 ?_
            refine z_if_eq (tgt := 68) rfl dX8_greatestWith_58 (fun c58 => ?_) (fun c58 => ?_)
            · replace h18 := (if_pos c58).symm.trans h18
              refine z_iconst (v := 0) (by decide) dX8_greatestWith_68 ?_
              refine z_goto (tgt := 87) rfl dX8_greatestWith_69 ?_
              refine z_iadd dX8_greatestWith_87 ?_
              refine z_istore [(5, .int (s18.1 + 0)), (8, .int (r3 + 0)), (7, .int (f_X8_placeOf s18.2 s5.2)), (0, .ref (a 0)), (1, .int p0), (2, .int p1), (3, .int s5.1), (4, .int s5.2), (6, .int s18.2)] (Nat.le_of_ble_eq_true rfl) rfl dX8_greatestWith_88 ?_
              refine z_iinc 8 [(6, .int (s18.2 + 1)), (5, .int (s18.1 + 0)), (8, .int (r3 + 0)), (7, .int (f_X8_placeOf s18.2 s5.2)), (0, .ref (a 0)), (1, .int p0), (2, .int p1), (3, .int s5.1), (4, .int s5.2)] rfl (v := (s18.2 + 1)) zinc (Nat.le_of_ble_eq_true rfl) rfl dX8_greatestWith_90 ?_
              refine z_goto (tgt := 18) rfl dX8_greatestWith_93 ?_
              cases h18
              have k18 := i18 ((s18.1 + 0), (s18.2 + 1)) rfl
              try dsimp only at k18
              exact z_lv [4, 5, 6, 7, 8, 1, 0] rfl k18
            · replace h18 := (if_neg c58).symm.trans h18
              refine z_iload 1 rfl dX8_greatestWith_61 ?_
              refine z_bipush (v := 6) (by decide) dX8_greatestWith_63 ?_
              refine z_icmp_ne (tgt := 72) rfl dX8_greatestWith_65 (fun c65 => ?_) (fun c65 => ?_)
              · replace h18 := (if_neg c65).symm.trans h18
                refine z_iload 1 rfl dX8_greatestWith_72 ?_
                refine z_bipush (v := 6) (by decide) dX8_greatestWith_74 ?_
                refine z_icmp_ge (tgt := 84) rfl dX8_greatestWith_76 (fun c76 => ?_) (fun c76 => ?_)
                · replace h18 := (if_pos c76).symm.trans h18
                  refine z_iload 0 rfl dX8_greatestWith_84 ?_
                  refine z_ineg dX8_greatestWith_86 ?_
                  refine z_iadd dX8_greatestWith_87 ?_
                  refine z_istore [(5, .int (s18.1 + (-(r3 + 0)))), (8, .int (r3 + 0)), (7, .int (f_X8_placeOf s18.2 s5.2)), (0, .ref (a 0)), (1, .int p0), (2, .int p1), (3, .int s5.1), (4, .int s5.2), (6, .int s18.2)] (Nat.le_of_ble_eq_true rfl) rfl dX8_greatestWith_88 ?_
                  refine z_iinc 8 [(6, .int (s18.2 + 1)), (5, .int (s18.1 + (-(r3 + 0)))), (8, .int (r3 + 0)), (7, .int (f_X8_placeOf s18.2 s5.2)), (0, .ref (a 0)), (1, .int p0), (2, .int p1), (3, .int s5.1), (4, .int s5.2)] rfl (v := (s18.2 + 1)) zinc (Nat.le_of_ble_eq_true rfl) rfl dX8_greatestWith_90 ?_
                  refine z_goto (tgt := 18) rfl dX8_greatestWith_93 ?_
                  cases h18
                  have k18 := i18 ((s18.1 + (-(r3 + 0))), (s18.2 + 1)) rfl
                  try dsimp only at k18
                  exact z_lv [4, 5, 6, 7, 8, 1, 0] rfl k18
                · replace h18 := (if_neg c76).symm.trans h18
                  refine z_iload 0 rfl dX8_greatestWith_79 ?_
                  refine z_goto (tgt := 87) rfl dX8_greatestWith_81 ?_
                  refine z_iadd dX8_greatestWith_87 ?_
                  refine z_istore [(5, .int (s18.1 + (r3 + 0))), (8, .int (r3 + 0)), (7, .int (f_X8_placeOf s18.2 s5.2)), (0, .ref (a 0)), (1, .int p0), (2, .int p1), (3, .int s5.1), (4, .int s5.2), (6, .int s18.2)] (Nat.le_of_ble_eq_true rfl) rfl dX8_greatestWith_88 ?_
                  refine z_iinc 8 [(6, .int (s18.2 + 1)), (5, .int (s18.1 + (r3 + 0))), (8, .int (r3 + 0)), (7, .int (f_X8_placeOf s18.2 s5.2)), (0, .ref (a 0)), (1, .int p0), (2, .int p1), (3, .int s5.1), (4, .int s5.2)] rfl (v := (s18.2 + 1)) zinc (Nat.le_of_ble_eq_true rfl) rfl dX8_greatestWith_90 ?_
                  refine z_goto (tgt := 18) rfl dX8_greatestWith_93 ?_
                  cases h18
                  have k18 := i18 ((s18.1 + (r3 + 0)), (s18.2 + 1)) rfl
                  try dsimp only at k18
                  exact z_lv [4, 5, 6, 7, 8, 1, 0] rfl k18
              · replace h18 := (if_pos c65).symm.trans h18
                refine z_iconst (v := 0) (by decide) dX8_greatestWith_68 ?_
                refine z_goto (tgt := 87) rfl dX8_greatestWith_69 ?_
                refine z_iadd dX8_greatestWith_87 ?_
                refine z_istore [(5, .int (s18.1 + 0)), (8, .int (r3 + 0)), (7, .int (f_X8_placeOf s18.2 s5.2)), (0, .ref (a 0)), (1, .int p0), (2, .int p1), (3, .int s5.1), (4, .int s5.2), (6, .int s18.2)] (Nat.le_of_ble_eq_true rfl) rfl dX8_greatestWith_88 ?_
                refine z_iinc 8 [(6, .int (s18.2 + 1)), (5, .int (s18.1 + 0)), (8, .int (r3 + 0)), (7, .int (f_X8_placeOf s18.2 s5.2)), (0, .ref (a 0)), (1, .int p0), (2, .int p1), (3, .int s5.1), (4, .int s5.2)] rfl (v := (s18.2 + 1)) zinc (Nat.le_of_ble_eq_true rfl) rfl dX8_greatestWith_90 ?_
                refine z_goto (tgt := 18) rfl dX8_greatestWith_93 ?_
                cases h18
                have k18 := i18 ((s18.1 + 0), (s18.2 + 1)) rfl
                try dsimp only at k18
                exact z_lv [4, 5, 6, 7, 8, 1, 0] rfl k18
          · replace h18 := (if_pos c43).symm.trans h18
            refine z_iload_n 3 rfl rfl dX8_greatestWith_46 ?_
            refine z_goto (tgt := 51) rfl dX8_greatestWith_47 ?_
            refine z_iadd dX8_greatestWith_51 ?_
            refine z_istore [(8, .int (r3 + p1)), (7, .int (f_X8_placeOf s18.2 s5.2)), (0, .ref (a 0)), (1, .int p0), (2, .int p1), (3, .int s5.1), (4, .int s5.2), (5, .int s18.1), (6, .int s18.2)] (Nat.le_of_ble_eq_true rfl) rfl dX8_greatestWith_52 ?_
            refine z_iload 7 rfl dX8_greatestWith_54 ?_
            refine z_iload 1 rfl dX8_greatestWith_56 ?_
            refine z_if_eq (tgt := 68) rfl dX8_greatestWith_58 (fun c58 => ?_) (fun c58 => ?_)
            · replace h18 := (if_pos c58).symm.trans h18
              refine z_iconst (v := 0) (by decide) dX8_greatestWith_68 ?_
              refine z_goto (tgt := 87) rfl dX8_greatestWith_69 ?_
              refine z_iadd dX8_greatestWith_87 ?_
              refine z_istore [(5, .int (s18.1 + 0)), (8, .int (r3 + p1)), (7, .int (f_X8_placeOf s18.2 s5.2)), (0, .ref (a 0)), (1, .int p0), (2, .int p1), (3, .int s5.1), (4, .int s5.2), (6, .int s18.2)] (Nat.le_of_ble_eq_true rfl) rfl dX8_greatestWith_88 ?_
              refine z_iinc 8 [(6, .int (s18.2 + 1)), (5, .int (s18.1 + 0)), (8, .int (r3 + p1)), (7, .int (f_X8_placeOf s18.2 s5.2)), (0, .ref (a 0)), (1, .int p0), (2, .int p1), (3, .int s5.1), (4, .int s5.2)] rfl (v := (s18.2 + 1)) zinc (Nat.le_of_ble_eq_true rfl) rfl dX8_greatestWith_90 ?_
              refine z_goto (tgt := 18) rfl dX8_greatestWith_93 ?_
              cases h18
              have k18 := i18 ((s18.1 + 0), (s18.2 + 1)) rfl
              try dsimp only at k18
              exact z_lv [4, 5, 6, 7, 8, 1, 0] rfl k18
            · replace h18 := (if_neg c58).symm.trans h18
              refine z_iload 1 rfl dX8_greatestWith_61 ?_
              refine z_bipush (v := 6) (by decide) dX8_greatestWith_63 ?_
              refine z_icmp_ne (tgt := 72) rfl dX8_greatestWith_65 (fun c65 => ?_) (fun c65 => ?_)
              · replace h18 := (if_neg c65).symm.trans h18
                refine z_iload 1 rfl dX8_greatestWith_72 ?_
                refine z_bipush (v := 6) (by decide) dX8_greatestWith_74 ?_
                refine z_icmp_ge (tgt := 84) rfl dX8_greatestWith_76 (fun c76 => ?_) (fun c76 => ?_)
                · replace h18 := (if_pos c76).symm.trans h18
                  refine z_iload 0 rfl dX8_greatestWith_84 ?_
                  refine z_ineg dX8_greatestWith_86 ?_
                  refine z_iadd dX8_greatestWith_87 ?_
                  refine z_istore [(5, .int (s18.1 + (-(r3 + p1)))), (8, .int (r3 + p1)), (7, .int (f_X8_placeOf s18.2 s5.2)), (0, .ref (a 0)), (1, .int p0), (2, .int p1), (3, .int s5.1), (4, .int s5.2), (6, .int s18.2)] (Nat.le_of_ble_eq_true rfl) rfl dX8_greatestWith_88 ?_
                  refine z_iinc 8 [(6, .int (s18.2 + 1)), (5, .int (s18.1 + (-(r3 + p1)))), (8, .int (r3 + p1)), (7, .int (f_X8_placeOf s18.2 s5.2)), (0, .ref (a 0)), (1, .int p0), (2, .int p1), (3, .int s5.1), (4, .int s5.2)] rfl (v := (s18.2 + 1)) zinc (Nat.le_of_ble_eq_true rfl) rfl dX8_greatestWith_90 ?_
                  refine z_goto (tgt := 18) rfl dX8_greatestWith_93 ?_
                  cases h18
                  have k18 := i18 ((s18.1 + (-(r3 + p1))), (s18.2 + 1)) rfl
                  try dsimp only at k18
                  exact z_lv [4, 5, 6, 7, 8, 1, 0] rfl k18
                · replace h18 := (if_neg c76).symm.trans h18
                  refine z_iload 0 rfl dX8_greatestWith_79 ?_
                  refine z_goto (tgt := 87) rfl dX8_greatestWith_81 ?_
                  refine z_iadd dX8_greatestWith_87 ?_
                  refine z_istore [(5, .int (s18.1 + (r3 + p1))), (8, .int (r3 + p1)), (7, .int (f_X8_placeOf s18.2 s5.2)), (0, .ref (a 0)), (1, .int p0), (2, .int p1), (3, .int s5.1), (4, .int s5.2), (6, .int s18.2)] (Nat.le_of_ble_eq_true rfl) rfl dX8_greatestWith_88 ?_
                  refine z_iinc 8 [(6, .int (s18.2 + 1)), (5, .int (s18.1 + (r3 + p1))), (8, .int (r3 + p1)), (7, .int (f_X8_placeOf s18.2 s5.2)), (0, .ref (a 0)), (1, .int p0), (2, .int p1), (3, .int s5.1), (4, .int s5.2)] rfl (v := (s18.2 + 1)) zinc (Nat.le_of_ble_eq_true rfl) rfl dX8_greatestWith_90 ?_
                  refine z_goto (tgt := 18) rfl dX8_greatestWith_93 ?_
                  cases h18
                  have k18 := i18 ((s18.1 + (r3 + p1)), (s18.2 + 1)) rfl
                  try dsimp only at k18
                  exact z_lv [4, 5, 6, 7, 8, 1, 0] rfl k18
              · replace h18 := (if_pos c65).symm.trans h18
                refine z_iconst (v := 0) (by decide) dX8_greatestWith_68 ?_
                refine z_goto (tgt := 87) rfl dX8_greatestWith_69 ?_
                refine z_iadd dX8_greatestWith_87 ?_
                refine z_istore [(5, .int (s18.1 + 0)), (8, .int (r3 + p1)), (7, .int (f_X8_placeOf s18.2 s5.2)), (0, .ref (a 0)), (1, .int p0), (2, .int p1), (3, .int s5.1), (4, .int s5.2), (6, .int s18.2)] (Nat.le_of_ble_eq_true rfl) rfl dX8_greatestWith_88 ?_
                refine z_iinc 8 [(6, .int (s18.2 + 1)), (5, .int (s18.1 + 0)), (8, .int (r3 + p1)), (7, .int (f_X8_placeOf s18.2 s5.2)), (0, .ref (a 0)), (1, .int p0), (2, .int p1), (3, .int s5.1), (4, .int s5.2)] rfl (v := (s18.2 + 1)) zinc (Nat.le_of_ble_eq_true rfl) rfl dX8_greatestWith_90 ?_
                refine z_goto (tgt := 18) rfl dX8_greatestWith_93 ?_
                cases h18
                have k18 := i18 ((s18.1 + 0), (s18.2 + 1)) rfl
                try dsimp only at k18
                exact z_lv [4, 5, 6, 7, 8, 1, 0] rfl k18
      · skip
        refine z_iload 5 rfl dX8_greatestWith_96 ?_
        refine z_callSR (rest := []) hl (c_X8_size l g z2 _ rfl) zyX8_size zsX8_size zlX8_67 [] rfl rfl rfl (by decide) (Nat.le_of_ble_eq_true rfl) ⟨Nat.zero_le _, Nat.zero_le _⟩ dX8_greatestWith_98 (st2 := [.int (f_X8_size z2)]) rfl ?_
        refine z_iload_n 3 rfl rfl dX8_greatestWith_101 ?_
        refine z_icmp_le (tgt := 113) rfl dX8_greatestWith_102 (fun c102 => ?_) (fun c102 => ?_)
        · replace h5 := (if_pos c102).symm.trans h5
          refine z_iload_n 3 rfl rfl dX8_greatestWith_113 ?_
          refine z_istore_n [(3, .int s5.1), (0, .ref (a 0)), (1, .int p0), (2, .int p1), (4, .int s5.2), (5, .int z2)] rfl (Nat.le_of_ble_eq_true rfl) rfl dX8_greatestWith_114 ?_
          refine z_iinc 4 [(4, .int (s5.2 + 1)), (3, .int s5.1), (0, .ref (a 0)), (1, .int p0), (2, .int p1), (5, .int z2)] rfl (v := (s5.2 + 1)) zinc (Nat.le_of_ble_eq_true rfl) rfl dX8_greatestWith_115 ?_
          refine z_goto (tgt := 5) rfl dX8_greatestWith_118 ?_
          cases h5
          have k5 := i5 (s5.1, (s5.2 + 1)) rfl
          try dsimp only at k5
          exact z_lv [2, 3, 4, 1, 0] rfl k5
        · replace h5 := (if_neg c102).symm.trans h5
          refine z_iload 5 rfl dX8_greatestWith_105 ?_
          refine z_callSR (rest := []) hl (c_X8_size l g z2 _ rfl) zyX8_size zsX8_size zlX8_67 [] rfl rfl rfl (by decide) (Nat.le_of_ble_eq_true rfl) ⟨Nat.zero_le _, Nat.zero_le _⟩ dX8_greatestWith_107 (st2 := [.int (f_X8_size z2)]) rfl ?_
          refine z_goto (tgt := 114) rfl dX8_greatestWith_110 ?_
          refine z_istore_n [(3, .int (f_X8_size z2)), (0, .ref (a 0)), (1, .int p0), (2, .int p1), (4, .int s5.2), (5, .int z2)] rfl (Nat.le_of_ble_eq_true rfl) rfl dX8_greatestWith_114 ?_
          refine z_iinc 4 [(4, .int (s5.2 + 1)), (3, .int (f_X8_size z2)), (0, .ref (a 0)), (1, .int p0), (2, .int p1), (5, .int z2)] rfl (v := (s5.2 + 1)) zinc (Nat.le_of_ble_eq_true rfl) rfl dX8_greatestWith_115 ?_
          refine z_goto (tgt := 5) rfl dX8_greatestWith_118 ?_
          cases h5
          have k5 := i5 ((f_X8_size z2), (s5.2 + 1)) rfl
          try dsimp only at k5
          exact z_lv [2, 3, 4, 1, 0] rfl k5
  · skip
    refine z_iload_n 0 rfl rfl dX8_greatestWith_121 ?_
    cases h
    exact z_iret dX8_greatestWith_122 hQ
set_option maxHeartbeats 400000 in
set_option maxRecDepth 100000 in
theorem c_X8_ifPut (l : Launch) (g : zG) (a : Nat → Nat) (u : tX8) (p0 : Int32) (p1 : Int32) (r : Int32 × tX8) (h : f_X8_ifPut u p0 p1 = some r) : Ctr l g true yX8_ifPut cX8_ifPut 3 (some .int) 3 73 0 0 [.ref (a 0), .int p0, .int p1] ([cX8 g a u]) ([cX8 g a r.2]) (some (.int r.1)) := by
  refine ctr_of (by decide) (Nat.le_of_ble_eq_true rfl) (fun X hl _ _ _ hQ => ?_)
  unfold f_X8_ifPut at h
  refine z_lv (lv' := [(0, .ref (a 0)), (1, .int p0), (2, .int p1)]) [0, 1, 2] rfl ?_
  refine z_aload_n 0 rfl rfl dX8_ifPut_0 ?_
  refine z_iconst (v := 0) (by decide) dX8_ifPut_1 ?_
  refine z_put (t := .int) ([dX8 g a 0 u.2.1 u.2.2.1 u.2.2.2.1 u.2.2.2.2.1 u.2.2.2.2.2.1 u.2.2.2.2.2.2.1 u.2.2.2.2.2.2.2.1 u.2.2.2.2.2.2.2.2.1 u.2.2.2.2.2.2.2.2.2.1 u.2.2.2.2.2.2.2.2.2.2.1 u.2.2.2.2.2.2.2.2.2.2.2.1 u.2.2.2.2.2.2.2.2.2.2.2.2.1 u.2.2.2.2.2.2.2.2.2.2.2.2.2.1 u.2.2.2.2.2.2.2.2.2.2.2.2.2.2.1 u.2.2.2.2.2.2.2.2.2.2.2.2.2.2.2]) zcX8 0 rfl 0 rfl 0 (Nat.le_of_ble_eq_true rfl) zfX8_38 zpX8_0 (zn_i _) (zf_i _) (Nat.le_of_ble_eq_true rfl) rfl dX8_ifPut_2 ?_
  refine z_iload_n 1 rfl rfl dX8_ifPut_5 ?_
  refine z_callSR (rest := []) hl (c_X8_isDrawer l g p0 _ rfl) zyX8_isDrawer zsX8_isDrawer zlX8_117 [] rfl rfl rfl (by decide) (Nat.le_of_ble_eq_true rfl) ⟨Nat.zero_le _, Nat.zero_le _⟩ dX8_ifPut_6 (st2 := [.int (b2i (f_X8_isDrawer p0))]) rfl ?_
  refine z_ifB_ne (tgt := 18) rfl dX8_ifPut_9 (fun c9 => ?_) (fun c9 => ?_)
  · replace h := (if_pos c9).symm.trans h
    refine z_iload_n 2 rfl rfl dX8_ifPut_18 ?_
    refine z_iconst (v := 1) (by decide) dX8_ifPut_19 ?_
    refine z_bipush (v := 20) (by decide) dX8_ifPut_20 ?_
    refine z_callSR (rest := []) hl (c_X8_in l g p1 1 20 _ rfl) zyX8_in zsX8_in zlX8_42 [] rfl rfl rfl (by decide) (Nat.le_of_ble_eq_true rfl) ⟨Nat.zero_le _, Nat.zero_le _⟩ dX8_ifPut_22 (st2 := [.int (b2i (f_X8_in p1 1 20))]) rfl ?_
    refine z_ifB_eq (tgt := 37) rfl dX8_ifPut_25 (fun c25 => ?_) (fun c25 => ?_)
    · replace h := (if_neg c25).symm.trans h
      refine z_aload_n 0 rfl rfl dX8_ifPut_37 ?_
      refine z_iconst (v := 2) (by decide) dX8_ifPut_38 ?_
      obtain ⟨r1, er1, h⟩ := zb h
      refine z_callVW (rest := []) hl (c_X8_fails l g a (0, u.2.1, u.2.2.1, u.2.2.2.1, u.2.2.2.2.1, u.2.2.2.2.2.1, u.2.2.2.2.2.2.1, u.2.2.2.2.2.2.2.1, u.2.2.2.2.2.2.2.2.1, u.2.2.2.2.2.2.2.2.2.1, u.2.2.2.2.2.2.2.2.2.2.1, u.2.2.2.2.2.2.2.2.2.2.2.1, u.2.2.2.2.2.2.2.2.2.2.2.2.1, u.2.2.2.2.2.2.2.2.2.2.2.2.2.1, u.2.2.2.2.2.2.2.2.2.2.2.2.2.2.1, u.2.2.2.2.2.2.2.2.2.2.2.2.2.2.2) 2 _ (Option.some.inj er1)) zyX8_fails zvX8_fails rfl zlX8_121 zcX8.1 ⟨_, _, rfl⟩ [(0, none)] rfl (by decide) rfl (w' := [cX8 g a r1.2]) rfl rfl rfl (by decide) (Nat.le_of_ble_eq_true rfl) ⟨Nat.zero_le _, Nat.zero_le _⟩ dX8_ifPut_39 (st2 := [.int r1.1]) rfl ?_
      cases h
      try dsimp only at hQ
      exact z_iret dX8_ifPut_42 hQ
    · replace h := (if_pos c25).symm.trans h
      refine z_aload_n 0 rfl rfl dX8_ifPut_28 ?_
      refine z_iload_n 1 rfl rfl dX8_ifPut_29 ?_
      refine z_iload_n 2 rfl rfl dX8_ifPut_30 ?_
      obtain ⟨r2, er2, h⟩ := zb h
      refine z_callVR (rest := []) hl (c_X8_greatestWith l g a (0, u.2.1, u.2.2.1, u.2.2.2.1, u.2.2.2.2.1, u.2.2.2.2.2.1, u.2.2.2.2.2.2.1, u.2.2.2.2.2.2.2.1, u.2.2.2.2.2.2.2.2.1, u.2.2.2.2.2.2.2.2.2.1, u.2.2.2.2.2.2.2.2.2.2.1, u.2.2.2.2.2.2.2.2.2.2.2.1, u.2.2.2.2.2.2.2.2.2.2.2.2.1, u.2.2.2.2.2.2.2.2.2.2.2.2.2.1, u.2.2.2.2.2.2.2.2.2.2.2.2.2.2.1, u.2.2.2.2.2.2.2.2.2.2.2.2.2.2.2) p0 p1 _ er2) zyX8_greatestWith zvX8_greatestWith rfl zlX8_180 zcX8.1 ⟨_, _, rfl⟩ [(0, none)] rfl rfl rfl (by decide) (Nat.le_of_ble_eq_true rfl) ⟨Nat.zero_le _, Nat.zero_le _⟩ dX8_ifPut_31 (st2 := [.int r2]) rfl ?_
      refine z_goto (tgt := 42) rfl dX8_ifPut_34 ?_
      cases h
      try dsimp only at hQ
      exact z_iret dX8_ifPut_42 hQ
  · replace h := (if_neg c9).symm.trans h
    refine z_aload_n 0 rfl rfl dX8_ifPut_12 ?_
    refine z_iconst (v := 1) (by decide) dX8_ifPut_13 ?_
    obtain ⟨r3, er3, h⟩ := zb h
    refine z_callVW (rest := []) hl (c_X8_fails l g a (0, u.2.1, u.2.2.1, u.2.2.2.1, u.2.2.2.2.1, u.2.2.2.2.2.1, u.2.2.2.2.2.2.1, u.2.2.2.2.2.2.2.1, u.2.2.2.2.2.2.2.2.1, u.2.2.2.2.2.2.2.2.2.1, u.2.2.2.2.2.2.2.2.2.2.1, u.2.2.2.2.2.2.2.2.2.2.2.1, u.2.2.2.2.2.2.2.2.2.2.2.2.1, u.2.2.2.2.2.2.2.2.2.2.2.2.2.1, u.2.2.2.2.2.2.2.2.2.2.2.2.2.2.1, u.2.2.2.2.2.2.2.2.2.2.2.2.2.2.2) 1 _ (Option.some.inj er3)) zyX8_fails zvX8_fails rfl zlX8_121 zcX8.1 ⟨_, _, rfl⟩ [(0, none)] rfl (by decide) rfl (w' := [cX8 g a r3.2]) rfl rfl rfl (by decide) (Nat.le_of_ble_eq_true rfl) ⟨Nat.zero_le _, Nat.zero_le _⟩ dX8_ifPut_14 (st2 := [.int r3.1]) rfl ?_
    cases h
    try dsimp only at hQ
    exact z_iret dX8_ifPut_17 hQ
set_option maxHeartbeats 400000 in
set_option maxRecDepth 100000 in
theorem c_X8_drawerFor (l : Launch) (g : zG) (a : Nat → Nat) (u : tX8) (p0 : Int32) (r : Int32) (h : f_X8_drawerFor u p0 = some r) : Ctr l g false yX8_drawerFor cX8_drawerFor 7 (some .int) 3 73 0 0 [.ref (a 0), .int p0] ([cX8 g a u]) ([cX8 g a u]) (some (.int r)) := by
  refine ctr_of (by decide) (Nat.le_of_ble_eq_true rfl) (fun X hl _ _ _ hQ => ?_)
  unfold f_X8_drawerFor at h
  refine z_lv (lv' := [(0, .ref (a 0)), (1, .int p0)]) [0, 1] rfl ?_
  refine z_iconst (v := (-1)) (by decide) dX8_drawerFor_0 ?_
  refine z_istore_n [(2, .int (-1)), (0, .ref (a 0)), (1, .int p0)] rfl (Nat.le_of_ble_eq_true rfl) rfl dX8_drawerFor_1 ?_
  refine z_iconst (v := 0) (by decide) dX8_drawerFor_2 ?_
  refine z_istore_n [(3, .int 0), (2, .int (-1)), (0, .ref (a 0)), (1, .int p0)] rfl (Nat.le_of_ble_eq_true rfl) rfl dX8_drawerFor_3 ?_
  refine z_iconst (v := 0) (by decide) dX8_drawerFor_4 ?_
  refine z_istore [(4, .int 0), (3, .int 0), (2, .int (-1)), (0, .ref (a 0)), (1, .int p0)] (Nat.le_of_ble_eq_true rfl) rfl dX8_drawerFor_5 ?_
  obtain ⟨z1, ez1, h⟩ := zb h
  refine z_lv (lv' := [(0, .ref (a 0)), (1, .int p0), (2, .int (-1)), (3, .int 0), (4, .int 0)]) [3, 4, 2, 1, 0] rfl ?_
  suffices hk7 : (fun (s7 : Int32 × Int32 × Int32) => Z false RX8 cX8_drawerFor 7 3 73 g X 0 0 ([cX8 g a u]) [(0, .ref (a 0)), (1, .int p0), (2, .int s7.1), (3, .int s7.2.1), (4, .int s7.2.2)] 7 []) ((-1), 0, 0) by try dsimp only at hk7; exact hk7
  refine lp_ind (σ := Int32 × Int32 × Int32) (ε := Int32) (b_X8_drawerFor_7 u p0) (fun s7 => Z false RX8 cX8_drawerFor 7 3 73 g X 0 0 ([cX8 g a u]) [(0, .ref (a 0)), (1, .int p0), (2, .int s7.1), (3, .int s7.2.1), (4, .int s7.2.2)] 7 []) (fun z1 => Z false RX8 cX8_drawerFor 7 3 73 g X 0 0 ([cX8 g a u]) [(2, .int z1)] 108 []) (fun s7 q7 h7 i7 x7 => ?_) 5000 ((-1), 0, 0) z1 ez1 ?_
  · unfold b_X8_drawerFor_7 at h7
    refine z_iload 4 rfl dX8_drawerFor_7 ?_
    refine z_bipush (v := 12) (by decide) dX8_drawerFor_9 ?_
    refine z_icmp_ge (tgt := 108) rfl dX8_drawerFor_11 (fun c11 => ?_) (fun c11 => ?_)
    · replace h7 := (if_pos c11).symm.trans h7
      cases h7
      have k7 := x7 s7.1 rfl
      try dsimp only at k7
      exact z_lv [2] rfl k7
    · replace h7 := (if_neg c11).symm.trans h7
      refine z_aload_n 0 rfl rfl dX8_drawerFor_14 ?_
      refine z_iload 4 rfl dX8_drawerFor_15 ?_
      refine z_iload_n 1 rfl rfl dX8_drawerFor_17 ?_
      obtain ⟨r2, er2, h7⟩ := zb h7
      refine z_callVR (rest := []) hl (c_X8_greatestWith l g a u s7.2.2 p0 _ er2) zyX8_greatestWith zvX8_greatestWith rfl zlX8_180 zcX8.1 ⟨_, _, rfl⟩ [(0, none)] rfl rfl rfl (by decide) (Nat.le_of_ble_eq_true rfl) ⟨Nat.zero_le _, Nat.zero_le _⟩ dX8_drawerFor_18 (st2 := [.int r2]) rfl ?_
      refine z_istore [(5, .int r2), (0, .ref (a 0)), (1, .int p0), (2, .int s7.1), (3, .int s7.2.1), (4, .int s7.2.2)] (Nat.le_of_ble_eq_true rfl) rfl dX8_drawerFor_21 ?_
      refine z_aload_n 1 rfl rfl dX8_drawerFor_23 ?_
      refine z_get zcX8 0 rfl 0 rfl 1 (Nat.le_of_ble_eq_true rfl) zfX8_7 (v := .ref (a 1)) rfl dX8_drawerFor_24 ?_
      refine z_bipush (v := 10) (by decide) dX8_drawerFor_27 ?_
      refine z_iload 5 rfl dX8_drawerFor_29 ?_
      refine z_iadd dX8_drawerFor_31 ?_
      obtain ⟨r3, er3, h7⟩ := zb h7
      refine z_iald 0 rfl 1 rfl er3 dX8_drawerFor_32 ?_
      refine z_if_ne (tgt := 57) rfl dX8_drawerFor_33 (fun c33 => ?_) (fun c33 => ?_)
      · replace h7 := (if_neg c33).symm.trans h7
        refine z_iconst (v := 0) (by decide) dX8_drawerFor_57 ?_
        refine z_istore [(6, .int 0), (5, .int r2), (0, .ref (a 0)), (1, .int p0), (2, .int s7.1), (3, .int s7.2.1), (4, .int s7.2.2)] (Nat.le_of_ble_eq_true rfl) rfl dX8_drawerFor_58 ?_
        refine z_iload 0 rfl dX8_drawerFor_60 ?_
        refine z_if_eq (tgt := 102) rfl dX8_drawerFor_62 (fun c62 => ?_) (fun c62 => ?_)
        · replace h7 := (if_pos c62).symm.trans h7
          refine z_iinc 6 [(4, .int (s7.2.2 + 1)), (6, .int 0), (5, .int r2), (0, .ref (a 0)), (1, .int p0), (2, .int s7.1), (3, .int s7.2.1)] rfl (v := (s7.2.2 + 1)) zinc (Nat.le_of_ble_eq_true rfl) rfl dX8_drawerFor_102 ?_
          refine z_goto (tgt := 7) rfl dX8_drawerFor_105 ?_
          cases h7
          have k7 := i7 (s7.1, s7.2.1, (s7.2.2 + 1)) rfl
          try dsimp only at k7
          exact z_lv [3, 4, 5, 6, 0] rfl k7
        · replace h7 := (if_neg c62).symm.trans h7
          refine z_iload_n 4 rfl rfl dX8_drawerFor_65 ?_
          refine z_iconst (v := (-1)) (by decide) dX8_drawerFor_66 ?_
          refine z_icmp_eq (tgt := 96) rfl dX8_drawerFor_67 (fun c67 => ?_) (fun c67 => ?_)
          · replace h7 := (if_pos c67).symm.trans h7
            refine z_iload 6 rfl dX8_drawerFor_96 ?_
            refine z_istore_n [(2, .int s7.2.2), (6, .int 0), (5, .int r2), (0, .ref (a 0)), (1, .int p0), (3, .int s7.2.1), (4, .int s7.2.2)] rfl (Nat.le_of_ble_eq_true rfl) rfl dX8_drawerFor_98 ?_
            refine z_iload 2 rfl dX8_drawerFor_99 ?_
            refine z_istore_n [(3, .int r2), (2, .int s7.2.2), (6, .int 0), (5, .int r2), (0, .ref (a 0)), (1, .int p0), (4, .int s7.2.2)] rfl (Nat.le_of_ble_eq_true rfl) rfl dX8_drawerFor_101 ?_
            refine z_iinc 6 [(4, .int (s7.2.2 + 1)), (3, .int r2), (2, .int s7.2.2), (6, .int 0), (5, .int r2), (0, .ref (a 0)), (1, .int p0)] rfl (v := (s7.2.2 + 1)) zinc (Nat.le_of_ble_eq_true rfl) rfl dX8_drawerFor_102 ?_
            refine z_goto (tgt := 7) rfl dX8_drawerFor_105 ?_
            cases h7
            have k7 := i7 (s7.2.2, r2, (s7.2.2 + 1)) rfl
            try dsimp only at k7
            exact z_lv [5, 6, 2, 1, 0] rfl k7
          · replace h7 := (if_neg c67).symm.trans h7
            refine z_iload 1 rfl dX8_drawerFor_70 ?_
            refine z_iload_n 5 rfl rfl dX8_drawerFor_72 ?_
            refine z_icmp_lt (tgt := 96) rfl dX8_drawerFor_73 (fun c73 => ?_) (fun c73 => ?_)
            · replace h7 := (if_pos c73).symm.trans h7
              refine z_iload 6 rfl dX8_drawerFor_96 ?_
              refine z_istore_n [(2, .int s7.2.2), (6, .int 0), (5, .int r2), (0, .ref (a 0)), (1, .int p0), (3, .int s7.2.1), (4, .int s7.2.2)] rfl (Nat.le_of_ble_eq_true rfl) rfl dX8_drawerFor_98 ?_
              refine z_iload 2 rfl dX8_drawerFor_99 ?_
              refine z_istore_n [(3, .int r2), (2, .int s7.2.2), (6, .int 0), (5, .int r2), (0, .ref (a 0)), (1, .int p0), (4, .int s7.2.2)] rfl (Nat.le_of_ble_eq_true rfl) rfl dX8_drawerFor_101 ?_
              refine z_iinc 6 [(4, .int (s7.2.2 + 1)), (3, .int r2), (2, .int s7.2.2), (6, .int 0), (5, .int r2), (0, .ref (a 0)), (1, .int p0)] rfl (v := (s7.2.2 + 1)) zinc (Nat.le_of_ble_eq_true rfl) rfl dX8_drawerFor_102 ?_
              refine z_goto (tgt := 7) rfl dX8_drawerFor_105 ?_
              cases h7
              have k7 := i7 (s7.2.2, r2, (s7.2.2 + 1)) rfl
              try dsimp only at k7
              exact z_lv [5, 6, 2, 1, 0] rfl k7
            · replace h7 := (if_neg c73).symm.trans h7
              refine z_iload 1 rfl dX8_drawerFor_76 ?_
              refine z_iload_n 5 rfl rfl dX8_drawerFor_78 ?_
              refine z_icmp_ne (tgt := 102) rfl dX8_drawerFor_79 (fun c79 => ?_) (fun c79 => ?_)
              · replace h7 := (if_neg c79).symm.trans h7
                refine z_iinc 6 [(4, .int (s7.2.2 + 1)), (6, .int 0), (5, .int r2), (0, .ref (a 0)), (1, .int p0), (2, .int s7.1), (3, .int s7.2.1)] rfl (v := (s7.2.2 + 1)) zinc (Nat.le_of_ble_eq_true rfl) rfl dX8_drawerFor_102 ?_
                refine z_goto (tgt := 7) rfl dX8_drawerFor_105 ?_
                cases h7
                have k7 := i7 (s7.1, s7.2.1, (s7.2.2 + 1)) rfl
                try dsimp only at k7
                exact z_lv [3, 4, 5, 6, 0] rfl k7
              · replace h7 := (if_pos c79).symm.trans h7
                refine z_aload_n 2 rfl rfl dX8_drawerFor_82 ?_
                refine z_iload 6 rfl dX8_drawerFor_83 ?_
                obtain ⟨r4, er4, h7⟩ := zb h7
                refine z_callVR (rest := []) hl (c_X8_loadOf l g a u s7.2.2 _ er4) zyX8_loadOf zvX8_loadOf rfl zlX8_124 zcX8.1 ⟨_, _, rfl⟩ [(0, none)] rfl rfl rfl (by decide) (Nat.le_of_ble_eq_true rfl) ⟨Nat.zero_le _, Nat.zero_le _⟩ dX8_drawerFor_85 (st2 := [.int r4]) rfl ?_
                refine z_aload_n 2 rfl rfl dX8_drawerFor_88 ?_
                refine z_iload_n 4 rfl rfl dX8_drawerFor_89 ?_
                obtain ⟨r5, er5, h7⟩ := zb h7
                refine z_callVR (rest := [.int r4]) hl (c_X8_loadOf l g a u s7.1 _ er5) zyX8_loadOf zvX8_loadOf rfl zlX8_124 zcX8.1 ⟨_, _, rfl⟩ [(0, none)] rfl rfl rfl (by decide) (Nat.le_of_ble_eq_true rfl) ⟨Nat.zero_le _, Nat.zero_le _⟩ dX8_drawerFor_90 (st2 := [.int r5, .int r4]) rfl ?_
                refine z_icmp_ge (tgt := 102) rfl dX8_drawerFor_93 (fun c93 => ?_) (fun c93 => ?_)
                · replace h7 := (if_pos c93).symm.trans h7
                  refine z_iinc 6 [(4, .int (s7.2.2 + 1)), (6, .int 0), (5, .int r2), (0, .ref (a 0)), (1, .int p0), (2, .int s7.1), (3, .int s7.2.1)] rfl (v := (s7.2.2 + 1)) zinc (Nat.le_of_ble_eq_true rfl) rfl dX8_drawerFor_102 ?_
                  refine z_goto (tgt := 7) rfl dX8_drawerFor_105 ?_
                  cases h7
                  have k7 := i7 (s7.1, s7.2.1, (s7.2.2 + 1)) rfl
                  try dsimp only at k7
                  exact z_lv [3, 4, 5, 6, 0] rfl k7
                · replace h7 := (if_neg c93).symm.trans h7
                  refine z_iload 6 rfl dX8_drawerFor_96 ?_
                  refine z_istore_n [(2, .int s7.2.2), (6, .int 0), (5, .int r2), (0, .ref (a 0)), (1, .int p0), (3, .int s7.2.1), (4, .int s7.2.2)] rfl (Nat.le_of_ble_eq_true rfl) rfl dX8_drawerFor_98 ?_
                  refine z_iload 2 rfl dX8_drawerFor_99 ?_
                  refine z_istore_n [(3, .int r2), (2, .int s7.2.2), (6, .int 0), (5, .int r2), (0, .ref (a 0)), (1, .int p0), (4, .int s7.2.2)] rfl (Nat.le_of_ble_eq_true rfl) rfl dX8_drawerFor_101 ?_
                  refine z_iinc 6 [(4, .int (s7.2.2 + 1)), (3, .int r2), (2, .int s7.2.2), (6, .int 0), (5, .int r2), (0, .ref (a 0)), (1, .int p0)] rfl (v := (s7.2.2 + 1)) zinc (Nat.le_of_ble_eq_true rfl) rfl dX8_drawerFor_102 ?_
                  refine z_goto (tgt := 7) rfl dX8_drawerFor_105 ?_
                  cases h7
                  have k7 := i7 (s7.2.2, r2, (s7.2.2 + 1)) rfl
                  try dsimp only at k7
                  exact z_lv [5, 6, 2, 1, 0] rfl k7
      · replace h7 := (if_pos c33).symm.trans h7
        refine z_aload_n 1 rfl rfl dX8_drawerFor_36 ?_
        refine z_iload 5 rfl dX8_drawerFor_37 ?_
        obtain ⟨r6, er6, h7⟩ := zb h7
        refine z_callVR (rest := []) hl (c_X8_loadOf l g a u s7.2.2 _ er6) zyX8_loadOf zvX8_loadOf rfl zlX8_124 zcX8.1 ⟨_, _, rfl⟩ [(0, none)] rfl rfl rfl (by decide) (Nat.le_of_ble_eq_true rfl) ⟨Nat.zero_le _, Nat.zero_le _⟩ dX8_drawerFor_39 (st2 := [.int r6]) rfl ?_
        refine z_iload_n 2 rfl rfl dX8_drawerFor_42 ?_
        refine z_iadd dX8_drawerFor_43 ?_
        refine z_aload_n 1 rfl rfl dX8_drawerFor_44 ?_
        refine z_get zcX8 0 rfl 0 rfl 1 (Nat.le_of_ble_eq_true rfl) zfX8_7 (v := .ref (a 1)) rfl dX8_drawerFor_45 ?_
        refine z_iconst (v := 1) (by decide) dX8_drawerFor_48 ?_
        obtain ⟨r7, er7, h7⟩ := zb h7
        refine z_iald 0 rfl 1 rfl er7 dX8_drawerFor_49 ?_
        refine z_icmp_gt (tgt := 57) rfl dX8_drawerFor_50 (fun c50 => ?_) (fun c50 => ?_)
        · replace h7 := (if_pos c50).symm.trans h7
          refine z_iconst (v := 0) (by decide) dX8_drawerFor_57 ?_
          refine z_istore [(6, .int 0), (5, .int r2), (0, .ref (a 0)), (1, .int p0), (2, .int s7.1), (3, .int s7.2.1), (4, .int s7.2.2)] (Nat.le_of_ble_eq_true rfl) rfl dX8_drawerFor_58 ?_
          refine z_iload 0 rfl dX8_drawerFor_60 ?_
          refine z_if_eq (tgt := 102) rfl dX8_drawerFor_62 (fun c62 => ?_) (fun c62 => ?_)
          · replace h7 := (if_pos c62).symm.trans h7
            refine z_iinc 6 [(4, .int (s7.2.2 + 1)), (6, .int 0), (5, .int r2), (0, .ref (a 0)), (1, .int p0), (2, .int s7.1), (3, .int s7.2.1)] rfl (v := (s7.2.2 + 1)) zinc (Nat.le_of_ble_eq_true rfl) rfl dX8_drawerFor_102 ?_
            refine z_goto (tgt := 7) rfl dX8_drawerFor_105 ?_
            cases h7
            have k7 := i7 (s7.1, s7.2.1, (s7.2.2 + 1)) rfl
            try dsimp only at k7
            exact z_lv [3, 4, 5, 6, 0] rfl k7
          · replace h7 := (if_neg c62).symm.trans h7
            refine z_iload_n 4 rfl rfl dX8_drawerFor_65 ?_
            refine z_iconst (v := (-1)) (by decide) dX8_drawerFor_66 ?_
            refine z_icmp_eq (tgt := 96) rfl dX8_drawerFor_67 (fun c67 => ?_) (fun c67 => ?_)
            · replace h7 := (if_pos c67).symm.trans h7
              refine z_iload 6 rfl dX8_drawerFor_96 ?_
              refine z_istore_n [(2, .int s7.2.2), (6, .int 0), (5, .int r2), (0, .ref (a 0)), (1, .int p0), (3, .int s7.2.1), (4, .int s7.2.2)] rfl (Nat.le_of_ble_eq_true rfl) rfl dX8_drawerFor_98 ?_
              refine z_iload 2 rfl dX8_drawerFor_99 ?_
              refine z_istore_n [(3, .int r2), (2, .int s7.2.2), (6, .int 0), (5, .int r2), (0, .ref (a 0)), (1, .int p0), (4, .int s7.2.2)] rfl (Nat.le_of_ble_eq_true rfl) rfl dX8_drawerFor_101 ?_
              refine z_iinc 6 [(4, .int (s7.2.2 + 1)), (3, .int r2), (2, .int s7.2.2), (6, .int 0), (5, .int r2), (0, .ref (a 0)), (1, .int p0)] rfl (v := (s7.2.2 + 1)) zinc (Nat.le_of_ble_eq_true rfl) rfl dX8_drawerFor_102 ?_
              refine z_goto (tgt := 7) rfl dX8_drawerFor_105 ?_
              cases h7
              have k7 := i7 (s7.2.2, r2, (s7.2.2 + 1)) rfl
              try dsimp only at k7
              exact z_lv [5, 6, 2, 1, 0] rfl k7
            · replace h7 := (if_neg c67).symm.trans h7
              refine z_iload 1 rfl dX8_drawerFor_70 ?_
              refine z_iload_n 5 rfl rfl dX8_drawerFor_72 ?_
              refine z_icmp_lt (tgt := 96) rfl dX8_drawerFor_73 (fun c73 => ?_) (fun c73 => ?_)
              · replace h7 := (if_pos c73).symm.trans h7
                refine z_iload 6 rfl dX8_drawerFor_96 ?_
                refine z_istore_n [(2, .int s7.2.2), (6, .int 0), (5, .int r2), (0, .ref (a 0)), (1, .int p0), (3, .int s7.2.1), (4, .int s7.2.2)] rfl (Nat.le_of_ble_eq_true rfl) rfl dX8_drawerFor_98 ?_
                refine z_iload 2 rfl dX8_drawerFor_99 ?_
                refine z_istore_n [(3, .int r2), (2, .int s7.2.2), (6, .int 0), (5, .int r2), (0, .ref (a 0)), (1, .int p0), (4, .int s7.2.2)] rfl (Nat.le_of_ble_eq_true rfl) rfl dX8_drawerFor_101 ?_
                refine z_iinc 6 [(4, .int (s7.2.2 + 1)), (3, .int r2), (2, .int s7.2.2), (6, .int 0), (5, .int r2), (0, .ref (a 0)), (1, .int p0)] rfl (v := (s7.2.2 + 1)) zinc (Nat.le_of_ble_eq_true rfl) rfl dX8_drawerFor_102 ?_
                refine z_goto (tgt := 7) rfl dX8_drawerFor_105 ?_
                cases h7
                have k7 := i7 (s7.2.2, r2, (s7.2.2 + 1)) rfl
                try dsimp only at k7
                exact z_lv [5, 6, 2, 1, 0] rfl k7
              · replace h7 := (if_neg c73).symm.trans h7
                refine z_iload 1 rfl dX8_drawerFor_76 ?_
                refine z_iload_n 5 rfl rfl dX8_drawerFor_78 ?_
                refine z_icmp_ne (tgt := 102) rfl dX8_drawerFor_79 (fun c79 => ?_) (fun c79 => ?_)
                · replace h7 := (if_neg c79).symm.trans h7
                  refine z_iinc 6 [(4, .int (s7.2.2 + 1)), (6, .int 0), (5, .int r2), (0, .ref (a 0)), (1, .int p0), (2, .int s7.1), (3, .int s7.2.1)] rfl (v := (s7.2.2 + 1)) zinc (Nat.le_of_ble_eq_true rfl) rfl dX8_drawerFor_102 ?_
                  refine z_goto (tgt := 7) rfl dX8_drawerFor_105 ?_
                  cases h7
                  have k7 := i7 (s7.1, s7.2.1, (s7.2.2 + 1)) rfl
                  try dsimp only at k7
                  exact z_lv [3, 4, 5, 6, 0] rfl k7
                · replace h7 := (if_pos c79).symm.trans h7
                  refine z_aload_n 2 rfl rfl dX8_drawerFor_82 ?_
                  refine z_iload 6 rfl dX8_drawerFor_83 ?_
                  obtain ⟨r8, er8, h7⟩ := zb h7
                  refine z_callVR (rest := []) hl (c_X8_loadOf l g a u s7.2.2 _ er8) zyX8_loadOf zvX8_loadOf rfl zlX8_124 zcX8.1 ⟨_, _, rfl⟩ [(0, none)] rfl rfl rfl (by decide) (Nat.le_of_ble_eq_true rfl) ⟨Nat.zero_le _, Nat.zero_le _⟩ dX8_drawerFor_85 (st2 := [.int r8]) rfl ?_
                  refine z_aload_n 2 rfl rfl dX8_drawerFor_88 ?_
                  refine z_iload_n 4 rfl rfl dX8_drawerFor_89 ?_
                  obtain ⟨r9, er9, h7⟩ := zb h7
                  refine z_callVR (rest := [.int r8]) hl (c_X8_loadOf l g a u s7.1 _ er9) zyX8_loadOf zvX8_loadOf rfl zlX8_124 zcX8.1 ⟨_, _, rfl⟩ [(0, none)] rfl rfl rfl (by decide) (Nat.le_of_ble_eq_true rfl) ⟨Nat.zero_le _, Nat.zero_le _⟩ dX8_drawerFor_90 (st2 := [.int r9, .int r8]) rfl ?_
                  refine z_icmp_ge (tgt := 102) rfl dX8_drawerFor_93 (fun c93 => ?_) (fun c93 => ?_)
                  · replace h7 := (if_pos c93).symm.trans h7
                    refine z_iinc 6 [(4, .int (s7.2.2 + 1)), (6, .int 0), (5, .int r2), (0, .ref (a 0)), (1, .int p0), (2, .int s7.1), (3, .int s7.2.1)] rfl (v := (s7.2.2 + 1)) zinc (Nat.le_of_ble_eq_true rfl) rfl dX8_drawerFor_102 ?_
                    refine z_goto (tgt := 7) rfl dX8_drawerFor_105 ?_
                    cases h7
                    have k7 := i7 (s7.1, s7.2.1, (s7.2.2 + 1)) rfl
                    try dsimp only at k7
                    exact z_lv [3, 4, 5, 6, 0] rfl k7
                  · replace h7 := (if_neg c93).symm.trans h7
                    refine z_iload 6 rfl dX8_drawerFor_96 ?_
                    refine z_istore_n [(2, .int s7.2.2), (6, .int 0), (5, .int r2), (0, .ref (a 0)), (1, .int p0), (3, .int s7.2.1), (4, .int s7.2.2)] rfl (Nat.le_of_ble_eq_true rfl) rfl dX8_drawerFor_98 ?_
                    refine z_iload 2 rfl dX8_drawerFor_99 ?_
                    refine z_istore_n [(3, .int r2), (2, .int s7.2.2), (6, .int 0), (5, .int r2), (0, .ref (a 0)), (1, .int p0), (4, .int s7.2.2)] rfl (Nat.le_of_ble_eq_true rfl) rfl dX8_drawerFor_101 ?_
                    refine z_iinc 6 [(4, .int (s7.2.2 + 1)), (3, .int r2), (2, .int s7.2.2), (6, .int 0), (5, .int r2), (0, .ref (a 0)), (1, .int p0)] rfl (v := (s7.2.2 + 1)) zinc (Nat.le_of_ble_eq_true rfl) rfl dX8_drawerFor_102 ?_
                    refine z_goto (tgt := 7) rfl dX8_drawerFor_105 ?_
                    cases h7
                    have k7 := i7 (s7.2.2, r2, (s7.2.2 + 1)) rfl
                    try dsimp only at k7
                    exact z_lv [5, 6, 2, 1, 0] rfl k7
        · replace h7 := (if_neg c50).symm.trans h7
          refine z_iconst (v := 1) (by decide) dX8_drawerFor_53 ?_
          refine z_goto (tgt := 58) rfl dX8_drawerFor_54 ?_
          refine z_istore [(6, .int 1), (5, .int r2), (0, .ref (a 0)), (1, .int p0), (2, .int s7.1), (3, .int s7.2.1), (4, .int s7.2.2)] (Nat.le_of_ble_eq_true rfl) rfl dX8_drawerFor_58 ?_
          refine z_iload 0 rfl dX8_drawerFor_60 ?_
          refine z_if_eq (tgt := 102) rfl dX8_drawerFor_62 (fun c62 => ?_) (fun c62 => ?_)
          · replace h7 := (if_pos c62).symm.trans h7
            refine z_iinc 6 [(4, .int (s7.2.2 + 1)), (6, .int 1), (5, .int r2), (0, .ref (a 0)), (1, .int p0), (2, .int s7.1), (3, .int s7.2.1)] rfl (v := (s7.2.2 + 1)) zinc (Nat.le_of_ble_eq_true rfl) rfl dX8_drawerFor_102 ?_
            refine z_goto (tgt := 7) rfl dX8_drawerFor_105 ?_
            cases h7
            have k7 := i7 (s7.1, s7.2.1, (s7.2.2 + 1)) rfl
            try dsimp only at k7
            exact z_lv [3, 4, 5, 6, 0] rfl k7
          · replace h7 := (if_neg c62).symm.trans h7
            refine z_iload_n 4 rfl rfl dX8_drawerFor_65 ?_
            refine z_iconst (v := (-1)) (by decide) dX8_drawerFor_66 ?_
            refine z_icmp_eq (tgt := 96) rfl dX8_drawerFor_67 (fun c67 => ?_) (fun c67 => ?_)
            · replace h7 := (if_pos c67).symm.trans h7
              refine z_iload 6 rfl dX8_drawerFor_96 ?_
              refine z_istore_n [(2, .int s7.2.2), (6, .int 1), (5, .int r2), (0, .ref (a 0)), (1, .int p0), (3, .int s7.2.1), (4, .int s7.2.2)] rfl (Nat.le_of_ble_eq_true rfl) rfl dX8_drawerFor_98 ?_
              refine z_iload 2 rfl dX8_drawerFor_99 ?_
              refine z_istore_n [(3, .int r2), (2, .int s7.2.2), (6, .int 1), (5, .int r2), (0, .ref (a 0)), (1, .int p0), (4, .int s7.2.2)] rfl (Nat.le_of_ble_eq_true rfl) rfl dX8_drawerFor_101 ?_
              refine z_iinc 6 [(4, .int (s7.2.2 + 1)), (3, .int r2), (2, .int s7.2.2), (6, .int 1), (5, .int r2), (0, .ref (a 0)), (1, .int p0)] rfl (v := (s7.2.2 + 1)) zinc (Nat.le_of_ble_eq_true rfl) rfl dX8_drawerFor_102 ?_
              refine z_goto (tgt := 7) rfl dX8_drawerFor_105 ?_
              cases h7
              have k7 := i7 (s7.2.2, r2, (s7.2.2 + 1)) rfl
              try dsimp only at k7
              exact z_lv [5, 6, 2, 1, 0] rfl k7
            · replace h7 := (if_neg c67).symm.trans h7
              refine z_iload 1 rfl dX8_drawerFor_70 ?_
              refine z_iload_n 5 rfl rfl dX8_drawerFor_72 ?_
              refine z_icmp_lt (tgt := 96) rfl dX8_drawerFor_73 (fun c73 => ?_) (fun c73 => ?_)
              · replace h7 := (if_pos c73).symm.trans h7
                refine z_iload 6 rfl dX8_drawerFor_96 ?_
                refine z_istore_n [(2, .int s7.2.2), (6, .int 1), (5, .int r2), (0, .ref (a 0)), (1, .int p0), (3, .int s7.2.1), (4, .int s7.2.2)] rfl (Nat.le_of_ble_eq_true rfl) rfl dX8_drawerFor_98 ?_
                refine z_iload 2 rfl dX8_drawerFor_99 ?_
                refine z_istore_n [(3, .int r2), (2, .int s7.2.2), (6, .int 1), (5, .int r2), (0, .ref (a 0)), (1, .int p0), (4, .int s7.2.2)] rfl (Nat.le_of_ble_eq_true rfl) rfl dX8_drawerFor_101 ?_
                refine z_iinc 6 [(4, .int (s7.2.2 + 1)), (3, .int r2), (2, .int s7.2.2), (6, .int 1), (5, .int r2), (0, .ref (a 0)), (1, .int p0)] rfl (v := (s7.2.2 + 1)) zinc (Nat.le_of_ble_eq_true rfl) rfl dX8_drawerFor_102 ?_
                refine z_goto (tgt := 7) rfl dX8_drawerFor_105 ?_
                cases h7
                have k7 := i7 (s7.2.2, r2, (s7.2.2 + 1)) rfl
                try dsimp only at k7
                exact z_lv [5, 6, 2, 1, 0] rfl k7
              · replace h7 := (if_neg c73).symm.trans h7
                refine z_iload 1 rfl dX8_drawerFor_76 ?_
                refine z_iload_n 5 rfl rfl dX8_drawerFor_78 ?_
                refine z_icmp_ne (tgt := 102) rfl dX8_drawerFor_79 (fun c79 => ?_) (fun c79 => ?_)
                · replace h7 := (if_neg c79).symm.trans h7
                  refine z_iinc 6 [(4, .int (s7.2.2 + 1)), (6, .int 1), (5, .int r2), (0, .ref (a 0)), (1, .int p0), (2, .int s7.1), (3, .int s7.2.1)] rfl (v := (s7.2.2 + 1)) zinc (Nat.le_of_ble_eq_true rfl) rfl dX8_drawerFor_102 ?_
                  refine z_goto (tgt := 7) rfl dX8_drawerFor_105 ?_
                  cases h7
                  have k7 := i7 (s7.1, s7.2.1, (s7.2.2 + 1)) rfl
                  try dsimp only at k7
                  exact z_lv [3, 4, 5, 6, 0] rfl k7
                · replace h7 := (if_pos c79).symm.trans h7
                  refine z_aload_n 2 rfl rfl dX8_drawerFor_82 ?_
                  refine z_iload 6 rfl dX8_drawerFor_83 ?_
                  obtain ⟨r10, er10, h7⟩ := zb h7
                  refine z_callVR (rest := []) hl (c_X8_loadOf l g a u s7.2.2 _ er10) zyX8_loadOf zvX8_loadOf rfl zlX8_124 zcX8.1 ⟨_, _, rfl⟩ [(0, none)] rfl rfl rfl (by decide) (Nat.le_of_ble_eq_true rfl) ⟨Nat.zero_le _, Nat.zero_le _⟩ dX8_drawerFor_85 (st2 := [.int r10]) rfl ?_
                  refine z_aload_n 2 rfl rfl dX8_drawerFor_88 ?_
                  refine z_iload_n 4 rfl rfl dX8_drawerFor_89 ?_
                  obtain ⟨r11, er11, h7⟩ := zb h7
                  refine z_callVR (rest := [.int r10]) hl (c_X8_loadOf l g a u s7.1 _ er11) zyX8_loadOf zvX8_loadOf rfl zlX8_124 zcX8.1 ⟨_, _, rfl⟩ [(0, none)] rfl rfl rfl (by decide) (Nat.le_of_ble_eq_true rfl) ⟨Nat.zero_le _, Nat.zero_le _⟩ dX8_drawerFor_90 (st2 := [.int r11, .int r10]) rfl ?_
                  refine z_icmp_ge (tgt := 102) rfl dX8_drawerFor_93 (fun c93 => ?_) (fun c93 => ?_)
                  · replace h7 := (if_pos c93).symm.trans h7
                    refine z_iinc 6 [(4, .int (s7.2.2 + 1)), (6, .int 1), (5, .int r2), (0, .ref (a 0)), (1, .int p0), (2, .int s7.1), (3, .int s7.2.1)] rfl (v := (s7.2.2 + 1)) zinc (Nat.le_of_ble_eq_true rfl) rfl dX8_drawerFor_102 ?_
                    refine z_goto (tgt := 7) rfl dX8_drawerFor_105 ?_
                    cases h7
                    have k7 := i7 (s7.1, s7.2.1, (s7.2.2 + 1)) rfl
                    try dsimp only at k7
                    exact z_lv [3, 4, 5, 6, 0] rfl k7
                  · replace h7 := (if_neg c93).symm.trans h7
                    refine z_iload 6 rfl dX8_drawerFor_96 ?_
                    refine z_istore_n [(2, .int s7.2.2), (6, .int 1), (5, .int r2), (0, .ref (a 0)), (1, .int p0), (3, .int s7.2.1), (4, .int s7.2.2)] rfl (Nat.le_of_ble_eq_true rfl) rfl dX8_drawerFor_98 ?_
                    refine z_iload 2 rfl dX8_drawerFor_99 ?_
                    refine z_istore_n [(3, .int r2), (2, .int s7.2.2), (6, .int 1), (5, .int r2), (0, .ref (a 0)), (1, .int p0), (4, .int s7.2.2)] rfl (Nat.le_of_ble_eq_true rfl) rfl dX8_drawerFor_101 ?_
                    refine z_iinc 6 [(4, .int (s7.2.2 + 1)), (3, .int r2), (2, .int s7.2.2), (6, .int 1), (5, .int r2), (0, .ref (a 0)), (1, .int p0)] rfl (v := (s7.2.2 + 1)) zinc (Nat.le_of_ble_eq_true rfl) rfl dX8_drawerFor_102 ?_
                    refine z_goto (tgt := 7) rfl dX8_drawerFor_105 ?_
                    cases h7
                    have k7 := i7 (s7.2.2, r2, (s7.2.2 + 1)) rfl
                    try dsimp only at k7
                    exact z_lv [5, 6, 2, 1, 0] rfl k7
  · skip
    refine z_iload_n 0 rfl rfl dX8_drawerFor_108 ?_
    cases h
    exact z_iret dX8_drawerFor_109 hQ
set_option maxHeartbeats 400000 in
set_option maxRecDepth 100000 in
theorem c_X8_bestDrawer (l : Launch) (g : zG) (a : Nat → Nat) (u : tX8) (p0 : Int32) (r : Int32 × tX8) (h : f_X8_bestDrawer u p0 = some r) : Ctr l g true yX8_bestDrawer cX8_bestDrawer 2 (some .int) 4 99 0 0 [.ref (a 0), .int p0] ([cX8 g a u]) ([cX8 g a r.2]) (some (.int r.1)) := by
  refine ctr_of (by decide) (Nat.le_of_ble_eq_true rfl) (fun X hl _ _ _ hQ => ?_)
  unfold f_X8_bestDrawer at h
  refine z_lv (lv' := [(0, .ref (a 0)), (1, .int p0)]) [0, 1] rfl ?_
  refine z_aload_n 0 rfl rfl dX8_bestDrawer_0 ?_
  refine z_iconst (v := 0) (by decide) dX8_bestDrawer_1 ?_
  refine z_put (t := .int) ([dX8 g a 0 u.2.1 u.2.2.1 u.2.2.2.1 u.2.2.2.2.1 u.2.2.2.2.2.1 u.2.2.2.2.2.2.1 u.2.2.2.2.2.2.2.1 u.2.2.2.2.2.2.2.2.1 u.2.2.2.2.2.2.2.2.2.1 u.2.2.2.2.2.2.2.2.2.2.1 u.2.2.2.2.2.2.2.2.2.2.2.1 u.2.2.2.2.2.2.2.2.2.2.2.2.1 u.2.2.2.2.2.2.2.2.2.2.2.2.2.1 u.2.2.2.2.2.2.2.2.2.2.2.2.2.2.1 u.2.2.2.2.2.2.2.2.2.2.2.2.2.2.2]) zcX8 0 rfl 0 rfl 0 (Nat.le_of_ble_eq_true rfl) zfX8_38 zpX8_0 (zn_i _) (zf_i _) (Nat.le_of_ble_eq_true rfl) rfl dX8_bestDrawer_2 ?_
  refine z_iload_n 1 rfl rfl dX8_bestDrawer_5 ?_
  refine z_iconst (v := 1) (by decide) dX8_bestDrawer_6 ?_
  refine z_bipush (v := 20) (by decide) dX8_bestDrawer_7 ?_
  refine z_callSR (rest := []) hl (c_X8_in l g p0 1 20 _ rfl) zyX8_in zsX8_in zlX8_42 [] rfl rfl rfl (by decide) (Nat.le_of_ble_eq_true rfl) ⟨Nat.zero_le _, Nat.zero_le _⟩ dX8_bestDrawer_9 (st2 := [.int (b2i (f_X8_in p0 1 20))]) rfl ?_
  refine z_ifB_eq (tgt := 23) rfl dX8_bestDrawer_12 (fun c12 => ?_) (fun c12 => ?_)
  · replace h := (if_neg c12).symm.trans h
    refine z_aload_n 0 rfl rfl dX8_bestDrawer_23 ?_
    refine z_iconst (v := 1) (by decide) dX8_bestDrawer_24 ?_
    obtain ⟨r1, er1, h⟩ := zb h
    refine z_callVW (rest := []) hl (c_X8_fails l g a (0, u.2.1, u.2.2.1, u.2.2.2.1, u.2.2.2.2.1, u.2.2.2.2.2.1, u.2.2.2.2.2.2.1, u.2.2.2.2.2.2.2.1, u.2.2.2.2.2.2.2.2.1, u.2.2.2.2.2.2.2.2.2.1, u.2.2.2.2.2.2.2.2.2.2.1, u.2.2.2.2.2.2.2.2.2.2.2.1, u.2.2.2.2.2.2.2.2.2.2.2.2.1, u.2.2.2.2.2.2.2.2.2.2.2.2.2.1, u.2.2.2.2.2.2.2.2.2.2.2.2.2.2.1, u.2.2.2.2.2.2.2.2.2.2.2.2.2.2.2) 1 _ (Option.some.inj er1)) zyX8_fails zvX8_fails rfl zlX8_121 zcX8.1 ⟨_, _, rfl⟩ [(0, none)] rfl (by decide) rfl (w' := [cX8 g a r1.2]) rfl rfl rfl (by decide) (Nat.le_of_ble_eq_true rfl) ⟨Nat.zero_le _, Nat.zero_le _⟩ dX8_bestDrawer_25 (st2 := [.int r1.1]) rfl ?_
    cases h
    try dsimp only at hQ
    exact z_iret dX8_bestDrawer_28 hQ
  · replace h := (if_pos c12).symm.trans h
    refine z_aload_n 0 rfl rfl dX8_bestDrawer_15 ?_
    refine z_iload_n 1 rfl rfl dX8_bestDrawer_16 ?_
    obtain ⟨r2, er2, h⟩ := zb h
    refine z_callVR (rest := []) hl (c_X8_drawerFor l g a (0, u.2.1, u.2.2.1, u.2.2.2.1, u.2.2.2.2.1, u.2.2.2.2.2.1, u.2.2.2.2.2.2.1, u.2.2.2.2.2.2.2.1, u.2.2.2.2.2.2.2.2.1, u.2.2.2.2.2.2.2.2.2.1, u.2.2.2.2.2.2.2.2.2.2.1, u.2.2.2.2.2.2.2.2.2.2.2.1, u.2.2.2.2.2.2.2.2.2.2.2.2.1, u.2.2.2.2.2.2.2.2.2.2.2.2.2.1, u.2.2.2.2.2.2.2.2.2.2.2.2.2.2.1, u.2.2.2.2.2.2.2.2.2.2.2.2.2.2.2) p0 _ er2) zyX8_drawerFor zvX8_drawerFor rfl zlX8_183 zcX8.1 ⟨_, _, rfl⟩ [(0, none)] rfl rfl rfl (by decide) (Nat.le_of_ble_eq_true rfl) ⟨Nat.zero_le _, Nat.zero_le _⟩ dX8_bestDrawer_17 (st2 := [.int r2]) rfl ?_
    refine z_goto (tgt := 28) rfl dX8_bestDrawer_20 ?_
    cases h
    try dsimp only at hQ
    exact z_iret dX8_bestDrawer_28 hQ
set_option maxHeartbeats 400000 in
set_option maxRecDepth 100000 in
theorem c_X8_picked (l : Launch) (g : zG) (a : Nat → Nat) (u : tX8) (p0 : Int32) (p1 : Int32) (r : Int32 × tX8) (h : f_X8_picked u p0 p1 = some r) : Ctr l g true yX8_picked cX8_picked 6 (some .int) 9 208 0 0 [.ref (a 0), .int p0, .int p1] ([cX8 g a u]) ([cX8 g a r.2]) (some (.int r.1)) := by
  refine ctr_of (by decide) (Nat.le_of_ble_eq_true rfl) (fun X hl _ _ _ hQ => ?_)
  unfold f_X8_picked at h
  refine z_lv (lv' := [(0, .ref (a 0)), (1, .int p0), (2, .int p1)]) [0, 1, 2] rfl ?_
  refine z_aload_n 0 rfl rfl dX8_picked_0 ?_
  obtain ⟨r1, er1, h⟩ := zb h
  refine z_callVW (rest := []) hl (c_X8_readsAll l g a u _ er1) zyX8_readsAll zvX8_readsAll rfl zlX8_156 zcX8.1 ⟨_, _, rfl⟩ [(0, none)] rfl (by decide) rfl (w' := [cX8 g a r1]) rfl rfl rfl (by decide) (Nat.le_of_ble_eq_true rfl) ⟨Nat.zero_le _, Nat.zero_le _⟩ dX8_picked_1 (st2 := []) rfl ?_
  refine z_aload_n 0 rfl rfl dX8_picked_4 ?_
  refine z_get zcX8 0 rfl 0 rfl 8 (Nat.le_of_ble_eq_true rfl) zfX8_146 (v := .int (b2i r1.2.2.2.2.2.2.2.2.1)) rfl dX8_picked_5 ?_
  refine z_ifB_ne (tgt := 13) rfl dX8_picked_8 (fun c8 => ?_) (fun c8 => ?_)
  · replace h := (if_pos c8).symm.trans h
    refine z_iconst (v := 0) (by decide) dX8_picked_13 ?_
    refine z_istore_n [(3, .int 0), (0, .ref (a 0)), (1, .int p0), (2, .int p1)] rfl (Nat.le_of_ble_eq_true rfl) rfl dX8_picked_14 ?_
    obtain ⟨z2, ez2, h⟩ := zb h
    refine z_lv (lv' := [(0, .ref (a 0)), (1, .int p0), (2, .int p1), (3, .int 0)]) [1, 2, 3, 0] rfl ?_
    suffices hk15 : (fun (s15 : Int32 × zF) => Z true RX8 cX8_picked 6 9 208 g X 0 0 ([dX8 g a r1.1 r1.2.1 s15.2 r1.2.2.2.1 r1.2.2.2.2.1 r1.2.2.2.2.2.1 r1.2.2.2.2.2.2.1 r1.2.2.2.2.2.2.2.1 r1.2.2.2.2.2.2.2.2.1 r1.2.2.2.2.2.2.2.2.2.1 r1.2.2.2.2.2.2.2.2.2.2.1 r1.2.2.2.2.2.2.2.2.2.2.2.1 r1.2.2.2.2.2.2.2.2.2.2.2.2.1 r1.2.2.2.2.2.2.2.2.2.2.2.2.2.1 r1.2.2.2.2.2.2.2.2.2.2.2.2.2.2.1 r1.2.2.2.2.2.2.2.2.2.2.2.2.2.2.2]) [(0, .ref (a 0)), (1, .int p0), (2, .int p1), (3, .int s15.1)] 15 []) (0, r1.2.2.1) by try dsimp only at hk15; exact hk15
    refine lp_ind (σ := Int32 × zF) (ε := zF) (b_X8_picked_15 r1) (fun s15 => Z true RX8 cX8_picked 6 9 208 g X 0 0 ([dX8 g a r1.1 r1.2.1 s15.2 r1.2.2.2.1 r1.2.2.2.2.1 r1.2.2.2.2.2.1 r1.2.2.2.2.2.2.1 r1.2.2.2.2.2.2.2.1 r1.2.2.2.2.2.2.2.2.1 r1.2.2.2.2.2.2.2.2.2.1 r1.2.2.2.2.2.2.2.2.2.2.1 r1.2.2.2.2.2.2.2.2.2.2.2.1 r1.2.2.2.2.2.2.2.2.2.2.2.2.1 r1.2.2.2.2.2.2.2.2.2.2.2.2.2.1 r1.2.2.2.2.2.2.2.2.2.2.2.2.2.2.1 r1.2.2.2.2.2.2.2.2.2.2.2.2.2.2.2]) [(0, .ref (a 0)), (1, .int p0), (2, .int p1), (3, .int s15.1)] 15 []) (fun z2 => Z true RX8 cX8_picked 6 9 208 g X 0 0 ([dX8 g a r1.1 r1.2.1 z2 r1.2.2.2.1 r1.2.2.2.2.1 r1.2.2.2.2.2.1 r1.2.2.2.2.2.2.1 r1.2.2.2.2.2.2.2.1 r1.2.2.2.2.2.2.2.2.1 r1.2.2.2.2.2.2.2.2.2.1 r1.2.2.2.2.2.2.2.2.2.2.1 r1.2.2.2.2.2.2.2.2.2.2.2.1 r1.2.2.2.2.2.2.2.2.2.2.2.2.1 r1.2.2.2.2.2.2.2.2.2.2.2.2.2.1 r1.2.2.2.2.2.2.2.2.2.2.2.2.2.2.1 r1.2.2.2.2.2.2.2.2.2.2.2.2.2.2.2]) [(0, .ref (a 0)), (1, .int p0), (2, .int p1)] 40 []) (fun s15 q15 h15 i15 x15 => ?_) 5000 (0, r1.2.2.1) z2 ez2 ?_
    · unfold b_X8_picked_15 at h15
      refine z_iload_n 3 rfl rfl dX8_picked_15 ?_
      refine z_sipush (v := 142) (by decide) dX8_picked_16 ?_
      refine z_icmp_ge (tgt := 40) rfl dX8_picked_19 (fun c19 => ?_) (fun c19 => ?_)
      · replace h15 := (if_pos c19).symm.trans h15
        cases h15
        have k15 := x15 s15.2 rfl
        try dsimp only at k15
        exact z_lv [0, 1, 2] rfl k15
      · replace h15 := (if_neg c19).symm.trans h15
        refine z_aload_n 0 rfl rfl dX8_picked_22 ?_
        refine z_get zcX8 0 rfl 0 rfl 2 (Nat.le_of_ble_eq_true rfl) zfX8_13 (v := .ref (a 2)) rfl dX8_picked_23 ?_
        refine z_iload_n 3 rfl rfl dX8_picked_26 ?_
        refine z_aload_n 0 rfl rfl dX8_picked_27 ?_
        refine z_get zcX8 0 rfl 0 rfl 1 (Nat.le_of_ble_eq_true rfl) zfX8_7 (v := .ref (a 1)) rfl dX8_picked_28 ?_
        refine z_iload_n 3 rfl rfl dX8_picked_31 ?_
        obtain ⟨r3, er3, h15⟩ := zb h15
        refine z_iald 0 rfl 1 rfl er3 dX8_picked_32 ?_
        obtain ⟨r4, er4, h15⟩ := zb h15
        refine z_iast ([dX8 g a r1.1 r1.2.1 r4 r1.2.2.2.1 r1.2.2.2.2.1 r1.2.2.2.2.2.1 r1.2.2.2.2.2.2.1 r1.2.2.2.2.2.2.2.1 r1.2.2.2.2.2.2.2.2.1 r1.2.2.2.2.2.2.2.2.2.1 r1.2.2.2.2.2.2.2.2.2.2.1 r1.2.2.2.2.2.2.2.2.2.2.2.1 r1.2.2.2.2.2.2.2.2.2.2.2.2.1 r1.2.2.2.2.2.2.2.2.2.2.2.2.2.1 r1.2.2.2.2.2.2.2.2.2.2.2.2.2.2.1 r1.2.2.2.2.2.2.2.2.2.2.2.2.2.2.2]) 0 rfl 2 rfl er4 rfl dX8_picked_33 ?_
        refine z_iinc 3 [(3, .int (s15.1 + 1)), (0, .ref (a 0)), (1, .int p0), (2, .int p1)] rfl (v := (s15.1 + 1)) zinc (Nat.le_of_ble_eq_true rfl) rfl dX8_picked_34 ?_
        refine z_goto (tgt := 15) rfl dX8_picked_37 ?_
        cases h15
        have k15 := i15 ((s15.1 + 1), r4) rfl
        try dsimp only at k15
        exact z_lv [1, 2, 3, 0] rfl k15
    · skip
      refine z_aload_n 0 rfl rfl dX8_picked_40 ?_
      refine z_iload_n 1 rfl rfl dX8_picked_41 ?_
      obtain ⟨r5, er5, h⟩ := zb h
      refine z_callVW (rest := []) hl (c_X8_picksBatch l g a (r1.1, r1.2.1, z2, r1.2.2.2.1, r1.2.2.2.2.1, r1.2.2.2.2.2.1, r1.2.2.2.2.2.2.1, r1.2.2.2.2.2.2.2.1, r1.2.2.2.2.2.2.2.2.1, r1.2.2.2.2.2.2.2.2.2.1, r1.2.2.2.2.2.2.2.2.2.2.1, r1.2.2.2.2.2.2.2.2.2.2.2.1, r1.2.2.2.2.2.2.2.2.2.2.2.2.1, r1.2.2.2.2.2.2.2.2.2.2.2.2.2.1, r1.2.2.2.2.2.2.2.2.2.2.2.2.2.2.1, r1.2.2.2.2.2.2.2.2.2.2.2.2.2.2.2) p0 _ er5) zyX8_picksBatch zvX8_picksBatch rfl zlX8_159 zcX8.1 ⟨_, _, rfl⟩ [(0, none)] rfl (by decide) rfl (w' := [cX8 g a r5.2]) rfl rfl rfl (by decide) (Nat.le_of_ble_eq_true rfl) ⟨Nat.zero_le _, Nat.zero_le _⟩ dX8_picked_42 (st2 := [.int r5.1]) rfl ?_
      refine z_istore_n [(3, .int r5.1), (0, .ref (a 0)), (1, .int p0), (2, .int p1)] rfl (Nat.le_of_ble_eq_true rfl) rfl dX8_picked_45 ?_
      refine z_iload_n 3 rfl rfl dX8_picked_46 ?_
      obtain ⟨j6, ej6, h⟩ := zb h
      have Kj6 : Z true RX8 cX8_picked 6 9 208 g X 0 0 ([cX8 g a r5.2]) [(0, .ref (a 0))] 93 [.int j6] := by
        refine z_istore [(4, .int j6), (0, .ref (a 0))] (Nat.le_of_ble_eq_true rfl) rfl dX8_picked_93 ?_
        refine z_iconst (v := 0) (by decide) dX8_picked_95 ?_
        refine z_istore [(5, .int 0), (4, .int j6), (0, .ref (a 0))] (Nat.le_of_ble_eq_true rfl) rfl dX8_picked_96 ?_
        obtain ⟨z7, ez7, h⟩ := zb h
        refine z_lv (lv' := [(0, .ref (a 0)), (4, .int j6), (5, .int 0)]) [2, 1, 0] rfl ?_
        suffices hk98 : (fun (s98 : Int32 × zF) => Z true RX8 cX8_picked 6 9 208 g X 0 0 ([dX8 g a r5.2.1 s98.2 r5.2.2.2.1 r5.2.2.2.2.1 r5.2.2.2.2.2.1 r5.2.2.2.2.2.2.1 r5.2.2.2.2.2.2.2.1 r5.2.2.2.2.2.2.2.2.1 r5.2.2.2.2.2.2.2.2.2.1 r5.2.2.2.2.2.2.2.2.2.2.1 r5.2.2.2.2.2.2.2.2.2.2.2.1 r5.2.2.2.2.2.2.2.2.2.2.2.2.1 r5.2.2.2.2.2.2.2.2.2.2.2.2.2.1 r5.2.2.2.2.2.2.2.2.2.2.2.2.2.2.1 r5.2.2.2.2.2.2.2.2.2.2.2.2.2.2.2.1 r5.2.2.2.2.2.2.2.2.2.2.2.2.2.2.2.2]) [(0, .ref (a 0)), (4, .int j6), (5, .int s98.1)] 98 []) (0, r5.2.2.1) by try dsimp only at hk98; exact hk98
        refine lp_ind (σ := Int32 × zF) (ε := zF) (b_X8_picked_98 r5) (fun s98 => Z true RX8 cX8_picked 6 9 208 g X 0 0 ([dX8 g a r5.2.1 s98.2 r5.2.2.2.1 r5.2.2.2.2.1 r5.2.2.2.2.2.1 r5.2.2.2.2.2.2.1 r5.2.2.2.2.2.2.2.1 r5.2.2.2.2.2.2.2.2.1 r5.2.2.2.2.2.2.2.2.2.1 r5.2.2.2.2.2.2.2.2.2.2.1 r5.2.2.2.2.2.2.2.2.2.2.2.1 r5.2.2.2.2.2.2.2.2.2.2.2.2.1 r5.2.2.2.2.2.2.2.2.2.2.2.2.2.1 r5.2.2.2.2.2.2.2.2.2.2.2.2.2.2.1 r5.2.2.2.2.2.2.2.2.2.2.2.2.2.2.2.1 r5.2.2.2.2.2.2.2.2.2.2.2.2.2.2.2.2]) [(0, .ref (a 0)), (4, .int j6), (5, .int s98.1)] 98 []) (fun z7 => Z true RX8 cX8_picked 6 9 208 g X 0 0 ([dX8 g a r5.2.1 z7 r5.2.2.2.1 r5.2.2.2.2.1 r5.2.2.2.2.2.1 r5.2.2.2.2.2.2.1 r5.2.2.2.2.2.2.2.1 r5.2.2.2.2.2.2.2.2.1 r5.2.2.2.2.2.2.2.2.2.1 r5.2.2.2.2.2.2.2.2.2.2.1 r5.2.2.2.2.2.2.2.2.2.2.2.1 r5.2.2.2.2.2.2.2.2.2.2.2.2.1 r5.2.2.2.2.2.2.2.2.2.2.2.2.2.1 r5.2.2.2.2.2.2.2.2.2.2.2.2.2.2.1 r5.2.2.2.2.2.2.2.2.2.2.2.2.2.2.2.1 r5.2.2.2.2.2.2.2.2.2.2.2.2.2.2.2.2]) [(4, .int j6)] 126 []) (fun s98 q98 h98 i98 x98 => ?_) 5000 (0, r5.2.2.1) z7 ez7 ?_
        · unfold b_X8_picked_98 at h98
          refine z_iload 2 rfl dX8_picked_98 ?_
          refine z_sipush (v := 142) (by decide) dX8_picked_100 ?_
          refine z_icmp_ge (tgt := 126) rfl dX8_picked_103 (fun c103 => ?_) (fun c103 => ?_)
          · replace h98 := (if_pos c103).symm.trans h98
            cases h98
            have k98 := x98 s98.2 rfl
            try dsimp only at k98
            exact z_lv [1] rfl k98
          · replace h98 := (if_neg c103).symm.trans h98
            refine z_aload_n 0 rfl rfl dX8_picked_106 ?_
            refine z_get zcX8 0 rfl 0 rfl 1 (Nat.le_of_ble_eq_true rfl) zfX8_7 (v := .ref (a 1)) rfl dX8_picked_107 ?_
            refine z_iload 2 rfl dX8_picked_110 ?_
            refine z_aload_n 0 rfl rfl dX8_picked_112 ?_
            refine z_get zcX8 0 rfl 0 rfl 2 (Nat.le_of_ble_eq_true rfl) zfX8_13 (v := .ref (a 2)) rfl dX8_picked_113 ?_
            refine z_iload 2 rfl dX8_picked_116 ?_
            obtain ⟨r8, er8, h98⟩ := zb h98
            refine z_iald 0 rfl 2 rfl er8 dX8_picked_118 ?_
            obtain ⟨r9, er9, h98⟩ := zb h98
            refine z_iast ([dX8 g a r5.2.1 r9 r5.2.2.2.1 r5.2.2.2.2.1 r5.2.2.2.2.2.1 r5.2.2.2.2.2.2.1 r5.2.2.2.2.2.2.2.1 r5.2.2.2.2.2.2.2.2.1 r5.2.2.2.2.2.2.2.2.2.1 r5.2.2.2.2.2.2.2.2.2.2.1 r5.2.2.2.2.2.2.2.2.2.2.2.1 r5.2.2.2.2.2.2.2.2.2.2.2.2.1 r5.2.2.2.2.2.2.2.2.2.2.2.2.2.1 r5.2.2.2.2.2.2.2.2.2.2.2.2.2.2.1 r5.2.2.2.2.2.2.2.2.2.2.2.2.2.2.2.1 r5.2.2.2.2.2.2.2.2.2.2.2.2.2.2.2.2]) 0 rfl 1 rfl er9 rfl dX8_picked_119 ?_
            refine z_iinc 2 [(5, .int (s98.1 + 1)), (0, .ref (a 0)), (4, .int j6)] rfl (v := (s98.1 + 1)) zinc (Nat.le_of_ble_eq_true rfl) rfl dX8_picked_120 ?_
            refine z_goto (tgt := 98) rfl dX8_picked_123 ?_
            cases h98
            have k98 := i98 ((s98.1 + 1), r9) rfl
            try dsimp only at k98
            exact z_lv [1, 2, 0] rfl k98
        · skip
          refine z_iload 0 rfl dX8_picked_126 ?_
          cases h
          try dsimp only at hQ
          exact z_iret dX8_picked_128 hQ
      clear h
      refine z_if_ne (tgt := 54) rfl dX8_picked_47 (fun c47 => ?_) (fun c47 => ?_)
      · replace ej6 := (if_neg c47).symm.trans ej6
        refine z_iload_n 3 rfl rfl dX8_picked_54 ?_
        refine z_iconst (v := 1) (by decide) dX8_picked_55 ?_
        refine z_icmp_ne (tgt := 75) rfl dX8_picked_56 (fun c56 => ?_) (fun c56 => ?_)
        · replace ej6 := (if_neg c56).symm.trans ej6
          refine z_iload_n 3 rfl rfl dX8_picked_75 ?_
          refine z_iconst (v := 2) (by decide) dX8_picked_76 ?_
          refine z_icmp_ne (tgt := 89) rfl dX8_picked_77 (fun c77 => ?_) (fun c77 => ?_)
          · replace ej6 := (if_neg c77).symm.trans ej6
            refine z_aload_n 1 rfl rfl dX8_picked_89 ?_
            obtain ⟨r10, er10, ej6⟩ := zb ej6
            refine z_callVR (rest := []) hl (c_X8_greatest l g a r5.2 _ er10) zyX8_greatest zvX8_greatest rfl zlX8_171 zcX8.1 ⟨_, _, rfl⟩ [(0, none)] rfl rfl rfl (by decide) (Nat.le_of_ble_eq_true rfl) ⟨Nat.zero_le _, Nat.zero_le _⟩ dX8_picked_90 (st2 := [.int r10]) rfl ?_
            cases ej6
            exact z_lv [1] rfl Kj6
          · replace ej6 := (if_pos c77).symm.trans ej6
            refine z_aload_n 1 rfl rfl dX8_picked_80 ?_
            refine z_get zcX8 0 rfl 0 rfl 1 (Nat.le_of_ble_eq_true rfl) zfX8_7 (v := .ref (a 1)) rfl dX8_picked_81 ?_
            refine z_iconst (v := 3) (by decide) dX8_picked_84 ?_
            obtain ⟨r11, er11, ej6⟩ := zb ej6
            refine z_iald 0 rfl 1 rfl er11 dX8_picked_85 ?_
            refine z_goto (tgt := 93) rfl dX8_picked_86 ?_
            cases ej6
            exact z_lv [1] rfl Kj6
        · replace ej6 := (if_pos c56).symm.trans ej6
          refine z_aload_n 1 rfl rfl dX8_picked_59 ?_
          refine z_get zcX8 0 rfl 0 rfl 1 (Nat.le_of_ble_eq_true rfl) zfX8_7 (v := .ref (a 1)) rfl dX8_picked_60 ?_
          refine z_iconst (v := 4) (by decide) dX8_picked_63 ?_
          obtain ⟨r12, er12, ej6⟩ := zb ej6
          refine z_iald 0 rfl 1 rfl er12 dX8_picked_64 ?_
          refine z_aload_n 1 rfl rfl dX8_picked_65 ?_
          refine z_get zcX8 0 rfl 0 rfl 2 (Nat.le_of_ble_eq_true rfl) zfX8_13 (v := .ref (a 2)) rfl dX8_picked_66 ?_
          refine z_iconst (v := 4) (by decide) dX8_picked_69 ?_
          obtain ⟨r13, er13, ej6⟩ := zb ej6
          refine z_iald 0 rfl 2 rfl er13 dX8_picked_70 ?_
          refine z_isub dX8_picked_71 ?_
          refine z_goto (tgt := 93) rfl dX8_picked_72 ?_
          cases ej6
          exact z_lv [1] rfl Kj6
      · replace ej6 := (if_pos c47).symm.trans ej6
        refine z_iload_n 0 rfl rfl dX8_picked_50 ?_
        refine z_goto (tgt := 93) rfl dX8_picked_51 ?_
        cases ej6
        exact z_lv [1] rfl Kj6
  · replace h := (if_neg c8).symm.trans h
    refine z_iconst (v := (-1)) (by decide) dX8_picked_11 ?_
    cases h
    try dsimp only at hQ
    exact z_iret dX8_picked_12 hQ
set_option maxHeartbeats 400000 in
set_option maxRecDepth 100000 in
theorem c_X8_ifPicked (l : Launch) (g : zG) (a : Nat → Nat) (u : tX8) (p0 : Int32) (p1 : Int32) (r : Int32 × tX8) (h : f_X8_ifPicked u p0 p1 = some r) : Ctr l g true yX8_ifPicked cX8_ifPicked 3 (some .int) 10 233 0 0 [.ref (a 0), .int p0, .int p1] ([cX8 g a u]) ([cX8 g a r.2]) (some (.int r.1)) := by
  refine ctr_of (by decide) (Nat.le_of_ble_eq_true rfl) (fun X hl _ _ _ hQ => ?_)
  unfold f_X8_ifPicked at h
  refine z_lv (lv' := [(0, .ref (a 0)), (1, .int p0), (2, .int p1)]) [0, 1, 2] rfl ?_
  refine z_aload_n 0 rfl rfl dX8_ifPicked_0 ?_
  refine z_iconst (v := 0) (by decide) dX8_ifPicked_1 ?_
  refine z_put (t := .int) ([dX8 g a 0 u.2.1 u.2.2.1 u.2.2.2.1 u.2.2.2.2.1 u.2.2.2.2.2.1 u.2.2.2.2.2.2.1 u.2.2.2.2.2.2.2.1 u.2.2.2.2.2.2.2.2.1 u.2.2.2.2.2.2.2.2.2.1 u.2.2.2.2.2.2.2.2.2.2.1 u.2.2.2.2.2.2.2.2.2.2.2.1 u.2.2.2.2.2.2.2.2.2.2.2.2.1 u.2.2.2.2.2.2.2.2.2.2.2.2.2.1 u.2.2.2.2.2.2.2.2.2.2.2.2.2.2.1 u.2.2.2.2.2.2.2.2.2.2.2.2.2.2.2]) zcX8 0 rfl 0 rfl 0 (Nat.le_of_ble_eq_true rfl) zfX8_38 zpX8_0 (zn_i _) (zf_i _) (Nat.le_of_ble_eq_true rfl) rfl dX8_ifPicked_2 ?_
  refine z_iload_n 1 rfl rfl dX8_ifPicked_5 ?_
  refine z_iconst (v := 0) (by decide) dX8_ifPicked_6 ?_
  refine z_iconst (v := 2) (by decide) dX8_ifPicked_7 ?_
  refine z_callSR (rest := []) hl (c_X8_in l g p0 0 2 _ rfl) zyX8_in zsX8_in zlX8_42 [] rfl rfl rfl (by decide) (Nat.le_of_ble_eq_true rfl) ⟨Nat.zero_le _, Nat.zero_le _⟩ dX8_ifPicked_8 (st2 := [.int (b2i (f_X8_in p0 0 2))]) rfl ?_
  refine z_ifB_eq (tgt := 32) rfl dX8_ifPicked_11 (fun c11 => ?_) (fun c11 => ?_)
  · replace h := (if_neg c11).symm.trans h
    refine z_aload_n 0 rfl rfl dX8_ifPicked_32 ?_
    refine z_iconst (v := 1) (by decide) dX8_ifPicked_33 ?_
    obtain ⟨r1, er1, h⟩ := zb h
    refine z_callVW (rest := []) hl (c_X8_fails l g a (0, u.2.1, u.2.2.1, u.2.2.2.1, u.2.2.2.2.1, u.2.2.2.2.2.1, u.2.2.2.2.2.2.1, u.2.2.2.2.2.2.2.1, u.2.2.2.2.2.2.2.2.1, u.2.2.2.2.2.2.2.2.2.1, u.2.2.2.2.2.2.2.2.2.2.1, u.2.2.2.2.2.2.2.2.2.2.2.1, u.2.2.2.2.2.2.2.2.2.2.2.2.1, u.2.2.2.2.2.2.2.2.2.2.2.2.2.1, u.2.2.2.2.2.2.2.2.2.2.2.2.2.2.1, u.2.2.2.2.2.2.2.2.2.2.2.2.2.2.2) 1 _ (Option.some.inj er1)) zyX8_fails zvX8_fails rfl zlX8_121 zcX8.1 ⟨_, _, rfl⟩ [(0, none)] rfl (by decide) rfl (w' := [cX8 g a r1.2]) rfl rfl rfl (by decide) (Nat.le_of_ble_eq_true rfl) ⟨Nat.zero_le _, Nat.zero_le _⟩ dX8_ifPicked_34 (st2 := [.int r1.1]) rfl ?_
    cases h
    try dsimp only at hQ
    exact z_iret dX8_ifPicked_37 hQ
  · replace h := (if_pos c11).symm.trans h
    refine z_iload_n 2 rfl rfl dX8_ifPicked_14 ?_
    refine z_iconst (v := 0) (by decide) dX8_ifPicked_15 ?_
    refine z_iconst (v := 3) (by decide) dX8_ifPicked_16 ?_
    refine z_callSR (rest := []) hl (c_X8_in l g p1 0 3 _ rfl) zyX8_in zsX8_in zlX8_42 [] rfl rfl rfl (by decide) (Nat.le_of_ble_eq_true rfl) ⟨Nat.zero_le _, Nat.zero_le _⟩ dX8_ifPicked_17 (st2 := [.int (b2i (f_X8_in p1 0 3))]) rfl ?_
    refine z_ifB_eq (tgt := 32) rfl dX8_ifPicked_20 (fun c20 => ?_) (fun c20 => ?_)
    · replace h := (if_neg c20).symm.trans h
      refine z_aload_n 0 rfl rfl dX8_ifPicked_32 ?_
      refine z_iconst (v := 1) (by decide) dX8_ifPicked_33 ?_
      obtain ⟨r2, er2, h⟩ := zb h
      refine z_callVW (rest := []) hl (c_X8_fails l g a (0, u.2.1, u.2.2.1, u.2.2.2.1, u.2.2.2.2.1, u.2.2.2.2.2.1, u.2.2.2.2.2.2.1, u.2.2.2.2.2.2.2.1, u.2.2.2.2.2.2.2.2.1, u.2.2.2.2.2.2.2.2.2.1, u.2.2.2.2.2.2.2.2.2.2.1, u.2.2.2.2.2.2.2.2.2.2.2.1, u.2.2.2.2.2.2.2.2.2.2.2.2.1, u.2.2.2.2.2.2.2.2.2.2.2.2.2.1, u.2.2.2.2.2.2.2.2.2.2.2.2.2.2.1, u.2.2.2.2.2.2.2.2.2.2.2.2.2.2.2) 1 _ (Option.some.inj er2)) zyX8_fails zvX8_fails rfl zlX8_121 zcX8.1 ⟨_, _, rfl⟩ [(0, none)] rfl (by decide) rfl (w' := [cX8 g a r2.2]) rfl rfl rfl (by decide) (Nat.le_of_ble_eq_true rfl) ⟨Nat.zero_le _, Nat.zero_le _⟩ dX8_ifPicked_34 (st2 := [.int r2.1]) rfl ?_
      cases h
      try dsimp only at hQ
      exact z_iret dX8_ifPicked_37 hQ
    · replace h := (if_pos c20).symm.trans h
      refine z_aload_n 0 rfl rfl dX8_ifPicked_23 ?_
      refine z_iload_n 1 rfl rfl dX8_ifPicked_24 ?_
      refine z_iload_n 2 rfl rfl dX8_ifPicked_25 ?_
      obtain ⟨r3, er3, h⟩ := zb h
      refine z_callVW (rest := []) hl (c_X8_picked l g a (0, u.2.1, u.2.2.1, u.2.2.2.1, u.2.2.2.2.1, u.2.2.2.2.2.1, u.2.2.2.2.2.2.1, u.2.2.2.2.2.2.2.1, u.2.2.2.2.2.2.2.2.1, u.2.2.2.2.2.2.2.2.2.1, u.2.2.2.2.2.2.2.2.2.2.1, u.2.2.2.2.2.2.2.2.2.2.2.1, u.2.2.2.2.2.2.2.2.2.2.2.2.1, u.2.2.2.2.2.2.2.2.2.2.2.2.2.1, u.2.2.2.2.2.2.2.2.2.2.2.2.2.2.1, u.2.2.2.2.2.2.2.2.2.2.2.2.2.2.2) p0 p1 _ er3) zyX8_picked zvX8_picked rfl zlX8_186 zcX8.1 ⟨_, _, rfl⟩ [(0, none)] rfl (by decide) rfl (w' := [cX8 g a r3.2]) rfl rfl rfl (by decide) (Nat.le_of_ble_eq_true rfl) ⟨Nat.zero_le _, Nat.zero_le _⟩ dX8_ifPicked_26 (st2 := [.int r3.1]) rfl ?_
      refine z_goto (tgt := 37) rfl dX8_ifPicked_29 ?_
      cases h
      try dsimp only at hQ
      exact z_iret dX8_ifPicked_37 hQ
set_option maxHeartbeats 400000 in
set_option maxRecDepth 100000 in
theorem c_X8_even (l : Launch) (g : zG) (a : Nat → Nat) (u : tX8) (r : UInt64) (h : f_X8_even u = some r) : Ctr l g false yX8_even cX8_even 4 (some .double) 3 67 0 0 [.ref (a 0)] ([cX8 g a u]) ([cX8 g a u]) (some (.double r)) := by
  refine ctr_of (by decide) (Nat.le_of_ble_eq_true rfl) (fun X hl _ _ _ hQ => ?_)
  unfold f_X8_even at h
  refine z_lv (lv' := [(0, .ref (a 0))]) [0] rfl ?_
  refine z_aload_n 0 rfl rfl dX8_even_0 ?_
  obtain ⟨r1, er1, h⟩ := zb h
  refine z_callVR (rest := []) hl (c_X8_greatestLoad l g a u _ er1) zyX8_greatestLoad zvX8_greatestLoad rfl zlX8_134 zcX8.1 ⟨_, _, rfl⟩ [(0, none)] rfl rfl rfl (by decide) (Nat.le_of_ble_eq_true rfl) ⟨Nat.zero_le _, Nat.zero_le _⟩ dX8_even_1 (st2 := [.int r1]) rfl ?_
  refine z_istore_n [(1, .int r1), (0, .ref (a 0))] rfl (Nat.le_of_ble_eq_true rfl) rfl dX8_even_4 ?_
  refine z_iload_n 0 rfl rfl dX8_even_5 ?_
  refine z_istore_n [(2, .int r1), (1, .int r1), (0, .ref (a 0))] rfl (Nat.le_of_ble_eq_true rfl) rfl dX8_even_6 ?_
  refine z_iconst (v := 0) (by decide) dX8_even_7 ?_
  refine z_istore_n [(3, .int 0), (2, .int r1), (1, .int r1), (0, .ref (a 0))] rfl (Nat.le_of_ble_eq_true rfl) rfl dX8_even_8 ?_
  obtain ⟨z2, ez2, h⟩ := zb h
  refine z_lv (lv' := [(0, .ref (a 0)), (1, .int r1), (2, .int r1), (3, .int 0)]) [3, 2, 1, 0] rfl ?_
  suffices hk9 : (fun (s9 : Int32 × Int32) => Z false RX8 cX8_even 4 3 67 g X 0 0 ([cX8 g a u]) [(0, .ref (a 0)), (1, .int r1), (2, .int s9.1), (3, .int s9.2)] 9 []) (r1, 0) by try dsimp only at hk9; exact hk9
  refine lp_ind (σ := Int32 × Int32) (ε := Int32) (b_X8_even_9 u) (fun s9 => Z false RX8 cX8_even 4 3 67 g X 0 0 ([cX8 g a u]) [(0, .ref (a 0)), (1, .int r1), (2, .int s9.1), (3, .int s9.2)] 9 []) (fun z2 => Z false RX8 cX8_even 4 3 67 g X 0 0 ([cX8 g a u]) [(1, .int r1), (2, .int z2)] 40 []) (fun s9 q9 h9 i9 x9 => ?_) 5000 (r1, 0) z2 ez2 ?_
  · unfold b_X8_even_9 at h9
    refine z_iload_n 3 rfl rfl dX8_even_9 ?_
    refine z_bipush (v := 12) (by decide) dX8_even_10 ?_
    refine z_icmp_ge (tgt := 40) rfl dX8_even_12 (fun c12 => ?_) (fun c12 => ?_)
    · replace h9 := (if_pos c12).symm.trans h9
      cases h9
      have k9 := x9 s9.1 rfl
      try dsimp only at k9
      exact z_lv [1, 2] rfl k9
    · replace h9 := (if_neg c12).symm.trans h9
      refine z_aload_n 0 rfl rfl dX8_even_15 ?_
      refine z_iload_n 3 rfl rfl dX8_even_16 ?_
      obtain ⟨r3, er3, h9⟩ := zb h9
      refine z_callVR (rest := []) hl (c_X8_loadOf l g a u s9.2 _ er3) zyX8_loadOf zvX8_loadOf rfl zlX8_124 zcX8.1 ⟨_, _, rfl⟩ [(0, none)] rfl rfl rfl (by decide) (Nat.le_of_ble_eq_true rfl) ⟨Nat.zero_le _, Nat.zero_le _⟩ dX8_even_17 (st2 := [.int r3]) rfl ?_
      refine z_iload_n 2 rfl rfl dX8_even_20 ?_
      refine z_icmp_ge (tgt := 32) rfl dX8_even_21 (fun c21 => ?_) (fun c21 => ?_)
      · replace h9 := (if_pos c21).symm.trans h9
        refine z_iload_n 2 rfl rfl dX8_even_32 ?_
        refine z_istore_n [(2, .int s9.1), (0, .ref (a 0)), (1, .int r1), (3, .int s9.2)] rfl (Nat.le_of_ble_eq_true rfl) rfl dX8_even_33 ?_
        refine z_iinc 3 [(3, .int (s9.2 + 1)), (2, .int s9.1), (0, .ref (a 0)), (1, .int r1)] rfl (v := (s9.2 + 1)) zinc (Nat.le_of_ble_eq_true rfl) rfl dX8_even_34 ?_
        refine z_goto (tgt := 9) rfl dX8_even_37 ?_
        cases h9
        have k9 := i9 (s9.1, (s9.2 + 1)) rfl
        try dsimp only at k9
        exact z_lv [2, 3, 1, 0] rfl k9
      · replace h9 := (if_neg c21).symm.trans h9
        refine z_aload_n 0 rfl rfl dX8_even_24 ?_
        refine z_iload_n 3 rfl rfl dX8_even_25 ?_
        obtain ⟨r4, er4, h9⟩ := zb h9
        refine z_callVR (rest := []) hl (c_X8_loadOf l g a u s9.2 _ er4) zyX8_loadOf zvX8_loadOf rfl zlX8_124 zcX8.1 ⟨_, _, rfl⟩ [(0, none)] rfl rfl rfl (by decide) (Nat.le_of_ble_eq_true rfl) ⟨Nat.zero_le _, Nat.zero_le _⟩ dX8_even_26 (st2 := [.int r4]) rfl ?_
        refine z_goto (tgt := 33) rfl dX8_even_29 ?_
        refine z_istore_n [(2, .int r4), (0, .ref (a 0)), (1, .int r1), (3, .int s9.2)] rfl (Nat.le_of_ble_eq_true rfl) rfl dX8_even_33 ?_
        refine z_iinc 3 [(3, .int (s9.2 + 1)), (2, .int r4), (0, .ref (a 0)), (1, .int r1)] rfl (v := (s9.2 + 1)) zinc (Nat.le_of_ble_eq_true rfl) rfl dX8_even_34 ?_
        refine z_goto (tgt := 9) rfl dX8_even_37 ?_
        cases h9
        have k9 := i9 (r4, (s9.2 + 1)) rfl
        try dsimp only at k9
        exact z_lv [2, 3, 1, 0] rfl k9
  · skip
    refine z_iload_n 0 rfl rfl dX8_even_40 ?_
    refine z_if_ne (tgt := 48) rfl dX8_even_41 (fun c41 => ?_) (fun c41 => ?_)
    · replace h := (if_neg c41).symm.trans h
      refine z_iload_n 1 rfl rfl dX8_even_48 ?_
      refine z_i2d dX8_even_49 ?_
      refine z_iload_n 0 rfl rfl dX8_even_50 ?_
      refine z_i2d dX8_even_51 ?_
      obtain ⟨r5, er5, h⟩ := zb h
      refine z_ddiv er5 dX8_even_52 ?_
      cases h
      exact z_dret dX8_even_53 hQ
    · replace h := (if_pos c41).symm.trans h
      refine z_dconst1 dX8_even_44 ?_
      refine z_goto (tgt := 53) rfl dX8_even_45 ?_
      cases h
      exact z_dret dX8_even_53 hQ
set_option maxHeartbeats 400000 in
set_option maxRecDepth 100000 in
theorem c_X8_evenness (l : Launch) (g : zG) (a : Nat → Nat) (u : tX8) (r : UInt64 × tX8) (h : f_X8_evenness u = some r) : Ctr l g true yX8_evenness cX8_evenness 1 (some .double) 4 90 0 0 [.ref (a 0)] ([cX8 g a u]) ([cX8 g a r.2]) (some (.double r.1)) := by
  refine ctr_of (by decide) (Nat.le_of_ble_eq_true rfl) (fun X hl _ _ _ hQ => ?_)
  unfold f_X8_evenness at h
  refine z_lv (lv' := [(0, .ref (a 0))]) [0] rfl ?_
  refine z_aload_n 0 rfl rfl dX8_evenness_0 ?_
  refine z_iconst (v := 0) (by decide) dX8_evenness_1 ?_
  refine z_put (t := .int) ([dX8 g a 0 u.2.1 u.2.2.1 u.2.2.2.1 u.2.2.2.2.1 u.2.2.2.2.2.1 u.2.2.2.2.2.2.1 u.2.2.2.2.2.2.2.1 u.2.2.2.2.2.2.2.2.1 u.2.2.2.2.2.2.2.2.2.1 u.2.2.2.2.2.2.2.2.2.2.1 u.2.2.2.2.2.2.2.2.2.2.2.1 u.2.2.2.2.2.2.2.2.2.2.2.2.1 u.2.2.2.2.2.2.2.2.2.2.2.2.2.1 u.2.2.2.2.2.2.2.2.2.2.2.2.2.2.1 u.2.2.2.2.2.2.2.2.2.2.2.2.2.2.2]) zcX8 0 rfl 0 rfl 0 (Nat.le_of_ble_eq_true rfl) zfX8_38 zpX8_0 (zn_i _) (zf_i _) (Nat.le_of_ble_eq_true rfl) rfl dX8_evenness_2 ?_
  refine z_aload_n 0 rfl rfl dX8_evenness_5 ?_
  obtain ⟨r1, er1, h⟩ := zb h
  refine z_callVR (rest := []) hl (c_X8_even l g a (0, u.2.1, u.2.2.1, u.2.2.2.1, u.2.2.2.2.1, u.2.2.2.2.2.1, u.2.2.2.2.2.2.1, u.2.2.2.2.2.2.2.1, u.2.2.2.2.2.2.2.2.1, u.2.2.2.2.2.2.2.2.2.1, u.2.2.2.2.2.2.2.2.2.2.1, u.2.2.2.2.2.2.2.2.2.2.2.1, u.2.2.2.2.2.2.2.2.2.2.2.2.1, u.2.2.2.2.2.2.2.2.2.2.2.2.2.1, u.2.2.2.2.2.2.2.2.2.2.2.2.2.2.1, u.2.2.2.2.2.2.2.2.2.2.2.2.2.2.2) _ er1) zyX8_even zvX8_even rfl zlX8_189 zcX8.1 ⟨_, _, rfl⟩ [(0, none)] rfl rfl rfl (by decide) (Nat.le_of_ble_eq_true rfl) ⟨Nat.zero_le _, Nat.zero_le _⟩ dX8_evenness_6 (st2 := [.double r1]) rfl ?_
  cases h
  try dsimp only at hQ
  exact z_dret dX8_evenness_9 hQ
set_option maxHeartbeats 400000 in
set_option maxRecDepth 100000 in
theorem c_X8_hashes (l : Launch) (g : zG) (a : Nat → Nat) (u : tX8) (p0 : Int64) (r : tX8) (h : f_X8_hashes u p0 = r) : Ctr l g true yX8_hashes cX8_hashes 3 none 0 0 0 0 [.ref (a 0), .long p0] ([cX8 g a u]) ([cX8 g a r]) none := by
  refine ctr_of (by decide) (Nat.le_of_ble_eq_true rfl) (fun X hl _ _ _ hQ => ?_)
  unfold f_X8_hashes at h
  refine z_lv (lv' := [(0, .ref (a 0)), (1, .long p0)]) [0, 1] rfl ?_
  refine z_aload_n 0 rfl rfl dX8_hashes_0 ?_
  refine z_ldc2 zkX8_193 dX8_hashes_1 ?_
  refine z_aload_n 0 rfl rfl dX8_hashes_4 ?_
  refine z_get zcX8 0 rfl 0 rfl 15 (Nat.le_of_ble_eq_true rfl) zfX8_195 (v := .long u.2.2.2.2.2.2.2.2.2.2.2.2.2.2.2) rfl dX8_hashes_5 ?_
  refine z_lmul dX8_hashes_8 ?_
  refine z_lload_n 1 rfl rfl dX8_hashes_9 ?_
  refine z_ladd dX8_hashes_10 ?_
  refine z_put (t := .long) ([dX8 g a u.1 u.2.1 u.2.2.1 u.2.2.2.1 u.2.2.2.2.1 u.2.2.2.2.2.1 u.2.2.2.2.2.2.1 u.2.2.2.2.2.2.2.1 u.2.2.2.2.2.2.2.2.1 u.2.2.2.2.2.2.2.2.2.1 u.2.2.2.2.2.2.2.2.2.2.1 u.2.2.2.2.2.2.2.2.2.2.2.1 u.2.2.2.2.2.2.2.2.2.2.2.2.1 u.2.2.2.2.2.2.2.2.2.2.2.2.2.1 u.2.2.2.2.2.2.2.2.2.2.2.2.2.2.1 ((31 * u.2.2.2.2.2.2.2.2.2.2.2.2.2.2.2) + p0)]) zcX8 0 rfl 0 rfl 15 (Nat.le_of_ble_eq_true rfl) zfX8_195 zpX8_15 (zn_l _) (zf_l _) (Nat.le_of_ble_eq_true rfl) rfl dX8_hashes_11 ?_
  subst h
  exact z_vret dX8_hashes_14 hQ
set_option maxHeartbeats 400000 in
set_option maxRecDepth 100000 in
theorem c_X8_digest (l : Launch) (g : zG) (a : Nat → Nat) (u : tX8) (r : Int64 × tX8) (h : f_X8_digest u = some r) : Ctr l g true yX8_digest cX8_digest 3 (some .long) 10 233 0 0 [.ref (a 0)] ([cX8 g a u]) ([cX8 g a r.2]) (some (.long r.1)) := by
  refine ctr_of (by decide) (Nat.le_of_ble_eq_true rfl) (fun X hl _ _ _ hQ => ?_)
  unfold f_X8_digest at h
  refine z_lv (lv' := [(0, .ref (a 0))]) [0] rfl ?_
  refine z_aload_n 0 rfl rfl dX8_digest_0 ?_
  refine z_iconst (v := 0) (by decide) dX8_digest_1 ?_
  refine z_put (t := .int) ([dX8 g a 0 u.2.1 u.2.2.1 u.2.2.2.1 u.2.2.2.2.1 u.2.2.2.2.2.1 u.2.2.2.2.2.2.1 u.2.2.2.2.2.2.2.1 u.2.2.2.2.2.2.2.2.1 u.2.2.2.2.2.2.2.2.2.1 u.2.2.2.2.2.2.2.2.2.2.1 u.2.2.2.2.2.2.2.2.2.2.2.1 u.2.2.2.2.2.2.2.2.2.2.2.2.1 u.2.2.2.2.2.2.2.2.2.2.2.2.2.1 u.2.2.2.2.2.2.2.2.2.2.2.2.2.2.1 u.2.2.2.2.2.2.2.2.2.2.2.2.2.2.2]) zcX8 0 rfl 0 rfl 0 (Nat.le_of_ble_eq_true rfl) zfX8_38 zpX8_0 (zn_i _) (zf_i _) (Nat.le_of_ble_eq_true rfl) rfl dX8_digest_2 ?_
  refine z_aload_n 0 rfl rfl dX8_digest_5 ?_
  refine z_ldc2 zkX8_199 dX8_digest_6 ?_
  refine z_put (t := .long) ([dX8 g a 0 u.2.1 u.2.2.1 u.2.2.2.1 u.2.2.2.2.1 u.2.2.2.2.2.1 u.2.2.2.2.2.2.1 u.2.2.2.2.2.2.2.1 u.2.2.2.2.2.2.2.2.1 u.2.2.2.2.2.2.2.2.2.1 u.2.2.2.2.2.2.2.2.2.2.1 u.2.2.2.2.2.2.2.2.2.2.2.1 u.2.2.2.2.2.2.2.2.2.2.2.2.1 u.2.2.2.2.2.2.2.2.2.2.2.2.2.1 u.2.2.2.2.2.2.2.2.2.2.2.2.2.2.1 2963]) zcX8 0 rfl 0 rfl 15 (Nat.le_of_ble_eq_true rfl) zfX8_195 zpX8_15 (zn_l _) (zf_l _) (Nat.le_of_ble_eq_true rfl) rfl dX8_digest_9 ?_
  refine z_iconst (v := 0) (by decide) dX8_digest_12 ?_
  refine z_istore_n [(1, .int 0), (0, .ref (a 0))] rfl (Nat.le_of_ble_eq_true rfl) rfl dX8_digest_13 ?_
  obtain ⟨z1, ez1, h⟩ := zb h
  refine z_lv (lv' := [(0, .ref (a 0)), (1, .int 0)]) [1, 0] rfl ?_
  suffices hk14 : (fun (s14 : Int32 × tX8) => Z true RX8 cX8_digest 3 10 233 g X 0 0 ([cX8 g a s14.2]) [(0, .ref (a 0)), (1, .int s14.1)] 14 []) (0, (0, u.2.1, u.2.2.1, u.2.2.2.1, u.2.2.2.2.1, u.2.2.2.2.2.1, u.2.2.2.2.2.2.1, u.2.2.2.2.2.2.2.1, u.2.2.2.2.2.2.2.2.1, u.2.2.2.2.2.2.2.2.2.1, u.2.2.2.2.2.2.2.2.2.2.1, u.2.2.2.2.2.2.2.2.2.2.2.1, u.2.2.2.2.2.2.2.2.2.2.2.2.1, u.2.2.2.2.2.2.2.2.2.2.2.2.2.1, u.2.2.2.2.2.2.2.2.2.2.2.2.2.2.1, 2963)) by try dsimp only at hk14; exact hk14
  refine lp_ind (σ := Int32 × tX8) (ε := tX8) b_X8_digest_14 (fun s14 => Z true RX8 cX8_digest 3 10 233 g X 0 0 ([cX8 g a s14.2]) [(0, .ref (a 0)), (1, .int s14.1)] 14 []) (fun z1 => Z true RX8 cX8_digest 3 10 233 g X 0 0 ([cX8 g a z1]) [(0, .ref (a 0))] 36 []) (fun s14 q14 h14 i14 x14 => ?_) 5000 (0, (0, u.2.1, u.2.2.1, u.2.2.2.1, u.2.2.2.2.1, u.2.2.2.2.2.1, u.2.2.2.2.2.2.1, u.2.2.2.2.2.2.2.1, u.2.2.2.2.2.2.2.2.1, u.2.2.2.2.2.2.2.2.2.1, u.2.2.2.2.2.2.2.2.2.2.1, u.2.2.2.2.2.2.2.2.2.2.2.1, u.2.2.2.2.2.2.2.2.2.2.2.2.1, u.2.2.2.2.2.2.2.2.2.2.2.2.2.1, u.2.2.2.2.2.2.2.2.2.2.2.2.2.2.1, 2963)) z1 ez1 ?_
  · unfold b_X8_digest_14 at h14
    refine z_iload_n 1 rfl rfl dX8_digest_14 ?_
    refine z_bipush (v := 11) (by decide) dX8_digest_15 ?_
    refine z_icmp_ge (tgt := 36) rfl dX8_digest_17 (fun c17 => ?_) (fun c17 => ?_)
    · replace h14 := (if_pos c17).symm.trans h14
      cases h14
      have k14 := x14 s14.2 rfl
      try dsimp only at k14
      exact z_lv [0] rfl k14
    · replace h14 := (if_neg c17).symm.trans h14
      refine z_aload_n 0 rfl rfl dX8_digest_20 ?_
      refine z_aload_n 0 rfl rfl dX8_digest_21 ?_
      refine z_iload_n 1 rfl rfl dX8_digest_22 ?_
      obtain ⟨r2, er2, h14⟩ := zb h14
      refine z_callVR (rest := [.ref (a 0)]) hl (c_X8_counts l g a s14.2 s14.1 _ er2) zyX8_counts zvX8_counts rfl zlX8_177 zcX8.1 ⟨_, _, rfl⟩ [(0, none)] rfl rfl rfl (by decide) (Nat.le_of_ble_eq_true rfl) ⟨Nat.zero_le _, Nat.zero_le _⟩ dX8_digest_23 (st2 := [.int r2, .ref (a 0)]) rfl ?_
      refine z_i2l dX8_digest_26 ?_
      obtain ⟨r3, er3, h14⟩ := zb h14
      refine z_callVW (rest := []) hl (c_X8_hashes l g a s14.2 (Int32.toInt64 r2) _ (Option.some.inj er3)) zyX8_hashes zvX8_hashes rfl zlX8_201 zcX8.1 ⟨_, _, rfl⟩ [(0, none)] rfl (by decide) rfl (w' := [cX8 g a r3]) rfl rfl rfl (by decide) (Nat.le_of_ble_eq_true rfl) ⟨Nat.zero_le _, Nat.zero_le _⟩ dX8_digest_27 (st2 := []) rfl ?_
      refine z_iinc 1 [(1, .int (s14.1 + 1)), (0, .ref (a 0))] rfl (v := (s14.1 + 1)) zinc (Nat.le_of_ble_eq_true rfl) rfl dX8_digest_30 ?_
      refine z_goto (tgt := 14) rfl dX8_digest_33 ?_
      cases h14
      have k14 := i14 ((s14.1 + 1), r3) rfl
      try dsimp only at k14
      exact z_lv [1, 0] rfl k14
  · skip
    refine z_iconst (v := 0) (by decide) dX8_digest_36 ?_
    refine z_istore_n [(1, .int 0), (0, .ref (a 0))] rfl (Nat.le_of_ble_eq_true rfl) rfl dX8_digest_37 ?_
    obtain ⟨z4, ez4, h⟩ := zb h
    refine z_lv (lv' := [(0, .ref (a 0)), (1, .int 0)]) [1, 0] rfl ?_
    suffices hk38 : (fun (s38 : Int32 × tX8) => Z true RX8 cX8_digest 3 10 233 g X 0 0 ([cX8 g a s38.2]) [(0, .ref (a 0)), (1, .int s38.1)] 38 []) (0, z1) by try dsimp only at hk38; exact hk38
    refine lp_ind (σ := Int32 × tX8) (ε := tX8) b_X8_digest_38 (fun s38 => Z true RX8 cX8_digest 3 10 233 g X 0 0 ([cX8 g a s38.2]) [(0, .ref (a 0)), (1, .int s38.1)] 38 []) (fun z4 => Z true RX8 cX8_digest 3 10 233 g X 0 0 ([cX8 g a z4]) [(0, .ref (a 0))] 60 []) (fun s38 q38 h38 i38 x38 => ?_) 5000 (0, z1) z4 ez4 ?_
    · unfold b_X8_digest_38 at h38
      refine z_iload_n 1 rfl rfl dX8_digest_38 ?_
      refine z_iconst (v := 3) (by decide) dX8_digest_39 ?_
      refine z_icmp_ge (tgt := 60) rfl dX8_digest_40 (fun c40 => ?_) (fun c40 => ?_)
      · replace h38 := (if_pos c40).symm.trans h38
        cases h38
        have k38 := x38 s38.2 rfl
        try dsimp only at k38
        exact z_lv [0] rfl k38
      · replace h38 := (if_neg c40).symm.trans h38
        refine z_aload_n 0 rfl rfl dX8_digest_43 ?_
        refine z_aload_n 0 rfl rfl dX8_digest_44 ?_
        refine z_get zcX8 0 rfl 0 rfl 1 (Nat.le_of_ble_eq_true rfl) zfX8_7 (v := .ref (a 1)) rfl dX8_digest_45 ?_
        refine z_iload_n 1 rfl rfl dX8_digest_48 ?_
        obtain ⟨r5, er5, h38⟩ := zb h38
        refine z_iald 0 rfl 1 rfl er5 dX8_digest_49 ?_
        refine z_i2l dX8_digest_50 ?_
        obtain ⟨r6, er6, h38⟩ := zb h38
        refine z_callVW (rest := []) hl (c_X8_hashes l g a s38.2 (Int32.toInt64 r5) _ (Option.some.inj er6)) zyX8_hashes zvX8_hashes rfl zlX8_201 zcX8.1 ⟨_, _, rfl⟩ [(0, none)] rfl (by decide) rfl (w' := [cX8 g a r6]) rfl rfl rfl (by decide) (Nat.le_of_ble_eq_true rfl) ⟨Nat.zero_le _, Nat.zero_le _⟩ dX8_digest_51 (st2 := []) rfl ?_
        refine z_iinc 1 [(1, .int (s38.1 + 1)), (0, .ref (a 0))] rfl (v := (s38.1 + 1)) zinc (Nat.le_of_ble_eq_true rfl) rfl dX8_digest_54 ?_
        refine z_goto (tgt := 38) rfl dX8_digest_57 ?_
        cases h38
        have k38 := i38 ((s38.1 + 1), r6) rfl
        try dsimp only at k38
        exact z_lv [1, 0] rfl k38
    · skip
      refine z_iconst (v := 0) (by decide) dX8_digest_60 ?_
      refine z_istore_n [(1, .int 0), (0, .ref (a 0))] rfl (Nat.le_of_ble_eq_true rfl) rfl dX8_digest_61 ?_
      obtain ⟨z7, ez7, h⟩ := zb h
      refine z_lv (lv' := [(0, .ref (a 0)), (1, .int 0)]) [1, 0] rfl ?_
      suffices hk62 : (fun (s62 : Int32 × tX8) => Z true RX8 cX8_digest 3 10 233 g X 0 0 ([cX8 g a s62.2]) [(0, .ref (a 0)), (1, .int s62.1)] 62 []) (0, z4) by try dsimp only at hk62; exact hk62
      refine lp_ind (σ := Int32 × tX8) (ε := tX8) b_X8_digest_62 (fun s62 => Z true RX8 cX8_digest 3 10 233 g X 0 0 ([cX8 g a s62.2]) [(0, .ref (a 0)), (1, .int s62.1)] 62 []) (fun z7 => Z true RX8 cX8_digest 3 10 233 g X 0 0 ([cX8 g a z7]) [(0, .ref (a 0))] 120 []) (fun s62 q62 h62 i62 x62 => ?_) 5000 (0, z4) z7 ez7 ?_
      · unfold b_X8_digest_62 at h62
        refine z_iload_n 1 rfl rfl dX8_digest_62 ?_
        refine z_bipush (v := 12) (by decide) dX8_digest_63 ?_
        refine z_icmp_ge (tgt := 120) rfl dX8_digest_65 (fun c65 => ?_) (fun c65 => ?_)
        · replace h62 := (if_pos c65).symm.trans h62
          cases h62
          have k62 := x62 s62.2 rfl
          try dsimp only at k62
          exact z_lv [0] rfl k62
        · replace h62 := (if_neg c65).symm.trans h62
          refine z_iconst (v := 0) (by decide) dX8_digest_68 ?_
          refine z_istore_n [(2, .int 0), (0, .ref (a 0)), (1, .int s62.1)] rfl (Nat.le_of_ble_eq_true rfl) rfl dX8_digest_69 ?_
          obtain ⟨z8, ez8, h62⟩ := zb h62
          refine z_lv (lv' := [(0, .ref (a 0)), (1, .int s62.1), (2, .int 0)]) [1, 2, 0] rfl ?_
          suffices hk70 : (fun (s70 : Int32 × tX8) => Z true RX8 cX8_digest 3 10 233 g X 0 0 ([cX8 g a s70.2]) [(0, .ref (a 0)), (1, .int s62.1), (2, .int s70.1)] 70 []) (0, s62.2) by try dsimp only at hk70; exact hk70
          refine lp_ind (σ := Int32 × tX8) (ε := tX8) (b_X8_digest_70 s62) (fun s70 => Z true RX8 cX8_digest 3 10 233 g X 0 0 ([cX8 g a s70.2]) [(0, .ref (a 0)), (1, .int s62.1), (2, .int s70.1)] 70 []) (fun z8 => Z true RX8 cX8_digest 3 10 233 g X 0 0 ([cX8 g a z8]) [(0, .ref (a 0)), (1, .int s62.1)] 93 []) (fun s70 q70 h70 i70 x70 => ?_) 5000 (0, s62.2) z8 ez8 ?_
          · unfold b_X8_digest_70 at h70
            refine z_iload_n 2 rfl rfl dX8_digest_70 ?_
            refine z_bipush (v := 6) (by decide) dX8_digest_71 ?_
            refine z_icmp_ge (tgt := 93) rfl dX8_digest_73 (fun c73 => ?_) (fun c73 => ?_)
            · replace h70 := (if_pos c73).symm.trans h70
              cases h70
              have k70 := x70 s70.2 rfl
              try dsimp only at k70
              exact z_lv [0, 1] rfl k70
            · replace h70 := (if_neg c73).symm.trans h70
              refine z_aload_n 0 rfl rfl dX8_digest_76 ?_
              refine z_aload_n 0 rfl rfl dX8_digest_77 ?_
              refine z_iload_n 1 rfl rfl dX8_digest_78 ?_
              refine z_iload_n 2 rfl rfl dX8_digest_79 ?_
              obtain ⟨r9, er9, h70⟩ := zb h70
              refine z_callVR (rest := [.ref (a 0)]) hl (c_X8_tellsDrawer l g a s70.2 s62.1 s70.1 _ er9) zyX8_tellsDrawer zvX8_tellsDrawer rfl zlX8_165 zcX8.1 ⟨_, _, rfl⟩ [(0, none)] rfl rfl rfl (by decide) (Nat.le_of_ble_eq_true rfl) ⟨Nat.zero_le _, Nat.zero_le _⟩ dX8_digest_80 (st2 := [.int r9, .ref (a 0)]) rfl ?_
              refine z_i2l dX8_digest_83 ?_
              obtain ⟨r10, er10, h70⟩ := zb h70
              refine z_callVW (rest := []) hl (c_X8_hashes l g a s70.2 (Int32.toInt64 r9) _ (Option.some.inj er10)) zyX8_hashes zvX8_hashes rfl zlX8_201 zcX8.1 ⟨_, _, rfl⟩ [(0, none)] rfl (by decide) rfl (w' := [cX8 g a r10]) rfl rfl rfl (by decide) (Nat.le_of_ble_eq_true rfl) ⟨Nat.zero_le _, Nat.zero_le _⟩ dX8_digest_84 (st2 := []) rfl ?_
              refine z_iinc 2 [(2, .int (s70.1 + 1)), (0, .ref (a 0)), (1, .int s62.1)] rfl (v := (s70.1 + 1)) zinc (Nat.le_of_ble_eq_true rfl) rfl dX8_digest_87 ?_
              refine z_goto (tgt := 70) rfl dX8_digest_90 ?_
              cases h70
              have k70 := i70 ((s70.1 + 1), r10) rfl
              try dsimp only at k70
              exact z_lv [1, 2, 0] rfl k70
          · skip
            refine z_aload_n 0 rfl rfl dX8_digest_93 ?_
            refine z_aload_n 0 rfl rfl dX8_digest_94 ?_
            refine z_iload_n 1 rfl rfl dX8_digest_95 ?_
            obtain ⟨r11, er11, h62⟩ := zb h62
            refine z_callVR (rest := [.ref (a 0)]) hl (c_X8_wayTo l g a z8 s62.1 _ er11) zyX8_wayTo zvX8_wayTo rfl zlX8_64 zcX8.1 ⟨_, _, rfl⟩ [(0, none)] rfl rfl rfl (by decide) (Nat.le_of_ble_eq_true rfl) ⟨Nat.zero_le _, Nat.zero_le _⟩ dX8_digest_96 (st2 := [.int r11, .ref (a 0)]) rfl ?_
            refine z_i2l dX8_digest_99 ?_
            obtain ⟨r12, er12, h62⟩ := zb h62
            refine z_callVW (rest := []) hl (c_X8_hashes l g a z8 (Int32.toInt64 r11) _ (Option.some.inj er12)) zyX8_hashes zvX8_hashes rfl zlX8_201 zcX8.1 ⟨_, _, rfl⟩ [(0, none)] rfl (by decide) rfl (w' := [cX8 g a r12]) rfl rfl rfl (by decide) (Nat.le_of_ble_eq_true rfl) ⟨Nat.zero_le _, Nat.zero_le _⟩ dX8_digest_100 (st2 := []) rfl ?_
            refine z_aload_n 0 rfl rfl dX8_digest_103 ?_
            refine z_aload_n 0 rfl rfl dX8_digest_104 ?_
            refine z_iload_n 1 rfl rfl dX8_digest_105 ?_
            refine z_iconst (v := 5) (by decide) dX8_digest_106 ?_
            obtain ⟨r13, er13, h62⟩ := zb h62
            refine z_callVR (rest := [.ref (a 0)]) hl (c_X8_greatestWith l g a r12 s62.1 5 _ er13) zyX8_greatestWith zvX8_greatestWith rfl zlX8_180 zcX8.1 ⟨_, _, rfl⟩ [(0, none)] rfl rfl rfl (by decide) (Nat.le_of_ble_eq_true rfl) ⟨Nat.zero_le _, Nat.zero_le _⟩ dX8_digest_107 (st2 := [.int r13, .ref (a 0)]) rfl ?_
            refine z_i2l dX8_digest_110 ?_
            obtain ⟨r14, er14, h62⟩ := zb h62
            refine z_callVW (rest := []) hl (c_X8_hashes l g a r12 (Int32.toInt64 r13) _ (Option.some.inj er14)) zyX8_hashes zvX8_hashes rfl zlX8_201 zcX8.1 ⟨_, _, rfl⟩ [(0, none)] rfl (by decide) rfl (w' := [cX8 g a r14]) rfl rfl rfl (by decide) (Nat.le_of_ble_eq_true rfl) ⟨Nat.zero_le _, Nat.zero_le _⟩ dX8_digest_111 (st2 := []) rfl ?_
            refine z_iinc 1 [(1, .int (s62.1 + 1)), (0, .ref (a 0))] rfl (v := (s62.1 + 1)) zinc (Nat.le_of_ble_eq_true rfl) rfl dX8_digest_114 ?_
            refine z_goto (tgt := 62) rfl dX8_digest_117 ?_
            cases h62
            have k62 := i62 ((s62.1 + 1), r14) rfl
            try dsimp only at k62
            exact z_lv [1, 0] rfl k62
      · skip
        refine z_iconst (v := 0) (by decide) dX8_digest_120 ?_
        refine z_istore_n [(1, .int 0), (0, .ref (a 0))] rfl (Nat.le_of_ble_eq_true rfl) rfl dX8_digest_121 ?_
        obtain ⟨z15, ez15, h⟩ := zb h
        refine z_lv (lv' := [(0, .ref (a 0)), (1, .int 0)]) [1, 0] rfl ?_
        suffices hk122 : (fun (s122 : Int32 × tX8) => Z true RX8 cX8_digest 3 10 233 g X 0 0 ([cX8 g a s122.2]) [(0, .ref (a 0)), (1, .int s122.1)] 122 []) (0, z7) by try dsimp only at hk122; exact hk122
        refine lp_ind (σ := Int32 × tX8) (ε := tX8) b_X8_digest_122 (fun s122 => Z true RX8 cX8_digest 3 10 233 g X 0 0 ([cX8 g a s122.2]) [(0, .ref (a 0)), (1, .int s122.1)] 122 []) (fun z15 => Z true RX8 cX8_digest 3 10 233 g X 0 0 ([cX8 g a z15]) [(0, .ref (a 0))] 178 []) (fun s122 q122 h122 i122 x122 => ?_) 5000 (0, z7) z15 ez15 ?_
        · unfold b_X8_digest_122 at h122
          refine z_iload_n 1 rfl rfl dX8_digest_122 ?_
          refine z_aload_n 0 rfl rfl dX8_digest_123 ?_
          refine z_get zcX8 0 rfl 0 rfl 1 (Nat.le_of_ble_eq_true rfl) zfX8_7 (v := .ref (a 1)) rfl dX8_digest_124 ?_
          refine z_bipush (v := 9) (by decide) dX8_digest_127 ?_
          obtain ⟨r16, er16, h122⟩ := zb h122
          refine z_iald 0 rfl 1 rfl er16 dX8_digest_129 ?_
          refine z_icmp_ge (tgt := 178) rfl dX8_digest_130 (fun c130 => ?_) (fun c130 => ?_)
          · replace h122 := (if_pos c130).symm.trans h122
            cases h122
            have k122 := x122 s122.2 rfl
            try dsimp only at k122
            exact z_lv [0] rfl k122
          · replace h122 := (if_neg c130).symm.trans h122
            refine z_iconst (v := 0) (by decide) dX8_digest_133 ?_
            refine z_istore_n [(2, .int 0), (0, .ref (a 0)), (1, .int s122.1)] rfl (Nat.le_of_ble_eq_true rfl) rfl dX8_digest_134 ?_
            obtain ⟨z17, ez17, h122⟩ := zb h122
            refine z_lv (lv' := [(0, .ref (a 0)), (1, .int s122.1), (2, .int 0)]) [1, 2, 0] rfl ?_
            suffices hk135 : (fun (s135 : Int32 × tX8) => Z true RX8 cX8_digest 3 10 233 g X 0 0 ([cX8 g a s135.2]) [(0, .ref (a 0)), (1, .int s122.1), (2, .int s135.1)] 135 []) (0, s122.2) by try dsimp only at hk135; exact hk135
            refine lp_ind (σ := Int32 × tX8) (ε := tX8) (b_X8_digest_135 s122) (fun s135 => Z true RX8 cX8_digest 3 10 233 g X 0 0 ([cX8 g a s135.2]) [(0, .ref (a 0)), (1, .int s122.1), (2, .int s135.1)] 135 []) (fun z17 => Z true RX8 cX8_digest 3 10 233 g X 0 0 ([cX8 g a z17]) [(0, .ref (a 0)), (1, .int s122.1)] 157 []) (fun s135 q135 h135 i135 x135 => ?_) 5000 (0, s122.2) z17 ez17 ?_
            · unfold b_X8_digest_135 at h135
              refine z_iload_n 2 rfl rfl dX8_digest_135 ?_
              refine z_iconst (v := 3) (by decide) dX8_digest_136 ?_
              refine z_icmp_ge (tgt := 157) rfl dX8_digest_137 (fun c137 => ?_) (fun c137 => ?_)
              · replace h135 := (if_pos c137).symm.trans h135
                cases h135
                have k135 := x135 s135.2 rfl
                try dsimp only at k135
                exact z_lv [0, 1] rfl k135
              · replace h135 := (if_neg c137).symm.trans h135
                refine z_aload_n 0 rfl rfl dX8_digest_140 ?_
                refine z_aload_n 0 rfl rfl dX8_digest_141 ?_
                refine z_iload_n 1 rfl rfl dX8_digest_142 ?_
                refine z_iload_n 2 rfl rfl dX8_digest_143 ?_
                obtain ⟨r18, er18, h135⟩ := zb h135
                refine z_callVR (rest := [.ref (a 0)]) hl (c_X8_of l g a s135.2 s122.1 s135.1 _ er18) zyX8_of zvX8_of rfl zlX8_49 zcX8.1 ⟨_, _, rfl⟩ [(0, none)] rfl rfl rfl (by decide) (Nat.le_of_ble_eq_true rfl) ⟨Nat.zero_le _, Nat.zero_le _⟩ dX8_digest_144 (st2 := [.int r18, .ref (a 0)]) rfl ?_
                refine z_i2l dX8_digest_147 ?_
                obtain ⟨r19, er19, h135⟩ := zb h135
                refine z_callVW (rest := []) hl (c_X8_hashes l g a s135.2 (Int32.toInt64 r18) _ (Option.some.inj er19)) zyX8_hashes zvX8_hashes rfl zlX8_201 zcX8.1 ⟨_, _, rfl⟩ [(0, none)] rfl (by decide) rfl (w' := [cX8 g a r19]) rfl rfl rfl (by decide) (Nat.le_of_ble_eq_true rfl) ⟨Nat.zero_le _, Nat.zero_le _⟩ dX8_digest_148 (st2 := []) rfl ?_
                refine z_iinc 2 [(2, .int (s135.1 + 1)), (0, .ref (a 0)), (1, .int s122.1)] rfl (v := (s135.1 + 1)) zinc (Nat.le_of_ble_eq_true rfl) rfl dX8_digest_151 ?_
                refine z_goto (tgt := 135) rfl dX8_digest_154 ?_
                cases h135
                have k135 := i135 ((s135.1 + 1), r19) rfl
                try dsimp only at k135
                exact z_lv [1, 2, 0] rfl k135
            · skip
              refine z_aload_n 0 rfl rfl dX8_digest_157 ?_
              refine z_aload_n 0 rfl rfl dX8_digest_158 ?_
              refine z_aload_n 0 rfl rfl dX8_digest_159 ?_
              refine z_iload_n 1 rfl rfl dX8_digest_160 ?_
              refine z_iconst (v := 0) (by decide) dX8_digest_161 ?_
              obtain ⟨r20, er20, h122⟩ := zb h122
              refine z_callVR (rest := [.ref (a 0), .ref (a 0)]) hl (c_X8_of l g a z17 s122.1 0 _ er20) zyX8_of zvX8_of rfl zlX8_49 zcX8.1 ⟨_, _, rfl⟩ [(0, none)] rfl rfl rfl (by decide) (Nat.le_of_ble_eq_true rfl) ⟨Nat.zero_le _, Nat.zero_le _⟩ dX8_digest_162 (st2 := [.int r20, .ref (a 0), .ref (a 0)]) rfl ?_
              obtain ⟨r21, er21, h122⟩ := zb h122
              refine z_callVR (rest := [.ref (a 0)]) hl (c_X8_reason l g a z17 r20 _ er21) zyX8_reason zvX8_reason rfl zlX8_86 zcX8.1 ⟨_, _, rfl⟩ [(0, none)] rfl rfl rfl (by decide) (Nat.le_of_ble_eq_true rfl) ⟨Nat.zero_le _, Nat.zero_le _⟩ dX8_digest_165 (st2 := [.int r21, .ref (a 0)]) rfl ?_
              refine z_i2l dX8_digest_168 ?_
              obtain ⟨r22, er22, h122⟩ := zb h122
              refine z_callVW (rest := []) hl (c_X8_hashes l g a z17 (Int32.toInt64 r21) _ (Option.some.inj er22)) zyX8_hashes zvX8_hashes rfl zlX8_201 zcX8.1 ⟨_, _, rfl⟩ [(0, none)] rfl (by decide) rfl (w' := [cX8 g a r22]) rfl rfl rfl (by decide) (Nat.le_of_ble_eq_true rfl) ⟨Nat.zero_le _, Nat.zero_le _⟩ dX8_digest_169 (st2 := []) rfl ?_
              refine z_iinc 1 [(1, .int (s122.1 + 1)), (0, .ref (a 0))] rfl (v := (s122.1 + 1)) zinc (Nat.le_of_ble_eq_true rfl) rfl dX8_digest_172 ?_
              refine z_goto (tgt := 122) rfl dX8_digest_175 ?_
              cases h122
              have k122 := i122 ((s122.1 + 1), r22) rfl
              try dsimp only at k122
              exact z_lv [1, 0] rfl k122
        · skip
          refine z_aload_n 0 rfl rfl dX8_digest_178 ?_
          refine z_aload_n 0 rfl rfl dX8_digest_179 ?_
          refine z_bipush (v := 7) (by decide) dX8_digest_180 ?_
          obtain ⟨r23, er23, h⟩ := zb h
          refine z_callVR (rest := [.ref (a 0)]) hl (c_X8_drawerFor l g a z15 7 _ er23) zyX8_drawerFor zvX8_drawerFor rfl zlX8_183 zcX8.1 ⟨_, _, rfl⟩ [(0, none)] rfl rfl rfl (by decide) (Nat.le_of_ble_eq_true rfl) ⟨Nat.zero_le _, Nat.zero_le _⟩ dX8_digest_182 (st2 := [.int r23, .ref (a 0)]) rfl ?_
          refine z_i2l dX8_digest_185 ?_
          obtain ⟨r24, er24, h⟩ := zb h
          refine z_callVW (rest := []) hl (c_X8_hashes l g a z15 (Int32.toInt64 r23) _ (Option.some.inj er24)) zyX8_hashes zvX8_hashes rfl zlX8_201 zcX8.1 ⟨_, _, rfl⟩ [(0, none)] rfl (by decide) rfl (w' := [cX8 g a r24]) rfl rfl rfl (by decide) (Nat.le_of_ble_eq_true rfl) ⟨Nat.zero_le _, Nat.zero_le _⟩ dX8_digest_186 (st2 := []) rfl ?_
          refine z_iconst (v := 0) (by decide) dX8_digest_189 ?_
          refine z_istore_n [(1, .int 0), (0, .ref (a 0))] rfl (Nat.le_of_ble_eq_true rfl) rfl dX8_digest_190 ?_
          obtain ⟨z25, ez25, h⟩ := zb h
          refine z_lv (lv' := [(0, .ref (a 0)), (1, .int 0)]) [1, 0] rfl ?_
          suffices hk191 : (fun (s191 : Int32 × tX8) => Z true RX8 cX8_digest 3 10 233 g X 0 0 ([cX8 g a s191.2]) [(0, .ref (a 0)), (1, .int s191.1)] 191 []) (0, r24) by try dsimp only at hk191; exact hk191
          refine lp_ind (σ := Int32 × tX8) (ε := tX8) b_X8_digest_191 (fun s191 => Z true RX8 cX8_digest 3 10 233 g X 0 0 ([cX8 g a s191.2]) [(0, .ref (a 0)), (1, .int s191.1)] 191 []) (fun z25 => Z true RX8 cX8_digest 3 10 233 g X 0 0 ([cX8 g a z25]) [(0, .ref (a 0))] 218 []) (fun s191 q191 h191 i191 x191 => ?_) 5000 (0, r24) z25 ez25 ?_
          · unfold b_X8_digest_191 at h191
            refine z_iload_n 1 rfl rfl dX8_digest_191 ?_
            refine z_bipush (v := 12) (by decide) dX8_digest_192 ?_
            refine z_icmp_ge (tgt := 218) rfl dX8_digest_194 (fun c194 => ?_) (fun c194 => ?_)
            · replace h191 := (if_pos c194).symm.trans h191
              cases h191
              have k191 := x191 s191.2 rfl
              try dsimp only at k191
              exact z_lv [0] rfl k191
            · replace h191 := (if_neg c194).symm.trans h191
              refine z_aload_n 0 rfl rfl dX8_digest_197 ?_
              refine z_aload_n 0 rfl rfl dX8_digest_198 ?_
              refine z_iload_n 1 rfl rfl dX8_digest_199 ?_
              refine z_iconst (v := 4) (by decide) dX8_digest_200 ?_
              refine z_idiv (by decide) dX8_digest_201 ?_
              refine z_iload_n 1 rfl rfl dX8_digest_202 ?_
              refine z_iconst (v := 4) (by decide) dX8_digest_203 ?_
              refine z_irem (by decide) dX8_digest_204 ?_
              obtain ⟨r26, er26, h191⟩ := zb h191
              refine z_callVW (rest := [.ref (a 0)]) hl (c_X8_picked l g a s191.2 (s191.1 / 4) (i_rem s191.1 4) _ er26) zyX8_picked zvX8_picked rfl zlX8_186 zcX8.1 ⟨_, _, rfl⟩ [(0, none)] rfl (by decide) rfl (w' := [cX8 g a r26.2]) rfl rfl rfl (by decide) (Nat.le_of_ble_eq_true rfl) ⟨Nat.zero_le _, Nat.zero_le _⟩ dX8_digest_205 (st2 := [.int r26.1, .ref (a 0)]) rfl ?_
              refine z_i2l dX8_digest_208 ?_
              obtain ⟨r27, er27, h191⟩ := zb h191
              refine z_callVW (rest := []) hl (c_X8_hashes l g a r26.2 (Int32.toInt64 r26.1) _ (Option.some.inj er27)) zyX8_hashes zvX8_hashes rfl zlX8_201 zcX8.1 ⟨_, _, rfl⟩ [(0, none)] rfl (by decide) rfl (w' := [cX8 g a r27]) rfl rfl rfl (by decide) (Nat.le_of_ble_eq_true rfl) ⟨Nat.zero_le _, Nat.zero_le _⟩ dX8_digest_209 (st2 := []) rfl ?_
              refine z_iinc 1 [(1, .int (s191.1 + 1)), (0, .ref (a 0))] rfl (v := (s191.1 + 1)) zinc (Nat.le_of_ble_eq_true rfl) rfl dX8_digest_212 ?_
              refine z_goto (tgt := 191) rfl dX8_digest_215 ?_
              cases h191
              have k191 := i191 ((s191.1 + 1), r27) rfl
              try dsimp only at k191
              exact z_lv [1, 0] rfl k191
          · skip
            refine z_aload_n 0 rfl rfl dX8_digest_218 ?_
            refine z_aload_n 0 rfl rfl dX8_digest_219 ?_
            obtain ⟨r28, er28, h⟩ := zb h
            refine z_callVR (rest := [.ref (a 0)]) hl (c_X8_even l g a z25 _ er28) zyX8_even zvX8_even rfl zlX8_189 zcX8.1 ⟨_, _, rfl⟩ [(0, none)] rfl rfl rfl (by decide) (Nat.le_of_ble_eq_true rfl) ⟨Nat.zero_le _, Nat.zero_le _⟩ dX8_digest_220 (st2 := [.double r28, .ref (a 0)]) rfl ?_
            refine z_callSR (rest := [.ref (a 0)]) hl (c_Jxe99ae_doubleToLongBits_ccdee l g r28 _ rfl) zyJxe99ae_doubleToLongBits_ccdee zsJxe99ae_doubleToLongBits_ccdee zlX8_205 [] rfl rfl rfl (by decide) (Nat.le_of_ble_eq_true rfl) ⟨Nat.zero_le _, Nat.zero_le _⟩ dX8_digest_223 (st2 := [.long (f_Jxe99ae_doubleToLongBits_ccdee r28), .ref (a 0)]) rfl ?_
            obtain ⟨r29, er29, h⟩ := zb h
            refine z_callVW (rest := []) hl (c_X8_hashes l g a z25 (f_Jxe99ae_doubleToLongBits_ccdee r28) _ (Option.some.inj er29)) zyX8_hashes zvX8_hashes rfl zlX8_201 zcX8.1 ⟨_, _, rfl⟩ [(0, none)] rfl (by decide) rfl (w' := [cX8 g a r29]) rfl rfl rfl (by decide) (Nat.le_of_ble_eq_true rfl) ⟨Nat.zero_le _, Nat.zero_le _⟩ dX8_digest_226 (st2 := []) rfl ?_
            refine z_aload_n 0 rfl rfl dX8_digest_229 ?_
            refine z_aload_n 0 rfl rfl dX8_digest_230 ?_
            refine z_get zcX8 0 rfl 0 rfl 6 (Nat.le_of_ble_eq_true rfl) zfX8_137 (v := .int r29.2.2.2.2.2.2.1) rfl dX8_digest_231 ?_
            refine z_i2l dX8_digest_234 ?_
            obtain ⟨r30, er30, h⟩ := zb h
            refine z_callVW (rest := []) hl (c_X8_hashes l g a r29 (Int32.toInt64 r29.2.2.2.2.2.2.1) _ (Option.some.inj er30)) zyX8_hashes zvX8_hashes rfl zlX8_201 zcX8.1 ⟨_, _, rfl⟩ [(0, none)] rfl (by decide) rfl (w' := [cX8 g a r30]) rfl rfl rfl (by decide) (Nat.le_of_ble_eq_true rfl) ⟨Nat.zero_le _, Nat.zero_le _⟩ dX8_digest_235 (st2 := []) rfl ?_
            refine z_iconst (v := 0) (by decide) dX8_digest_238 ?_
            refine z_istore_n [(1, .int 0), (0, .ref (a 0))] rfl (Nat.le_of_ble_eq_true rfl) rfl dX8_digest_239 ?_
            obtain ⟨z31, ez31, h⟩ := zb h
            refine z_lv (lv' := [(0, .ref (a 0)), (1, .int 0)]) [1, 0] rfl ?_
            suffices hk240 : (fun (s240 : Int32 × tX8) => Z true RX8 cX8_digest 3 10 233 g X 0 0 ([cX8 g a s240.2]) [(0, .ref (a 0)), (1, .int s240.1)] 240 []) (0, r30) by try dsimp only at hk240; exact hk240
            refine lp_ind (σ := Int32 × tX8) (ε := tX8) b_X8_digest_240 (fun s240 => Z true RX8 cX8_digest 3 10 233 g X 0 0 ([cX8 g a s240.2]) [(0, .ref (a 0)), (1, .int s240.1)] 240 []) (fun z31 => Z true RX8 cX8_digest 3 10 233 g X 0 0 ([cX8 g a z31]) [(0, .ref (a 0))] 265 []) (fun s240 q240 h240 i240 x240 => ?_) 5000 (0, r30) z31 ez31 ?_
            · unfold b_X8_digest_240 at h240
              refine z_iload_n 1 rfl rfl dX8_digest_240 ?_
              refine z_aload_n 0 rfl rfl dX8_digest_241 ?_
              refine z_get zcX8 0 rfl 0 rfl 6 (Nat.le_of_ble_eq_true rfl) zfX8_137 (v := .int s240.2.2.2.2.2.2.2.1) rfl dX8_digest_242 ?_
              refine z_icmp_ge (tgt := 265) rfl dX8_digest_245 (fun c245 => ?_) (fun c245 => ?_)
              · replace h240 := (if_pos c245).symm.trans h240
                cases h240
                have k240 := x240 s240.2 rfl
                try dsimp only at k240
                exact z_lv [0] rfl k240
              · replace h240 := (if_neg c245).symm.trans h240
                refine z_aload_n 0 rfl rfl dX8_digest_248 ?_
                refine z_aload_n 0 rfl rfl dX8_digest_249 ?_
                refine z_get zcX8 0 rfl 0 rfl 5 (Nat.le_of_ble_eq_true rfl) zfX8_19 (v := .ref (a 4)) rfl dX8_digest_250 ?_
                refine z_iload_n 1 rfl rfl dX8_digest_253 ?_
                obtain ⟨r32, er32, h240⟩ := zb h240
                refine z_iald 0 rfl 4 rfl er32 dX8_digest_254 ?_
                refine z_i2l dX8_digest_255 ?_
                obtain ⟨r33, er33, h240⟩ := zb h240
                refine z_callVW (rest := []) hl (c_X8_hashes l g a s240.2 (Int32.toInt64 r32) _ (Option.some.inj er33)) zyX8_hashes zvX8_hashes rfl zlX8_201 zcX8.1 ⟨_, _, rfl⟩ [(0, none)] rfl (by decide) rfl (w' := [cX8 g a r33]) rfl rfl rfl (by decide) (Nat.le_of_ble_eq_true rfl) ⟨Nat.zero_le _, Nat.zero_le _⟩ dX8_digest_256 (st2 := []) rfl ?_
                refine z_iinc 1 [(1, .int (s240.1 + 1)), (0, .ref (a 0))] rfl (v := (s240.1 + 1)) zinc (Nat.le_of_ble_eq_true rfl) rfl dX8_digest_259 ?_
                refine z_goto (tgt := 240) rfl dX8_digest_262 ?_
                cases h240
                have k240 := i240 ((s240.1 + 1), r33) rfl
                try dsimp only at k240
                exact z_lv [1, 0] rfl k240
            · skip
              refine z_aload_n 0 rfl rfl dX8_digest_265 ?_
              refine z_get zcX8 0 rfl 0 rfl 15 (Nat.le_of_ble_eq_true rfl) zfX8_195 (v := .long z31.2.2.2.2.2.2.2.2.2.2.2.2.2.2.2) rfl dX8_digest_266 ?_
              cases h
              try dsimp only at hQ
              exact z_lret dX8_digest_269 hQ
