def zX0v : tX0 := (fun _ => 0, fun _ => 0)
def zX1v : tX1 := (fun _ => 0, 0, fun _ => 0, 0, 0, 0)
def zX3v : tX3 := (fun _ => 0, fun _ => 0, fun _ => 0, 0, 0)
def zX6v : tX6 := (zX0v, zX3v, fun _ => 0, zFirst, 0, 0, 0, 0, 0)
def zX4v : tX4 := (fun _ => 0, zX0v, fun _ => 0, fun _ => 0, fun _ => 0, fun _ => 0, 0, 0)
def zX5v : tX5 := zX4v
def zX2v : tX2 := (fun _ => zX6v, 0, 0)
def zX7v : tX7 := (zX6v, zX6v, zX2v, zX1v, zX5v)
def zX8v : tX8 := (0, upd (upd (fun _ => 0) (0 : Int32).toNatClampNeg 60) (1 : Int32).toNatClampNeg 50, fun _ => 0, fun _ => 0, 0, fun _ => 0, 0, 0, false, fun _ => 0, 0, fun _ => 0, fun _ => 0, fun _ => 0, fun _ => 0, 0)
theorem zdvX0 : ∀ j, j < 2 → defaultValue (tyX0 j) = vp_V ([.null, .null]) j := by
  intro j hj
  have h := (show ∀ i : Fin 2, defaultValue (tyX0 i.1) = vp_V ([.null, .null]) i.1 by decide +kernel) ⟨j, hj⟩
  exact h
set_option maxHeartbeats 1000000 in
set_option maxRecDepth 100000 in
theorem c_X0_init (l : Launch) (g : zG) (r : Nat) : CtrN l g zE0 yX0_init cX0_init 1 1 12 2 24 r [[(r, .inr (0, [.null, .null]))]] (fun a => [cX0 g a zX0v]) := by
  refine ctrn_of (by decide) (Nat.le_of_ble_eq_true rfl) (fun X hl hmc hms hnm hE hQ => ?_)
  refine z_aload_n 0 rfl rfl dX0_init_0 ?_
  refine z_objInit zlX0_3 ⟨Nat.le_of_ble_eq_true rfl, Nat.le_of_ble_eq_true rfl⟩ dX0_init_1 ?_
  refine z_aload_n 0 rfl rfl dX0_init_4 ?_
  refine z_bipush (v := 12) (by decide) dX0_init_5 ?_
  refine z_newI (by decide) (show (12 : Int32).toNatClampNeg = 12 by decide) (Nat.le_of_ble_eq_true rfl) ⟨by rw [hmc]; exact Nat.le_of_ble_eq_true rfl, by rw [hms]; exact Nat.le_of_ble_eq_true rfl⟩ dX0_init_7 (fun q1 => ?_)
  refine z_w (w' := [[(r, .inr (0, [.null, .null]))], [(q1, .inl (g.2.1, 12, .inl (fun _ => 0)))]]) rfl ?_
  refine z_putR ([[(r, .inr (0, [.ref q1, .null]))], [(q1, .inl (g.2.1, 12, .inl (fun _ => 0)))]]) zcX0 0 rfl 0 rfl 0 (Nat.le_of_ble_eq_true rfl) zfX0_9 zqX0_0 (hnm rfl) rfl rfl rfl (Nat.le_of_ble_eq_true rfl) rfl dX0_init_9 ?_
  refine z_aload_n 0 rfl rfl dX0_init_12 ?_
  refine z_bipush (v := 12) (by decide) dX0_init_13 ?_
  refine z_newI (by decide) (show (12 : Int32).toNatClampNeg = 12 by decide) (Nat.le_of_ble_eq_true rfl) ⟨by rw [hmc]; exact Nat.le_of_ble_eq_true rfl, by rw [hms]; exact Nat.le_of_ble_eq_true rfl⟩ dX0_init_15 (fun q2 => ?_)
  refine z_w (w' := [[(r, .inr (0, [.ref q1, .null]))], [(q1, .inl (g.2.1, 12, .inl (fun _ => 0)))], [(q2, .inl (g.2.1, 12, .inl (fun _ => 0)))]]) rfl ?_
  refine z_putR ([[(r, .inr (0, [.ref q1, .ref q2]))], [(q1, .inl (g.2.1, 12, .inl (fun _ => 0)))], [(q2, .inl (g.2.1, 12, .inl (fun _ => 0)))]]) zcX0 0 rfl 0 rfl 1 (Nat.le_of_ble_eq_true rfl) zfX0_15 zqX0_1 (hnm rfl) rfl rfl rfl (Nat.le_of_ble_eq_true rfl) rfl dX0_init_17 ?_
  exact z_nret (zcat [(1, (fun _ => r)), (1, (fun _ => q1)), (1, (fun _ => q2))]) rfl rfl dX0_init_20 hQ
theorem zdvX1 : ∀ j, j < 6 → defaultValue (tyX1 j) = vp_V ([.null, .int 0, .null, .int 0, .int 0, .int 0]) j := by
  intro j hj
  have h := (show ∀ i : Fin 6, defaultValue (tyX1 i.1) = vp_V ([.null, .int 0, .null, .int 0, .int 0, .int 0]) i.1 by decide +kernel) ⟨j, hj⟩
  exact h
set_option maxHeartbeats 1000000 in
set_option maxRecDepth 100000 in
theorem c_X1_init (l : Launch) (g : zG) (r : Nat) : CtrN l g zE0 yX1_init cX1_init 1 1 12 2 66 r [[(r, .inr (1, [.null, .int 0, .null, .int 0, .int 0, .int 0]))]] (fun a => [cX1 g a zX1v]) := by
  refine ctrn_of (by decide) (Nat.le_of_ble_eq_true rfl) (fun X hl hmc hms hnm hE hQ => ?_)
  refine z_aload_n 0 rfl rfl dX1_init_0 ?_
  refine z_objInit zlX1_3 ⟨Nat.le_of_ble_eq_true rfl, Nat.le_of_ble_eq_true rfl⟩ dX1_init_1 ?_
  refine z_aload_n 0 rfl rfl dX1_init_4 ?_
  refine z_bipush (v := 60) (by decide) dX1_init_5 ?_
  refine z_newI (by decide) (show (60 : Int32).toNatClampNeg = 60 by decide) (Nat.le_of_ble_eq_true rfl) ⟨by rw [hmc]; exact Nat.le_of_ble_eq_true rfl, by rw [hms]; exact Nat.le_of_ble_eq_true rfl⟩ dX1_init_7 (fun q1 => ?_)
  refine z_w (w' := [[(r, .inr (1, [.null, .int 0, .null, .int 0, .int 0, .int 0]))], [(q1, .inl (g.2.1, 60, .inl (fun _ => 0)))]]) rfl ?_
  refine z_putR ([[(r, .inr (1, [.ref q1, .int 0, .null, .int 0, .int 0, .int 0]))], [(q1, .inl (g.2.1, 60, .inl (fun _ => 0)))]]) zcX1 0 rfl 0 rfl 0 (Nat.le_of_ble_eq_true rfl) zfX1_9 zqX1_0 (hnm rfl) rfl rfl rfl (Nat.le_of_ble_eq_true rfl) rfl dX1_init_9 ?_
  refine z_aload_n 0 rfl rfl dX1_init_12 ?_
  refine z_bipush (v := 6) (by decide) dX1_init_13 ?_
  refine z_newI (by decide) (show (6 : Int32).toNatClampNeg = 6 by decide) (Nat.le_of_ble_eq_true rfl) ⟨by rw [hmc]; exact Nat.le_of_ble_eq_true rfl, by rw [hms]; exact Nat.le_of_ble_eq_true rfl⟩ dX1_init_15 (fun q2 => ?_)
  refine z_w (w' := [[(r, .inr (1, [.ref q1, .int 0, .null, .int 0, .int 0, .int 0]))], [(q1, .inl (g.2.1, 60, .inl (fun _ => 0)))], [(q2, .inl (g.2.1, 6, .inl (fun _ => 0)))]]) rfl ?_
  refine z_putR ([[(r, .inr (1, [.ref q1, .int 0, .ref q2, .int 0, .int 0, .int 0]))], [(q1, .inl (g.2.1, 60, .inl (fun _ => 0)))], [(q2, .inl (g.2.1, 6, .inl (fun _ => 0)))]]) zcX1 0 rfl 0 rfl 2 (Nat.le_of_ble_eq_true rfl) zfX1_15 zqX1_2 (hnm rfl) rfl rfl rfl (Nat.le_of_ble_eq_true rfl) rfl dX1_init_17 ?_
  exact z_nret (zcat [(1, (fun _ => r)), (1, (fun _ => q1)), (1, (fun _ => q2))]) rfl rfl dX1_init_20 hQ
theorem zdvX3 : ∀ j, j < 5 → defaultValue (tyX3 j) = vp_V ([.null, .null, .null, .int 0, .int 0]) j := by
  intro j hj
  have h := (show ∀ i : Fin 5, defaultValue (tyX3 i.1) = vp_V ([.null, .null, .null, .int 0, .int 0]) i.1 by decide +kernel) ⟨j, hj⟩
  exact h
set_option maxHeartbeats 1000000 in
set_option maxRecDepth 100000 in
theorem c_X3_init (l : Launch) (g : zG) (r : Nat) : CtrN l g zE0 yX3_init cX3_init 1 1 12 3 120 r [[(r, .inr (3, [.null, .null, .null, .int 0, .int 0]))]] (fun a => [cX3 g a zX3v]) := by
  refine ctrn_of (by decide) (Nat.le_of_ble_eq_true rfl) (fun X hl hmc hms hnm hE hQ => ?_)
  refine z_aload_n 0 rfl rfl dX3_init_0 ?_
  refine z_objInit zlX3_3 ⟨Nat.le_of_ble_eq_true rfl, Nat.le_of_ble_eq_true rfl⟩ dX3_init_1 ?_
  refine z_aload_n 0 rfl rfl dX3_init_4 ?_
  refine z_bipush (v := 40) (by decide) dX3_init_5 ?_
  refine z_newI (by decide) (show (40 : Int32).toNatClampNeg = 40 by decide) (Nat.le_of_ble_eq_true rfl) ⟨by rw [hmc]; exact Nat.le_of_ble_eq_true rfl, by rw [hms]; exact Nat.le_of_ble_eq_true rfl⟩ dX3_init_7 (fun q1 => ?_)
  refine z_w (w' := [[(r, .inr (3, [.null, .null, .null, .int 0, .int 0]))], [(q1, .inl (g.2.1, 40, .inl (fun _ => 0)))]]) rfl ?_
  refine z_putR ([[(r, .inr (3, [.ref q1, .null, .null, .int 0, .int 0]))], [(q1, .inl (g.2.1, 40, .inl (fun _ => 0)))]]) zcX3 0 rfl 0 rfl 0 (Nat.le_of_ble_eq_true rfl) zfX3_9 zqX3_0 (hnm rfl) rfl rfl rfl (Nat.le_of_ble_eq_true rfl) rfl dX3_init_9 ?_
  refine z_aload_n 0 rfl rfl dX3_init_12 ?_
  refine z_bipush (v := 40) (by decide) dX3_init_13 ?_
  refine z_newI (by decide) (show (40 : Int32).toNatClampNeg = 40 by decide) (Nat.le_of_ble_eq_true rfl) ⟨by rw [hmc]; exact Nat.le_of_ble_eq_true rfl, by rw [hms]; exact Nat.le_of_ble_eq_true rfl⟩ dX3_init_15 (fun q2 => ?_)
  refine z_w (w' := [[(r, .inr (3, [.ref q1, .null, .null, .int 0, .int 0]))], [(q1, .inl (g.2.1, 40, .inl (fun _ => 0)))], [(q2, .inl (g.2.1, 40, .inl (fun _ => 0)))]]) rfl ?_
  refine z_putR ([[(r, .inr (3, [.ref q1, .ref q2, .null, .int 0, .int 0]))], [(q1, .inl (g.2.1, 40, .inl (fun _ => 0)))], [(q2, .inl (g.2.1, 40, .inl (fun _ => 0)))]]) zcX3 0 rfl 0 rfl 1 (Nat.le_of_ble_eq_true rfl) zfX3_15 zqX3_1 (hnm rfl) rfl rfl rfl (Nat.le_of_ble_eq_true rfl) rfl dX3_init_17 ?_
  refine z_aload_n 0 rfl rfl dX3_init_20 ?_
  refine z_bipush (v := 40) (by decide) dX3_init_21 ?_
  refine z_newI (by decide) (show (40 : Int32).toNatClampNeg = 40 by decide) (Nat.le_of_ble_eq_true rfl) ⟨by rw [hmc]; exact Nat.le_of_ble_eq_true rfl, by rw [hms]; exact Nat.le_of_ble_eq_true rfl⟩ dX3_init_23 (fun q3 => ?_)
  refine z_w (w' := [[(r, .inr (3, [.ref q1, .ref q2, .null, .int 0, .int 0]))], [(q1, .inl (g.2.1, 40, .inl (fun _ => 0)))], [(q2, .inl (g.2.1, 40, .inl (fun _ => 0)))], [(q3, .inl (g.2.1, 40, .inl (fun _ => 0)))]]) rfl ?_
  refine z_putR ([[(r, .inr (3, [.ref q1, .ref q2, .ref q3, .int 0, .int 0]))], [(q1, .inl (g.2.1, 40, .inl (fun _ => 0)))], [(q2, .inl (g.2.1, 40, .inl (fun _ => 0)))], [(q3, .inl (g.2.1, 40, .inl (fun _ => 0)))]]) zcX3 0 rfl 0 rfl 2 (Nat.le_of_ble_eq_true rfl) zfX3_18 zqX3_2 (hnm rfl) rfl rfl rfl (Nat.le_of_ble_eq_true rfl) rfl dX3_init_25 ?_
  exact z_nret (zcat [(1, (fun _ => r)), (1, (fun _ => q1)), (1, (fun _ => q2)), (1, (fun _ => q3))]) rfl rfl dX3_init_28 hQ
theorem zdvX6 : ∀ j, j < 9 → defaultValue (tyX6 j) = vp_V ([.null, .null, .null, .null, .int 0, .int 0, .int 0, .int 0, .int 0]) j := by
  intro j hj
  have h := (show ∀ i : Fin 9, defaultValue (tyX6 i.1) = vp_V ([.null, .null, .null, .null, .int 0, .int 0, .int 0, .int 0, .int 0]) i.1 by decide +kernel) ⟨j, hj⟩
  exact h
set_option maxHeartbeats 1000000 in
set_option maxRecDepth 100000 in
theorem c_X6_init (l : Launch) (g : zG) (r : Nat) : CtrN l g zE0 yX6_init cX6_init 1 2 32 9 166 r [[(r, .inr (6, [.null, .null, .null, .null, .int 0, .int 0, .int 0, .int 0, .int 0]))]] (fun a => [cX6 g a zX6v]) := by
  refine ctrn_of (by decide) (Nat.le_of_ble_eq_true rfl) (fun X hl hmc hms hnm hE hQ => ?_)
  have hE1 := hE
  obtain ⟨-, t, cell, hZ, hcell, hfc, hun, hst, hsl, hA⟩ := hE1
  refine z_aload_n 0 rfl rfl dX6_init_0 ?_
  refine z_objInit zlX6_3 ⟨Nat.le_of_ble_eq_true rfl, Nat.le_of_ble_eq_true rfl⟩ dX6_init_1 ?_
  refine z_aload_n 0 rfl rfl dX6_init_4 ?_
  refine z_new (fs := [.null, .null]) zcX0 ziX0 znX6_9 zdvX0 ⟨by rw [hmc]; exact Nat.le_of_ble_eq_true rfl, by rw [hms]; exact Nat.le_of_ble_eq_true rfl⟩ dX6_init_5 (fun q1 => ?_)
  refine z_dup rfl dX6_init_8 ?_
  refine z_callIN (rest := [.ref q1, .ref r]) zE0_st zE0_st hE (fun _ _ _ h => h) hl (c_X0_init l g q1) zyX0_init rfl zvX0_init zlX6_11 zcX0.1 ([[(r, .inr (6, [.null, .null, .null, .null, .int 0, .int 0, .int 0, .int 0, .int 0]))]]) rfl ⟨Nat.le_of_ble_eq_true rfl, Nat.le_of_ble_eq_true rfl⟩ (Nat.le_of_ble_eq_true rfl) ⟨by rw [hmc]; exact Nat.le_of_ble_eq_true rfl, by rw [hms]; exact Nat.le_of_ble_eq_true rfl⟩ dX6_init_9 (fun a2 ha2 => ?_)
  subst ha2
  refine z_w (w' := [[(r, .inr (6, [.null, .null, .null, .null, .int 0, .int 0, .int 0, .int 0, .int 0]))], cX0 g a2 zX0v]) rfl ?_
  refine z_putR ([[(r, .inr (6, [.ref (a2 0), .null, .null, .null, .int 0, .int 0, .int 0, .int 0, .int 0]))], cX0 g a2 zX0v]) zcX6 0 rfl 0 rfl 0 (Nat.le_of_ble_eq_true rfl) zfX6_12 zqX6_0 (hnm rfl) rfl rfl rfl (Nat.le_of_ble_eq_true rfl) rfl dX6_init_12 ?_
  refine z_aload_n 0 rfl rfl dX6_init_15 ?_
  refine z_new (fs := [.null, .null, .null, .int 0, .int 0]) zcX3 ziX3 znX6_18 zdvX3 ⟨by rw [hmc]; exact Nat.le_of_ble_eq_true rfl, by rw [hms]; exact Nat.le_of_ble_eq_true rfl⟩ dX6_init_16 (fun q3 => ?_)
  refine z_dup rfl dX6_init_19 ?_
  refine z_callIN (rest := [.ref q3, .ref r]) zE0_st zE0_st hE (fun _ _ _ h => h) hl (c_X3_init l g q3) zyX3_init rfl zvX3_init zlX6_20 zcX3.1 ([[(r, .inr (6, [.ref (a2 0), .null, .null, .null, .int 0, .int 0, .int 0, .int 0, .int 0]))], cX0 g a2 zX0v]) rfl ⟨Nat.le_of_ble_eq_true rfl, Nat.le_of_ble_eq_true rfl⟩ (Nat.le_of_ble_eq_true rfl) ⟨by rw [hmc]; exact Nat.le_of_ble_eq_true rfl, by rw [hms]; exact Nat.le_of_ble_eq_true rfl⟩ dX6_init_20 (fun a4 ha4 => ?_)
  subst ha4
  refine z_w (w' := [[(r, .inr (6, [.ref (a2 0), .null, .null, .null, .int 0, .int 0, .int 0, .int 0, .int 0]))], cX0 g a2 zX0v, cX3 g a4 zX3v]) rfl ?_
  refine z_putR ([[(r, .inr (6, [.ref (a2 0), .ref (a4 0), .null, .null, .int 0, .int 0, .int 0, .int 0, .int 0]))], cX0 g a2 zX0v, cX3 g a4 zX3v]) zcX6 0 rfl 0 rfl 1 (Nat.le_of_ble_eq_true rfl) zfX6_21 zqX6_1 (hnm rfl) rfl rfl rfl (Nat.le_of_ble_eq_true rfl) rfl dX6_init_23 ?_
  refine z_aload_n 0 rfl rfl dX6_init_26 ?_
  refine z_bipush (v := 12) (by decide) dX6_init_27 ?_
  refine z_newI (by decide) (show (12 : Int32).toNatClampNeg = 12 by decide) (Nat.le_of_ble_eq_true rfl) ⟨by rw [hmc]; exact Nat.le_of_ble_eq_true rfl, by rw [hms]; exact Nat.le_of_ble_eq_true rfl⟩ dX6_init_29 (fun q5 => ?_)
  refine z_w (w' := [[(r, .inr (6, [.ref (a2 0), .ref (a4 0), .null, .null, .int 0, .int 0, .int 0, .int 0, .int 0]))], cX0 g a2 zX0v, cX3 g a4 zX3v, [(q5, .inl (g.2.1, 12, .inl (fun _ => 0)))]]) rfl ?_
  refine z_putR ([[(r, .inr (6, [.ref (a2 0), .ref (a4 0), .ref q5, .null, .int 0, .int 0, .int 0, .int 0, .int 0]))], cX0 g a2 zX0v, cX3 g a4 zX3v, [(q5, .inl (g.2.1, 12, .inl (fun _ => 0)))]]) zcX6 0 rfl 0 rfl 2 (Nat.le_of_ble_eq_true rfl) zfX6_25 zqX6_2 (hnm rfl) rfl rfl rfl (Nat.le_of_ble_eq_true rfl) rfl dX6_init_31 ?_
  refine z_aload_n 0 rfl rfl dX6_init_34 ?_
  refine z_getsN (ref := "DrawerRing") hZ zcl_7 dX6_init_35 ?_
  refine z_clone hcell hfc hun hst hsl hA ⟨Nat.le_of_ble_eq_true rfl, Nat.le_of_ble_eq_true rfl⟩ ⟨by rw [hmc]; exact Nat.le_of_ble_eq_true rfl, by rw [hms]; exact Nat.le_of_ble_eq_true rfl⟩ dX6_init_38 (fun q6 => ?_)
  refine z_w (w' := [[(r, .inr (6, [.ref (a2 0), .ref (a4 0), .ref q5, .null, .int 0, .int 0, .int 0, .int 0, .int 0]))], cX0 g a2 zX0v, cX3 g a4 zX3v, [(q5, .inl (g.2.1, 12, .inl (fun _ => 0)))], [(q6, .inl (g.2.1, 3, .inl zFirst))]]) rfl ?_
  refine z_castI 4 rfl 0 rfl zcl_8 dX6_init_41 ?_
  refine z_putR ([[(r, .inr (6, [.ref (a2 0), .ref (a4 0), .ref q5, .ref q6, .int 0, .int 0, .int 0, .int 0, .int 0]))], cX0 g a2 zX0v, cX3 g a4 zX3v, [(q5, .inl (g.2.1, 12, .inl (fun _ => 0)))], [(q6, .inl (g.2.1, 3, .inl zFirst))]]) zcX6 0 rfl 0 rfl 3 (Nat.le_of_ble_eq_true rfl) zfX6_37 zqX6_3 (hnm rfl) rfl rfl rfl (Nat.le_of_ble_eq_true rfl) rfl dX6_init_44 ?_
  exact z_nret (zcat [(1, (fun _ => r)), (3, a2), (4, a4), (1, (fun _ => q5)), (1, (fun _ => q6))]) rfl rfl dX6_init_47 hQ
theorem zdvX4 : ∀ j, j < 8 → defaultValue (tyX4 j) = vp_V ([.null, .null, .null, .null, .null, .null, .int 0, .int 0]) j := by
  intro j hj
  have h := (show ∀ i : Fin 8, defaultValue (tyX4 i.1) = vp_V ([.null, .null, .null, .null, .null, .null, .int 0, .int 0]) i.1 by decide +kernel) ⟨j, hj⟩
  exact h
set_option maxHeartbeats 1000000 in
set_option maxRecDepth 100000 in
theorem c_X4_init (l : Launch) (g : zG) (r : Nat) : CtrN l g zE0 yX4_init cX4_init 1 2 32 8 812 r [[(r, .inr (4, [.null, .null, .null, .null, .null, .null, .int 0, .int 0]))]] (fun a => [cX4 g a zX4v]) := by
  refine ctrn_of (by decide) (Nat.le_of_ble_eq_true rfl) (fun X hl hmc hms hnm hE hQ => ?_)
  refine z_aload_n 0 rfl rfl dX4_init_0 ?_
  refine z_objInit zlX4_3 ⟨Nat.le_of_ble_eq_true rfl, Nat.le_of_ble_eq_true rfl⟩ dX4_init_1 ?_
  refine z_aload_n 0 rfl rfl dX4_init_4 ?_
  refine z_bipush (v := 6) (by decide) dX4_init_5 ?_
  refine z_newI (by decide) (show (6 : Int32).toNatClampNeg = 6 by decide) (Nat.le_of_ble_eq_true rfl) ⟨by rw [hmc]; exact Nat.le_of_ble_eq_true rfl, by rw [hms]; exact Nat.le_of_ble_eq_true rfl⟩ dX4_init_7 (fun q1 => ?_)
  refine z_w (w' := [[(r, .inr (4, [.null, .null, .null, .null, .null, .null, .int 0, .int 0]))], [(q1, .inl (g.2.1, 6, .inl (fun _ => 0)))]]) rfl ?_
  refine z_putR ([[(r, .inr (4, [.ref q1, .null, .null, .null, .null, .null, .int 0, .int 0]))], [(q1, .inl (g.2.1, 6, .inl (fun _ => 0)))]]) zcX4 0 rfl 0 rfl 0 (Nat.le_of_ble_eq_true rfl) zfX4_9 zqX4_0 (hnm rfl) rfl rfl rfl (Nat.le_of_ble_eq_true rfl) rfl dX4_init_9 ?_
  refine z_aload_n 0 rfl rfl dX4_init_12 ?_
  refine z_new (fs := [.null, .null]) zcX0 ziX0 znX4_15 zdvX0 ⟨by rw [hmc]; exact Nat.le_of_ble_eq_true rfl, by rw [hms]; exact Nat.le_of_ble_eq_true rfl⟩ dX4_init_13 (fun q2 => ?_)
  refine z_dup rfl dX4_init_16 ?_
  refine z_callIN (rest := [.ref q2, .ref r]) zE0_st zE0_st hE (fun _ _ _ h => h) hl (c_X0_init l g q2) zyX0_init rfl zvX0_init zlX4_17 zcX0.1 ([[(r, .inr (4, [.ref q1, .null, .null, .null, .null, .null, .int 0, .int 0]))], [(q1, .inl (g.2.1, 6, .inl (fun _ => 0)))]]) rfl ⟨Nat.le_of_ble_eq_true rfl, Nat.le_of_ble_eq_true rfl⟩ (Nat.le_of_ble_eq_true rfl) ⟨by rw [hmc]; exact Nat.le_of_ble_eq_true rfl, by rw [hms]; exact Nat.le_of_ble_eq_true rfl⟩ dX4_init_17 (fun a3 ha3 => ?_)
  subst ha3
  refine z_w (w' := [[(r, .inr (4, [.ref q1, .null, .null, .null, .null, .null, .int 0, .int 0]))], [(q1, .inl (g.2.1, 6, .inl (fun _ => 0)))], cX0 g a3 zX0v]) rfl ?_
  refine z_putR ([[(r, .inr (4, [.ref q1, .ref (a3 0), .null, .null, .null, .null, .int 0, .int 0]))], [(q1, .inl (g.2.1, 6, .inl (fun _ => 0)))], cX0 g a3 zX0v]) zcX4 0 rfl 0 rfl 1 (Nat.le_of_ble_eq_true rfl) zfX4_18 zqX4_1 (hnm rfl) rfl rfl rfl (Nat.le_of_ble_eq_true rfl) rfl dX4_init_20 ?_
  refine z_aload_n 0 rfl rfl dX4_init_23 ?_
  refine z_bipush (v := 6) (by decide) dX4_init_24 ?_
  refine z_newI (by decide) (show (6 : Int32).toNatClampNeg = 6 by decide) (Nat.le_of_ble_eq_true rfl) ⟨by rw [hmc]; exact Nat.le_of_ble_eq_true rfl, by rw [hms]; exact Nat.le_of_ble_eq_true rfl⟩ dX4_init_26 (fun q4 => ?_)
  refine z_w (w' := [[(r, .inr (4, [.ref q1, .ref (a3 0), .null, .null, .null, .null, .int 0, .int 0]))], [(q1, .inl (g.2.1, 6, .inl (fun _ => 0)))], cX0 g a3 zX0v, [(q4, .inl (g.2.1, 6, .inl (fun _ => 0)))]]) rfl ?_
  refine z_putR ([[(r, .inr (4, [.ref q1, .ref (a3 0), .ref q4, .null, .null, .null, .int 0, .int 0]))], [(q1, .inl (g.2.1, 6, .inl (fun _ => 0)))], cX0 g a3 zX0v, [(q4, .inl (g.2.1, 6, .inl (fun _ => 0)))]]) zcX4 0 rfl 0 rfl 2 (Nat.le_of_ble_eq_true rfl) zfX4_22 zqX4_2 (hnm rfl) rfl rfl rfl (Nat.le_of_ble_eq_true rfl) rfl dX4_init_28 ?_
  refine z_aload_n 0 rfl rfl dX4_init_31 ?_
  refine z_bipush (v := 6) (by decide) dX4_init_32 ?_
  refine z_newI (by decide) (show (6 : Int32).toNatClampNeg = 6 by decide) (Nat.le_of_ble_eq_true rfl) ⟨by rw [hmc]; exact Nat.le_of_ble_eq_true rfl, by rw [hms]; exact Nat.le_of_ble_eq_true rfl⟩ dX4_init_34 (fun q5 => ?_)
  refine z_w (w' := [[(r, .inr (4, [.ref q1, .ref (a3 0), .ref q4, .null, .null, .null, .int 0, .int 0]))], [(q1, .inl (g.2.1, 6, .inl (fun _ => 0)))], cX0 g a3 zX0v, [(q4, .inl (g.2.1, 6, .inl (fun _ => 0)))], [(q5, .inl (g.2.1, 6, .inl (fun _ => 0)))]]) rfl ?_
  refine z_putR ([[(r, .inr (4, [.ref q1, .ref (a3 0), .ref q4, .ref q5, .null, .null, .int 0, .int 0]))], [(q1, .inl (g.2.1, 6, .inl (fun _ => 0)))], cX0 g a3 zX0v, [(q4, .inl (g.2.1, 6, .inl (fun _ => 0)))], [(q5, .inl (g.2.1, 6, .inl (fun _ => 0)))]]) zcX4 0 rfl 0 rfl 3 (Nat.le_of_ble_eq_true rfl) zfX4_25 zqX4_3 (hnm rfl) rfl rfl rfl (Nat.le_of_ble_eq_true rfl) rfl dX4_init_36 ?_
  refine z_aload_n 0 rfl rfl dX4_init_39 ?_
  refine z_sipush (v := 384) (by decide) dX4_init_40 ?_
  refine z_newI (by decide) (show (384 : Int32).toNatClampNeg = 384 by decide) (Nat.le_of_ble_eq_true rfl) ⟨by rw [hmc]; exact Nat.le_of_ble_eq_true rfl, by rw [hms]; exact Nat.le_of_ble_eq_true rfl⟩ dX4_init_43 (fun q6 => ?_)
  refine z_w (w' := [[(r, .inr (4, [.ref q1, .ref (a3 0), .ref q4, .ref q5, .null, .null, .int 0, .int 0]))], [(q1, .inl (g.2.1, 6, .inl (fun _ => 0)))], cX0 g a3 zX0v, [(q4, .inl (g.2.1, 6, .inl (fun _ => 0)))], [(q5, .inl (g.2.1, 6, .inl (fun _ => 0)))], [(q6, .inl (g.2.1, 384, .inl (fun _ => 0)))]]) rfl ?_
  refine z_putR ([[(r, .inr (4, [.ref q1, .ref (a3 0), .ref q4, .ref q5, .ref q6, .null, .int 0, .int 0]))], [(q1, .inl (g.2.1, 6, .inl (fun _ => 0)))], cX0 g a3 zX0v, [(q4, .inl (g.2.1, 6, .inl (fun _ => 0)))], [(q5, .inl (g.2.1, 6, .inl (fun _ => 0)))], [(q6, .inl (g.2.1, 384, .inl (fun _ => 0)))]]) zcX4 0 rfl 0 rfl 4 (Nat.le_of_ble_eq_true rfl) zfX4_28 zqX4_4 (hnm rfl) rfl rfl rfl (Nat.le_of_ble_eq_true rfl) rfl dX4_init_45 ?_
  refine z_aload_n 0 rfl rfl dX4_init_48 ?_
  refine z_sipush (v := 384) (by decide) dX4_init_49 ?_
  refine z_newI (by decide) (show (384 : Int32).toNatClampNeg = 384 by decide) (Nat.le_of_ble_eq_true rfl) ⟨by rw [hmc]; exact Nat.le_of_ble_eq_true rfl, by rw [hms]; exact Nat.le_of_ble_eq_true rfl⟩ dX4_init_52 (fun q7 => ?_)
  refine z_w (w' := [[(r, .inr (4, [.ref q1, .ref (a3 0), .ref q4, .ref q5, .ref q6, .null, .int 0, .int 0]))], [(q1, .inl (g.2.1, 6, .inl (fun _ => 0)))], cX0 g a3 zX0v, [(q4, .inl (g.2.1, 6, .inl (fun _ => 0)))], [(q5, .inl (g.2.1, 6, .inl (fun _ => 0)))], [(q6, .inl (g.2.1, 384, .inl (fun _ => 0)))], [(q7, .inl (g.2.1, 384, .inl (fun _ => 0)))]]) rfl ?_
  refine z_putR ([[(r, .inr (4, [.ref q1, .ref (a3 0), .ref q4, .ref q5, .ref q6, .ref q7, .int 0, .int 0]))], [(q1, .inl (g.2.1, 6, .inl (fun _ => 0)))], cX0 g a3 zX0v, [(q4, .inl (g.2.1, 6, .inl (fun _ => 0)))], [(q5, .inl (g.2.1, 6, .inl (fun _ => 0)))], [(q6, .inl (g.2.1, 384, .inl (fun _ => 0)))], [(q7, .inl (g.2.1, 384, .inl (fun _ => 0)))]]) zcX4 0 rfl 0 rfl 5 (Nat.le_of_ble_eq_true rfl) zfX4_31 zqX4_5 (hnm rfl) rfl rfl rfl (Nat.le_of_ble_eq_true rfl) rfl dX4_init_54 ?_
  exact z_nret (zcat [(1, (fun _ => r)), (1, (fun _ => q1)), (3, a3), (1, (fun _ => q4)), (1, (fun _ => q5)), (1, (fun _ => q6)), (1, (fun _ => q7))]) rfl rfl dX4_init_57 hQ
theorem zdvX5 : ∀ j, j < 1 → defaultValue (tyX5 j) = vp_V ([.null]) j := by
  intro j hj
  have h := (show ∀ i : Fin 1, defaultValue (tyX5 i.1) = vp_V ([.null]) i.1 by decide +kernel) ⟨j, hj⟩
  exact h
set_option maxHeartbeats 1000000 in
set_option maxRecDepth 100000 in
theorem c_X5_init (l : Launch) (g : zG) (r : Nat) : CtrN l g zE0 yX5_init cX5_init 1 3 52 9 820 r [[(r, .inr (5, [.null]))]] (fun a => kX5 g a zX5v) := by
  refine ctrn_of (by decide) (Nat.le_of_ble_eq_true rfl) (fun X hl hmc hms hnm hE hQ => ?_)
  refine z_aload_n 0 rfl rfl dX5_init_0 ?_
  refine z_objInit zlX5_3 ⟨Nat.le_of_ble_eq_true rfl, Nat.le_of_ble_eq_true rfl⟩ dX5_init_1 ?_
  refine z_aload_n 0 rfl rfl dX5_init_4 ?_
  refine z_new (fs := [.null, .null, .null, .null, .null, .null, .int 0, .int 0]) zcX4 ziX4 znX5_9 zdvX4 ⟨by rw [hmc]; exact Nat.le_of_ble_eq_true rfl, by rw [hms]; exact Nat.le_of_ble_eq_true rfl⟩ dX5_init_5 (fun q1 => ?_)
  refine z_dup rfl dX5_init_8 ?_
  refine z_callIN (rest := [.ref q1, .ref r]) zE0_st zE0_st hE (fun _ _ _ h => h) hl (c_X4_init l g q1) zyX4_init rfl zvX4_init zlX5_11 zcX4.1 ([[(r, .inr (5, [.null]))]]) rfl ⟨Nat.le_of_ble_eq_true rfl, Nat.le_of_ble_eq_true rfl⟩ (Nat.le_of_ble_eq_true rfl) ⟨by rw [hmc]; exact Nat.le_of_ble_eq_true rfl, by rw [hms]; exact Nat.le_of_ble_eq_true rfl⟩ dX5_init_9 (fun a2 ha2 => ?_)
  subst ha2
  refine z_w (w' := [[(r, .inr (5, [.null]))], cX4 g a2 zX4v]) rfl ?_
  refine z_putR ([[(r, .inr (5, [.ref (a2 0)]))], cX4 g a2 zX4v]) zcX5 0 rfl 0 rfl 0 (Nat.le_of_ble_eq_true rfl) zfX5_12 zqX5_0 (hnm rfl) rfl rfl rfl (Nat.le_of_ble_eq_true rfl) rfl dX5_init_12 ?_
  exact z_nret (zcat [(1, (fun _ => r)), (9, a2)]) rfl rfl dX5_init_15 hQ
theorem zdvX2 : ∀ j, j < 3 → defaultValue (tyX2 j) = vp_V ([.null, .int 0, .int 0]) j := by
  intro j hj
  have h := (show ∀ i : Fin 3, defaultValue (tyX2 i.1) = vp_V ([.null, .int 0, .int 0]) i.1 by decide +kernel) ⟨j, hj⟩
  exact h
set_option maxHeartbeats 1000000 in
set_option maxRecDepth 100000 in
theorem c_X2_init (l : Launch) (g : zG) (r : Nat) : CtrN l g zE0 yX2_init cX2_init 2 3 52 61 1056 r [[(r, .inr (2, [.null, .int 0, .int 0]))]] (fun a => kX2 g a zX2v) := by
  refine ctrn_of (by decide) (Nat.le_of_ble_eq_true rfl) (fun X hl hmc hms hnm hE hQ => ?_)
  refine z_aload_n 0 rfl rfl dX2_init_0 ?_
  refine z_objInit zlX2_3 ⟨Nat.le_of_ble_eq_true rfl, Nat.le_of_ble_eq_true rfl⟩ dX2_init_1 ?_
  refine z_aload_n 0 rfl rfl dX2_init_4 ?_
  refine z_bipush (v := 6) (by decide) dX2_init_5 ?_
  refine z_newS (by decide) (show (6 : Int32).toNatClampNeg = 6 by decide) (Nat.le_of_ble_eq_true rfl) znX2_9 hE.1 ⟨by rw [hmc]; exact Nat.le_of_ble_eq_true rfl, by rw [hms]; exact Nat.le_of_ble_eq_true rfl⟩ dX2_init_7 (fun q1 => ?_)
  refine z_w (w' := [[(r, .inr (2, [.null, .int 0, .int 0]))], [(q1, .inl (g.2.2.2.2, 6, .inr (.inr (.inr (.inr (fun _ => none))))))]]) rfl ?_
  refine z_putR ([[(r, .inr (2, [.ref q1, .int 0, .int 0]))], [(q1, .inl (g.2.2.2.2, 6, .inr (.inr (.inr (.inr (fun _ => none))))))]]) zcX2 0 rfl 0 rfl 0 (Nat.le_of_ble_eq_true rfl) zfX2_11 zqX2_0 (hnm rfl) rfl rfl rfl (Nat.le_of_ble_eq_true rfl) rfl dX2_init_10 ?_
  refine z_iconst (v := 0) (by decide) dX2_init_13 ?_
  refine z_istore_n [(1, .int 0), (0, .ref r)] rfl (Nat.le_of_ble_eq_true rfl) rfl dX2_init_14 ?_
  refine z_iload_n 0 rfl rfl dX2_init_15 ?_
  refine z_aload_n 1 rfl rfl dX2_init_16 ?_
  refine z_get zcX2 0 rfl 0 rfl 0 (Nat.le_of_ble_eq_true rfl) zfX2_11 (v := .ref q1) rfl dX2_init_17 ?_
  refine z_alenS 1 rfl 0 rfl (v := 6) (by decide) dX2_init_20 ?_
  refine z_icmp_ge (tgt := 43) rfl dX2_init_21 (fun c => absurd c (by decide)) (fun _ => ?_)
  refine z_aload_n 1 rfl rfl dX2_init_24 ?_
  refine z_get zcX2 0 rfl 0 rfl 0 (Nat.le_of_ble_eq_true rfl) zfX2_11 (v := .ref q1) rfl dX2_init_25 ?_
  refine z_iload_n 0 rfl rfl dX2_init_28 ?_
  refine z_new (fs := [.null, .null, .null, .null, .int 0, .int 0, .int 0, .int 0, .int 0]) zcX6 ziX6 znX2_9 zdvX6 ⟨by rw [hmc]; exact Nat.le_of_ble_eq_true rfl, by rw [hms]; exact Nat.le_of_ble_eq_true rfl⟩ dX2_init_29 (fun q2 => ?_)
  refine z_dup rfl dX2_init_32 ?_
  refine z_callIN (rest := [.ref q2, .int 0, .ref q1]) zE0_st zE0_st hE (fun _ _ _ h => h) hl (c_X6_init l g q2) zyX6_init rfl zvX6_init zlX2_17 zcX6.1 ([[(r, .inr (2, [.ref q1, .int 0, .int 0]))], [(q1, .inl (g.2.2.2.2, 6, .inr (.inr (.inr (.inr (fun _ => none))))))]]) rfl ⟨Nat.le_of_ble_eq_true rfl, Nat.le_of_ble_eq_true rfl⟩ (Nat.le_of_ble_eq_true rfl) ⟨by rw [hmc]; exact Nat.le_of_ble_eq_true rfl, by rw [hms]; exact Nat.le_of_ble_eq_true rfl⟩ dX2_init_33 (fun a3 ha3 => ?_)
  subst ha3
  refine z_w (w' := [[(r, .inr (2, [.ref q1, .int 0, .int 0]))], [(q1, .inl (g.2.2.2.2, 6, .inr (.inr (.inr (.inr (fun _ => none))))))], cX6 g a3 zX6v]) rfl ?_
  refine z_aast ([[(r, .inr (2, [.ref q1, .int 0, .int 0]))], [(q1, .inl (g.2.2.2.2, 6, .inr (.inr (.inr (.inr (va_up (fun _ => none) (0 : Int32).toNatClampNeg (some ((a3 0)))))))))], cX6 g a3 zX6v]) 1 rfl 0 rfl 2 rfl 0 rfl zcX6.1 rfl (zin (n := 6) (by decide) (by decide) (by decide)) rfl dX2_init_36 ?_
  refine z_iinc 0 [(1, .int 1), (0, .ref r)] rfl (v := 1) (by decide) (Nat.le_of_ble_eq_true rfl) rfl dX2_init_37 ?_
  refine z_goto (tgt := 15) rfl dX2_init_40 ?_
  refine z_iload_n 0 rfl rfl dX2_init_15 ?_
  refine z_aload_n 1 rfl rfl dX2_init_16 ?_
  refine z_get zcX2 0 rfl 0 rfl 0 (Nat.le_of_ble_eq_true rfl) zfX2_11 (v := .ref q1) rfl dX2_init_17 ?_
  refine z_alenS 1 rfl 0 rfl (v := 6) (by decide) dX2_init_20 ?_
  refine z_icmp_ge (tgt := 43) rfl dX2_init_21 (fun c => absurd c (by decide)) (fun _ => ?_)
  refine z_aload_n 1 rfl rfl dX2_init_24 ?_
  refine z_get zcX2 0 rfl 0 rfl 0 (Nat.le_of_ble_eq_true rfl) zfX2_11 (v := .ref q1) rfl dX2_init_25 ?_
  refine z_iload_n 0 rfl rfl dX2_init_28 ?_
  refine z_new (fs := [.null, .null, .null, .null, .int 0, .int 0, .int 0, .int 0, .int 0]) zcX6 ziX6 znX2_9 zdvX6 ⟨by rw [hmc]; exact Nat.le_of_ble_eq_true rfl, by rw [hms]; exact Nat.le_of_ble_eq_true rfl⟩ dX2_init_29 (fun q4 => ?_)
  refine z_dup rfl dX2_init_32 ?_
  refine z_callIN (rest := [.ref q4, .int 1, .ref q1]) zE0_st zE0_st hE (fun _ _ _ h => h) hl (c_X6_init l g q4) zyX6_init rfl zvX6_init zlX2_17 zcX6.1 ([[(r, .inr (2, [.ref q1, .int 0, .int 0]))], [(q1, .inl (g.2.2.2.2, 6, .inr (.inr (.inr (.inr (va_up (fun _ => none) (0 : Int32).toNatClampNeg (some ((a3 0)))))))))], cX6 g a3 zX6v]) rfl ⟨Nat.le_of_ble_eq_true rfl, Nat.le_of_ble_eq_true rfl⟩ (Nat.le_of_ble_eq_true rfl) ⟨by rw [hmc]; exact Nat.le_of_ble_eq_true rfl, by rw [hms]; exact Nat.le_of_ble_eq_true rfl⟩ dX2_init_33 (fun a5 ha5 => ?_)
  subst ha5
  refine z_w (w' := [[(r, .inr (2, [.ref q1, .int 0, .int 0]))], [(q1, .inl (g.2.2.2.2, 6, .inr (.inr (.inr (.inr (va_up (fun _ => none) (0 : Int32).toNatClampNeg (some ((a3 0)))))))))], cX6 g a3 zX6v, cX6 g a5 zX6v]) rfl ?_
  refine z_aast ([[(r, .inr (2, [.ref q1, .int 0, .int 0]))], [(q1, .inl (g.2.2.2.2, 6, .inr (.inr (.inr (.inr (va_up (va_up (fun _ => none) (0 : Int32).toNatClampNeg (some ((a3 0)))) (1 : Int32).toNatClampNeg (some ((a5 0)))))))))], cX6 g a3 zX6v, cX6 g a5 zX6v]) 1 rfl 0 rfl 3 rfl 0 rfl zcX6.1 rfl (zin (n := 6) (by decide) (by decide) (by decide)) rfl dX2_init_36 ?_
  refine z_iinc 0 [(1, .int 2), (0, .ref r)] rfl (v := 2) (by decide) (Nat.le_of_ble_eq_true rfl) rfl dX2_init_37 ?_
  refine z_goto (tgt := 15) rfl dX2_init_40 ?_
  refine z_iload_n 0 rfl rfl dX2_init_15 ?_
  refine z_aload_n 1 rfl rfl dX2_init_16 ?_
  refine z_get zcX2 0 rfl 0 rfl 0 (Nat.le_of_ble_eq_true rfl) zfX2_11 (v := .ref q1) rfl dX2_init_17 ?_
  refine z_alenS 1 rfl 0 rfl (v := 6) (by decide) dX2_init_20 ?_
  refine z_icmp_ge (tgt := 43) rfl dX2_init_21 (fun c => absurd c (by decide)) (fun _ => ?_)
  refine z_aload_n 1 rfl rfl dX2_init_24 ?_
  refine z_get zcX2 0 rfl 0 rfl 0 (Nat.le_of_ble_eq_true rfl) zfX2_11 (v := .ref q1) rfl dX2_init_25 ?_
  refine z_iload_n 0 rfl rfl dX2_init_28 ?_
  refine z_new (fs := [.null, .null, .null, .null, .int 0, .int 0, .int 0, .int 0, .int 0]) zcX6 ziX6 znX2_9 zdvX6 ⟨by rw [hmc]; exact Nat.le_of_ble_eq_true rfl, by rw [hms]; exact Nat.le_of_ble_eq_true rfl⟩ dX2_init_29 (fun q6 => ?_)
  refine z_dup rfl dX2_init_32 ?_
  refine z_callIN (rest := [.ref q6, .int 2, .ref q1]) zE0_st zE0_st hE (fun _ _ _ h => h) hl (c_X6_init l g q6) zyX6_init rfl zvX6_init zlX2_17 zcX6.1 ([[(r, .inr (2, [.ref q1, .int 0, .int 0]))], [(q1, .inl (g.2.2.2.2, 6, .inr (.inr (.inr (.inr (va_up (va_up (fun _ => none) (0 : Int32).toNatClampNeg (some ((a3 0)))) (1 : Int32).toNatClampNeg (some ((a5 0)))))))))], cX6 g a3 zX6v, cX6 g a5 zX6v]) rfl ⟨Nat.le_of_ble_eq_true rfl, Nat.le_of_ble_eq_true rfl⟩ (Nat.le_of_ble_eq_true rfl) ⟨by rw [hmc]; exact Nat.le_of_ble_eq_true rfl, by rw [hms]; exact Nat.le_of_ble_eq_true rfl⟩ dX2_init_33 (fun a7 ha7 => ?_)
  subst ha7
  refine z_w (w' := [[(r, .inr (2, [.ref q1, .int 0, .int 0]))], [(q1, .inl (g.2.2.2.2, 6, .inr (.inr (.inr (.inr (va_up (va_up (fun _ => none) (0 : Int32).toNatClampNeg (some ((a3 0)))) (1 : Int32).toNatClampNeg (some ((a5 0)))))))))], cX6 g a3 zX6v, cX6 g a5 zX6v, cX6 g a7 zX6v]) rfl ?_
  refine z_aast ([[(r, .inr (2, [.ref q1, .int 0, .int 0]))], [(q1, .inl (g.2.2.2.2, 6, .inr (.inr (.inr (.inr (va_up (va_up (va_up (fun _ => none) (0 : Int32).toNatClampNeg (some ((a3 0)))) (1 : Int32).toNatClampNeg (some ((a5 0)))) (2 : Int32).toNatClampNeg (some ((a7 0)))))))))], cX6 g a3 zX6v, cX6 g a5 zX6v, cX6 g a7 zX6v]) 1 rfl 0 rfl 4 rfl 0 rfl zcX6.1 rfl (zin (n := 6) (by decide) (by decide) (by decide)) rfl dX2_init_36 ?_
  refine z_iinc 0 [(1, .int 3), (0, .ref r)] rfl (v := 3) (by decide) (Nat.le_of_ble_eq_true rfl) rfl dX2_init_37 ?_
  refine z_goto (tgt := 15) rfl dX2_init_40 ?_
  refine z_iload_n 0 rfl rfl dX2_init_15 ?_
  refine z_aload_n 1 rfl rfl dX2_init_16 ?_
  refine z_get zcX2 0 rfl 0 rfl 0 (Nat.le_of_ble_eq_true rfl) zfX2_11 (v := .ref q1) rfl dX2_init_17 ?_
  refine z_alenS 1 rfl 0 rfl (v := 6) (by decide) dX2_init_20 ?_
  refine z_icmp_ge (tgt := 43) rfl dX2_init_21 (fun c => absurd c (by decide)) (fun _ => ?_)
  refine z_aload_n 1 rfl rfl dX2_init_24 ?_
  refine z_get zcX2 0 rfl 0 rfl 0 (Nat.le_of_ble_eq_true rfl) zfX2_11 (v := .ref q1) rfl dX2_init_25 ?_
  refine z_iload_n 0 rfl rfl dX2_init_28 ?_
  refine z_new (fs := [.null, .null, .null, .null, .int 0, .int 0, .int 0, .int 0, .int 0]) zcX6 ziX6 znX2_9 zdvX6 ⟨by rw [hmc]; exact Nat.le_of_ble_eq_true rfl, by rw [hms]; exact Nat.le_of_ble_eq_true rfl⟩ dX2_init_29 (fun q8 => ?_)
  refine z_dup rfl dX2_init_32 ?_
  refine z_callIN (rest := [.ref q8, .int 3, .ref q1]) zE0_st zE0_st hE (fun _ _ _ h => h) hl (c_X6_init l g q8) zyX6_init rfl zvX6_init zlX2_17 zcX6.1 ([[(r, .inr (2, [.ref q1, .int 0, .int 0]))], [(q1, .inl (g.2.2.2.2, 6, .inr (.inr (.inr (.inr (va_up (va_up (va_up (fun _ => none) (0 : Int32).toNatClampNeg (some ((a3 0)))) (1 : Int32).toNatClampNeg (some ((a5 0)))) (2 : Int32).toNatClampNeg (some ((a7 0)))))))))], cX6 g a3 zX6v, cX6 g a5 zX6v, cX6 g a7 zX6v]) rfl ⟨Nat.le_of_ble_eq_true rfl, Nat.le_of_ble_eq_true rfl⟩ (Nat.le_of_ble_eq_true rfl) ⟨by rw [hmc]; exact Nat.le_of_ble_eq_true rfl, by rw [hms]; exact Nat.le_of_ble_eq_true rfl⟩ dX2_init_33 (fun a9 ha9 => ?_)
  subst ha9
  refine z_w (w' := [[(r, .inr (2, [.ref q1, .int 0, .int 0]))], [(q1, .inl (g.2.2.2.2, 6, .inr (.inr (.inr (.inr (va_up (va_up (va_up (fun _ => none) (0 : Int32).toNatClampNeg (some ((a3 0)))) (1 : Int32).toNatClampNeg (some ((a5 0)))) (2 : Int32).toNatClampNeg (some ((a7 0)))))))))], cX6 g a3 zX6v, cX6 g a5 zX6v, cX6 g a7 zX6v, cX6 g a9 zX6v]) rfl ?_
  refine z_aast ([[(r, .inr (2, [.ref q1, .int 0, .int 0]))], [(q1, .inl (g.2.2.2.2, 6, .inr (.inr (.inr (.inr (va_up (va_up (va_up (va_up (fun _ => none) (0 : Int32).toNatClampNeg (some ((a3 0)))) (1 : Int32).toNatClampNeg (some ((a5 0)))) (2 : Int32).toNatClampNeg (some ((a7 0)))) (3 : Int32).toNatClampNeg (some ((a9 0)))))))))], cX6 g a3 zX6v, cX6 g a5 zX6v, cX6 g a7 zX6v, cX6 g a9 zX6v]) 1 rfl 0 rfl 5 rfl 0 rfl zcX6.1 rfl (zin (n := 6) (by decide) (by decide) (by decide)) rfl dX2_init_36 ?_
  refine z_iinc 0 [(1, .int 4), (0, .ref r)] rfl (v := 4) (by decide) (Nat.le_of_ble_eq_true rfl) rfl dX2_init_37 ?_
  refine z_goto (tgt := 15) rfl dX2_init_40 ?_
  refine z_iload_n 0 rfl rfl dX2_init_15 ?_
  refine z_aload_n 1 rfl rfl dX2_init_16 ?_
  refine z_get zcX2 0 rfl 0 rfl 0 (Nat.le_of_ble_eq_true rfl) zfX2_11 (v := .ref q1) rfl dX2_init_17 ?_
  refine z_alenS 1 rfl 0 rfl (v := 6) (by decide) dX2_init_20 ?_
  refine z_icmp_ge (tgt := 43) rfl dX2_init_21 (fun c => absurd c (by decide)) (fun _ => ?_)
  refine z_aload_n 1 rfl rfl dX2_init_24 ?_
  refine z_get zcX2 0 rfl 0 rfl 0 (Nat.le_of_ble_eq_true rfl) zfX2_11 (v := .ref q1) rfl dX2_init_25 ?_
  refine z_iload_n 0 rfl rfl dX2_init_28 ?_
  refine z_new (fs := [.null, .null, .null, .null, .int 0, .int 0, .int 0, .int 0, .int 0]) zcX6 ziX6 znX2_9 zdvX6 ⟨by rw [hmc]; exact Nat.le_of_ble_eq_true rfl, by rw [hms]; exact Nat.le_of_ble_eq_true rfl⟩ dX2_init_29 (fun q10 => ?_)
  refine z_dup rfl dX2_init_32 ?_
  refine z_callIN (rest := [.ref q10, .int 4, .ref q1]) zE0_st zE0_st hE (fun _ _ _ h => h) hl (c_X6_init l g q10) zyX6_init rfl zvX6_init zlX2_17 zcX6.1 ([[(r, .inr (2, [.ref q1, .int 0, .int 0]))], [(q1, .inl (g.2.2.2.2, 6, .inr (.inr (.inr (.inr (va_up (va_up (va_up (va_up (fun _ => none) (0 : Int32).toNatClampNeg (some ((a3 0)))) (1 : Int32).toNatClampNeg (some ((a5 0)))) (2 : Int32).toNatClampNeg (some ((a7 0)))) (3 : Int32).toNatClampNeg (some ((a9 0)))))))))], cX6 g a3 zX6v, cX6 g a5 zX6v, cX6 g a7 zX6v, cX6 g a9 zX6v]) rfl ⟨Nat.le_of_ble_eq_true rfl, Nat.le_of_ble_eq_true rfl⟩ (Nat.le_of_ble_eq_true rfl) ⟨by rw [hmc]; exact Nat.le_of_ble_eq_true rfl, by rw [hms]; exact Nat.le_of_ble_eq_true rfl⟩ dX2_init_33 (fun a11 ha11 => ?_)
  subst ha11
  refine z_w (w' := [[(r, .inr (2, [.ref q1, .int 0, .int 0]))], [(q1, .inl (g.2.2.2.2, 6, .inr (.inr (.inr (.inr (va_up (va_up (va_up (va_up (fun _ => none) (0 : Int32).toNatClampNeg (some ((a3 0)))) (1 : Int32).toNatClampNeg (some ((a5 0)))) (2 : Int32).toNatClampNeg (some ((a7 0)))) (3 : Int32).toNatClampNeg (some ((a9 0)))))))))], cX6 g a3 zX6v, cX6 g a5 zX6v, cX6 g a7 zX6v, cX6 g a9 zX6v, cX6 g a11 zX6v]) rfl ?_
  refine z_aast ([[(r, .inr (2, [.ref q1, .int 0, .int 0]))], [(q1, .inl (g.2.2.2.2, 6, .inr (.inr (.inr (.inr (va_up (va_up (va_up (va_up (va_up (fun _ => none) (0 : Int32).toNatClampNeg (some ((a3 0)))) (1 : Int32).toNatClampNeg (some ((a5 0)))) (2 : Int32).toNatClampNeg (some ((a7 0)))) (3 : Int32).toNatClampNeg (some ((a9 0)))) (4 : Int32).toNatClampNeg (some ((a11 0)))))))))], cX6 g a3 zX6v, cX6 g a5 zX6v, cX6 g a7 zX6v, cX6 g a9 zX6v, cX6 g a11 zX6v]) 1 rfl 0 rfl 6 rfl 0 rfl zcX6.1 rfl (zin (n := 6) (by decide) (by decide) (by decide)) rfl dX2_init_36 ?_
  refine z_iinc 0 [(1, .int 5), (0, .ref r)] rfl (v := 5) (by decide) (Nat.le_of_ble_eq_true rfl) rfl dX2_init_37 ?_
  refine z_goto (tgt := 15) rfl dX2_init_40 ?_
  refine z_iload_n 0 rfl rfl dX2_init_15 ?_
  refine z_aload_n 1 rfl rfl dX2_init_16 ?_
  refine z_get zcX2 0 rfl 0 rfl 0 (Nat.le_of_ble_eq_true rfl) zfX2_11 (v := .ref q1) rfl dX2_init_17 ?_
  refine z_alenS 1 rfl 0 rfl (v := 6) (by decide) dX2_init_20 ?_
  refine z_icmp_ge (tgt := 43) rfl dX2_init_21 (fun c => absurd c (by decide)) (fun _ => ?_)
  refine z_aload_n 1 rfl rfl dX2_init_24 ?_
  refine z_get zcX2 0 rfl 0 rfl 0 (Nat.le_of_ble_eq_true rfl) zfX2_11 (v := .ref q1) rfl dX2_init_25 ?_
  refine z_iload_n 0 rfl rfl dX2_init_28 ?_
  refine z_new (fs := [.null, .null, .null, .null, .int 0, .int 0, .int 0, .int 0, .int 0]) zcX6 ziX6 znX2_9 zdvX6 ⟨by rw [hmc]; exact Nat.le_of_ble_eq_true rfl, by rw [hms]; exact Nat.le_of_ble_eq_true rfl⟩ dX2_init_29 (fun q12 => ?_)
  refine z_dup rfl dX2_init_32 ?_
  refine z_callIN (rest := [.ref q12, .int 5, .ref q1]) zE0_st zE0_st hE (fun _ _ _ h => h) hl (c_X6_init l g q12) zyX6_init rfl zvX6_init zlX2_17 zcX6.1 ([[(r, .inr (2, [.ref q1, .int 0, .int 0]))], [(q1, .inl (g.2.2.2.2, 6, .inr (.inr (.inr (.inr (va_up (va_up (va_up (va_up (va_up (fun _ => none) (0 : Int32).toNatClampNeg (some ((a3 0)))) (1 : Int32).toNatClampNeg (some ((a5 0)))) (2 : Int32).toNatClampNeg (some ((a7 0)))) (3 : Int32).toNatClampNeg (some ((a9 0)))) (4 : Int32).toNatClampNeg (some ((a11 0)))))))))], cX6 g a3 zX6v, cX6 g a5 zX6v, cX6 g a7 zX6v, cX6 g a9 zX6v, cX6 g a11 zX6v]) rfl ⟨Nat.le_of_ble_eq_true rfl, Nat.le_of_ble_eq_true rfl⟩ (Nat.le_of_ble_eq_true rfl) ⟨by rw [hmc]; exact Nat.le_of_ble_eq_true rfl, by rw [hms]; exact Nat.le_of_ble_eq_true rfl⟩ dX2_init_33 (fun a13 ha13 => ?_)
  subst ha13
  refine z_w (w' := [[(r, .inr (2, [.ref q1, .int 0, .int 0]))], [(q1, .inl (g.2.2.2.2, 6, .inr (.inr (.inr (.inr (va_up (va_up (va_up (va_up (va_up (fun _ => none) (0 : Int32).toNatClampNeg (some ((a3 0)))) (1 : Int32).toNatClampNeg (some ((a5 0)))) (2 : Int32).toNatClampNeg (some ((a7 0)))) (3 : Int32).toNatClampNeg (some ((a9 0)))) (4 : Int32).toNatClampNeg (some ((a11 0)))))))))], cX6 g a3 zX6v, cX6 g a5 zX6v, cX6 g a7 zX6v, cX6 g a9 zX6v, cX6 g a11 zX6v, cX6 g a13 zX6v]) rfl ?_
  refine z_aast ([[(r, .inr (2, [.ref q1, .int 0, .int 0]))], [(q1, .inl (g.2.2.2.2, 6, .inr (.inr (.inr (.inr (va_up (va_up (va_up (va_up (va_up (va_up (fun _ => none) (0 : Int32).toNatClampNeg (some ((a3 0)))) (1 : Int32).toNatClampNeg (some ((a5 0)))) (2 : Int32).toNatClampNeg (some ((a7 0)))) (3 : Int32).toNatClampNeg (some ((a9 0)))) (4 : Int32).toNatClampNeg (some ((a11 0)))) (5 : Int32).toNatClampNeg (some ((a13 0)))))))))], cX6 g a3 zX6v, cX6 g a5 zX6v, cX6 g a7 zX6v, cX6 g a9 zX6v, cX6 g a11 zX6v, cX6 g a13 zX6v]) 1 rfl 0 rfl 7 rfl 0 rfl zcX6.1 rfl (zin (n := 6) (by decide) (by decide) (by decide)) rfl dX2_init_36 ?_
  refine z_iinc 0 [(1, .int 6), (0, .ref r)] rfl (v := 6) (by decide) (Nat.le_of_ble_eq_true rfl) rfl dX2_init_37 ?_
  refine z_goto (tgt := 15) rfl dX2_init_40 ?_
  refine z_iload_n 0 rfl rfl dX2_init_15 ?_
  refine z_aload_n 1 rfl rfl dX2_init_16 ?_
  refine z_get zcX2 0 rfl 0 rfl 0 (Nat.le_of_ble_eq_true rfl) zfX2_11 (v := .ref q1) rfl dX2_init_17 ?_
  refine z_alenS 1 rfl 0 rfl (v := 6) (by decide) dX2_init_20 ?_
  refine z_icmp_ge (tgt := 43) rfl dX2_init_21 (fun _ => ?_) (fun c => absurd (by decide) c)
  refine z_rowq ([[(r, .inr (2, [.ref q1, .int 0, .int 0]))], [(q1, .inl (g.2.2.2.2, 6, .inr (.inr (.inr (.inr (fun j => some (zcat [(1, (fun _ => r)), (1, (fun _ => q1)), (10, a3), (10, a5), (10, a7), (10, a9), (10, a11), (10, a13)] (2 + 10 * j))))))))], cX6 g a3 zX6v, cX6 g a5 zX6v, cX6 g a7 zX6v, cX6 g a9 zX6v, cX6 g a11 zX6v, cX6 g a13 zX6v]) 1 rfl 0 rfl (fun j hj => ?_) rfl ?_
  · rcases (show j = 0 ∨ j = 1 ∨ j = 2 ∨ j = 3 ∨ j = 4 ∨ j = 5 by omega) with rfl | rfl | rfl | rfl | rfl | rfl <;> rfl
  exact z_nret (zcat [(1, (fun _ => r)), (1, (fun _ => q1)), (10, a3), (10, a5), (10, a7), (10, a9), (10, a11), (10, a13)]) rfl rfl dX2_init_43 hQ
theorem zdvX7 : ∀ j, j < 5 → defaultValue (tyX7 j) = vp_V ([.null, .null, .null, .null, .null]) j := by
  intro j hj
  have h := (show ∀ i : Fin 5, defaultValue (tyX7 i.1) = vp_V ([.null, .null, .null, .null, .null]) i.1 by decide +kernel) ⟨j, hj⟩
  exact h
set_option maxHeartbeats 1000000 in
set_option maxRecDepth 100000 in
theorem c_X7_init (l : Launch) (g : zG) (r : Nat) : CtrN l g zE0 yX7_init cX7_init 1 4 73 95 2302 r [[(r, .inr (7, [.null, .null, .null, .null, .null]))]] (fun a => kX7 g a zX7v) := by
  refine ctrn_of (by decide) (Nat.le_of_ble_eq_true rfl) (fun X hl hmc hms hnm hE hQ => ?_)
  refine z_aload_n 0 rfl rfl dX7_init_0 ?_
  refine z_objInit zlX7_1 ⟨Nat.le_of_ble_eq_true rfl, Nat.le_of_ble_eq_true rfl⟩ dX7_init_1 ?_
  refine z_aload_n 0 rfl rfl dX7_init_4 ?_
  refine z_new (fs := [.null, .null, .null, .null, .int 0, .int 0, .int 0, .int 0, .int 0]) zcX6 ziX6 znX7_7 zdvX6 ⟨by rw [hmc]; exact Nat.le_of_ble_eq_true rfl, by rw [hms]; exact Nat.le_of_ble_eq_true rfl⟩ dX7_init_5 (fun q1 => ?_)
  refine z_dup rfl dX7_init_8 ?_
  refine z_callIN (rest := [.ref q1, .ref r]) zE0_st zE0_st hE (fun _ _ _ h => h) hl (c_X6_init l g q1) zyX6_init rfl zvX6_init zlX7_9 zcX6.1 ([[(r, .inr (7, [.null, .null, .null, .null, .null]))]]) rfl ⟨Nat.le_of_ble_eq_true rfl, Nat.le_of_ble_eq_true rfl⟩ (Nat.le_of_ble_eq_true rfl) ⟨by rw [hmc]; exact Nat.le_of_ble_eq_true rfl, by rw [hms]; exact Nat.le_of_ble_eq_true rfl⟩ dX7_init_9 (fun a2 ha2 => ?_)
  subst ha2
  refine z_w (w' := [[(r, .inr (7, [.null, .null, .null, .null, .null]))], cX6 g a2 zX6v]) rfl ?_
  refine z_putR ([[(r, .inr (7, [.ref (a2 0), .null, .null, .null, .null]))], cX6 g a2 zX6v]) zcX7 0 rfl 0 rfl 0 (Nat.le_of_ble_eq_true rfl) zfX7_10 zqX7_0 (hnm rfl) rfl rfl rfl (Nat.le_of_ble_eq_true rfl) rfl dX7_init_12 ?_
  refine z_aload_n 0 rfl rfl dX7_init_15 ?_
  refine z_new (fs := [.null, .null, .null, .null, .int 0, .int 0, .int 0, .int 0, .int 0]) zcX6 ziX6 znX7_7 zdvX6 ⟨by rw [hmc]; exact Nat.le_of_ble_eq_true rfl, by rw [hms]; exact Nat.le_of_ble_eq_true rfl⟩ dX7_init_16 (fun q3 => ?_)
  refine z_dup rfl dX7_init_19 ?_
  refine z_callIN (rest := [.ref q3, .ref r]) zE0_st zE0_st hE (fun _ _ _ h => h) hl (c_X6_init l g q3) zyX6_init rfl zvX6_init zlX7_9 zcX6.1 ([[(r, .inr (7, [.ref (a2 0), .null, .null, .null, .null]))], cX6 g a2 zX6v]) rfl ⟨Nat.le_of_ble_eq_true rfl, Nat.le_of_ble_eq_true rfl⟩ (Nat.le_of_ble_eq_true rfl) ⟨by rw [hmc]; exact Nat.le_of_ble_eq_true rfl, by rw [hms]; exact Nat.le_of_ble_eq_true rfl⟩ dX7_init_20 (fun a4 ha4 => ?_)
  subst ha4
  refine z_w (w' := [[(r, .inr (7, [.ref (a2 0), .null, .null, .null, .null]))], cX6 g a2 zX6v, cX6 g a4 zX6v]) rfl ?_
  refine z_putR ([[(r, .inr (7, [.ref (a2 0), .ref (a4 0), .null, .null, .null]))], cX6 g a2 zX6v, cX6 g a4 zX6v]) zcX7 0 rfl 0 rfl 1 (Nat.le_of_ble_eq_true rfl) zfX7_16 zqX7_1 (hnm rfl) rfl rfl rfl (Nat.le_of_ble_eq_true rfl) rfl dX7_init_23 ?_
  refine z_aload_n 0 rfl rfl dX7_init_26 ?_
  refine z_new (fs := [.null, .int 0, .int 0]) zcX2 ziX2 znX7_19 zdvX2 ⟨by rw [hmc]; exact Nat.le_of_ble_eq_true rfl, by rw [hms]; exact Nat.le_of_ble_eq_true rfl⟩ dX7_init_27 (fun q5 => ?_)
  refine z_dup rfl dX7_init_30 ?_
  refine z_callI (rest := [.ref q5, .ref r]) zE0_st zE0_st hE (fun _ _ _ h => h) hl (c_X2_init l g q5) zyX2_init rfl zvX2_init zlX7_21 zcX2.1 ([[(r, .inr (7, [.ref (a2 0), .ref (a4 0), .null, .null, .null]))], cX6 g a2 zX6v, cX6 g a4 zX6v]) rfl ⟨Nat.le_of_ble_eq_true rfl, Nat.le_of_ble_eq_true rfl⟩ (Nat.le_of_ble_eq_true rfl) ⟨by rw [hmc]; exact Nat.le_of_ble_eq_true rfl, by rw [hms]; exact Nat.le_of_ble_eq_true rfl⟩ dX7_init_31 (fun a6 ha6 => ?_)
  subst ha6
  refine z_w (w' := [[(r, .inr (7, [.ref (a2 0), .ref (a4 0), .null, .null, .null]))], cX6 g a2 zX6v, cX6 g a4 zX6v] ++ kX2 g a6 zX2v) rfl ?_
  refine z_putR ([[(r, .inr (7, [.ref (a2 0), .ref (a4 0), .ref (a6 0), .null, .null]))], cX6 g a2 zX6v, cX6 g a4 zX6v] ++ kX2 g a6 zX2v) zcX7 0 rfl 0 rfl 2 (Nat.le_of_ble_eq_true rfl) zfX7_22 zqX7_2 (hnm rfl) rfl rfl rfl (Nat.le_of_ble_eq_true rfl) rfl dX7_init_34 ?_
  refine z_aload_n 0 rfl rfl dX7_init_37 ?_
  refine z_new (fs := [.null, .int 0, .null, .int 0, .int 0, .int 0]) zcX1 ziX1 znX7_26 zdvX1 ⟨by rw [hmc]; exact Nat.le_of_ble_eq_true rfl, by rw [hms]; exact Nat.le_of_ble_eq_true rfl⟩ dX7_init_38 (fun q7 => ?_)
  refine z_dup rfl dX7_init_41 ?_
  refine z_callIN (rest := [.ref q7, .ref r]) zE0_st zE0_st hE (fun _ _ _ h => h) hl (c_X1_init l g q7) zyX1_init rfl zvX1_init zlX7_28 zcX1.1 ([[(r, .inr (7, [.ref (a2 0), .ref (a4 0), .ref (a6 0), .null, .null]))], cX6 g a2 zX6v, cX6 g a4 zX6v] ++ kX2 g a6 zX2v) rfl ⟨Nat.le_of_ble_eq_true rfl, Nat.le_of_ble_eq_true rfl⟩ (Nat.le_of_ble_eq_true rfl) ⟨by rw [hmc]; exact Nat.le_of_ble_eq_true rfl, by rw [hms]; exact Nat.le_of_ble_eq_true rfl⟩ dX7_init_42 (fun a8 ha8 => ?_)
  subst ha8
  refine z_w (w' := [[(r, .inr (7, [.ref (a2 0), .ref (a4 0), .ref (a6 0), .null, .null]))], cX6 g a2 zX6v, cX6 g a4 zX6v] ++ kX2 g a6 zX2v ++ [cX1 g a8 zX1v]) rfl ?_
  refine z_putR ([[(r, .inr (7, [.ref (a2 0), .ref (a4 0), .ref (a6 0), .ref (a8 0), .null]))], cX6 g a2 zX6v, cX6 g a4 zX6v] ++ kX2 g a6 zX2v ++ [cX1 g a8 zX1v]) zcX7 0 rfl 0 rfl 3 (Nat.le_of_ble_eq_true rfl) zfX7_29 zqX7_3 (hnm rfl) rfl rfl rfl (Nat.le_of_ble_eq_true rfl) rfl dX7_init_45 ?_
  refine z_aload_n 0 rfl rfl dX7_init_48 ?_
  refine z_new (fs := [.null]) zcX5 ziX5 znX7_33 zdvX5 ⟨by rw [hmc]; exact Nat.le_of_ble_eq_true rfl, by rw [hms]; exact Nat.le_of_ble_eq_true rfl⟩ dX7_init_49 (fun q9 => ?_)
  refine z_dup rfl dX7_init_52 ?_
  refine z_callIN (rest := [.ref q9, .ref r]) zE0_st zE0_st hE (fun _ _ _ h => h) hl (c_X5_init l g q9) zyX5_init rfl zvX5_init zlX7_35 zcX5.1 ([[(r, .inr (7, [.ref (a2 0), .ref (a4 0), .ref (a6 0), .ref (a8 0), .null]))], cX6 g a2 zX6v, cX6 g a4 zX6v] ++ kX2 g a6 zX2v ++ [cX1 g a8 zX1v]) rfl ⟨Nat.le_of_ble_eq_true rfl, Nat.le_of_ble_eq_true rfl⟩ (Nat.le_of_ble_eq_true rfl) ⟨by rw [hmc]; exact Nat.le_of_ble_eq_true rfl, by rw [hms]; exact Nat.le_of_ble_eq_true rfl⟩ dX7_init_53 (fun a10 ha10 => ?_)
  subst ha10
  refine z_w (w' := [[(r, .inr (7, [.ref (a2 0), .ref (a4 0), .ref (a6 0), .ref (a8 0), .null]))], cX6 g a2 zX6v, cX6 g a4 zX6v] ++ kX2 g a6 zX2v ++ [cX1 g a8 zX1v] ++ kX5 g a10 zX5v) rfl ?_
  refine z_putR ([[(r, .inr (7, [.ref (a2 0), .ref (a4 0), .ref (a6 0), .ref (a8 0), .ref (a10 0)]))], cX6 g a2 zX6v, cX6 g a4 zX6v] ++ kX2 g a6 zX2v ++ [cX1 g a8 zX1v] ++ kX5 g a10 zX5v) zcX7 0 rfl 0 rfl 4 (Nat.le_of_ble_eq_true rfl) zfX7_36 zqX7_4 (hnm rfl) rfl rfl rfl (Nat.le_of_ble_eq_true rfl) rfl dX7_init_56 ?_
  refine z_rowq ([[(r, .inr (7, [.ref (a2 0), .ref (a4 0), .ref (a6 0), .ref (a8 0), .ref (a10 0)]))], cX6 g a2 zX6v, cX6 g a4 zX6v, [(a6 0, .inr (2, [.ref (a6 1), .int 0, .int 0])), (a6 1, .inl (g.2.2.2.2, 6, .inr (.inr (.inr (.inr (fun j => some (zcat [(1, (fun _ => r)), (10, a2), (10, a4), (62, a6), (3, a8), (10, a10)] (2 + 10 * j + 21))))))))], cX6 g (fun i => a6 (i + 2)) (zX2v.1 0), cX6 g (fun i => a6 (i + 12)) (zX2v.1 1), cX6 g (fun i => a6 (i + 22)) (zX2v.1 2), cX6 g (fun i => a6 (i + 32)) (zX2v.1 3), cX6 g (fun i => a6 (i + 42)) (zX2v.1 4), cX6 g (fun i => a6 (i + 52)) (zX2v.1 5), cX1 g a8 zX1v] ++ kX5 g a10 zX5v) 3 rfl 1 rfl (fun j hj => ?_) rfl ?_
  · rcases (show j = 0 ∨ j = 1 ∨ j = 2 ∨ j = 3 ∨ j = 4 ∨ j = 5 by omega) with rfl | rfl | rfl | rfl | rfl | rfl <;> rfl
  exact z_nret (zcat [(1, (fun _ => r)), (10, a2), (10, a4), (62, a6), (3, a8), (10, a10)]) rfl rfl dX7_init_59 hQ
theorem zdvX8 : ∀ j, j < 16 → defaultValue (tyX8 j) = vp_V ([.int 0, .null, .null, .null, .int 0, .null, .int 0, .int 0, .int 0, .null, .int 0, .null, .null, .null, .null, .long 0]) j := by
  intro j hj
  have h := (show ∀ i : Fin 16, defaultValue (tyX8 i.1) = vp_V ([.int 0, .null, .null, .null, .int 0, .null, .int 0, .int 0, .int 0, .null, .int 0, .null, .null, .null, .null, .long 0]) i.1 by decide +kernel) ⟨j, hj⟩
  exact h
set_option maxHeartbeats 1000000 in
set_option maxRecDepth 100000 in
theorem c_X8_init (l : Launch) (g : zG) (r : Nat) : CtrN l g zE0 yX8_init cX8_init 1 1 12 9 1362 r [[(r, .inr (8, [.int 0, .null, .null, .null, .int 0, .null, .int 0, .int 0, .int 0, .null, .int 0, .null, .null, .null, .null, .long 0]))]] (fun a => [cX8 g a zX8v]) := by
  refine ctrn_of (by decide) (Nat.le_of_ble_eq_true rfl) (fun X hl hmc hms hnm hE hQ => ?_)
  refine z_aload_n 0 rfl rfl dX8_init_0 ?_
  refine z_objInit zlX8_1 ⟨Nat.le_of_ble_eq_true rfl, Nat.le_of_ble_eq_true rfl⟩ dX8_init_1 ?_
  refine z_aload_n 0 rfl rfl dX8_init_4 ?_
  refine z_sipush (v := 142) (by decide) dX8_init_5 ?_
  refine z_newI (by decide) (show (142 : Int32).toNatClampNeg = 142 by decide) (Nat.le_of_ble_eq_true rfl) ⟨by rw [hmc]; exact Nat.le_of_ble_eq_true rfl, by rw [hms]; exact Nat.le_of_ble_eq_true rfl⟩ dX8_init_8 (fun q1 => ?_)
  refine z_w (w' := [[(r, .inr (8, [.int 0, .null, .null, .null, .int 0, .null, .int 0, .int 0, .int 0, .null, .int 0, .null, .null, .null, .null, .long 0]))], [(q1, .inl (g.2.1, 142, .inl (fun _ => 0)))]]) rfl ?_
  refine z_putR ([[(r, .inr (8, [.int 0, .ref q1, .null, .null, .int 0, .null, .int 0, .int 0, .int 0, .null, .int 0, .null, .null, .null, .null, .long 0]))], [(q1, .inl (g.2.1, 142, .inl (fun _ => 0)))]]) zcX8 0 rfl 0 rfl 1 (Nat.le_of_ble_eq_true rfl) zfX8_7 zqX8_1 (hnm rfl) rfl rfl rfl (Nat.le_of_ble_eq_true rfl) rfl dX8_init_10 ?_
  refine z_aload_n 0 rfl rfl dX8_init_13 ?_
  refine z_sipush (v := 142) (by decide) dX8_init_14 ?_
  refine z_newI (by decide) (show (142 : Int32).toNatClampNeg = 142 by decide) (Nat.le_of_ble_eq_true rfl) ⟨by rw [hmc]; exact Nat.le_of_ble_eq_true rfl, by rw [hms]; exact Nat.le_of_ble_eq_true rfl⟩ dX8_init_17 (fun q2 => ?_)
  refine z_w (w' := [[(r, .inr (8, [.int 0, .ref q1, .null, .null, .int 0, .null, .int 0, .int 0, .int 0, .null, .int 0, .null, .null, .null, .null, .long 0]))], [(q1, .inl (g.2.1, 142, .inl (fun _ => 0)))], [(q2, .inl (g.2.1, 142, .inl (fun _ => 0)))]]) rfl ?_
  refine z_putR ([[(r, .inr (8, [.int 0, .ref q1, .ref q2, .null, .int 0, .null, .int 0, .int 0, .int 0, .null, .int 0, .null, .null, .null, .null, .long 0]))], [(q1, .inl (g.2.1, 142, .inl (fun _ => 0)))], [(q2, .inl (g.2.1, 142, .inl (fun _ => 0)))]]) zcX8 0 rfl 0 rfl 2 (Nat.le_of_ble_eq_true rfl) zfX8_13 zqX8_2 (hnm rfl) rfl rfl rfl (Nat.le_of_ble_eq_true rfl) rfl dX8_init_19 ?_
  refine z_aload_n 0 rfl rfl dX8_init_22 ?_
  refine z_sipush (v := 852) (by decide) dX8_init_23 ?_
  refine z_newI (by decide) (show (852 : Int32).toNatClampNeg = 852 by decide) (Nat.le_of_ble_eq_true rfl) ⟨by rw [hmc]; exact Nat.le_of_ble_eq_true rfl, by rw [hms]; exact Nat.le_of_ble_eq_true rfl⟩ dX8_init_26 (fun q3 => ?_)
  refine z_w (w' := [[(r, .inr (8, [.int 0, .ref q1, .ref q2, .null, .int 0, .null, .int 0, .int 0, .int 0, .null, .int 0, .null, .null, .null, .null, .long 0]))], [(q1, .inl (g.2.1, 142, .inl (fun _ => 0)))], [(q2, .inl (g.2.1, 142, .inl (fun _ => 0)))], [(q3, .inl (g.2.1, 852, .inl (fun _ => 0)))]]) rfl ?_
  refine z_putR ([[(r, .inr (8, [.int 0, .ref q1, .ref q2, .ref q3, .int 0, .null, .int 0, .int 0, .int 0, .null, .int 0, .null, .null, .null, .null, .long 0]))], [(q1, .inl (g.2.1, 142, .inl (fun _ => 0)))], [(q2, .inl (g.2.1, 142, .inl (fun _ => 0)))], [(q3, .inl (g.2.1, 852, .inl (fun _ => 0)))]]) zcX8 0 rfl 0 rfl 3 (Nat.le_of_ble_eq_true rfl) zfX8_16 zqX8_3 (hnm rfl) rfl rfl rfl (Nat.le_of_ble_eq_true rfl) rfl dX8_init_28 ?_
  refine z_aload_n 0 rfl rfl dX8_init_31 ?_
  refine z_bipush (v := 60) (by decide) dX8_init_32 ?_
  refine z_newI (by decide) (show (60 : Int32).toNatClampNeg = 60 by decide) (Nat.le_of_ble_eq_true rfl) ⟨by rw [hmc]; exact Nat.le_of_ble_eq_true rfl, by rw [hms]; exact Nat.le_of_ble_eq_true rfl⟩ dX8_init_34 (fun q4 => ?_)
  refine z_w (w' := [[(r, .inr (8, [.int 0, .ref q1, .ref q2, .ref q3, .int 0, .null, .int 0, .int 0, .int 0, .null, .int 0, .null, .null, .null, .null, .long 0]))], [(q1, .inl (g.2.1, 142, .inl (fun _ => 0)))], [(q2, .inl (g.2.1, 142, .inl (fun _ => 0)))], [(q3, .inl (g.2.1, 852, .inl (fun _ => 0)))], [(q4, .inl (g.2.1, 60, .inl (fun _ => 0)))]]) rfl ?_
  refine z_putR ([[(r, .inr (8, [.int 0, .ref q1, .ref q2, .ref q3, .int 0, .ref q4, .int 0, .int 0, .int 0, .null, .int 0, .null, .null, .null, .null, .long 0]))], [(q1, .inl (g.2.1, 142, .inl (fun _ => 0)))], [(q2, .inl (g.2.1, 142, .inl (fun _ => 0)))], [(q3, .inl (g.2.1, 852, .inl (fun _ => 0)))], [(q4, .inl (g.2.1, 60, .inl (fun _ => 0)))]]) zcX8 0 rfl 0 rfl 5 (Nat.le_of_ble_eq_true rfl) zfX8_19 zqX8_5 (hnm rfl) rfl rfl rfl (Nat.le_of_ble_eq_true rfl) rfl dX8_init_36 ?_
  refine z_aload_n 0 rfl rfl dX8_init_39 ?_
  refine z_bipush (v := 6) (by decide) dX8_init_40 ?_
  refine z_newI (by decide) (show (6 : Int32).toNatClampNeg = 6 by decide) (Nat.le_of_ble_eq_true rfl) ⟨by rw [hmc]; exact Nat.le_of_ble_eq_true rfl, by rw [hms]; exact Nat.le_of_ble_eq_true rfl⟩ dX8_init_42 (fun q5 => ?_)
  refine z_w (w' := [[(r, .inr (8, [.int 0, .ref q1, .ref q2, .ref q3, .int 0, .ref q4, .int 0, .int 0, .int 0, .null, .int 0, .null, .null, .null, .null, .long 0]))], [(q1, .inl (g.2.1, 142, .inl (fun _ => 0)))], [(q2, .inl (g.2.1, 142, .inl (fun _ => 0)))], [(q3, .inl (g.2.1, 852, .inl (fun _ => 0)))], [(q4, .inl (g.2.1, 60, .inl (fun _ => 0)))], [(q5, .inl (g.2.1, 6, .inl (fun _ => 0)))]]) rfl ?_
  refine z_putR ([[(r, .inr (8, [.int 0, .ref q1, .ref q2, .ref q3, .int 0, .ref q4, .int 0, .int 0, .int 0, .ref q5, .int 0, .null, .null, .null, .null, .long 0]))], [(q1, .inl (g.2.1, 142, .inl (fun _ => 0)))], [(q2, .inl (g.2.1, 142, .inl (fun _ => 0)))], [(q3, .inl (g.2.1, 852, .inl (fun _ => 0)))], [(q4, .inl (g.2.1, 60, .inl (fun _ => 0)))], [(q5, .inl (g.2.1, 6, .inl (fun _ => 0)))]]) zcX8 0 rfl 0 rfl 9 (Nat.le_of_ble_eq_true rfl) zfX8_22 zqX8_9 (hnm rfl) rfl rfl rfl (Nat.le_of_ble_eq_true rfl) rfl dX8_init_44 ?_
  refine z_aload_n 0 rfl rfl dX8_init_47 ?_
  refine z_bipush (v := 6) (by decide) dX8_init_48 ?_
  refine z_newI (by decide) (show (6 : Int32).toNatClampNeg = 6 by decide) (Nat.le_of_ble_eq_true rfl) ⟨by rw [hmc]; exact Nat.le_of_ble_eq_true rfl, by rw [hms]; exact Nat.le_of_ble_eq_true rfl⟩ dX8_init_50 (fun q6 => ?_)
  refine z_w (w' := [[(r, .inr (8, [.int 0, .ref q1, .ref q2, .ref q3, .int 0, .ref q4, .int 0, .int 0, .int 0, .ref q5, .int 0, .null, .null, .null, .null, .long 0]))], [(q1, .inl (g.2.1, 142, .inl (fun _ => 0)))], [(q2, .inl (g.2.1, 142, .inl (fun _ => 0)))], [(q3, .inl (g.2.1, 852, .inl (fun _ => 0)))], [(q4, .inl (g.2.1, 60, .inl (fun _ => 0)))], [(q5, .inl (g.2.1, 6, .inl (fun _ => 0)))], [(q6, .inl (g.2.1, 6, .inl (fun _ => 0)))]]) rfl ?_
  refine z_putR ([[(r, .inr (8, [.int 0, .ref q1, .ref q2, .ref q3, .int 0, .ref q4, .int 0, .int 0, .int 0, .ref q5, .int 0, .ref q6, .null, .null, .null, .long 0]))], [(q1, .inl (g.2.1, 142, .inl (fun _ => 0)))], [(q2, .inl (g.2.1, 142, .inl (fun _ => 0)))], [(q3, .inl (g.2.1, 852, .inl (fun _ => 0)))], [(q4, .inl (g.2.1, 60, .inl (fun _ => 0)))], [(q5, .inl (g.2.1, 6, .inl (fun _ => 0)))], [(q6, .inl (g.2.1, 6, .inl (fun _ => 0)))]]) zcX8 0 rfl 0 rfl 11 (Nat.le_of_ble_eq_true rfl) zfX8_25 zqX8_11 (hnm rfl) rfl rfl rfl (Nat.le_of_ble_eq_true rfl) rfl dX8_init_52 ?_
  refine z_aload_n 0 rfl rfl dX8_init_55 ?_
  refine z_bipush (v := 6) (by decide) dX8_init_56 ?_
  refine z_newI (by decide) (show (6 : Int32).toNatClampNeg = 6 by decide) (Nat.le_of_ble_eq_true rfl) ⟨by rw [hmc]; exact Nat.le_of_ble_eq_true rfl, by rw [hms]; exact Nat.le_of_ble_eq_true rfl⟩ dX8_init_58 (fun q7 => ?_)
  refine z_w (w' := [[(r, .inr (8, [.int 0, .ref q1, .ref q2, .ref q3, .int 0, .ref q4, .int 0, .int 0, .int 0, .ref q5, .int 0, .ref q6, .null, .null, .null, .long 0]))], [(q1, .inl (g.2.1, 142, .inl (fun _ => 0)))], [(q2, .inl (g.2.1, 142, .inl (fun _ => 0)))], [(q3, .inl (g.2.1, 852, .inl (fun _ => 0)))], [(q4, .inl (g.2.1, 60, .inl (fun _ => 0)))], [(q5, .inl (g.2.1, 6, .inl (fun _ => 0)))], [(q6, .inl (g.2.1, 6, .inl (fun _ => 0)))], [(q7, .inl (g.2.1, 6, .inl (fun _ => 0)))]]) rfl ?_
  refine z_putR ([[(r, .inr (8, [.int 0, .ref q1, .ref q2, .ref q3, .int 0, .ref q4, .int 0, .int 0, .int 0, .ref q5, .int 0, .ref q6, .ref q7, .null, .null, .long 0]))], [(q1, .inl (g.2.1, 142, .inl (fun _ => 0)))], [(q2, .inl (g.2.1, 142, .inl (fun _ => 0)))], [(q3, .inl (g.2.1, 852, .inl (fun _ => 0)))], [(q4, .inl (g.2.1, 60, .inl (fun _ => 0)))], [(q5, .inl (g.2.1, 6, .inl (fun _ => 0)))], [(q6, .inl (g.2.1, 6, .inl (fun _ => 0)))], [(q7, .inl (g.2.1, 6, .inl (fun _ => 0)))]]) zcX8 0 rfl 0 rfl 12 (Nat.le_of_ble_eq_true rfl) zfX8_28 zqX8_12 (hnm rfl) rfl rfl rfl (Nat.le_of_ble_eq_true rfl) rfl dX8_init_60 ?_
  refine z_aload_n 0 rfl rfl dX8_init_63 ?_
  refine z_bipush (v := 6) (by decide) dX8_init_64 ?_
  refine z_newZ (by decide) (show (6 : Int32).toNatClampNeg = 6 by decide) (Nat.le_of_ble_eq_true rfl) ⟨by rw [hmc]; exact Nat.le_of_ble_eq_true rfl, by rw [hms]; exact Nat.le_of_ble_eq_true rfl⟩ dX8_init_66 (fun q8 => ?_)
  refine z_w (w' := [[(r, .inr (8, [.int 0, .ref q1, .ref q2, .ref q3, .int 0, .ref q4, .int 0, .int 0, .int 0, .ref q5, .int 0, .ref q6, .ref q7, .null, .null, .long 0]))], [(q1, .inl (g.2.1, 142, .inl (fun _ => 0)))], [(q2, .inl (g.2.1, 142, .inl (fun _ => 0)))], [(q3, .inl (g.2.1, 852, .inl (fun _ => 0)))], [(q4, .inl (g.2.1, 60, .inl (fun _ => 0)))], [(q5, .inl (g.2.1, 6, .inl (fun _ => 0)))], [(q6, .inl (g.2.1, 6, .inl (fun _ => 0)))], [(q7, .inl (g.2.1, 6, .inl (fun _ => 0)))], [(q8, .inl (g.2.2.1, 6, .inl (fun _ => 0)))]]) rfl ?_
  refine z_putR ([[(r, .inr (8, [.int 0, .ref q1, .ref q2, .ref q3, .int 0, .ref q4, .int 0, .int 0, .int 0, .ref q5, .int 0, .ref q6, .ref q7, .ref q8, .null, .long 0]))], [(q1, .inl (g.2.1, 142, .inl (fun _ => 0)))], [(q2, .inl (g.2.1, 142, .inl (fun _ => 0)))], [(q3, .inl (g.2.1, 852, .inl (fun _ => 0)))], [(q4, .inl (g.2.1, 60, .inl (fun _ => 0)))], [(q5, .inl (g.2.1, 6, .inl (fun _ => 0)))], [(q6, .inl (g.2.1, 6, .inl (fun _ => 0)))], [(q7, .inl (g.2.1, 6, .inl (fun _ => 0)))], [(q8, .inl (g.2.2.1, 6, .inl (fun _ => 0)))]]) zcX8 0 rfl 0 rfl 13 (Nat.le_of_ble_eq_true rfl) zfX8_31 zqX8_13 (hnm rfl) rfl rfl rfl (Nat.le_of_ble_eq_true rfl) rfl dX8_init_68 ?_
  refine z_aload_n 0 rfl rfl dX8_init_71 ?_
  refine z_sipush (v := 142) (by decide) dX8_init_72 ?_
  refine z_newI (by decide) (show (142 : Int32).toNatClampNeg = 142 by decide) (Nat.le_of_ble_eq_true rfl) ⟨by rw [hmc]; exact Nat.le_of_ble_eq_true rfl, by rw [hms]; exact Nat.le_of_ble_eq_true rfl⟩ dX8_init_75 (fun q9 => ?_)
  refine z_w (w' := [[(r, .inr (8, [.int 0, .ref q1, .ref q2, .ref q3, .int 0, .ref q4, .int 0, .int 0, .int 0, .ref q5, .int 0, .ref q6, .ref q7, .ref q8, .null, .long 0]))], [(q1, .inl (g.2.1, 142, .inl (fun _ => 0)))], [(q2, .inl (g.2.1, 142, .inl (fun _ => 0)))], [(q3, .inl (g.2.1, 852, .inl (fun _ => 0)))], [(q4, .inl (g.2.1, 60, .inl (fun _ => 0)))], [(q5, .inl (g.2.1, 6, .inl (fun _ => 0)))], [(q6, .inl (g.2.1, 6, .inl (fun _ => 0)))], [(q7, .inl (g.2.1, 6, .inl (fun _ => 0)))], [(q8, .inl (g.2.2.1, 6, .inl (fun _ => 0)))], [(q9, .inl (g.2.1, 142, .inl (fun _ => 0)))]]) rfl ?_
  refine z_putR ([[(r, .inr (8, [.int 0, .ref q1, .ref q2, .ref q3, .int 0, .ref q4, .int 0, .int 0, .int 0, .ref q5, .int 0, .ref q6, .ref q7, .ref q8, .ref q9, .long 0]))], [(q1, .inl (g.2.1, 142, .inl (fun _ => 0)))], [(q2, .inl (g.2.1, 142, .inl (fun _ => 0)))], [(q3, .inl (g.2.1, 852, .inl (fun _ => 0)))], [(q4, .inl (g.2.1, 60, .inl (fun _ => 0)))], [(q5, .inl (g.2.1, 6, .inl (fun _ => 0)))], [(q6, .inl (g.2.1, 6, .inl (fun _ => 0)))], [(q7, .inl (g.2.1, 6, .inl (fun _ => 0)))], [(q8, .inl (g.2.2.1, 6, .inl (fun _ => 0)))], [(q9, .inl (g.2.1, 142, .inl (fun _ => 0)))]]) zcX8 0 rfl 0 rfl 14 (Nat.le_of_ble_eq_true rfl) zfX8_35 zqX8_14 (hnm rfl) rfl rfl rfl (Nat.le_of_ble_eq_true rfl) rfl dX8_init_77 ?_
  refine z_aload_n 0 rfl rfl dX8_init_80 ?_
  refine z_iconst (v := 0) (by decide) dX8_init_81 ?_
  refine z_put (t := .int) ([[(r, .inr (8, [.int 0, .ref q1, .ref q2, .ref q3, .int 0, .ref q4, .int 0, .int 0, .int 0, .ref q5, .int 0, .ref q6, .ref q7, .ref q8, .ref q9, .long 0]))], [(q1, .inl (g.2.1, 142, .inl (fun _ => 0)))], [(q2, .inl (g.2.1, 142, .inl (fun _ => 0)))], [(q3, .inl (g.2.1, 852, .inl (fun _ => 0)))], [(q4, .inl (g.2.1, 60, .inl (fun _ => 0)))], [(q5, .inl (g.2.1, 6, .inl (fun _ => 0)))], [(q6, .inl (g.2.1, 6, .inl (fun _ => 0)))], [(q7, .inl (g.2.1, 6, .inl (fun _ => 0)))], [(q8, .inl (g.2.2.1, 6, .inl (fun _ => 0)))], [(q9, .inl (g.2.1, 142, .inl (fun _ => 0)))]]) zcX8 0 rfl 0 rfl 0 (Nat.le_of_ble_eq_true rfl) zfX8_38 zpX8_0 (zn_i _) (zf_i _) (Nat.le_of_ble_eq_true rfl) rfl dX8_init_82 ?_
  refine z_aload_n 0 rfl rfl dX8_init_85 ?_
  refine z_get zcX8 0 rfl 0 rfl 1 (Nat.le_of_ble_eq_true rfl) zfX8_7 (v := .ref q1) rfl dX8_init_86 ?_
  refine z_iconst (v := 0) (by decide) dX8_init_89 ?_
  refine z_bipush (v := 60) (by decide) dX8_init_90 ?_
  refine z_iastI ([[(r, .inr (8, [.int 0, .ref q1, .ref q2, .ref q3, .int 0, .ref q4, .int 0, .int 0, .int 0, .ref q5, .int 0, .ref q6, .ref q7, .ref q8, .ref q9, .long 0]))], [(q1, .inl (g.2.1, 142, .inl (upd (fun _ => 0) (0 : Int32).toNatClampNeg 60)))], [(q2, .inl (g.2.1, 142, .inl (fun _ => 0)))], [(q3, .inl (g.2.1, 852, .inl (fun _ => 0)))], [(q4, .inl (g.2.1, 60, .inl (fun _ => 0)))], [(q5, .inl (g.2.1, 6, .inl (fun _ => 0)))], [(q6, .inl (g.2.1, 6, .inl (fun _ => 0)))], [(q7, .inl (g.2.1, 6, .inl (fun _ => 0)))], [(q8, .inl (g.2.2.1, 6, .inl (fun _ => 0)))], [(q9, .inl (g.2.1, 142, .inl (fun _ => 0)))]]) 1 rfl 0 rfl (zin (n := 142) (by decide) (by decide) (by decide)) rfl dX8_init_92 ?_
  refine z_aload_n 0 rfl rfl dX8_init_93 ?_
  refine z_get zcX8 0 rfl 0 rfl 1 (Nat.le_of_ble_eq_true rfl) zfX8_7 (v := .ref q1) rfl dX8_init_94 ?_
  refine z_iconst (v := 1) (by decide) dX8_init_97 ?_
  refine z_bipush (v := 50) (by decide) dX8_init_98 ?_
  refine z_iastI ([[(r, .inr (8, [.int 0, .ref q1, .ref q2, .ref q3, .int 0, .ref q4, .int 0, .int 0, .int 0, .ref q5, .int 0, .ref q6, .ref q7, .ref q8, .ref q9, .long 0]))], [(q1, .inl (g.2.1, 142, .inl (upd (upd (fun _ => 0) (0 : Int32).toNatClampNeg 60) (1 : Int32).toNatClampNeg 50)))], [(q2, .inl (g.2.1, 142, .inl (fun _ => 0)))], [(q3, .inl (g.2.1, 852, .inl (fun _ => 0)))], [(q4, .inl (g.2.1, 60, .inl (fun _ => 0)))], [(q5, .inl (g.2.1, 6, .inl (fun _ => 0)))], [(q6, .inl (g.2.1, 6, .inl (fun _ => 0)))], [(q7, .inl (g.2.1, 6, .inl (fun _ => 0)))], [(q8, .inl (g.2.2.1, 6, .inl (fun _ => 0)))], [(q9, .inl (g.2.1, 142, .inl (fun _ => 0)))]]) 1 rfl 0 rfl (zin (n := 142) (by decide) (by decide) (by decide)) rfl dX8_init_100 ?_
  exact z_nret (zcat [(1, (fun _ => r)), (1, (fun _ => q1)), (1, (fun _ => q2)), (1, (fun _ => q3)), (1, (fun _ => q4)), (1, (fun _ => q5)), (1, (fun _ => q6)), (1, (fun _ => q7)), (1, (fun _ => q8)), (1, (fun _ => q9))]) rfl rfl dX8_init_101 hQ
