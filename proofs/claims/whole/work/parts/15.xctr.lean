set_option maxHeartbeats 400000 in
/-- 'at' on a row that nobody writes -/
theorem c_X7_atE (l : Launch) (g : zG) (t : Nat) (f : Nat → Int32) (p1 : Int32) : CtrX l g false (zTa t f) yX7_at cX7_at 2 (some .int) 0 0 0 0 [.ref t, .int p1] [] [] (.inl (some (.int (f_X7_at 3 f p1)))) := by
  refine ctrx_of (by decide) (Nat.le_of_ble_eq_true rfl) (fun X hl hmc hms htab hE hQ hT => ?_)
  replace hQ := hQ _ rfl
  unfold f_X7_at at hQ
  refine z_lv (lv' := [(0, .ref t), (1, .int p1)]) [0, 1] rfl ?_
  refine z_iload_n 1 rfl rfl dX7_at_0 ?_
  refine z_if_lt (tgt := 16) rfl dX7_at_1 (fun c1 => ?_) (fun c1 => ?_)
  · rw [if_pos c1] at hQ
    refine z_iconst (v := 0) (by decide) dX7_at_16 ?_
    exact z_iret dX7_at_17 hQ
  · rw [if_neg c1] at hQ
    refine z_iload_n 1 rfl rfl dX7_at_4 ?_
    refine z_aload_n 0 rfl rfl dX7_at_5 ?_
    refine z_tlen hE dX7_at_6 ?_
    refine z_icmp_ge (tgt := 16) rfl dX7_at_7 (fun c7 => ?_) (fun c7 => ?_)
    · rw [if_pos (show nI 3 ≤ p1 from c7)] at hQ
      refine z_iconst (v := 0) (by decide) dX7_at_16 ?_
      exact z_iret dX7_at_17 hQ
    · rw [if_neg (show ¬ nI 3 ≤ p1 from c7)] at hQ
      refine z_aload_n 0 rfl rfl dX7_at_10 ?_
      refine z_iload_n 1 rfl rfl dX7_at_11 ?_
      refine z_ti hE (zin (n := 3) c1 c7 (by decide)) dX7_at_12 ?_
      refine z_goto (tgt := 17) rfl dX7_at_13 ?_
      exact z_iret dX7_at_17 hQ
set_option maxHeartbeats 400000 in
set_option maxRecDepth 100000 in
theorem c_X7_put (l : Launch) (hls : l.stackTraces = false) (g : zG) (a : Nat → Nat) (u : tX7) (p0 : Int32) (p1 : Int32) (r : (Int32 ⊕ Nat) × tX7) (h : f_X7_put u p0 p1 = some r) : CtrX l g true zEx yX7_put cX7_put 3 (some .int) 6 125 1 6 [.ref (a 0), .int p0, .int p1] (kX7 g a u) (kX7 g a r.2) (zo r.1) := by
  refine ctrx_of (by decide) (Nat.le_of_ble_eq_true rfl) (fun X hl hmc hms htab hE hQ hT => ?_)
  unfold f_X7_put at h
  refine z_lv (lv' := [(0, .ref (a 0)), (1, .int p0), (2, .int p1)]) [0, 1, 2] rfl ?_
  refine z_iload_n 1 rfl rfl dX7_put_0 ?_
  refine z_callSR (rest := []) hl (c_X7_isDrawer l g p0 _ rfl) zyX7_isDrawer zsX7_isDrawer zlX7_40 [] rfl rfl rfl (by decide) (Nat.le_of_ble_eq_true rfl) ⟨Nat.zero_le _, Nat.zero_le _⟩ dX7_put_1 (st2 := [.int (b2i (f_X7_isDrawer p0))]) rfl ?_
  refine z_ifB_ne (tgt := 17) rfl dX7_put_4 (fun c4 => ?_) (fun c4 => ?_)
  · replace h := (if_pos c4).symm.trans h
    refine z_iload_n 2 rfl rfl dX7_put_17 ?_
    refine z_callSR (rest := []) hl (c_X7_isWeight l g p1 _ rfl) zyX7_isWeight zsX7_isWeight zlX7_51 [] rfl rfl rfl (by decide) (Nat.le_of_ble_eq_true rfl) ⟨Nat.zero_le _, Nat.zero_le _⟩ dX7_put_18 (st2 := [.int (b2i (f_X7_isWeight p1))]) rfl ?_
    refine z_ifB_ne (tgt := 34) rfl dX7_put_21 (fun c21 => ?_) (fun c21 => ?_)
    · replace h := (if_pos c21).symm.trans h
      refine z_aload_n 0 rfl rfl dX7_put_34 ?_
      refine z_get zcX7 0 rfl 0 rfl 0 (Nat.le_of_ble_eq_true rfl) zfX7_10 (v := .ref (a 1)) rfl dX7_put_35 ?_
      refine z_iload_n 1 rfl rfl dX7_put_38 ?_
      refine z_iload_n 2 rfl rfl dX7_put_39 ?_
      refine z_callVR (rest := []) hl (c_X6_mayAdd l g (fun i => a (i + 1)) u.1 p0 p1 _ rfl) zyX6_mayAdd zvX6_mayAdd rfl zlX7_59 zcX6.1 ⟨_, _, rfl⟩ [(1, none)] rfl rfl rfl (by decide) (Nat.le_of_ble_eq_true rfl) ⟨Nat.zero_le _, Nat.zero_le _⟩ dX7_put_40 (st2 := [.int (b2i (f_X6_mayAdd u.1 p0 p1))]) rfl ?_
      refine z_ifB_ne (tgt := 56) rfl dX7_put_43 (fun c43 => ?_) (fun c43 => ?_)
      · replace h := (if_pos c43).symm.trans h
        refine z_aload_n 0 rfl rfl dX7_put_56 ?_
        refine z_get zcX7 0 rfl 0 rfl 2 (Nat.le_of_ble_eq_true rfl) zfX7_22 (v := .ref (a 21)) rfl dX7_put_57 ?_
        refine z_aload_n 0 rfl rfl dX7_put_60 ?_
        refine z_get zcX7 0 rfl 0 rfl 0 (Nat.le_of_ble_eq_true rfl) zfX7_10 (v := .ref (a 1)) rfl dX7_put_61 ?_
        obtain ⟨r1, er1, h⟩ := zb h
        refine z_callVW (rest := []) hl (c_X2_keep l g (fun i => a (i + 21)) u.2.2.1 (fun i => a (i + 1)) u.1 _ er1) zyX2_keep zvX2_keep rfl zlX7_68 zcX2.1 ⟨_, _, rfl⟩ [(3, none), (4, none), (5, none), (6, none), (7, none), (8, none), (9, none), (1, none)] rfl (by decide) rfl (w' := kX7 g a (u.1, u.2.1, r1, u.2.2.2.1, u.2.2.2.2)) rfl rfl rfl (by decide) (Nat.le_of_ble_eq_true rfl) ⟨Nat.zero_le _, Nat.zero_le _⟩ dX7_put_64 (st2 := []) rfl ?_
        refine z_aload_n 0 rfl rfl dX7_put_67 ?_
        refine z_get zcX7 0 rfl 0 rfl 0 (Nat.le_of_ble_eq_true rfl) zfX7_10 (v := .ref (a 1)) rfl dX7_put_68 ?_
        refine z_iload_n 1 rfl rfl dX7_put_71 ?_
        refine z_iload_n 2 rfl rfl dX7_put_72 ?_
        obtain ⟨r2, er2, h⟩ := zb h
        refine z_callVW (rest := []) hl (c_X6_addItem l g (fun i => a (i + 1)) u.1 p0 p1 _ er2) zyX6_addItem zvX6_addItem rfl zlX7_72 zcX6.1 ⟨_, _, rfl⟩ [(1, none)] rfl (by decide) rfl (w' := kX7 g a (r2.2, u.2.1, r1, u.2.2.2.1, u.2.2.2.2)) rfl rfl rfl (by decide) (Nat.le_of_ble_eq_true rfl) ⟨Nat.zero_le _, Nat.zero_le _⟩ dX7_put_73 (st2 := [.int r2.1]) rfl ?_
        cases h
        try dsimp only at hQ hT
        exact z_iret dX7_put_76 (hQ _ rfl)
      · replace h := (if_neg c43).symm.trans h
        cases h
        try dsimp only at hQ hT
        exact z_throw (rest := []) (is := 65) (by rw [hl]; exact hls) hE htab hmc hms (hT zISE rfl) zxzISE (List.mem_of_getElem? (i := 2) rfl) (Nat.le_of_ble_eq_true rfl) (Nat.le_of_ble_eq_true rfl) (Nat.le_refl _) (Nat.le_refl _) dX7_put_46 dX7_put_49 dX7_put_50 dX7_put_52 dX7_put_55
    · replace h := (if_neg c21).symm.trans h
      cases h
      try dsimp only at hQ hT
      exact z_throw (rest := []) (is := 56) (by rw [hl]; exact hls) hE htab hmc hms (hT zIAE rfl) zxzIAE (List.mem_of_getElem? (i := 1) rfl) (Nat.le_of_ble_eq_true rfl) (Nat.le_of_ble_eq_true rfl) (Nat.le_refl _) (Nat.le_refl _) dX7_put_24 dX7_put_27 dX7_put_28 dX7_put_30 dX7_put_33
  · replace h := (if_neg c4).symm.trans h
    cases h
    try dsimp only at hQ hT
    exact z_throw (rest := []) (is := 46) (by rw [hl]; exact hls) hE htab hmc hms (hT zIOB rfl) zxzIOB (List.mem_of_getElem? (i := 0) rfl) (Nat.le_of_ble_eq_true rfl) (Nat.le_of_ble_eq_true rfl) (Nat.le_refl _) (Nat.le_refl _) dX7_put_7 dX7_put_10 dX7_put_11 dX7_put_13 dX7_put_16
set_option maxHeartbeats 400000 in
set_option maxRecDepth 100000 in
theorem c_X7_move (l : Launch) (hls : l.stackTraces = false) (g : zG) (a : Nat → Nat) (u : tX7) (p0 : Int32) (p1 : Int32) (r : (Int32 ⊕ Nat) × tX7) (h : f_X7_move u p0 p1 = some r) : CtrX l g true zEx yX7_move cX7_move 3 (some .int) 6 125 1 6 [.ref (a 0), .int p0, .int p1] (kX7 g a u) (kX7 g a r.2) (zo r.1) := by
  refine ctrx_of (by decide) (Nat.le_of_ble_eq_true rfl) (fun X hl hmc hms htab hE hQ hT => ?_)
  unfold f_X7_move at h
  refine z_lv (lv' := [(0, .ref (a 0)), (1, .int p0), (2, .int p1)]) [0, 1, 2] rfl ?_
  refine z_aload_n 0 rfl rfl dX7_move_0 ?_
  refine z_get zcX7 0 rfl 0 rfl 0 (Nat.le_of_ble_eq_true rfl) zfX7_10 (v := .ref (a 1)) rfl dX7_move_1 ?_
  refine z_get zcX6 1 rfl 0 rfl 1 (Nat.le_of_ble_eq_true rfl) zfX7_76 (v := .ref (a 5)) rfl dX7_move_4 ?_
  refine z_iload_n 1 rfl rfl dX7_move_7 ?_
  obtain ⟨r1, er1, h⟩ := zb h
  refine z_callVR (rest := []) hl (c_X3_has l g (fun i => a (i + 5)) u.1.2.1 p0 _ er1) zyX3_has zvX3_has rfl zlX7_80 zcX3.1 ⟨_, _, rfl⟩ [(1, some (4, 4))] rfl rfl rfl (by decide) (Nat.le_of_ble_eq_true rfl) ⟨Nat.zero_le _, Nat.zero_le _⟩ dX7_move_8 (st2 := [.int (b2i r1)]) rfl ?_
  refine z_ifB_ne (tgt := 24) rfl dX7_move_11 (fun c11 => ?_) (fun c11 => ?_)
  · replace h := (if_pos c11).symm.trans h
    refine z_iload_n 2 rfl rfl dX7_move_24 ?_
    refine z_callSR (rest := []) hl (c_X7_isDrawer l g p1 _ rfl) zyX7_isDrawer zsX7_isDrawer zlX7_40 [] rfl rfl rfl (by decide) (Nat.le_of_ble_eq_true rfl) ⟨Nat.zero_le _, Nat.zero_le _⟩ dX7_move_25 (st2 := [.int (b2i (f_X7_isDrawer p1))]) rfl ?_
    refine z_ifB_ne (tgt := 41) rfl dX7_move_28 (fun c28 => ?_) (fun c28 => ?_)
    · replace h := (if_pos c28).symm.trans h
      refine z_aload_n 0 rfl rfl dX7_move_41 ?_
      refine z_get zcX7 0 rfl 0 rfl 0 (Nat.le_of_ble_eq_true rfl) zfX7_10 (v := .ref (a 1)) rfl dX7_move_42 ?_
      refine z_iload_n 1 rfl rfl dX7_move_45 ?_
      refine z_iload_n 2 rfl rfl dX7_move_46 ?_
      obtain ⟨r2, er2, h⟩ := zb h
      refine z_callVR (rest := []) hl (c_X6_mayRelocate l g (fun i => a (i + 1)) u.1 p0 p1 _ er2) zyX6_mayRelocate zvX6_mayRelocate rfl zlX7_87 zcX6.1 ⟨_, _, rfl⟩ [(1, none)] rfl rfl rfl (by decide) (Nat.le_of_ble_eq_true rfl) ⟨Nat.zero_le _, Nat.zero_le _⟩ dX7_move_47 (st2 := [.int (b2i r2)]) rfl ?_
      refine z_ifB_ne (tgt := 63) rfl dX7_move_50 (fun c50 => ?_) (fun c50 => ?_)
      · replace h := (if_pos c50).symm.trans h
        refine z_aload_n 0 rfl rfl dX7_move_63 ?_
        refine z_get zcX7 0 rfl 0 rfl 2 (Nat.le_of_ble_eq_true rfl) zfX7_22 (v := .ref (a 21)) rfl dX7_move_64 ?_
        refine z_aload_n 0 rfl rfl dX7_move_67 ?_
        refine z_get zcX7 0 rfl 0 rfl 0 (Nat.le_of_ble_eq_true rfl) zfX7_10 (v := .ref (a 1)) rfl dX7_move_68 ?_
        obtain ⟨r3, er3, h⟩ := zb h
        refine z_callVW (rest := []) hl (c_X2_keep l g (fun i => a (i + 21)) u.2.2.1 (fun i => a (i + 1)) u.1 _ er3) zyX2_keep zvX2_keep rfl zlX7_68 zcX2.1 ⟨_, _, rfl⟩ [(3, none), (4, none), (5, none), (6, none), (7, none), (8, none), (9, none), (1, none)] rfl (by decide) rfl (w' := kX7 g a (u.1, u.2.1, r3, u.2.2.2.1, u.2.2.2.2)) rfl rfl rfl (by decide) (Nat.le_of_ble_eq_true rfl) ⟨Nat.zero_le _, Nat.zero_le _⟩ dX7_move_71 (st2 := []) rfl ?_
        refine z_aload_n 0 rfl rfl dX7_move_74 ?_
        refine z_get zcX7 0 rfl 0 rfl 0 (Nat.le_of_ble_eq_true rfl) zfX7_10 (v := .ref (a 1)) rfl dX7_move_75 ?_
        refine z_iload_n 1 rfl rfl dX7_move_78 ?_
        refine z_iload_n 2 rfl rfl dX7_move_79 ?_
        obtain ⟨r4, er4, h⟩ := zb h
        refine z_callVW (rest := []) hl (c_X6_relocateItem l g (fun i => a (i + 1)) u.1 p0 p1 _ er4) zyX6_relocateItem zvX6_relocateItem rfl zlX7_92 zcX6.1 ⟨_, _, rfl⟩ [(1, none)] rfl (by decide) rfl (w' := kX7 g a (r4.2, u.2.1, r3, u.2.2.2.1, u.2.2.2.2)) rfl rfl rfl (by decide) (Nat.le_of_ble_eq_true rfl) ⟨Nat.zero_le _, Nat.zero_le _⟩ dX7_move_80 (st2 := [.int r4.1]) rfl ?_
        cases h
        try dsimp only at hQ hT
        exact z_iret dX7_move_83 (hQ _ rfl)
      · replace h := (if_neg c50).symm.trans h
        cases h
        try dsimp only at hQ hT
        exact z_throw (rest := []) (is := 90) (by rw [hl]; exact hls) hE htab hmc hms (hT zISE rfl) zxzISE (List.mem_of_getElem? (i := 4) rfl) (Nat.le_of_ble_eq_true rfl) (Nat.le_of_ble_eq_true rfl) (Nat.le_refl _) (Nat.le_refl _) dX7_move_53 dX7_move_56 dX7_move_57 dX7_move_59 dX7_move_62
    · replace h := (if_neg c28).symm.trans h
      cases h
      try dsimp only at hQ hT
      exact z_throw (rest := []) (is := 46) (by rw [hl]; exact hls) hE htab hmc hms (hT zIOB rfl) zxzIOB (List.mem_of_getElem? (i := 0) rfl) (Nat.le_of_ble_eq_true rfl) (Nat.le_of_ble_eq_true rfl) (Nat.le_refl _) (Nat.le_refl _) dX7_move_31 dX7_move_34 dX7_move_35 dX7_move_37 dX7_move_40
  · replace h := (if_neg c11).symm.trans h
    cases h
    try dsimp only at hQ hT
    exact z_throw (rest := []) (is := 85) (by rw [hl]; exact hls) hE htab hmc hms (hT zIOB rfl) zxzIOB (List.mem_of_getElem? (i := 3) rfl) (Nat.le_of_ble_eq_true rfl) (Nat.le_of_ble_eq_true rfl) (Nat.le_refl _) (Nat.le_refl _) dX7_move_14 dX7_move_17 dX7_move_18 dX7_move_20 dX7_move_23
set_option maxHeartbeats 400000 in
set_option maxRecDepth 100000 in
theorem c_X7_pick (l : Launch) (hls : l.stackTraces = false) (g : zG) (a : Nat → Nat) (u : tX7) (p0 : Int32) (r : (Int32 ⊕ Nat) × tX7) (h : f_X7_pick u p0 = some r) : CtrX l g true zEx yX7_pick cX7_pick 2 (some .int) 6 125 1 6 [.ref (a 0), .int p0] (kX7 g a u) (kX7 g a r.2) (zo r.1) := by
  refine ctrx_of (by decide) (Nat.le_of_ble_eq_true rfl) (fun X hl hmc hms htab hE hQ hT => ?_)
  unfold f_X7_pick at h
  refine z_lv (lv' := [(0, .ref (a 0)), (1, .int p0)]) [0, 1] rfl ?_
  refine z_aload_n 0 rfl rfl dX7_pick_0 ?_
  refine z_get zcX7 0 rfl 0 rfl 0 (Nat.le_of_ble_eq_true rfl) zfX7_10 (v := .ref (a 1)) rfl dX7_pick_1 ?_
  refine z_get zcX6 1 rfl 0 rfl 1 (Nat.le_of_ble_eq_true rfl) zfX7_76 (v := .ref (a 5)) rfl dX7_pick_4 ?_
  refine z_iload_n 1 rfl rfl dX7_pick_7 ?_
  obtain ⟨r1, er1, h⟩ := zb h
  refine z_callVR (rest := []) hl (c_X3_has l g (fun i => a (i + 5)) u.1.2.1 p0 _ er1) zyX3_has zvX3_has rfl zlX7_80 zcX3.1 ⟨_, _, rfl⟩ [(1, some (4, 4))] rfl rfl rfl (by decide) (Nat.le_of_ble_eq_true rfl) ⟨Nat.zero_le _, Nat.zero_le _⟩ dX7_pick_8 (st2 := [.int (b2i r1)]) rfl ?_
  refine z_ifB_ne (tgt := 24) rfl dX7_pick_11 (fun c11 => ?_) (fun c11 => ?_)
  · replace h := (if_pos c11).symm.trans h
    refine z_aload_n 0 rfl rfl dX7_pick_24 ?_
    refine z_get zcX7 0 rfl 0 rfl 0 (Nat.le_of_ble_eq_true rfl) zfX7_10 (v := .ref (a 1)) rfl dX7_pick_25 ?_
    refine z_iload_n 1 rfl rfl dX7_pick_28 ?_
    obtain ⟨r2, er2, h⟩ := zb h
    refine z_callVR (rest := []) hl (c_X6_reasonAgainst l g (fun i => a (i + 1)) u.1 p0 _ er2) zyX6_reasonAgainst zvX6_reasonAgainst rfl zlX7_95 zcX6.1 ⟨_, _, rfl⟩ [(1, none)] rfl rfl rfl (by decide) (Nat.le_of_ble_eq_true rfl) ⟨Nat.zero_le _, Nat.zero_le _⟩ dX7_pick_29 (st2 := [.int r2]) rfl ?_
    refine z_if_eq (tgt := 45) rfl dX7_pick_32 (fun c32 => ?_) (fun c32 => ?_)
    · replace h := (if_pos c32).symm.trans h
      refine z_aload_n 0 rfl rfl dX7_pick_45 ?_
      refine z_get zcX7 0 rfl 0 rfl 2 (Nat.le_of_ble_eq_true rfl) zfX7_22 (v := .ref (a 21)) rfl dX7_pick_46 ?_
      refine z_aload_n 0 rfl rfl dX7_pick_49 ?_
      refine z_get zcX7 0 rfl 0 rfl 0 (Nat.le_of_ble_eq_true rfl) zfX7_10 (v := .ref (a 1)) rfl dX7_pick_50 ?_
      obtain ⟨r3, er3, h⟩ := zb h
      refine z_callVW (rest := []) hl (c_X2_keep l g (fun i => a (i + 21)) u.2.2.1 (fun i => a (i + 1)) u.1 _ er3) zyX2_keep zvX2_keep rfl zlX7_68 zcX2.1 ⟨_, _, rfl⟩ [(3, none), (4, none), (5, none), (6, none), (7, none), (8, none), (9, none), (1, none)] rfl (by decide) rfl (w' := kX7 g a (u.1, u.2.1, r3, u.2.2.2.1, u.2.2.2.2)) rfl rfl rfl (by decide) (Nat.le_of_ble_eq_true rfl) ⟨Nat.zero_le _, Nat.zero_le _⟩ dX7_pick_53 (st2 := []) rfl ?_
      refine z_aload_n 0 rfl rfl dX7_pick_56 ?_
      refine z_get zcX7 0 rfl 0 rfl 0 (Nat.le_of_ble_eq_true rfl) zfX7_10 (v := .ref (a 1)) rfl dX7_pick_57 ?_
      refine z_iload_n 1 rfl rfl dX7_pick_60 ?_
      obtain ⟨r4, er4, h⟩ := zb h
      refine z_callVW (rest := []) hl (c_X6_takeItem l g (fun i => a (i + 1)) u.1 p0 _ er4) zyX6_takeItem zvX6_takeItem rfl zlX7_101 zcX6.1 ⟨_, _, rfl⟩ [(1, none)] rfl (by decide) rfl (w' := kX7 g a (r4.2, u.2.1, r3, u.2.2.2.1, u.2.2.2.2)) rfl rfl rfl (by decide) (Nat.le_of_ble_eq_true rfl) ⟨Nat.zero_le _, Nat.zero_le _⟩ dX7_pick_61 (st2 := [.int r4.1]) rfl ?_
      cases h
      try dsimp only at hQ hT
      exact z_iret dX7_pick_64 (hQ _ rfl)
    · replace h := (if_neg c32).symm.trans h
      cases h
      try dsimp only at hQ hT
      exact z_throw (rest := []) (is := 99) (by rw [hl]; exact hls) hE htab hmc hms (hT zISE rfl) zxzISE (List.mem_of_getElem? (i := 5) rfl) (Nat.le_of_ble_eq_true rfl) (Nat.le_of_ble_eq_true rfl) (Nat.le_refl _) (Nat.le_refl _) dX7_pick_35 dX7_pick_38 dX7_pick_39 dX7_pick_41 dX7_pick_44
  · replace h := (if_neg c11).symm.trans h
    cases h
    try dsimp only at hQ hT
    exact z_throw (rest := []) (is := 85) (by rw [hl]; exact hls) hE htab hmc hms (hT zIOB rfl) zxzIOB (List.mem_of_getElem? (i := 3) rfl) (Nat.le_of_ble_eq_true rfl) (Nat.le_of_ble_eq_true rfl) (Nat.le_refl _) (Nat.le_refl _) dX7_pick_14 dX7_pick_17 dX7_pick_18 dX7_pick_20 dX7_pick_23
set_option maxHeartbeats 400000 in
set_option maxRecDepth 100000 in
theorem c_X7_turn (l : Launch) (hls : l.stackTraces = false) (g : zG) (a : Nat → Nat) (u : tX7) (p0 : Int32) (r : (Int32 ⊕ Nat) × tX7) (h : f_X7_turn u p0 = some r) : CtrX l g true zEx yX7_turn cX7_turn 3 (some .int) 6 125 1 6 [.ref (a 0), .int p0] (kX7 g a u) (kX7 g a r.2) (zo r.1) := by
  refine ctrx_of (by decide) (Nat.le_of_ble_eq_true rfl) (fun X hl hmc hms htab hE hQ hT => ?_)
  unfold f_X7_turn at h
  refine z_lv (lv' := [(0, .ref (a 0)), (1, .int p0)]) [0, 1] rfl ?_
  refine z_iload_n 1 rfl rfl dX7_turn_0 ?_
  refine z_callSR (rest := []) hl (c_X7_isDrawer l g p0 _ rfl) zyX7_isDrawer zsX7_isDrawer zlX7_40 [] rfl rfl rfl (by decide) (Nat.le_of_ble_eq_true rfl) ⟨Nat.zero_le _, Nat.zero_le _⟩ dX7_turn_1 (st2 := [.int (b2i (f_X7_isDrawer p0))]) rfl ?_
  refine z_ifB_ne (tgt := 17) rfl dX7_turn_4 (fun c4 => ?_) (fun c4 => ?_)
  · replace h := (if_pos c4).symm.trans h
    refine z_aload_n 0 rfl rfl dX7_turn_17 ?_
    refine z_get zcX7 0 rfl 0 rfl 0 (Nat.le_of_ble_eq_true rfl) zfX7_10 (v := .ref (a 1)) rfl dX7_turn_18 ?_
    refine z_iload_n 1 rfl rfl dX7_turn_21 ?_
    obtain ⟨r1, er1, h⟩ := zb h
    refine z_callVR (rest := []) hl (c_X6_wayTo l g (fun i => a (i + 1)) u.1 p0 _ er1) zyX6_wayTo zvX6_wayTo rfl zlX7_104 zcX6.1 ⟨_, _, rfl⟩ [(1, none)] rfl rfl rfl (by decide) (Nat.le_of_ble_eq_true rfl) ⟨Nat.zero_le _, Nat.zero_le _⟩ dX7_turn_22 (st2 := [.int r1]) rfl ?_
    refine z_istore_n [(2, .int r1), (0, .ref (a 0)), (1, .int p0)] rfl (Nat.le_of_ble_eq_true rfl) rfl dX7_turn_25 ?_
    refine z_iload_n 0 rfl rfl dX7_turn_26 ?_
    refine z_bipush (v := 99) (by decide) dX7_turn_27 ?_
    refine z_icmp_ne (tgt := 42) rfl dX7_turn_29 (fun c29 => ?_) (fun c29 => ?_)
    · replace h := (if_neg c29).symm.trans h
      refine z_aload_n 1 rfl rfl dX7_turn_42 ?_
      refine z_get zcX7 0 rfl 0 rfl 2 (Nat.le_of_ble_eq_true rfl) zfX7_22 (v := .ref (a 21)) rfl dX7_turn_43 ?_
      refine z_aload_n 1 rfl rfl dX7_turn_46 ?_
      refine z_get zcX7 0 rfl 0 rfl 0 (Nat.le_of_ble_eq_true rfl) zfX7_10 (v := .ref (a 1)) rfl dX7_turn_47 ?_
      obtain ⟨r2, er2, h⟩ := zb h
      refine z_callVW (rest := []) hl (c_X2_keep l g (fun i => a (i + 21)) u.2.2.1 (fun i => a (i + 1)) u.1 _ er2) zyX2_keep zvX2_keep rfl zlX7_68 zcX2.1 ⟨_, _, rfl⟩ [(3, none), (4, none), (5, none), (6, none), (7, none), (8, none), (9, none), (1, none)] rfl (by decide) rfl (w' := kX7 g a (u.1, u.2.1, r2, u.2.2.2.1, u.2.2.2.2)) rfl rfl rfl (by decide) (Nat.le_of_ble_eq_true rfl) ⟨Nat.zero_le _, Nat.zero_le _⟩ dX7_turn_50 (st2 := []) rfl ?_
      refine z_aload_n 1 rfl rfl dX7_turn_53 ?_
      refine z_get zcX7 0 rfl 0 rfl 0 (Nat.le_of_ble_eq_true rfl) zfX7_10 (v := .ref (a 1)) rfl dX7_turn_54 ?_
      refine z_iload_n 2 rfl rfl dX7_turn_57 ?_
      refine z_iload_n 0 rfl rfl dX7_turn_58 ?_
      obtain ⟨r3, er3, h⟩ := zb h
      refine z_callVW (rest := []) hl (c_X6_goTo l g (fun i => a (i + 1)) u.1 p0 r1 _ (Option.some.inj er3)) zyX6_goTo zvX6_goTo rfl zlX7_109 zcX6.1 ⟨_, _, rfl⟩ [(1, none)] rfl (by decide) rfl (w' := kX7 g a (r3, u.2.1, r2, u.2.2.2.1, u.2.2.2.2)) rfl rfl rfl (by decide) (Nat.le_of_ble_eq_true rfl) ⟨Nat.zero_le _, Nat.zero_le _⟩ dX7_turn_59 (st2 := []) rfl ?_
      refine z_iload_n 0 rfl rfl dX7_turn_62 ?_
      cases h
      try dsimp only at hQ hT
      exact z_iret dX7_turn_63 (hQ _ rfl)
    · replace h := (if_pos c29).symm.trans h
      cases h
      try dsimp only at hQ hT
      exact z_throw (rest := []) (is := 107) (by rw [hl]; exact hls) hE htab hmc hms (hT zISE rfl) zxzISE (List.mem_of_getElem? (i := 6) rfl) (Nat.le_of_ble_eq_true rfl) (Nat.le_of_ble_eq_true rfl) (Nat.le_refl _) (Nat.le_refl _) dX7_turn_32 dX7_turn_35 dX7_turn_36 dX7_turn_38 dX7_turn_41
  · replace h := (if_neg c4).symm.trans h
    cases h
    try dsimp only at hQ hT
    exact z_throw (rest := []) (is := 46) (by rw [hl]; exact hls) hE htab hmc hms (hT zIOB rfl) zxzIOB (List.mem_of_getElem? (i := 0) rfl) (Nat.le_of_ble_eq_true rfl) (Nat.le_of_ble_eq_true rfl) (Nat.le_refl _) (Nat.le_refl _) dX7_turn_7 dX7_turn_10 dX7_turn_11 dX7_turn_13 dX7_turn_16
set_option maxHeartbeats 400000 in
set_option maxRecDepth 100000 in
theorem c_X7_jam (l : Launch) (hls : l.stackTraces = false) (g : zG) (a : Nat → Nat) (u : tX7) (p0 : Int32) (p1 : Bool) (r : (Int32 ⊕ Nat) × tX7) (h : f_X7_jam u p0 p1 = some r) : CtrX l g true zEx yX7_jam cX7_jam 4 (some .int) 6 125 1 6 [.ref (a 0), .int p0, .int (b2i p1)] (kX7 g a u) (kX7 g a r.2) (zo r.1) := by
  refine ctrx_of (by decide) (Nat.le_of_ble_eq_true rfl) (fun X hl hmc hms htab hE hQ hT => ?_)
  unfold f_X7_jam at h
  refine z_lv (lv' := [(0, .ref (a 0)), (1, .int p0), (2, .int (b2i p1))]) [0, 1, 2] rfl ?_
  refine z_iload_n 1 rfl rfl dX7_jam_0 ?_
  refine z_callSR (rest := []) hl (c_X7_isDrawer l g p0 _ rfl) zyX7_isDrawer zsX7_isDrawer zlX7_40 [] rfl rfl rfl (by decide) (Nat.le_of_ble_eq_true rfl) ⟨Nat.zero_le _, Nat.zero_le _⟩ dX7_jam_1 (st2 := [.int (b2i (f_X7_isDrawer p0))]) rfl ?_
  refine z_ifB_ne (tgt := 17) rfl dX7_jam_4 (fun c4 => ?_) (fun c4 => ?_)
  · replace h := (if_pos c4).symm.trans h
    refine z_aload_n 0 rfl rfl dX7_jam_17 ?_
    refine z_get zcX7 0 rfl 0 rfl 2 (Nat.le_of_ble_eq_true rfl) zfX7_22 (v := .ref (a 21)) rfl dX7_jam_18 ?_
    refine z_aload_n 0 rfl rfl dX7_jam_21 ?_
    refine z_get zcX7 0 rfl 0 rfl 0 (Nat.le_of_ble_eq_true rfl) zfX7_10 (v := .ref (a 1)) rfl dX7_jam_22 ?_
    obtain ⟨r1, er1, h⟩ := zb h
    refine z_callVW (rest := []) hl (c_X2_keep l g (fun i => a (i + 21)) u.2.2.1 (fun i => a (i + 1)) u.1 _ er1) zyX2_keep zvX2_keep rfl zlX7_68 zcX2.1 ⟨_, _, rfl⟩ [(3, none), (4, none), (5, none), (6, none), (7, none), (8, none), (9, none), (1, none)] rfl (by decide) rfl (w' := kX7 g a (u.1, u.2.1, r1, u.2.2.2.1, u.2.2.2.2)) rfl rfl rfl (by decide) (Nat.le_of_ble_eq_true rfl) ⟨Nat.zero_le _, Nat.zero_le _⟩ dX7_jam_25 (st2 := []) rfl ?_
    refine z_aload_n 0 rfl rfl dX7_jam_28 ?_
    refine z_get zcX7 0 rfl 0 rfl 0 (Nat.le_of_ble_eq_true rfl) zfX7_10 (v := .ref (a 1)) rfl dX7_jam_29 ?_
    refine z_get zcX6 1 rfl 0 rfl 2 (Nat.le_of_ble_eq_true rfl) zfX7_113 (v := .ref (a 9)) rfl dX7_jam_32 ?_
    refine z_iload_n 1 rfl rfl dX7_jam_35 ?_
    refine z_callSR (rest := []) hl (c_X7_at l g (a 9) 12 (by decide) u.1.2.2.1 p0 _ rfl) zyX7_at zsX7_at zlX7_117 [(1, some (8, 1))] rfl rfl rfl (by decide) (Nat.le_of_ble_eq_true rfl) ⟨Nat.zero_le _, Nat.zero_le _⟩ dX7_jam_36 (st2 := [.int (f_X7_at 12 u.1.2.2.1 p0)]) rfl ?_
    refine z_istore_n [(3, .int (f_X7_at 12 u.1.2.2.1 p0)), (0, .ref (a 0)), (1, .int p0), (2, .int (b2i p1))] rfl (Nat.le_of_ble_eq_true rfl) rfl dX7_jam_39 ?_
    refine z_aload_n 1 rfl rfl dX7_jam_40 ?_
    refine z_get zcX7 0 rfl 0 rfl 0 (Nat.le_of_ble_eq_true rfl) zfX7_10 (v := .ref (a 1)) rfl dX7_jam_41 ?_
    refine z_get zcX6 1 rfl 0 rfl 2 (Nat.le_of_ble_eq_true rfl) zfX7_113 (v := .ref (a 9)) rfl dX7_jam_44 ?_
    refine z_iload_n 2 rfl rfl dX7_jam_47 ?_
    refine z_iload_n 3 rfl rfl dX7_jam_48 ?_
    refine z_ifB_eq (tgt := 56) rfl dX7_jam_49 (fun c49 => ?_) (fun c49 => ?_)
    · replace h := (if_neg c49).symm.trans h
      refine z_iconst (v := 0) (by decide) dX7_jam_56 ?_
      obtain ⟨r2, er2, h⟩ := zb h
      refine z_callSW (rest := []) hl (c_X7_write l g (a 9) 12 (by decide) u.1.2.2.1 p0 0 _ (Option.some.inj er2)) zyX7_write zsX7_write zlX7_121 [(1, some (8, 1))] rfl (by decide) rfl (w' := kX7 g a ((u.1.1, u.1.2.1, r2, u.1.2.2.2.1, u.1.2.2.2.2.1, u.1.2.2.2.2.2.1, u.1.2.2.2.2.2.2.1, u.1.2.2.2.2.2.2.2.1, u.1.2.2.2.2.2.2.2.2), u.2.1, r1, u.2.2.2.1, u.2.2.2.2)) rfl rfl rfl (by decide) (Nat.le_of_ble_eq_true rfl) ⟨Nat.zero_le _, Nat.zero_le _⟩ dX7_jam_57 (st2 := []) rfl ?_
      refine z_iload_n 0 rfl rfl dX7_jam_60 ?_
      cases h
      try dsimp only at hQ hT
      exact z_iret dX7_jam_61 (hQ _ rfl)
    · replace h := (if_pos c49).symm.trans h
      refine z_iconst (v := 1) (by decide) dX7_jam_52 ?_
      refine z_goto (tgt := 57) rfl dX7_jam_53 ?_
      obtain ⟨r3, er3, h⟩ := zb h
      refine z_callSW (rest := []) hl (c_X7_write l g (a 9) 12 (by decide) u.1.2.2.1 p0 1 _ (Option.some.inj er3)) zyX7_write zsX7_write zlX7_121 [(1, some (8, 1))] rfl (by decide) rfl (w' := kX7 g a ((u.1.1, u.1.2.1, r3, u.1.2.2.2.1, u.1.2.2.2.2.1, u.1.2.2.2.2.2.1, u.1.2.2.2.2.2.2.1, u.1.2.2.2.2.2.2.2.1, u.1.2.2.2.2.2.2.2.2), u.2.1, r1, u.2.2.2.1, u.2.2.2.2)) rfl rfl rfl (by decide) (Nat.le_of_ble_eq_true rfl) ⟨Nat.zero_le _, Nat.zero_le _⟩ dX7_jam_57 (st2 := []) rfl ?_
      refine z_iload_n 0 rfl rfl dX7_jam_60 ?_
      cases h
      try dsimp only at hQ hT
      exact z_iret dX7_jam_61 (hQ _ rfl)
  · replace h := (if_neg c4).symm.trans h
    cases h
    try dsimp only at hQ hT
    exact z_throw (rest := []) (is := 46) (by rw [hl]; exact hls) hE htab hmc hms (hT zIOB rfl) zxzIOB (List.mem_of_getElem? (i := 0) rfl) (Nat.le_of_ble_eq_true rfl) (Nat.le_of_ble_eq_true rfl) (Nat.le_refl _) (Nat.le_refl _) dX7_jam_7 dX7_jam_10 dX7_jam_11 dX7_jam_13 dX7_jam_16
set_option maxHeartbeats 400000 in
set_option maxRecDepth 100000 in
theorem c_X7_set (l : Launch) (hls : l.stackTraces = false) (g : zG) (a : Nat → Nat) (u : tX7) (p0 : Int32) (p1 : Int32) (r : (Int32 ⊕ Nat) × tX7) (h : f_X7_set u p0 p1 = some r) : CtrX l g true zEx yX7_set cX7_set 4 (some .int) 6 125 1 6 [.ref (a 0), .int p0, .int p1] (kX7 g a u) (kX7 g a r.2) (zo r.1) := by
  refine ctrx_of (by decide) (Nat.le_of_ble_eq_true rfl) (fun X hl hmc hms htab hE hQ hT => ?_)
  obtain ⟨tL, sL, aL⟩ := hE.2.2.2.2.2.1
  obtain ⟨tG, sG, aG⟩ := hE.2.2.2.2.2.2.1
  unfold f_X7_set at h
  refine z_lv (lv' := [(0, .ref (a 0)), (1, .int p0), (2, .int p1)]) [0, 1, 2] rfl ?_
  refine z_iload_n 1 rfl rfl dX7_set_0 ?_
  refine z_callSR (rest := []) hl (c_X7_isSetting l g p0 _ rfl) zyX7_isSetting zsX7_isSetting zlX7_125 [] rfl rfl rfl (by decide) (Nat.le_of_ble_eq_true rfl) ⟨Nat.zero_le _, Nat.zero_le _⟩ dX7_set_1 (st2 := [.int (b2i (f_X7_isSetting p0))]) rfl ?_
  refine z_ifB_ne (tgt := 17) rfl dX7_set_4 (fun c4 => ?_) (fun c4 => ?_)
  · replace h := (if_pos c4).symm.trans h
    refine z_iload_n 2 rfl rfl dX7_set_17 ?_
    refine z_gets sL zfX7_130 dX7_set_18 ?_
    refine z_iload_n 1 rfl rfl dX7_set_21 ?_
    refine z_callSE (E := zTa tL zLeast) (rest := [.int p1]) (zTa_st _ _) (zTa_st _ _) aL (fun _ _ _ h => h) hl (c_X7_atE l g tL zLeast p0) zyX7_at zsX7_at zlX7_117 rfl rfl ⟨Nat.le_of_ble_eq_true rfl, Nat.le_of_ble_eq_true rfl⟩ (Nat.le_of_ble_eq_true rfl) ⟨Nat.zero_le _, Nat.zero_le _⟩ dX7_set_22 (st2 := [.int (f_X7_at 3 zLeast p0), .int p1]) rfl ?_
    refine z_icmp_lt (tgt := 39) rfl dX7_set_25 (fun c25 => ?_) (fun c25 => ?_)
    · replace h := (if_pos c25).symm.trans h
      cases h
      try dsimp only at hQ hT
      exact z_throw (rest := []) (is := 136) (by rw [hl]; exact hls) hE htab hmc hms (hT zIAE rfl) zxzIAE (List.mem_of_getElem? (i := 8) rfl) (Nat.le_of_ble_eq_true rfl) (Nat.le_of_ble_eq_true rfl) (Nat.le_refl _) (Nat.le_refl _) dX7_set_39 dX7_set_42 dX7_set_43 dX7_set_45 dX7_set_48
    · replace h := (if_neg c25).symm.trans h
      refine z_iload_n 2 rfl rfl dX7_set_28 ?_
      refine z_gets sG zfX7_133 dX7_set_29 ?_
      refine z_iload_n 1 rfl rfl dX7_set_32 ?_
      refine z_callSE (E := zTa tG zGreatest) (rest := [.int p1]) (zTa_st _ _) (zTa_st _ _) aG (fun _ _ _ h => h) hl (c_X7_atE l g tG zGreatest p0) zyX7_at zsX7_at zlX7_117 rfl rfl ⟨Nat.le_of_ble_eq_true rfl, Nat.le_of_ble_eq_true rfl⟩ (Nat.le_of_ble_eq_true rfl) ⟨Nat.zero_le _, Nat.zero_le _⟩ dX7_set_33 (st2 := [.int (f_X7_at 3 zGreatest p0), .int p1]) rfl ?_
      refine z_icmp_le (tgt := 49) rfl dX7_set_36 (fun c36 => ?_) (fun c36 => ?_)
      · replace h := (if_pos c36).symm.trans h
        refine z_iload_n 1 rfl rfl dX7_set_49 ?_
        refine z_iconst (v := 1) (by decide) dX7_set_50 ?_
        refine z_icmp_ne (tgt := 78) rfl dX7_set_51 (fun c51 => ?_) (fun c51 => ?_)
        · replace h := (if_neg c51).symm.trans h
          refine z_aload_n 0 rfl rfl dX7_set_78 ?_
          refine z_get zcX7 0 rfl 0 rfl 2 (Nat.le_of_ble_eq_true rfl) zfX7_22 (v := .ref (a 21)) rfl dX7_set_79 ?_
          refine z_aload_n 0 rfl rfl dX7_set_82 ?_
          refine z_get zcX7 0 rfl 0 rfl 0 (Nat.le_of_ble_eq_true rfl) zfX7_10 (v := .ref (a 1)) rfl dX7_set_83 ?_
          obtain ⟨r1, er1, h⟩ := zb h
          refine z_callVW (rest := []) hl (c_X2_keep l g (fun i => a (i + 21)) u.2.2.1 (fun i => a (i + 1)) u.1 _ er1) zyX2_keep zvX2_keep rfl zlX7_68 zcX2.1 ⟨_, _, rfl⟩ [(3, none), (4, none), (5, none), (6, none), (7, none), (8, none), (9, none), (1, none)] rfl (by decide) rfl (w' := kX7 g a (u.1, u.2.1, r1, u.2.2.2.1, u.2.2.2.2)) rfl rfl rfl (by decide) (Nat.le_of_ble_eq_true rfl) ⟨Nat.zero_le _, Nat.zero_le _⟩ dX7_set_86 (st2 := []) rfl ?_
          refine z_aload_n 0 rfl rfl dX7_set_89 ?_
          refine z_get zcX7 0 rfl 0 rfl 0 (Nat.le_of_ble_eq_true rfl) zfX7_10 (v := .ref (a 1)) rfl dX7_set_90 ?_
          refine z_get zcX6 1 rfl 0 rfl 3 (Nat.le_of_ble_eq_true rfl) zfX7_150 (v := .ref (a 10)) rfl dX7_set_93 ?_
          refine z_iload_n 1 rfl rfl dX7_set_96 ?_
          refine z_callSR (rest := []) hl (c_X7_at l g (a 10) 3 (by decide) u.1.2.2.2.1 p0 _ rfl) zyX7_at zsX7_at zlX7_117 [(1, some (9, 1))] rfl rfl rfl (by decide) (Nat.le_of_ble_eq_true rfl) ⟨Nat.zero_le _, Nat.zero_le _⟩ dX7_set_97 (st2 := [.int (f_X7_at 3 u.1.2.2.2.1 p0)]) rfl ?_
          refine z_istore_n [(3, .int (f_X7_at 3 u.1.2.2.2.1 p0)), (0, .ref (a 0)), (1, .int p0), (2, .int p1)] rfl (Nat.le_of_ble_eq_true rfl) rfl dX7_set_100 ?_
          refine z_aload_n 1 rfl rfl dX7_set_101 ?_
          refine z_get zcX7 0 rfl 0 rfl 0 (Nat.le_of_ble_eq_true rfl) zfX7_10 (v := .ref (a 1)) rfl dX7_set_102 ?_
          refine z_get zcX6 1 rfl 0 rfl 3 (Nat.le_of_ble_eq_true rfl) zfX7_150 (v := .ref (a 10)) rfl dX7_set_105 ?_
          refine z_iload_n 2 rfl rfl dX7_set_108 ?_
          refine z_iload_n 3 rfl rfl dX7_set_109 ?_
          obtain ⟨r2, er2, h⟩ := zb h
          refine z_callSW (rest := []) hl (c_X7_write l g (a 10) 3 (by decide) u.1.2.2.2.1 p0 p1 _ (Option.some.inj er2)) zyX7_write zsX7_write zlX7_121 [(1, some (9, 1))] rfl (by decide) rfl (w' := kX7 g a ((u.1.1, u.1.2.1, u.1.2.2.1, r2, u.1.2.2.2.2.1, u.1.2.2.2.2.2.1, u.1.2.2.2.2.2.2.1, u.1.2.2.2.2.2.2.2.1, u.1.2.2.2.2.2.2.2.2), u.2.1, r1, u.2.2.2.1, u.2.2.2.2)) rfl rfl rfl (by decide) (Nat.le_of_ble_eq_true rfl) ⟨Nat.zero_le _, Nat.zero_le _⟩ dX7_set_110 (st2 := []) rfl ?_
          refine z_iload_n 0 rfl rfl dX7_set_113 ?_
          cases h
          try dsimp only at hQ hT
          exact z_iret dX7_set_114 (hQ _ rfl)
        · replace h := (if_pos c51).symm.trans h
          refine z_aload_n 0 rfl rfl dX7_set_54 ?_
          refine z_get zcX7 0 rfl 0 rfl 0 (Nat.le_of_ble_eq_true rfl) zfX7_10 (v := .ref (a 1)) rfl dX7_set_55 ?_
          refine z_get zcX6 1 rfl 0 rfl 0 (Nat.le_of_ble_eq_true rfl) zfX7_138 (v := .ref (a 2)) rfl dX7_set_58 ?_
          obtain ⟨r3, er3, h⟩ := zb h
          refine z_callVR (rest := []) hl (c_X0_greatestLoad l g (fun i => a (i + 2)) u.1.1 _ er3) zyX0_greatestLoad zvX0_greatestLoad rfl zlX7_142 zcX0.1 ⟨_, _, rfl⟩ [(1, some (1, 3))] rfl rfl rfl (by decide) (Nat.le_of_ble_eq_true rfl) ⟨Nat.zero_le _, Nat.zero_le _⟩ dX7_set_61 (st2 := [.int r3]) rfl ?_
          refine z_iload_n 2 rfl rfl dX7_set_64 ?_
          refine z_icmp_le (tgt := 78) rfl dX7_set_65 (fun c65 => ?_) (fun c65 => ?_)
          · replace h := (if_pos c65).symm.trans h
            refine z_aload_n 0 rfl rfl dX7_set_78 ?_
            refine z_get zcX7 0 rfl 0 rfl 2 (Nat.le_of_ble_eq_true rfl) zfX7_22 (v := .ref (a 21)) rfl dX7_set_79 ?_
            refine z_aload_n 0 rfl rfl dX7_set_82 ?_
            refine z_get zcX7 0 rfl 0 rfl 0 (Nat.le_of_ble_eq_true rfl) zfX7_10 (v := .ref (a 1)) rfl dX7_set_83 ?_
            obtain ⟨r4, er4, h⟩ := zb h
            refine z_callVW (rest := []) hl (c_X2_keep l g (fun i => a (i + 21)) u.2.2.1 (fun i => a (i + 1)) u.1 _ er4) zyX2_keep zvX2_keep rfl zlX7_68 zcX2.1 ⟨_, _, rfl⟩ [(3, none), (4, none), (5, none), (6, none), (7, none), (8, none), (9, none), (1, none)] rfl (by decide) rfl (w' := kX7 g a (u.1, u.2.1, r4, u.2.2.2.1, u.2.2.2.2)) rfl rfl rfl (by decide) (Nat.le_of_ble_eq_true rfl) ⟨Nat.zero_le _, Nat.zero_le _⟩ dX7_set_86 (st2 := []) rfl ?_
            refine z_aload_n 0 rfl rfl dX7_set_89 ?_
            refine z_get zcX7 0 rfl 0 rfl 0 (Nat.le_of_ble_eq_true rfl) zfX7_10 (v := .ref (a 1)) rfl dX7_set_90 ?_
            refine z_get zcX6 1 rfl 0 rfl 3 (Nat.le_of_ble_eq_true rfl) zfX7_150 (v := .ref (a 10)) rfl dX7_set_93 ?_
            refine z_iload_n 1 rfl rfl dX7_set_96 ?_
            refine z_callSR (rest := []) hl (c_X7_at l g (a 10) 3 (by decide) u.1.2.2.2.1 p0 _ rfl) zyX7_at zsX7_at zlX7_117 [(1, some (9, 1))] rfl rfl rfl (by decide) (Nat.le_of_ble_eq_true rfl) ⟨Nat.zero_le _, Nat.zero_le _⟩ dX7_set_97 (st2 := [.int (f_X7_at 3 u.1.2.2.2.1 p0)]) rfl ?_
            refine z_istore_n [(3, .int (f_X7_at 3 u.1.2.2.2.1 p0)), (0, .ref (a 0)), (1, .int p0), (2, .int p1)] rfl (Nat.le_of_ble_eq_true rfl) rfl dX7_set_100 ?_
            refine z_aload_n 1 rfl rfl dX7_set_101 ?_
            refine z_get zcX7 0 rfl 0 rfl 0 (Nat.le_of_ble_eq_true rfl) zfX7_10 (v := .ref (a 1)) rfl dX7_set_102 ?_
            refine z_get zcX6 1 rfl 0 rfl 3 (Nat.le_of_ble_eq_true rfl) zfX7_150 (v := .ref (a 10)) rfl dX7_set_105 ?_
            refine z_iload_n 2 rfl rfl dX7_set_108 ?_
            refine z_iload_n 3 rfl rfl dX7_set_109 ?_
            obtain ⟨r5, er5, h⟩ := zb h
            refine z_callSW (rest := []) hl (c_X7_write l g (a 10) 3 (by decide) u.1.2.2.2.1 p0 p1 _ (Option.some.inj er5)) zyX7_write zsX7_write zlX7_121 [(1, some (9, 1))] rfl (by decide) rfl (w' := kX7 g a ((u.1.1, u.1.2.1, u.1.2.2.1, r5, u.1.2.2.2.2.1, u.1.2.2.2.2.2.1, u.1.2.2.2.2.2.2.1, u.1.2.2.2.2.2.2.2.1, u.1.2.2.2.2.2.2.2.2), u.2.1, r4, u.2.2.2.1, u.2.2.2.2)) rfl rfl rfl (by decide) (Nat.le_of_ble_eq_true rfl) ⟨Nat.zero_le _, Nat.zero_le _⟩ dX7_set_110 (st2 := []) rfl ?_
            refine z_iload_n 0 rfl rfl dX7_set_113 ?_
            cases h
            try dsimp only at hQ hT
            exact z_iret dX7_set_114 (hQ _ rfl)
          · replace h := (if_neg c65).symm.trans h
            cases h
            try dsimp only at hQ hT
            exact z_throw (rest := []) (is := 148) (by rw [hl]; exact hls) hE htab hmc hms (hT zISE rfl) zxzISE (List.mem_of_getElem? (i := 9) rfl) (Nat.le_of_ble_eq_true rfl) (Nat.le_of_ble_eq_true rfl) (Nat.le_refl _) (Nat.le_refl _) dX7_set_68 dX7_set_71 dX7_set_72 dX7_set_74 dX7_set_77
      · replace h := (if_neg c36).symm.trans h
        cases h
        try dsimp only at hQ hT
        exact z_throw (rest := []) (is := 136) (by rw [hl]; exact hls) hE htab hmc hms (hT zIAE rfl) zxzIAE (List.mem_of_getElem? (i := 8) rfl) (Nat.le_of_ble_eq_true rfl) (Nat.le_of_ble_eq_true rfl) (Nat.le_refl _) (Nat.le_refl _) dX7_set_39 dX7_set_42 dX7_set_43 dX7_set_45 dX7_set_48
  · replace h := (if_neg c4).symm.trans h
    cases h
    try dsimp only at hQ hT
    exact z_throw (rest := []) (is := 128) (by rw [hl]; exact hls) hE htab hmc hms (hT zIOB rfl) zxzIOB (List.mem_of_getElem? (i := 7) rfl) (Nat.le_of_ble_eq_true rfl) (Nat.le_of_ble_eq_true rfl) (Nat.le_refl _) (Nat.le_refl _) dX7_set_7 dX7_set_10 dX7_set_11 dX7_set_13 dX7_set_16
set_option maxHeartbeats 400000 in
set_option maxRecDepth 100000 in
theorem c_X7_append (l : Launch) (hls : l.stackTraces = false) (g : zG) (a : Nat → Nat) (u : tX7) (p0 : Int32) (r : (Int32 ⊕ Nat) × tX7) (h : f_X7_append u p0 = some r) : CtrX l g true zEx yX7_append cX7_append 2 (some .int) 6 82 1 6 [.ref (a 0), .int p0] (kX7 g a u) (kX7 g a r.2) (zo r.1) := by
  refine ctrx_of (by decide) (Nat.le_of_ble_eq_true rfl) (fun X hl hmc hms htab hE hQ hT => ?_)
  unfold f_X7_append at h
  refine z_lv (lv' := [(0, .ref (a 0)), (1, .int p0)]) [0, 1] rfl ?_
  refine z_iload_n 1 rfl rfl dX7_append_0 ?_
  refine z_bipush (v := 33) (by decide) dX7_append_1 ?_
  refine z_icmp_lt (tgt := 12) rfl dX7_append_3 (fun c3 => ?_) (fun c3 => ?_)
  · replace h := (if_pos c3).symm.trans h
    cases h
    try dsimp only at hQ hT
    exact z_throw (rest := []) (is := 153) (by rw [hl]; exact hls) hE htab hmc hms (hT zIAE rfl) zxzIAE (List.mem_of_getElem? (i := 10) rfl) (Nat.le_of_ble_eq_true rfl) (Nat.le_of_ble_eq_true rfl) (Nat.le_refl _) (Nat.le_refl _) dX7_append_12 dX7_append_15 dX7_append_16 dX7_append_18 dX7_append_21
  · replace h := (if_neg c3).symm.trans h
    refine z_iload_n 1 rfl rfl dX7_append_6 ?_
    refine z_bipush (v := 126) (by decide) dX7_append_7 ?_
    refine z_icmp_le (tgt := 22) rfl dX7_append_9 (fun c9 => ?_) (fun c9 => ?_)
    · replace h := (if_pos c9).symm.trans h
      refine z_aload_n 0 rfl rfl dX7_append_22 ?_
      refine z_get zcX7 0 rfl 0 rfl 3 (Nat.le_of_ble_eq_true rfl) zfX7_29 (v := .ref (a 83)) rfl dX7_append_23 ?_
      refine z_get zcX1 10 rfl 0 rfl 1 (Nat.le_of_ble_eq_true rfl) zfX7_155 (v := .int u.2.2.2.1.2.1) rfl dX7_append_26 ?_
      refine z_bipush (v := 60) (by decide) dX7_append_29 ?_
      refine z_icmp_lt (tgt := 44) rfl dX7_append_31 (fun c31 => ?_) (fun c31 => ?_)
      · replace h := (if_pos c31).symm.trans h
        refine z_aload_n 0 rfl rfl dX7_append_44 ?_
        refine z_get zcX7 0 rfl 0 rfl 3 (Nat.le_of_ble_eq_true rfl) zfX7_29 (v := .ref (a 83)) rfl dX7_append_45 ?_
        refine z_iload_n 1 rfl rfl dX7_append_48 ?_
        obtain ⟨r1, er1, h⟩ := zb h
        refine z_callVW (rest := []) hl (c_X1_addSign l g (fun i => a (i + 83)) u.2.2.2.1 p0 _ er1) zyX1_addSign zvX1_addSign rfl zlX7_161 zcX1.1 ⟨_, _, rfl⟩ [(10, none)] rfl (by decide) rfl (w' := kX7 g a (u.1, u.2.1, u.2.2.1, r1, u.2.2.2.2)) rfl rfl rfl (by decide) (Nat.le_of_ble_eq_true rfl) ⟨Nat.zero_le _, Nat.zero_le _⟩ dX7_append_49 (st2 := []) rfl ?_
        refine z_aload_n 0 rfl rfl dX7_append_52 ?_
        refine z_get zcX7 0 rfl 0 rfl 3 (Nat.le_of_ble_eq_true rfl) zfX7_29 (v := .ref (a 83)) rfl dX7_append_53 ?_
        refine z_get zcX1 10 rfl 0 rfl 1 (Nat.le_of_ble_eq_true rfl) zfX7_155 (v := .int r1.2.1) rfl dX7_append_56 ?_
        cases h
        try dsimp only at hQ hT
        exact z_iret dX7_append_59 (hQ _ rfl)
      · replace h := (if_neg c31).symm.trans h
        cases h
        try dsimp only at hQ hT
        exact z_throw (rest := []) (is := 159) (by rw [hl]; exact hls) hE htab hmc hms (hT zISE rfl) zxzISE (List.mem_of_getElem? (i := 11) rfl) (Nat.le_of_ble_eq_true rfl) (Nat.le_of_ble_eq_true rfl) (Nat.le_refl _) (Nat.le_refl _) dX7_append_34 dX7_append_37 dX7_append_38 dX7_append_40 dX7_append_43
    · replace h := (if_neg c9).symm.trans h
      cases h
      try dsimp only at hQ hT
      exact z_throw (rest := []) (is := 153) (by rw [hl]; exact hls) hE htab hmc hms (hT zIAE rfl) zxzIAE (List.mem_of_getElem? (i := 10) rfl) (Nat.le_of_ble_eq_true rfl) (Nat.le_of_ble_eq_true rfl) (Nat.le_refl _) (Nat.le_refl _) dX7_append_12 dX7_append_15 dX7_append_16 dX7_append_18 dX7_append_21
set_option maxHeartbeats 400000 in
set_option maxRecDepth 100000 in
theorem c_X7_pickAll (l : Launch) (hls : l.stackTraces = false) (g : zG) (a : Nat → Nat) (u : tX7) (r : (Int32 ⊕ Nat) × tX7) (h : f_X7_pickAll u = some r) : CtrX l g true zEx yX7_pickAll cX7_pickAll 2 (some .int) 6 154 1 6 [.ref (a 0)] (kX7 g a u) (kX7 g a r.2) (zo r.1) := by
  refine ctrx_of (by decide) (Nat.le_of_ble_eq_true rfl) (fun X hl hmc hms htab hE hQ hT => ?_)
  unfold f_X7_pickAll at h
  refine z_lv (lv' := [(0, .ref (a 0))]) [0] rfl ?_
  refine z_aload_n 0 rfl rfl dX7_pickAll_0 ?_
  refine z_get zcX7 0 rfl 0 rfl 3 (Nat.le_of_ble_eq_true rfl) zfX7_29 (v := .ref (a 83)) rfl dX7_pickAll_1 ?_
  obtain ⟨r1, er1, h⟩ := zb h
  refine z_callVW (rest := []) hl (c_X1_readBatch l g (fun i => a (i + 83)) u.2.2.2.1 _ er1) zyX1_readBatch zvX1_readBatch rfl zlX7_168 zcX1.1 ⟨_, _, rfl⟩ [(10, none)] rfl (by decide) rfl (w' := kX7 g a (u.1, u.2.1, u.2.2.1, r1.2, u.2.2.2.2)) rfl rfl rfl (by decide) (Nat.le_of_ble_eq_true rfl) ⟨Nat.zero_le _, Nat.zero_le _⟩ dX7_pickAll_4 (st2 := [.int (b2i r1.1)]) rfl ?_
  refine z_ifB_ne (tgt := 20) rfl dX7_pickAll_7 (fun c7 => ?_) (fun c7 => ?_)
  · replace h := (if_pos c7).symm.trans h
    refine z_aload_n 0 rfl rfl dX7_pickAll_20 ?_
    refine z_get zcX7 0 rfl 0 rfl 2 (Nat.le_of_ble_eq_true rfl) zfX7_22 (v := .ref (a 21)) rfl dX7_pickAll_21 ?_
    refine z_aload_n 0 rfl rfl dX7_pickAll_24 ?_
    refine z_get zcX7 0 rfl 0 rfl 0 (Nat.le_of_ble_eq_true rfl) zfX7_10 (v := .ref (a 1)) rfl dX7_pickAll_25 ?_
    obtain ⟨r2, er2, h⟩ := zb h
    refine z_callVW (rest := []) hl (c_X2_keep l g (fun i => a (i + 21)) u.2.2.1 (fun i => a (i + 1)) u.1 _ er2) zyX2_keep zvX2_keep rfl zlX7_68 zcX2.1 ⟨_, _, rfl⟩ [(3, none), (4, none), (5, none), (6, none), (7, none), (8, none), (9, none), (1, none)] rfl (by decide) rfl (w' := kX7 g a (u.1, u.2.1, r2, r1.2, u.2.2.2.2)) rfl rfl rfl (by decide) (Nat.le_of_ble_eq_true rfl) ⟨Nat.zero_le _, Nat.zero_le _⟩ dX7_pickAll_28 (st2 := []) rfl ?_
    refine z_aload_n 0 rfl rfl dX7_pickAll_31 ?_
    refine z_get zcX7 0 rfl 0 rfl 4 (Nat.le_of_ble_eq_true rfl) zfX7_36 (v := .ref (a 86)) rfl dX7_pickAll_32 ?_
    refine z_aload_n 0 rfl rfl dX7_pickAll_35 ?_
    refine z_get zcX7 0 rfl 0 rfl 0 (Nat.le_of_ble_eq_true rfl) zfX7_10 (v := .ref (a 1)) rfl dX7_pickAll_36 ?_
    refine z_aload_n 0 rfl rfl dX7_pickAll_39 ?_
    refine z_get zcX7 0 rfl 0 rfl 3 (Nat.le_of_ble_eq_true rfl) zfX7_29 (v := .ref (a 83)) rfl dX7_pickAll_40 ?_
    refine z_get zcX1 10 rfl 0 rfl 2 (Nat.le_of_ble_eq_true rfl) zfX7_174 (v := .ref (a 85)) rfl dX7_pickAll_43 ?_
    refine z_aload_n 0 rfl rfl dX7_pickAll_46 ?_
    refine z_get zcX7 0 rfl 0 rfl 3 (Nat.le_of_ble_eq_true rfl) zfX7_29 (v := .ref (a 83)) rfl dX7_pickAll_47 ?_
    refine z_get zcX1 10 rfl 0 rfl 3 (Nat.le_of_ble_eq_true rfl) zfX7_177 (v := .int r1.2.2.2.2.1) rfl dX7_pickAll_50 ?_
    refine z_aload_n 0 rfl rfl dX7_pickAll_53 ?_
    refine z_get zcX7 0 rfl 0 rfl 0 (Nat.le_of_ble_eq_true rfl) zfX7_10 (v := .ref (a 1)) rfl dX7_pickAll_54 ?_
    refine z_get zcX6 1 rfl 0 rfl 3 (Nat.le_of_ble_eq_true rfl) zfX7_150 (v := .ref (a 10)) rfl dX7_pickAll_57 ?_
    refine z_iconst (v := 2) (by decide) dX7_pickAll_60 ?_
    refine z_callSR (rest := [.int r1.2.2.2.2.1, .ref (a 85), .ref (a 1), .ref (a 86)]) hl (c_X7_at l g (a 10) 3 (by decide) u.1.2.2.2.1 2 _ rfl) zyX7_at zsX7_at zlX7_117 [(1, some (9, 1))] rfl rfl rfl (by decide) (Nat.le_of_ble_eq_true rfl) ⟨Nat.zero_le _, Nat.zero_le _⟩ dX7_pickAll_61 (st2 := [.int (f_X7_at 3 u.1.2.2.2.1 2), .int r1.2.2.2.2.1, .ref (a 85), .ref (a 1), .ref (a 86)]) rfl ?_
    obtain ⟨r3, er3, h⟩ := zb h
    refine z_callVW (rest := []) hl (c_X5_pickBatch l g (fun i => a (i + 86)) u.2.2.2.2 (fun i => a (i + 1)) u.1 (a 85) r1.2.2.2.1 r1.2.2.2.2.1 (f_X7_at 3 u.1.2.2.2.1 2) _ er3) zyX5_pickBatch zvX5_pickBatch rfl zlX7_180 zcX5.1 ⟨_, _, rfl⟩ [(11, none), (12, none), (1, none), (10, some (2, 1))] rfl (by decide) rfl (w' := kX7 g a (r3.2.2, u.2.1, r2, r1.2, r3.2.1)) rfl rfl rfl (by decide) (Nat.le_of_ble_eq_true rfl) ⟨Nat.zero_le _, Nat.zero_le _⟩ dX7_pickAll_64 (st2 := [.int r3.1]) rfl ?_
    refine z_istore_n [(1, .int r3.1), (0, .ref (a 0))] rfl (Nat.le_of_ble_eq_true rfl) rfl dX7_pickAll_67 ?_
    refine z_aload_n 1 rfl rfl dX7_pickAll_68 ?_
    refine z_get zcX7 0 rfl 0 rfl 3 (Nat.le_of_ble_eq_true rfl) zfX7_29 (v := .ref (a 83)) rfl dX7_pickAll_69 ?_
    refine z_iconst (v := 0) (by decide) dX7_pickAll_72 ?_
    refine z_put (t := .int) (kX7 g a (r3.2.2, u.2.1, r2, (r1.2.1, 0, r1.2.2.2.1, r1.2.2.2.2.1, r1.2.2.2.2.2.1, r1.2.2.2.2.2.2), r3.2.1)) zcX1 10 rfl 0 rfl 1 (Nat.le_of_ble_eq_true rfl) zfX7_155 zpX1_1 (zn_i _) (zf_i _) (Nat.le_of_ble_eq_true rfl) rfl dX7_pickAll_73 ?_
    refine z_iload_n 0 rfl rfl dX7_pickAll_76 ?_
    cases h
    try dsimp only at hQ hT
    exact z_iret dX7_pickAll_77 (hQ _ rfl)
  · replace h := (if_neg c7).symm.trans h
    cases h
    try dsimp only at hQ hT
    exact z_throw (rest := []) (is := 172) (by rw [hl]; exact hls) hE htab hmc hms (hT zIAE rfl) zxzIAE (List.mem_of_getElem? (i := 12) rfl) (Nat.le_of_ble_eq_true rfl) (Nat.le_of_ble_eq_true rfl) (Nat.le_refl _) (Nat.le_refl _) dX7_pickAll_10 dX7_pickAll_13 dX7_pickAll_14 dX7_pickAll_16 dX7_pickAll_19
set_option maxHeartbeats 400000 in
set_option maxRecDepth 100000 in
theorem c_X7_undo (l : Launch) (hls : l.stackTraces = false) (g : zG) (a : Nat → Nat) (u : tX7) (r : (Int32 ⊕ Nat) × tX7) (h : f_X7_undo u = some r) : CtrX l g true zEx yX7_undo cX7_undo 1 (some .int) 6 125 1 6 [.ref (a 0)] (kX7 g a u) (kX7 g a r.2) (zo r.1) := by
  refine ctrx_of (by decide) (Nat.le_of_ble_eq_true rfl) (fun X hl hmc hms htab hE hQ hT => ?_)
  unfold f_X7_undo at h
  refine z_lv (lv' := [(0, .ref (a 0))]) [0] rfl ?_
  refine z_aload_n 0 rfl rfl dX7_undo_0 ?_
  refine z_get zcX7 0 rfl 0 rfl 2 (Nat.le_of_ble_eq_true rfl) zfX7_22 (v := .ref (a 21)) rfl dX7_undo_1 ?_
  refine z_get zcX2 3 rfl 0 rfl 2 (Nat.le_of_ble_eq_true rfl) zfX7_184 (v := .int u.2.2.1.2.2) rfl dX7_undo_4 ?_
  refine z_if_ne (tgt := 20) rfl dX7_undo_7 (fun c7 => ?_) (fun c7 => ?_)
  · replace h := (if_neg c7).symm.trans h
    refine z_aload_n 0 rfl rfl dX7_undo_20 ?_
    refine z_get zcX7 0 rfl 0 rfl 2 (Nat.le_of_ble_eq_true rfl) zfX7_22 (v := .ref (a 21)) rfl dX7_undo_21 ?_
    refine z_aload_n 0 rfl rfl dX7_undo_24 ?_
    refine z_get zcX7 0 rfl 0 rfl 0 (Nat.le_of_ble_eq_true rfl) zfX7_10 (v := .ref (a 1)) rfl dX7_undo_25 ?_
    obtain ⟨r1, er1, h⟩ := zb h
    refine z_callVW (rest := []) hl (c_X2_restoreTo l g (fun i => a (i + 21)) u.2.2.1 (fun i => a (i + 1)) u.1 _ er1) zyX2_restoreTo zvX2_restoreTo rfl zlX7_189 zcX2.1 ⟨_, _, rfl⟩ [(3, none), (4, none), (5, none), (6, none), (7, none), (8, none), (9, none), (1, none)] rfl (by decide) rfl (w' := kX7 g a (r1.2, u.2.1, r1.1, u.2.2.2.1, u.2.2.2.2)) rfl rfl rfl (by decide) (Nat.le_of_ble_eq_true rfl) ⟨Nat.zero_le _, Nat.zero_le _⟩ dX7_undo_28 (st2 := []) rfl ?_
    refine z_aload_n 0 rfl rfl dX7_undo_31 ?_
    refine z_get zcX7 0 rfl 0 rfl 2 (Nat.le_of_ble_eq_true rfl) zfX7_22 (v := .ref (a 21)) rfl dX7_undo_32 ?_
    refine z_get zcX2 3 rfl 0 rfl 2 (Nat.le_of_ble_eq_true rfl) zfX7_184 (v := .int r1.1.2.2) rfl dX7_undo_35 ?_
    cases h
    try dsimp only at hQ hT
    exact z_iret dX7_undo_38 (hQ _ rfl)
  · replace h := (if_pos c7).symm.trans h
    cases h
    try dsimp only at hQ hT
    exact z_throw (rest := []) (is := 187) (by rw [hl]; exact hls) hE htab hmc hms (hT zISE rfl) zxzISE (List.mem_of_getElem? (i := 13) rfl) (Nat.le_of_ble_eq_true rfl) (Nat.le_of_ble_eq_true rfl) (Nat.le_refl _) (Nat.le_refl _) dX7_undo_10 dX7_undo_13 dX7_undo_14 dX7_undo_16 dX7_undo_19
set_option maxHeartbeats 400000 in
set_option maxRecDepth 100000 in
theorem c_X7_drawer (l : Launch) (hls : l.stackTraces = false) (g : zG) (a : Nat → Nat) (u : tX7) (p0 : Int32) (p1 : Int32) (r : (Int32 ⊕ Nat)) (h : f_X7_drawer u p0 p1 = some r) : CtrX l g false zEx yX7_drawer cX7_drawer 3 (some .int) 6 82 1 6 [.ref (a 0), .int p0, .int p1] (kX7 g a u) (kX7 g a u) (zo r) := by
  refine ctrx_of (by decide) (Nat.le_of_ble_eq_true rfl) (fun X hl hmc hms htab hE hQ hT => ?_)
  unfold f_X7_drawer at h
  refine z_lv (lv' := [(0, .ref (a 0)), (1, .int p0), (2, .int p1)]) [0, 1, 2] rfl ?_
  refine z_iload_n 1 rfl rfl dX7_drawer_0 ?_
  refine z_callSR (rest := []) hl (c_X7_isDrawer l g p0 _ rfl) zyX7_isDrawer zsX7_isDrawer zlX7_40 [] rfl rfl rfl (by decide) (Nat.le_of_ble_eq_true rfl) ⟨Nat.zero_le _, Nat.zero_le _⟩ dX7_drawer_1 (st2 := [.int (b2i (f_X7_isDrawer p0))]) rfl ?_
  refine z_ifB_ne (tgt := 17) rfl dX7_drawer_4 (fun c4 => ?_) (fun c4 => ?_)
  · replace h := (if_pos c4).symm.trans h
    refine z_iload_n 2 rfl rfl dX7_drawer_17 ?_
    refine z_if_lt (tgt := 27) rfl dX7_drawer_18 (fun c18 => ?_) (fun c18 => ?_)
    · replace h := (if_pos c18).symm.trans h
      cases h
      exact z_throw (rest := []) (is := 192) (by rw [hl]; exact hls) hE htab hmc hms (hT zIAE rfl) zxzIAE (List.mem_of_getElem? (i := 14) rfl) (Nat.le_of_ble_eq_true rfl) (Nat.le_of_ble_eq_true rfl) (Nat.le_refl _) (Nat.le_refl _) dX7_drawer_27 dX7_drawer_30 dX7_drawer_31 dX7_drawer_33 dX7_drawer_36
    · replace h := (if_neg c18).symm.trans h
      refine z_iload_n 2 rfl rfl dX7_drawer_21 ?_
      refine z_bipush (v := 6) (by decide) dX7_drawer_22 ?_
      refine z_icmp_lt (tgt := 37) rfl dX7_drawer_24 (fun c24 => ?_) (fun c24 => ?_)
      · replace h := (if_pos c24).symm.trans h
        refine z_aload_n 0 rfl rfl dX7_drawer_37 ?_
        refine z_get zcX7 0 rfl 0 rfl 0 (Nat.le_of_ble_eq_true rfl) zfX7_10 (v := .ref (a 1)) rfl dX7_drawer_38 ?_
        refine z_iload_n 1 rfl rfl dX7_drawer_41 ?_
        refine z_iload_n 2 rfl rfl dX7_drawer_42 ?_
        obtain ⟨r1, er1, h⟩ := zb h
        refine z_callVR (rest := []) hl (c_X6_drawerProperty l g (fun i => a (i + 1)) u.1 p0 p1 _ er1) zyX6_drawerProperty zvX6_drawerProperty rfl zlX7_194 zcX6.1 ⟨_, _, rfl⟩ [(1, none)] rfl rfl rfl (by decide) (Nat.le_of_ble_eq_true rfl) ⟨Nat.zero_le _, Nat.zero_le _⟩ dX7_drawer_43 (st2 := [.int r1]) rfl ?_
        cases h
        exact z_iret dX7_drawer_46 (hQ _ rfl)
      · replace h := (if_neg c24).symm.trans h
        cases h
        exact z_throw (rest := []) (is := 192) (by rw [hl]; exact hls) hE htab hmc hms (hT zIAE rfl) zxzIAE (List.mem_of_getElem? (i := 14) rfl) (Nat.le_of_ble_eq_true rfl) (Nat.le_of_ble_eq_true rfl) (Nat.le_refl _) (Nat.le_refl _) dX7_drawer_27 dX7_drawer_30 dX7_drawer_31 dX7_drawer_33 dX7_drawer_36
  · replace h := (if_neg c4).symm.trans h
    cases h
    exact z_throw (rest := []) (is := 46) (by rw [hl]; exact hls) hE htab hmc hms (hT zIOB rfl) zxzIOB (List.mem_of_getElem? (i := 0) rfl) (Nat.le_of_ble_eq_true rfl) (Nat.le_of_ble_eq_true rfl) (Nat.le_refl _) (Nat.le_refl _) dX7_drawer_7 dX7_drawer_10 dX7_drawer_11 dX7_drawer_13 dX7_drawer_16
set_option maxHeartbeats 400000 in
set_option maxRecDepth 100000 in
theorem c_X7_item (l : Launch) (hls : l.stackTraces = false) (g : zG) (a : Nat → Nat) (u : tX7) (p0 : Int32) (p1 : Int32) (r : (Int32 ⊕ Nat)) (h : f_X7_item u p0 p1 = some r) : CtrX l g false zEx yX7_item cX7_item 3 (some .int) 6 82 1 6 [.ref (a 0), .int p0, .int p1] (kX7 g a u) (kX7 g a u) (zo r) := by
  refine ctrx_of (by decide) (Nat.le_of_ble_eq_true rfl) (fun X hl hmc hms htab hE hQ hT => ?_)
  unfold f_X7_item at h
  refine z_lv (lv' := [(0, .ref (a 0)), (1, .int p0), (2, .int p1)]) [0, 1, 2] rfl ?_
  refine z_iload_n 1 rfl rfl dX7_item_0 ?_
  refine z_if_lt (tgt := 18) rfl dX7_item_1 (fun c1 => ?_) (fun c1 => ?_)
  · replace h := (if_pos c1).symm.trans h
    cases h
    exact z_throw (rest := []) (is := 200) (by rw [hl]; exact hls) hE htab hmc hms (hT zIOB rfl) zxzIOB (List.mem_of_getElem? (i := 15) rfl) (Nat.le_of_ble_eq_true rfl) (Nat.le_of_ble_eq_true rfl) (Nat.le_refl _) (Nat.le_refl _) dX7_item_18 dX7_item_21 dX7_item_22 dX7_item_24 dX7_item_27
  · replace h := (if_neg c1).symm.trans h
    refine z_iload_n 1 rfl rfl dX7_item_4 ?_
    refine z_aload_n 0 rfl rfl dX7_item_5 ?_
    refine z_get zcX7 0 rfl 0 rfl 0 (Nat.le_of_ble_eq_true rfl) zfX7_10 (v := .ref (a 1)) rfl dX7_item_6 ?_
    refine z_get zcX6 1 rfl 0 rfl 1 (Nat.le_of_ble_eq_true rfl) zfX7_76 (v := .ref (a 5)) rfl dX7_item_9 ?_
    refine z_get zcX3 1 rfl 4 rfl 4 (Nat.le_of_ble_eq_true rfl) zfX7_197 (v := .int u.1.2.1.2.2.2.2) rfl dX7_item_12 ?_
    refine z_icmp_lt (tgt := 28) rfl dX7_item_15 (fun c15 => ?_) (fun c15 => ?_)
    · replace h := (if_pos c15).symm.trans h
      refine z_iload_n 2 rfl rfl dX7_item_28 ?_
      refine z_if_lt (tgt := 37) rfl dX7_item_29 (fun c29 => ?_) (fun c29 => ?_)
      · replace h := (if_pos c29).symm.trans h
        cases h
        exact z_throw (rest := []) (is := 202) (by rw [hl]; exact hls) hE htab hmc hms (hT zIAE rfl) zxzIAE (List.mem_of_getElem? (i := 16) rfl) (Nat.le_of_ble_eq_true rfl) (Nat.le_of_ble_eq_true rfl) (Nat.le_refl _) (Nat.le_refl _) dX7_item_37 dX7_item_40 dX7_item_41 dX7_item_43 dX7_item_46
      · replace h := (if_neg c29).symm.trans h
        refine z_iload_n 2 rfl rfl dX7_item_32 ?_
        refine z_iconst (v := 2) (by decide) dX7_item_33 ?_
        refine z_icmp_lt (tgt := 47) rfl dX7_item_34 (fun c34 => ?_) (fun c34 => ?_)
        · replace h := (if_pos c34).symm.trans h
          refine z_aload_n 0 rfl rfl dX7_item_47 ?_
          refine z_get zcX7 0 rfl 0 rfl 0 (Nat.le_of_ble_eq_true rfl) zfX7_10 (v := .ref (a 1)) rfl dX7_item_48 ?_
          refine z_get zcX6 1 rfl 0 rfl 1 (Nat.le_of_ble_eq_true rfl) zfX7_76 (v := .ref (a 5)) rfl dX7_item_51 ?_
          refine z_iload_n 1 rfl rfl dX7_item_54 ?_
          refine z_iload_n 2 rfl rfl dX7_item_55 ?_
          obtain ⟨r1, er1, h⟩ := zb h
          refine z_callVR (rest := []) hl (c_X3_propertyOf l g (fun i => a (i + 5)) u.1.2.1 p0 p1 _ er1) zyX3_propertyOf zvX3_propertyOf rfl zlX7_204 zcX3.1 ⟨_, _, rfl⟩ [(1, some (4, 4))] rfl rfl rfl (by decide) (Nat.le_of_ble_eq_true rfl) ⟨Nat.zero_le _, Nat.zero_le _⟩ dX7_item_56 (st2 := [.int r1]) rfl ?_
          cases h
          exact z_iret dX7_item_59 (hQ _ rfl)
        · replace h := (if_neg c34).symm.trans h
          cases h
          exact z_throw (rest := []) (is := 202) (by rw [hl]; exact hls) hE htab hmc hms (hT zIAE rfl) zxzIAE (List.mem_of_getElem? (i := 16) rfl) (Nat.le_of_ble_eq_true rfl) (Nat.le_of_ble_eq_true rfl) (Nat.le_refl _) (Nat.le_refl _) dX7_item_37 dX7_item_40 dX7_item_41 dX7_item_43 dX7_item_46
    · replace h := (if_neg c15).symm.trans h
      cases h
      exact z_throw (rest := []) (is := 200) (by rw [hl]; exact hls) hE htab hmc hms (hT zIOB rfl) zxzIOB (List.mem_of_getElem? (i := 15) rfl) (Nat.le_of_ble_eq_true rfl) (Nat.le_of_ble_eq_true rfl) (Nat.le_refl _) (Nat.le_refl _) dX7_item_18 dX7_item_21 dX7_item_22 dX7_item_24 dX7_item_27
set_option maxHeartbeats 400000 in
set_option maxRecDepth 100000 in
theorem c_X7_count (l : Launch) (hls : l.stackTraces = false) (g : zG) (a : Nat → Nat) (u : tX7) (p0 : Int32) (r : (Int32 ⊕ Nat)) (h : f_X7_count u p0 = some r) : CtrX l g false zEx yX7_count cX7_count 2 (some .int) 6 111 1 6 [.ref (a 0), .int p0] (kX7 g a u) (kX7 g a u) (zo r) := by
  refine ctrx_of (by decide) (Nat.le_of_ble_eq_true rfl) (fun X hl hmc hms htab hE hQ hT => ?_)
  unfold f_X7_count at h
  refine z_lv (lv' := [(0, .ref (a 0)), (1, .int p0)]) [0, 1] rfl ?_
  refine z_iload_n 1 rfl rfl dX7_count_0 ?_
  refine z_if_lt (tgt := 10) rfl dX7_count_1 (fun c1 => ?_) (fun c1 => ?_)
  · replace h := (if_pos c1).symm.trans h
    cases h
    exact z_throw (rest := []) (is := 207) (by rw [hl]; exact hls) hE htab hmc hms (hT zIAE rfl) zxzIAE (List.mem_of_getElem? (i := 17) rfl) (Nat.le_of_ble_eq_true rfl) (Nat.le_of_ble_eq_true rfl) (Nat.le_refl _) (Nat.le_refl _) dX7_count_10 dX7_count_13 dX7_count_14 dX7_count_16 dX7_count_19
  · replace h := (if_neg c1).symm.trans h
    refine z_iload_n 1 rfl rfl dX7_count_4 ?_
    refine z_bipush (v := 11) (by decide) dX7_count_5 ?_
    refine z_icmp_lt (tgt := 20) rfl dX7_count_7 (fun c7 => ?_) (fun c7 => ?_)
    · replace h := (if_pos c7).symm.trans h
      refine z_aload_n 0 rfl rfl dX7_count_20 ?_
      refine z_iload_n 1 rfl rfl dX7_count_21 ?_
      obtain ⟨r1, er1, h⟩ := zb h
      refine z_callVR (rest := []) hl (c_X7_numberOf l g a u p0 _ er1) zyX7_numberOf zvX7_numberOf rfl zlX7_209 zcX7.1 ⟨_, _, rfl⟩ [(0, none), (1, none), (2, none), (3, none), (4, none), (5, none), (6, none), (7, none), (8, none), (9, none), (10, none), (11, none), (12, none)] rfl rfl rfl (by decide) (Nat.le_of_ble_eq_true rfl) ⟨Nat.zero_le _, Nat.zero_le _⟩ dX7_count_22 (st2 := [.int r1]) rfl ?_
      cases h
      exact z_iret dX7_count_25 (hQ _ rfl)
    · replace h := (if_neg c7).symm.trans h
      cases h
      exact z_throw (rest := []) (is := 207) (by rw [hl]; exact hls) hE htab hmc hms (hT zIAE rfl) zxzIAE (List.mem_of_getElem? (i := 17) rfl) (Nat.le_of_ble_eq_true rfl) (Nat.le_of_ble_eq_true rfl) (Nat.le_refl _) (Nat.le_refl _) dX7_count_10 dX7_count_13 dX7_count_14 dX7_count_16 dX7_count_19
set_option maxHeartbeats 400000 in
set_option maxRecDepth 100000 in
theorem c_X7_setting (l : Launch) (hls : l.stackTraces = false) (g : zG) (a : Nat → Nat) (u : tX7) (p0 : Int32) (r : (Int32 ⊕ Nat)) (h : f_X7_setting u p0 = r) : CtrX l g false zEx yX7_setting cX7_setting 2 (some .int) 6 82 1 6 [.ref (a 0), .int p0] (kX7 g a u) (kX7 g a u) (zo r) := by
  refine ctrx_of (by decide) (Nat.le_of_ble_eq_true rfl) (fun X hl hmc hms htab hE hQ hT => ?_)
  unfold f_X7_setting at h
  refine z_lv (lv' := [(0, .ref (a 0)), (1, .int p0)]) [0, 1] rfl ?_
  refine z_iload_n 1 rfl rfl dX7_setting_0 ?_
  refine z_callSR (rest := []) hl (c_X7_isSetting l g p0 _ rfl) zyX7_isSetting zsX7_isSetting zlX7_125 [] rfl rfl rfl (by decide) (Nat.le_of_ble_eq_true rfl) ⟨Nat.zero_le _, Nat.zero_le _⟩ dX7_setting_1 (st2 := [.int (b2i (f_X7_isSetting p0))]) rfl ?_
  refine z_ifB_ne (tgt := 17) rfl dX7_setting_4 (fun c4 => ?_) (fun c4 => ?_)
  · replace h := (if_pos c4).symm.trans h
    refine z_aload_n 0 rfl rfl dX7_setting_17 ?_
    refine z_get zcX7 0 rfl 0 rfl 0 (Nat.le_of_ble_eq_true rfl) zfX7_10 (v := .ref (a 1)) rfl dX7_setting_18 ?_
    refine z_get zcX6 1 rfl 0 rfl 3 (Nat.le_of_ble_eq_true rfl) zfX7_150 (v := .ref (a 10)) rfl dX7_setting_21 ?_
    refine z_iload_n 1 rfl rfl dX7_setting_24 ?_
    refine z_callSR (rest := []) hl (c_X7_at l g (a 10) 3 (by decide) u.1.2.2.2.1 p0 _ rfl) zyX7_at zsX7_at zlX7_117 [(1, some (9, 1))] rfl rfl rfl (by decide) (Nat.le_of_ble_eq_true rfl) ⟨Nat.zero_le _, Nat.zero_le _⟩ dX7_setting_25 (st2 := [.int (f_X7_at 3 u.1.2.2.2.1 p0)]) rfl ?_
    subst h
    exact z_iret dX7_setting_28 (hQ _ rfl)
  · replace h := (if_neg c4).symm.trans h
    subst h
    exact z_throw (rest := []) (is := 128) (by rw [hl]; exact hls) hE htab hmc hms (hT zIOB rfl) zxzIOB (List.mem_of_getElem? (i := 7) rfl) (Nat.le_of_ble_eq_true rfl) (Nat.le_of_ble_eq_true rfl) (Nat.le_refl _) (Nat.le_refl _) dX7_setting_7 dX7_setting_10 dX7_setting_11 dX7_setting_13 dX7_setting_16
set_option maxHeartbeats 400000 in
set_option maxRecDepth 100000 in
theorem c_X7_way (l : Launch) (hls : l.stackTraces = false) (g : zG) (a : Nat → Nat) (u : tX7) (p0 : Int32) (r : (Int32 ⊕ Nat)) (h : f_X7_way u p0 = some r) : CtrX l g false zEx yX7_way cX7_way 2 (some .int) 6 82 1 6 [.ref (a 0), .int p0] (kX7 g a u) (kX7 g a u) (zo r) := by
  refine ctrx_of (by decide) (Nat.le_of_ble_eq_true rfl) (fun X hl hmc hms htab hE hQ hT => ?_)
  unfold f_X7_way at h
  refine z_lv (lv' := [(0, .ref (a 0)), (1, .int p0)]) [0, 1] rfl ?_
  refine z_iload_n 1 rfl rfl dX7_way_0 ?_
  refine z_callSR (rest := []) hl (c_X7_isDrawer l g p0 _ rfl) zyX7_isDrawer zsX7_isDrawer zlX7_40 [] rfl rfl rfl (by decide) (Nat.le_of_ble_eq_true rfl) ⟨Nat.zero_le _, Nat.zero_le _⟩ dX7_way_1 (st2 := [.int (b2i (f_X7_isDrawer p0))]) rfl ?_
  refine z_ifB_ne (tgt := 17) rfl dX7_way_4 (fun c4 => ?_) (fun c4 => ?_)
  · replace h := (if_pos c4).symm.trans h
    refine z_aload_n 0 rfl rfl dX7_way_17 ?_
    refine z_get zcX7 0 rfl 0 rfl 0 (Nat.le_of_ble_eq_true rfl) zfX7_10 (v := .ref (a 1)) rfl dX7_way_18 ?_
    refine z_iload_n 1 rfl rfl dX7_way_21 ?_
    obtain ⟨r1, er1, h⟩ := zb h
    refine z_callVR (rest := []) hl (c_X6_wayTo l g (fun i => a (i + 1)) u.1 p0 _ er1) zyX6_wayTo zvX6_wayTo rfl zlX7_104 zcX6.1 ⟨_, _, rfl⟩ [(1, none)] rfl rfl rfl (by decide) (Nat.le_of_ble_eq_true rfl) ⟨Nat.zero_le _, Nat.zero_le _⟩ dX7_way_22 (st2 := [.int r1]) rfl ?_
    cases h
    exact z_iret dX7_way_25 (hQ _ rfl)
  · replace h := (if_neg c4).symm.trans h
    cases h
    exact z_throw (rest := []) (is := 46) (by rw [hl]; exact hls) hE htab hmc hms (hT zIOB rfl) zxzIOB (List.mem_of_getElem? (i := 0) rfl) (Nat.le_of_ble_eq_true rfl) (Nat.le_of_ble_eq_true rfl) (Nat.le_refl _) (Nat.le_refl _) dX7_way_7 dX7_way_10 dX7_way_11 dX7_way_13 dX7_way_16
set_option maxHeartbeats 400000 in
set_option maxRecDepth 100000 in
theorem c_X7_ifPut (l : Launch) (hls : l.stackTraces = false) (g : zG) (a : Nat → Nat) (u : tX7) (p0 : Int32) (p1 : Int32) (r : (Int32 ⊕ Nat)) (h : f_X7_ifPut u p0 p1 = some r) : CtrX l g false zEx yX7_ifPut cX7_ifPut 3 (some .int) 6 90 1 6 [.ref (a 0), .int p0, .int p1] (kX7 g a u) (kX7 g a u) (zo r) := by
  refine ctrx_of (by decide) (Nat.le_of_ble_eq_true rfl) (fun X hl hmc hms htab hE hQ hT => ?_)
  unfold f_X7_ifPut at h
  refine z_lv (lv' := [(0, .ref (a 0)), (1, .int p0), (2, .int p1)]) [0, 1, 2] rfl ?_
  refine z_iload_n 1 rfl rfl dX7_ifPut_0 ?_
  refine z_callSR (rest := []) hl (c_X7_isDrawer l g p0 _ rfl) zyX7_isDrawer zsX7_isDrawer zlX7_40 [] rfl rfl rfl (by decide) (Nat.le_of_ble_eq_true rfl) ⟨Nat.zero_le _, Nat.zero_le _⟩ dX7_ifPut_1 (st2 := [.int (b2i (f_X7_isDrawer p0))]) rfl ?_
  refine z_ifB_ne (tgt := 17) rfl dX7_ifPut_4 (fun c4 => ?_) (fun c4 => ?_)
  · replace h := (if_pos c4).symm.trans h
    refine z_iload_n 2 rfl rfl dX7_ifPut_17 ?_
    refine z_callSR (rest := []) hl (c_X7_isWeight l g p1 _ rfl) zyX7_isWeight zsX7_isWeight zlX7_51 [] rfl rfl rfl (by decide) (Nat.le_of_ble_eq_true rfl) ⟨Nat.zero_le _, Nat.zero_le _⟩ dX7_ifPut_18 (st2 := [.int (b2i (f_X7_isWeight p1))]) rfl ?_
    refine z_ifB_ne (tgt := 34) rfl dX7_ifPut_21 (fun c21 => ?_) (fun c21 => ?_)
    · replace h := (if_pos c21).symm.trans h
      refine z_aload_n 0 rfl rfl dX7_ifPut_34 ?_
      refine z_get zcX7 0 rfl 0 rfl 0 (Nat.le_of_ble_eq_true rfl) zfX7_10 (v := .ref (a 1)) rfl dX7_ifPut_35 ?_
      refine z_get zcX6 1 rfl 0 rfl 0 (Nat.le_of_ble_eq_true rfl) zfX7_138 (v := .ref (a 2)) rfl dX7_ifPut_38 ?_
      refine z_iload_n 1 rfl rfl dX7_ifPut_41 ?_
      refine z_iload_n 2 rfl rfl dX7_ifPut_42 ?_
      obtain ⟨r1, er1, h⟩ := zb h
      refine z_callVR (rest := []) hl (c_X0_greatestWith l g (fun i => a (i + 2)) u.1.1 p0 p1 _ er1) zyX0_greatestWith zvX0_greatestWith rfl zlX7_212 zcX0.1 ⟨_, _, rfl⟩ [(1, some (1, 3))] rfl rfl rfl (by decide) (Nat.le_of_ble_eq_true rfl) ⟨Nat.zero_le _, Nat.zero_le _⟩ dX7_ifPut_43 (st2 := [.int r1]) rfl ?_
      cases h
      exact z_iret dX7_ifPut_46 (hQ _ rfl)
    · replace h := (if_neg c21).symm.trans h
      cases h
      exact z_throw (rest := []) (is := 56) (by rw [hl]; exact hls) hE htab hmc hms (hT zIAE rfl) zxzIAE (List.mem_of_getElem? (i := 1) rfl) (Nat.le_of_ble_eq_true rfl) (Nat.le_of_ble_eq_true rfl) (Nat.le_refl _) (Nat.le_refl _) dX7_ifPut_24 dX7_ifPut_27 dX7_ifPut_28 dX7_ifPut_30 dX7_ifPut_33
  · replace h := (if_neg c4).symm.trans h
    cases h
    exact z_throw (rest := []) (is := 46) (by rw [hl]; exact hls) hE htab hmc hms (hT zIOB rfl) zxzIOB (List.mem_of_getElem? (i := 0) rfl) (Nat.le_of_ble_eq_true rfl) (Nat.le_of_ble_eq_true rfl) (Nat.le_refl _) (Nat.le_refl _) dX7_ifPut_7 dX7_ifPut_10 dX7_ifPut_11 dX7_ifPut_13 dX7_ifPut_16
set_option maxHeartbeats 400000 in
set_option maxRecDepth 100000 in
theorem c_X7_bestDrawer (l : Launch) (hls : l.stackTraces = false) (g : zG) (a : Nat → Nat) (u : tX7) (p0 : Int32) (r : (Int32 ⊕ Nat)) (h : f_X7_bestDrawer u p0 = some r) : CtrX l g false zEx yX7_bestDrawer cX7_bestDrawer 2 (some .int) 6 138 1 6 [.ref (a 0), .int p0] (kX7 g a u) (kX7 g a u) (zo r) := by
  refine ctrx_of (by decide) (Nat.le_of_ble_eq_true rfl) (fun X hl hmc hms htab hE hQ hT => ?_)
  unfold f_X7_bestDrawer at h
  refine z_lv (lv' := [(0, .ref (a 0)), (1, .int p0)]) [0, 1] rfl ?_
  refine z_iload_n 1 rfl rfl dX7_bestDrawer_0 ?_
  refine z_callSR (rest := []) hl (c_X7_isWeight l g p0 _ rfl) zyX7_isWeight zsX7_isWeight zlX7_51 [] rfl rfl rfl (by decide) (Nat.le_of_ble_eq_true rfl) ⟨Nat.zero_le _, Nat.zero_le _⟩ dX7_bestDrawer_1 (st2 := [.int (b2i (f_X7_isWeight p0))]) rfl ?_
  refine z_ifB_ne (tgt := 17) rfl dX7_bestDrawer_4 (fun c4 => ?_) (fun c4 => ?_)
  · replace h := (if_pos c4).symm.trans h
    refine z_aload_n 0 rfl rfl dX7_bestDrawer_17 ?_
    refine z_get zcX7 0 rfl 0 rfl 0 (Nat.le_of_ble_eq_true rfl) zfX7_10 (v := .ref (a 1)) rfl dX7_bestDrawer_18 ?_
    refine z_iload_n 1 rfl rfl dX7_bestDrawer_21 ?_
    obtain ⟨r1, er1, h⟩ := zb h
    refine z_callVR (rest := []) hl (c_X6_bestFor l g (fun i => a (i + 1)) u.1 p0 _ er1) zyX6_bestFor zvX6_bestFor rfl zlX7_215 zcX6.1 ⟨_, _, rfl⟩ [(1, none)] rfl rfl rfl (by decide) (Nat.le_of_ble_eq_true rfl) ⟨Nat.zero_le _, Nat.zero_le _⟩ dX7_bestDrawer_22 (st2 := [.int r1]) rfl ?_
    cases h
    exact z_iret dX7_bestDrawer_25 (hQ _ rfl)
  · replace h := (if_neg c4).symm.trans h
    cases h
    exact z_throw (rest := []) (is := 56) (by rw [hl]; exact hls) hE htab hmc hms (hT zIAE rfl) zxzIAE (List.mem_of_getElem? (i := 1) rfl) (Nat.le_of_ble_eq_true rfl) (Nat.le_of_ble_eq_true rfl) (Nat.le_refl _) (Nat.le_refl _) dX7_bestDrawer_7 dX7_bestDrawer_10 dX7_bestDrawer_11 dX7_bestDrawer_13 dX7_bestDrawer_16
set_option maxHeartbeats 400000 in
set_option maxRecDepth 100000 in
theorem c_X7_ifPicked (l : Launch) (hls : l.stackTraces = false) (g : zG) (a : Nat → Nat) (u : tX7) (p0 : Int32) (p1 : Int32) (r : (Int32 ⊕ Nat) × tX7) (h : f_X7_ifPicked u p0 p1 = some r) : CtrX l g true zEx yX7_ifPicked cX7_ifPicked 3 (some .int) 7 175 1 6 [.ref (a 0), .int p0, .int p1] (kX7 g a u) (kX7 g a r.2) (zo r.1) := by
  refine ctrx_of (by decide) (Nat.le_of_ble_eq_true rfl) (fun X hl hmc hms htab hE hQ hT => ?_)
  unfold f_X7_ifPicked at h
  refine z_lv (lv' := [(0, .ref (a 0)), (1, .int p0), (2, .int p1)]) [0, 1, 2] rfl ?_
  refine z_iload_n 1 rfl rfl dX7_ifPicked_0 ?_
  refine z_if_lt (tgt := 9) rfl dX7_ifPicked_1 (fun c1 => ?_) (fun c1 => ?_)
  · replace h := (if_pos c1).symm.trans h
    cases h
    try dsimp only at hQ hT
    exact z_throw (rest := []) (is := 218) (by rw [hl]; exact hls) hE htab hmc hms (hT zIAE rfl) zxzIAE (List.mem_of_getElem? (i := 18) rfl) (Nat.le_of_ble_eq_true rfl) (Nat.le_of_ble_eq_true rfl) (Nat.le_refl _) (Nat.le_refl _) dX7_ifPicked_9 dX7_ifPicked_12 dX7_ifPicked_13 dX7_ifPicked_15 dX7_ifPicked_18
  · replace h := (if_neg c1).symm.trans h
    refine z_iload_n 1 rfl rfl dX7_ifPicked_4 ?_
    refine z_iconst (v := 2) (by decide) dX7_ifPicked_5 ?_
    refine z_icmp_le (tgt := 19) rfl dX7_ifPicked_6 (fun c6 => ?_) (fun c6 => ?_)
    · replace h := (if_pos c6).symm.trans h
      refine z_iload_n 2 rfl rfl dX7_ifPicked_19 ?_
      refine z_if_lt (tgt := 28) rfl dX7_ifPicked_20 (fun c20 => ?_) (fun c20 => ?_)
      · replace h := (if_pos c20).symm.trans h
        cases h
        try dsimp only at hQ hT
        exact z_throw (rest := []) (is := 220) (by rw [hl]; exact hls) hE htab hmc hms (hT zIAE rfl) zxzIAE (List.mem_of_getElem? (i := 19) rfl) (Nat.le_of_ble_eq_true rfl) (Nat.le_of_ble_eq_true rfl) (Nat.le_refl _) (Nat.le_refl _) dX7_ifPicked_28 dX7_ifPicked_31 dX7_ifPicked_32 dX7_ifPicked_34 dX7_ifPicked_37
      · replace h := (if_neg c20).symm.trans h
        refine z_iload_n 2 rfl rfl dX7_ifPicked_23 ?_
        refine z_iconst (v := 4) (by decide) dX7_ifPicked_24 ?_
        refine z_icmp_lt (tgt := 38) rfl dX7_ifPicked_25 (fun c25 => ?_) (fun c25 => ?_)
        · replace h := (if_pos c25).symm.trans h
          refine z_aload_n 0 rfl rfl dX7_ifPicked_38 ?_
          refine z_aload_n 0 rfl rfl dX7_ifPicked_39 ?_
          refine z_iload_n 1 rfl rfl dX7_ifPicked_40 ?_
          obtain ⟨r1, er1, h⟩ := zb h
          refine z_callVW (rest := [.ref (a 0)]) hl (c_X7_tryBatch l g a u p0 _ er1) zyX7_tryBatch zvX7_tryBatch rfl zlX7_222 zcX7.1 ⟨_, _, rfl⟩ [(0, none), (1, none), (2, none), (3, none), (4, none), (5, none), (6, none), (7, none), (8, none), (9, none), (10, none), (11, none), (12, none)] rfl (by decide) rfl (w' := kX7 g a r1.2) rfl rfl rfl (by decide) (Nat.le_of_ble_eq_true rfl) ⟨Nat.zero_le _, Nat.zero_le _⟩ dX7_ifPicked_41 (st2 := [.int r1.1, .ref (a 0)]) rfl ?_
          refine z_iload_n 2 rfl rfl dX7_ifPicked_44 ?_
          obtain ⟨r2, er2, h⟩ := zb h
          refine z_callVR (rest := []) hl (c_X7_outcomeOf l g a r1.2 r1.1 p1 _ er2) zyX7_outcomeOf zvX7_outcomeOf rfl zlX7_225 zcX7.1 ⟨_, _, rfl⟩ [(0, none), (1, none), (2, none), (3, none), (4, none), (5, none), (6, none), (7, none), (8, none), (9, none), (10, none), (11, none), (12, none)] rfl rfl rfl (by decide) (Nat.le_of_ble_eq_true rfl) ⟨Nat.zero_le _, Nat.zero_le _⟩ dX7_ifPicked_45 (st2 := [.int r2]) rfl ?_
          cases h
          try dsimp only at hQ hT
          exact z_iret dX7_ifPicked_48 (hQ _ rfl)
        · replace h := (if_neg c25).symm.trans h
          cases h
          try dsimp only at hQ hT
          exact z_throw (rest := []) (is := 220) (by rw [hl]; exact hls) hE htab hmc hms (hT zIAE rfl) zxzIAE (List.mem_of_getElem? (i := 19) rfl) (Nat.le_of_ble_eq_true rfl) (Nat.le_of_ble_eq_true rfl) (Nat.le_refl _) (Nat.le_refl _) dX7_ifPicked_28 dX7_ifPicked_31 dX7_ifPicked_32 dX7_ifPicked_34 dX7_ifPicked_37
    · replace h := (if_neg c6).symm.trans h
      cases h
      try dsimp only at hQ hT
      exact z_throw (rest := []) (is := 218) (by rw [hl]; exact hls) hE htab hmc hms (hT zIAE rfl) zxzIAE (List.mem_of_getElem? (i := 18) rfl) (Nat.le_of_ble_eq_true rfl) (Nat.le_of_ble_eq_true rfl) (Nat.le_refl _) (Nat.le_refl _) dX7_ifPicked_9 dX7_ifPicked_12 dX7_ifPicked_13 dX7_ifPicked_15 dX7_ifPicked_18
