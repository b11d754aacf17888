set_option maxHeartbeats 400000 in
set_option maxRecDepth 100000 in
theorem c_X7_placeOf (l : Launch) (g : zG) (p0 : Int32) (p1 : Int32) (r : Int32) (h : f_X7_placeOf p0 p1 = r) : Ctr l g false yX7_placeOf cX7_placeOf 2 (some .int) 0 0 0 0 [.int p0, .int p1] ([]) ([]) (some (.int r)) := by
  refine ctr_of (by decide) (Nat.le_of_ble_eq_true rfl) (fun X hl _ _ _ hQ => ?_)
  unfold f_X7_placeOf at h
  refine z_lv (lv' := [(0, .int p0), (1, .int p1)]) [0, 1] rfl ?_
  refine z_iload_n 0 rfl rfl dX7_placeOf_0 ?_
  refine z_iload_n 1 rfl rfl dX7_placeOf_1 ?_
  refine z_isub dX7_placeOf_2 ?_
  refine z_bipush (v := 12) (by decide) dX7_placeOf_3 ?_
  refine z_iadd dX7_placeOf_5 ?_
  refine z_bipush (v := 12) (by decide) dX7_placeOf_6 ?_
  refine z_irem (by decide) dX7_placeOf_8 ?_
  subst h
  exact z_iret dX7_placeOf_9 hQ
set_option maxHeartbeats 400000 in
set_option maxRecDepth 100000 in
theorem c_X7_at (l : Launch) (g : zG) (h1 : Nat) (n : Nat) (hn : n < 2 ^ 31) (f1 : zF) (p1 : Int32) (r : Int32) (h : f_X7_at n f1 p1 = r) : Ctr l g false yX7_at cX7_at 2 (some .int) 0 0 0 0 [.ref h1, .int p1] ([[(h1, .inl (g.2.1, n, .inl f1))]]) ([[(h1, .inl (g.2.1, n, .inl f1))]]) (some (.int r)) := by
  refine ctr_of (by decide) (Nat.le_of_ble_eq_true rfl) (fun X hl _ _ _ hQ => ?_)
  unfold f_X7_at at h
  refine z_lv (lv' := [(0, .ref h1), (1, .int p1)]) [0, 1] rfl ?_
  refine z_iload_n 1 rfl rfl dX7_at_0 ?_
  refine z_if_lt (tgt := 16) rfl dX7_at_1 (fun c1 => ?_) (fun c1 => ?_)
  · replace h := (if_pos c1).symm.trans h
    refine z_iconst (v := 0) (by decide) dX7_at_16 ?_
    subst h
    exact z_iret dX7_at_17 hQ
  · replace h := (if_neg c1).symm.trans h
    refine z_iload_n 1 rfl rfl dX7_at_4 ?_
    refine z_aload_n 0 rfl rfl dX7_at_5 ?_
    refine z_alen 0 rfl 0 rfl (v := (nI n)) rfl dX7_at_6 ?_
    refine z_icmp_ge (tgt := 16) rfl dX7_at_7 (fun c7 => ?_) (fun c7 => ?_)
    · replace h := (if_pos c7).symm.trans h
      refine z_iconst (v := 0) (by decide) dX7_at_16 ?_
      subst h
      exact z_iret dX7_at_17 hQ
    · replace h := (if_neg c7).symm.trans h
      refine z_aload_n 0 rfl rfl dX7_at_10 ?_
      refine z_iload_n 1 rfl rfl dX7_at_11 ?_
      refine z_ialdI 0 rfl 0 rfl (zin c1 c7 hn) dX7_at_12 ?_
      refine z_goto (tgt := 17) rfl dX7_at_13 ?_
      subst h
      exact z_iret dX7_at_17 hQ
set_option maxHeartbeats 400000 in
set_option maxRecDepth 100000 in
theorem c_X7_write (l : Launch) (g : zG) (h1 : Nat) (n : Nat) (hn : n < 2 ^ 31) (f1 : zF) (p1 : Int32) (p2 : Int32) (r : zF) (h : f_X7_write n f1 p1 p2 = r) : Ctr l g true yX7_write cX7_write 3 none 0 0 0 0 [.ref h1, .int p1, .int p2] ([[(h1, .inl (g.2.1, n, .inl f1))]]) ([[(h1, .inl (g.2.1, n, .inl r))]]) none := by
  refine ctr_of (by decide) (Nat.le_of_ble_eq_true rfl) (fun X hl _ _ _ hQ => ?_)
  unfold f_X7_write at h
  refine z_lv (lv' := [(0, .ref h1), (1, .int p1), (2, .int p2)]) [0, 1, 2] rfl ?_
  refine z_iload_n 1 rfl rfl dX7_write_0 ?_
  refine z_if_lt (tgt := 14) rfl dX7_write_1 (fun c1 => ?_) (fun c1 => ?_)
  · replace h := (if_pos c1).symm.trans h
    subst h
    exact z_vret dX7_write_14 hQ
  · replace h := (if_neg c1).symm.trans h
    refine z_iload_n 1 rfl rfl dX7_write_4 ?_
    refine z_aload_n 0 rfl rfl dX7_write_5 ?_
    refine z_alen 0 rfl 0 rfl (v := (nI n)) rfl dX7_write_6 ?_
    refine z_icmp_ge (tgt := 14) rfl dX7_write_7 (fun c7 => ?_) (fun c7 => ?_)
    · replace h := (if_pos c7).symm.trans h
      subst h
      exact z_vret dX7_write_14 hQ
    · replace h := (if_neg c7).symm.trans h
      refine z_aload_n 0 rfl rfl dX7_write_10 ?_
      refine z_iload_n 1 rfl rfl dX7_write_11 ?_
      refine z_iload_n 2 rfl rfl dX7_write_12 ?_
      refine z_iastI ([[(h1, .inl (g.2.1, n, .inl (upd f1 p1.toNatClampNeg p2)))]]) 0 rfl 0 rfl (zin c1 c7 hn) rfl dX7_write_13 ?_
      subst h
      exact z_vret dX7_write_14 hQ
set_option maxHeartbeats 400000 in
set_option maxRecDepth 100000 in
theorem c_X7_isDrawer (l : Launch) (g : zG) (p0 : Int32) (r : Bool) (h : f_X7_isDrawer p0 = r) : Ctr l g false yX7_isDrawer cX7_isDrawer 1 (some .boolean) 0 0 0 0 [.int p0] ([]) ([]) (some (.int (b2i r))) := by
  refine ctr_of (by decide) (Nat.le_of_ble_eq_true rfl) (fun X hl _ _ _ hQ => ?_)
  unfold f_X7_isDrawer at h
  refine z_lv (lv' := [(0, .int p0)]) [0] rfl ?_
  refine z_iload_n 0 rfl rfl dX7_isDrawer_0 ?_
  refine z_if_lt (tgt := 14) rfl dX7_isDrawer_1 (fun c1 => ?_) (fun c1 => ?_)
  · replace h := (if_pos c1).symm.trans h
    refine z_iconst (v := 0) (by decide) dX7_isDrawer_14 ?_
    subst h
    exact z_zret _ (by rfl) dX7_isDrawer_15 hQ
  · replace h := (if_neg c1).symm.trans h
    refine z_iload_n 0 rfl rfl dX7_isDrawer_4 ?_
    refine z_bipush (v := 12) (by decide) dX7_isDrawer_5 ?_
    refine z_icmp_ge (tgt := 14) rfl dX7_isDrawer_7 (fun c7 => ?_) (fun c7 => ?_)
    · replace h := (if_pos c7).symm.trans h
      refine z_iconst (v := 0) (by decide) dX7_isDrawer_14 ?_
      subst h
      exact z_zret _ (by rfl) dX7_isDrawer_15 hQ
    · replace h := (if_neg c7).symm.trans h
      refine z_iconst (v := 1) (by decide) dX7_isDrawer_10 ?_
      refine z_goto (tgt := 15) rfl dX7_isDrawer_11 ?_
      subst h
      exact z_zret _ (by rfl) dX7_isDrawer_15 hQ
set_option maxHeartbeats 400000 in
set_option maxRecDepth 100000 in
theorem c_X7_isWeight (l : Launch) (g : zG) (p0 : Int32) (r : Bool) (h : f_X7_isWeight p0 = r) : Ctr l g false yX7_isWeight cX7_isWeight 1 (some .boolean) 0 0 0 0 [.int p0] ([]) ([]) (some (.int (b2i r))) := by
  refine ctr_of (by decide) (Nat.le_of_ble_eq_true rfl) (fun X hl _ _ _ hQ => ?_)
  unfold f_X7_isWeight at h
  refine z_lv (lv' := [(0, .int p0)]) [0] rfl ?_
  refine z_iload_n 0 rfl rfl dX7_isWeight_0 ?_
  refine z_iconst (v := 1) (by decide) dX7_isWeight_1 ?_
  refine z_icmp_lt (tgt := 15) rfl dX7_isWeight_2 (fun c2 => ?_) (fun c2 => ?_)
  · replace h := (if_pos c2).symm.trans h
    refine z_iconst (v := 0) (by decide) dX7_isWeight_15 ?_
    subst h
    exact z_zret _ (by rfl) dX7_isWeight_16 hQ
  · replace h := (if_neg c2).symm.trans h
    refine z_iload_n 0 rfl rfl dX7_isWeight_5 ?_
    refine z_bipush (v := 20) (by decide) dX7_isWeight_6 ?_
    refine z_icmp_gt (tgt := 15) rfl dX7_isWeight_8 (fun c8 => ?_) (fun c8 => ?_)
    · replace h := (if_pos c8).symm.trans h
      refine z_iconst (v := 0) (by decide) dX7_isWeight_15 ?_
      subst h
      exact z_zret _ (by rfl) dX7_isWeight_16 hQ
    · replace h := (if_neg c8).symm.trans h
      refine z_iconst (v := 1) (by decide) dX7_isWeight_11 ?_
      refine z_goto (tgt := 16) rfl dX7_isWeight_12 ?_
      subst h
      exact z_zret _ (by rfl) dX7_isWeight_16 hQ
set_option maxHeartbeats 400000 in
set_option maxRecDepth 100000 in
theorem c_X7_isSetting (l : Launch) (g : zG) (p0 : Int32) (r : Bool) (h : f_X7_isSetting p0 = r) : Ctr l g false yX7_isSetting cX7_isSetting 1 (some .boolean) 0 0 0 0 [.int p0] ([]) ([]) (some (.int (b2i r))) := by
  refine ctr_of (by decide) (Nat.le_of_ble_eq_true rfl) (fun X hl _ _ _ hQ => ?_)
  unfold f_X7_isSetting at h
  refine z_lv (lv' := [(0, .int p0)]) [0] rfl ?_
  refine z_iload_n 0 rfl rfl dX7_isSetting_0 ?_
  refine z_if_lt (tgt := 13) rfl dX7_isSetting_1 (fun c1 => ?_) (fun c1 => ?_)
  · replace h := (if_pos c1).symm.trans h
    refine z_iconst (v := 0) (by decide) dX7_isSetting_13 ?_
    subst h
    exact z_zret _ (by rfl) dX7_isSetting_14 hQ
  · replace h := (if_neg c1).symm.trans h
    refine z_iload_n 0 rfl rfl dX7_isSetting_4 ?_
    refine z_iconst (v := 3) (by decide) dX7_isSetting_5 ?_
    refine z_icmp_ge (tgt := 13) rfl dX7_isSetting_6 (fun c6 => ?_) (fun c6 => ?_)
    · replace h := (if_pos c6).symm.trans h
      refine z_iconst (v := 0) (by decide) dX7_isSetting_13 ?_
      subst h
      exact z_zret _ (by rfl) dX7_isSetting_14 hQ
    · replace h := (if_neg c6).symm.trans h
      refine z_iconst (v := 1) (by decide) dX7_isSetting_9 ?_
      refine z_goto (tgt := 14) rfl dX7_isSetting_10 ?_
      subst h
      exact z_zret _ (by rfl) dX7_isSetting_14 hQ
set_option maxHeartbeats 400000 in
set_option maxRecDepth 100000 in
theorem c_X7_isIn (l : Launch) (g : zG) (p0 : Int32) (p1 : Int32) (r : Bool) (h : f_X7_isIn p0 p1 = r) : Ctr l g false yX7_isIn cX7_isIn 2 (some .boolean) 0 0 0 0 [.int p0, .int p1] ([]) ([]) (some (.int (b2i r))) := by
  refine ctr_of (by decide) (Nat.le_of_ble_eq_true rfl) (fun X hl _ _ _ hQ => ?_)
  unfold f_X7_isIn at h
  refine z_lv (lv' := [(0, .int p0), (1, .int p1)]) [0, 1] rfl ?_
  refine z_iload_n 0 rfl rfl dX7_isIn_0 ?_
  refine z_iload_n 1 rfl rfl dX7_isIn_1 ?_
  refine z_ishr dX7_isIn_2 ?_
  refine z_iconst (v := 1) (by decide) dX7_isIn_3 ?_
  refine z_iand dX7_isIn_4 ?_
  refine z_iconst (v := 1) (by decide) dX7_isIn_5 ?_
  refine z_icmp_ne (tgt := 13) rfl dX7_isIn_6 (fun c6 => ?_) (fun c6 => ?_)
  · replace h := (if_neg c6).symm.trans h
    refine z_iconst (v := 0) (by decide) dX7_isIn_13 ?_
    subst h
    exact z_zret _ (by rfl) dX7_isIn_14 hQ
  · replace h := (if_pos c6).symm.trans h
    refine z_iconst (v := 1) (by decide) dX7_isIn_9 ?_
    refine z_goto (tgt := 14) rfl dX7_isIn_10 ?_
    subst h
    exact z_zret _ (by rfl) dX7_isIn_14 hQ
set_option maxHeartbeats 400000 in
set_option maxRecDepth 100000 in
theorem c_X7_wayOver (l : Launch) (g : zG) (p0 : Int32) (p1 : Int32) (p2 : Int32) (r : Int32) (h : f_X7_wayOver p0 p1 p2 = some r) : Ctr l g false yX7_wayOver cX7_wayOver 9 (some .int) 1 21 0 0 [.int p0, .int p1, .int p2] ([]) ([]) (some (.int r)) := by
  refine ctr_of (by decide) (Nat.le_of_ble_eq_true rfl) (fun X hl _ _ _ hQ => ?_)
  unfold f_X7_wayOver at h
  refine z_lv (lv' := [(0, .int p0), (1, .int p1), (2, .int p2)]) [0, 1, 2] rfl ?_
  refine z_iload_n 2 rfl rfl dX7_wayOver_0 ?_
  refine z_iload_n 1 rfl rfl dX7_wayOver_1 ?_
  refine z_callSR (rest := []) hl (c_X7_placeOf l g p2 p1 _ rfl) zyX7_placeOf zsX7_placeOf zlX7_298 [] rfl rfl rfl (by decide) (Nat.le_of_ble_eq_true rfl) ⟨Nat.zero_le _, Nat.zero_le _⟩ dX7_wayOver_2 (st2 := [.int (f_X7_placeOf p2 p1)]) rfl ?_
  refine z_istore_n [(3, .int (f_X7_placeOf p2 p1)), (0, .int p0), (1, .int p1), (2, .int p2)] rfl (Nat.le_of_ble_eq_true rfl) rfl dX7_wayOver_5 ?_
  refine z_iload_n 0 rfl rfl dX7_wayOver_6 ?_
  refine z_if_ne (tgt := 12) rfl dX7_wayOver_7 (fun c7 => ?_) (fun c7 => ?_)
  · replace h := (if_neg c7).symm.trans h
    refine z_iload_n 1 rfl rfl dX7_wayOver_12 ?_
    refine z_iload_n 2 rfl rfl dX7_wayOver_13 ?_
    refine z_ishr dX7_wayOver_14 ?_
    refine z_iload_n 1 rfl rfl dX7_wayOver_15 ?_
    refine z_bipush (v := 12) (by decide) dX7_wayOver_16 ?_
    refine z_iload_n 2 rfl rfl dX7_wayOver_18 ?_
    refine z_isub dX7_wayOver_19 ?_
    refine z_ishl dX7_wayOver_20 ?_
    refine z_ior dX7_wayOver_21 ?_
    refine z_istore [(4, .int ((p0 >>> (p1 &&& 31)) ||| (p0 <<< ((12 - p1) &&& 31)))), (3, .int (f_X7_placeOf p2 p1)), (0, .int p0), (1, .int p1), (2, .int p2)] (Nat.le_of_ble_eq_true rfl) rfl dX7_wayOver_22 ?_
    refine z_iconst (v := 2) (by decide) dX7_wayOver_24 ?_
    refine z_iload_n 1 rfl rfl dX7_wayOver_25 ?_
    refine z_ishl dX7_wayOver_26 ?_
    refine z_iconst (v := 2) (by decide) dX7_wayOver_27 ?_
    refine z_isub dX7_wayOver_28 ?_
    refine z_istore [(5, .int (((2 : Int32) <<< ((f_X7_placeOf p2 p1) &&& 31)) - 2)), (4, .int ((p0 >>> (p1 &&& 31)) ||| (p0 <<< ((12 - p1) &&& 31)))), (3, .int (f_X7_placeOf p2 p1)), (0, .int p0), (1, .int p1), (2, .int p2)] (Nat.le_of_ble_eq_true rfl) rfl dX7_wayOver_29 ?_
    refine z_sipush (v := 4096) (by decide) dX7_wayOver_31 ?_
    refine z_iconst (v := 1) (by decide) dX7_wayOver_34 ?_
    refine z_iload_n 2 rfl rfl dX7_wayOver_35 ?_
    refine z_ishl dX7_wayOver_36 ?_
    refine z_isub dX7_wayOver_37 ?_
    refine z_istore [(6, .int (4096 - ((1 : Int32) <<< ((f_X7_placeOf p2 p1) &&& 31)))), (5, .int (((2 : Int32) <<< ((f_X7_placeOf p2 p1) &&& 31)) - 2)), (4, .int ((p0 >>> (p1 &&& 31)) ||| (p0 <<< ((12 - p1) &&& 31)))), (3, .int (f_X7_placeOf p2 p1)), (0, .int p0), (1, .int p1), (2, .int p2)] (Nat.le_of_ble_eq_true rfl) rfl dX7_wayOver_38 ?_
    refine z_iload 2 rfl dX7_wayOver_40 ?_
    refine z_iload 1 rfl dX7_wayOver_42 ?_
    refine z_iand dX7_wayOver_44 ?_
    refine z_iload 1 rfl dX7_wayOver_45 ?_
    obtain ⟨j1, ej1, h⟩ := zb h
    have Kj1 : Z false RX7 cX7_wayOver 9 1 21 g X 0 0 ([]) [(3, .int (f_X7_placeOf p2 p1)), (4, .int ((p0 >>> (p1 &&& 31)) ||| (p0 <<< ((12 - p1) &&& 31)))), (6, .int (4096 - ((1 : Int32) <<< ((f_X7_placeOf p2 p1) &&& 31))))] 55 [.int (b2i j1)] := by
      refine z_istore [(7, .int (b2i j1)), (3, .int (f_X7_placeOf p2 p1)), (4, .int ((p0 >>> (p1 &&& 31)) ||| (p0 <<< ((12 - p1) &&& 31)))), (6, .int (4096 - ((1 : Int32) <<< ((f_X7_placeOf p2 p1) &&& 31))))] (Nat.le_of_ble_eq_true rfl) rfl dX7_wayOver_55 ?_
      refine z_iload 2 rfl dX7_wayOver_57 ?_
      refine z_iload 3 rfl dX7_wayOver_59 ?_
      refine z_iand dX7_wayOver_61 ?_
      refine z_iload 3 rfl dX7_wayOver_62 ?_
      obtain ⟨j2, ej2, h⟩ := zb h
      have Kj2 : Z false RX7 cX7_wayOver 9 1 21 g X 0 0 ([]) [(3, .int (f_X7_placeOf p2 p1)), (7, .int (b2i j1))] 72 [.int (b2i j2)] := by
        refine z_istore [(8, .int (b2i j2)), (3, .int (f_X7_placeOf p2 p1)), (7, .int (b2i j1))] (Nat.le_of_ble_eq_true rfl) rfl dX7_wayOver_72 ?_
        refine z_iload 2 rfl dX7_wayOver_74 ?_
        refine z_ifB_eq (tgt := 92) rfl dX7_wayOver_76 (fun c76 => ?_) (fun c76 => ?_)
        · replace h := (if_neg c76).symm.trans h
          refine z_iload 0 rfl dX7_wayOver_92 ?_
          refine z_ifB_eq (tgt := 104) rfl dX7_wayOver_94 (fun c94 => ?_) (fun c94 => ?_)
          · replace h := (if_neg c94).symm.trans h
            refine z_bipush (v := 99) (by decide) dX7_wayOver_104 ?_
            cases h
            exact z_iret dX7_wayOver_106 hQ
          · replace h := (if_pos c94).symm.trans h
            refine z_iload_n 1 rfl rfl dX7_wayOver_97 ?_
            refine z_bipush (v := 12) (by decide) dX7_wayOver_98 ?_
            refine z_isub dX7_wayOver_100 ?_
            refine z_goto (tgt := 106) rfl dX7_wayOver_101 ?_
            cases h
            exact z_iret dX7_wayOver_106 hQ
        · replace h := (if_pos c76).symm.trans h
          refine z_iload_n 1 rfl rfl dX7_wayOver_79 ?_
          refine z_bipush (v := 6) (by decide) dX7_wayOver_80 ?_
          refine z_icmp_le (tgt := 90) rfl dX7_wayOver_82 (fun c82 => ?_) (fun c82 => ?_)
          · replace h := (if_pos c82).symm.trans h
            refine z_iload_n 1 rfl rfl dX7_wayOver_90 ?_
            cases h
            exact z_iret dX7_wayOver_91 hQ
          · replace h := (if_neg c82).symm.trans h
            refine z_iload 0 rfl dX7_wayOver_85 ?_
            refine z_ifB_ne (tgt := 92) rfl dX7_wayOver_87 (fun c87 => ?_) (fun c87 => ?_)
            · replace h := (if_pos c87).symm.trans h
              refine z_iload 0 rfl dX7_wayOver_92 ?_
              refine z_ifB_eq (tgt := 104) rfl dX7_wayOver_94 (fun c94 => ?_) (fun c94 => ?_)
              · replace h := (if_neg c94).symm.trans h
                refine z_bipush (v := 99) (by decide) dX7_wayOver_104 ?_
                cases h
                exact z_iret dX7_wayOver_106 hQ
              · replace h := (if_pos c94).symm.trans h
                refine z_iload_n 1 rfl rfl dX7_wayOver_97 ?_
                refine z_bipush (v := 12) (by decide) dX7_wayOver_98 ?_
                refine z_isub dX7_wayOver_100 ?_
                refine z_goto (tgt := 106) rfl dX7_wayOver_101 ?_
                cases h
                exact z_iret dX7_wayOver_106 hQ
            · replace h := (if_neg c87).symm.trans h
              refine z_iload_n 1 rfl rfl dX7_wayOver_90 ?_
              cases h
              exact z_iret dX7_wayOver_91 hQ
      clear h
      refine z_icmp_ne (tgt := 71) rfl dX7_wayOver_64 (fun c64 => ?_) (fun c64 => ?_)
      · replace ej2 := (if_neg c64).symm.trans ej2
        refine z_iconst (v := 0) (by decide) dX7_wayOver_71 ?_
        cases ej2
        exact z_lv [1, 0] rfl Kj2
      · replace ej2 := (if_pos c64).symm.trans ej2
        refine z_iconst (v := 1) (by decide) dX7_wayOver_67 ?_
        refine z_goto (tgt := 72) rfl dX7_wayOver_68 ?_
        cases ej2
        exact z_lv [1, 0] rfl Kj2
    clear h
    refine z_icmp_ne (tgt := 54) rfl dX7_wayOver_47 (fun c47 => ?_) (fun c47 => ?_)
    · replace ej1 := (if_neg c47).symm.trans ej1
      refine z_iconst (v := 0) (by decide) dX7_wayOver_54 ?_
      cases ej1
      exact z_lv [3, 2, 0] rfl Kj1
    · replace ej1 := (if_pos c47).symm.trans ej1
      refine z_iconst (v := 1) (by decide) dX7_wayOver_50 ?_
      refine z_goto (tgt := 55) rfl dX7_wayOver_51 ?_
      cases ej1
      exact z_lv [3, 2, 0] rfl Kj1
  · replace h := (if_pos c7).symm.trans h
    refine z_iconst (v := 0) (by decide) dX7_wayOver_10 ?_
    cases h
    exact z_iret dX7_wayOver_11 hQ
set_option maxHeartbeats 400000 in
set_option maxRecDepth 100000 in
theorem c_X7_chained (l : Launch) (g : zG) (p0 : Int64) (p1 : Int64) (r : Int64) (h : f_X7_chained p0 p1 = r) : Ctr l g false yX7_chained cX7_chained 4 (some .long) 0 0 0 0 [.long p0, .long p1] ([]) ([]) (some (.long r)) := by
  refine ctr_of (by decide) (Nat.le_of_ble_eq_true rfl) (fun X hl _ _ _ hQ => ?_)
  unfold f_X7_chained at h
  refine z_lv (lv' := [(0, .long p0), (2, .long p1)]) [0, 1] rfl ?_
  refine z_ldc2 zkX7_292 dX7_chained_0 ?_
  refine z_lload_n 0 rfl rfl dX7_chained_3 ?_
  refine z_lmul dX7_chained_4 ?_
  refine z_lload_n 1 rfl rfl dX7_chained_5 ?_
  refine z_ladd dX7_chained_6 ?_
  subst h
  exact z_lret dX7_chained_7 hQ
set_option maxHeartbeats 400000 in
set_option maxRecDepth 100000 in
theorem c_X0_sideOf (l : Launch) (g : zG) (p0 : Int32) (p1 : Int32) (r : Int32) (h : f_X0_sideOf p0 p1 = r) : Ctr l g false yX0_sideOf cX0_sideOf 3 (some .int) 1 21 0 0 [.int p0, .int p1] ([]) ([]) (some (.int r)) := by
  refine ctr_of (by decide) (Nat.le_of_ble_eq_true rfl) (fun X hl _ _ _ hQ => ?_)
  unfold f_X0_sideOf at h
  refine z_lv (lv' := [(0, .int p0), (1, .int p1)]) [0, 1] rfl ?_
  refine z_iload_n 0 rfl rfl dX0_sideOf_0 ?_
  refine z_iload_n 1 rfl rfl dX0_sideOf_1 ?_
  refine z_callNR (rest := []) hl (c_X7_placeOf l g p0 p1 _ rfl) zyX7_placeOf zsX7_placeOf zlX0_34 [] rfl rfl rfl (by decide) (Nat.le_of_ble_eq_true rfl) ⟨Nat.zero_le _, Nat.zero_le _⟩ dX0_sideOf_2 (st2 := [.int (f_X7_placeOf p0 p1)]) rfl ?_
  refine z_istore_n [(2, .int (f_X7_placeOf p0 p1)), (0, .int p0), (1, .int p1)] rfl (Nat.le_of_ble_eq_true rfl) rfl dX0_sideOf_5 ?_
  refine z_iload_n 0 rfl rfl dX0_sideOf_6 ?_
  refine z_if_eq (tgt := 16) rfl dX0_sideOf_7 (fun c7 => ?_) (fun c7 => ?_)
  · replace h := (if_pos c7).symm.trans h
    refine z_iconst (v := 0) (by decide) dX0_sideOf_16 ?_
    subst h
    exact z_iret dX0_sideOf_17 hQ
  · replace h := (if_neg c7).symm.trans h
    refine z_iload_n 0 rfl rfl dX0_sideOf_10 ?_
    refine z_bipush (v := 6) (by decide) dX0_sideOf_11 ?_
    refine z_icmp_ne (tgt := 18) rfl dX0_sideOf_13 (fun c13 => ?_) (fun c13 => ?_)
    · replace h := (if_neg c13).symm.trans h
      refine z_iload_n 0 rfl rfl dX0_sideOf_18 ?_
      refine z_bipush (v := 6) (by decide) dX0_sideOf_19 ?_
      refine z_icmp_ge (tgt := 28) rfl dX0_sideOf_21 (fun c21 => ?_) (fun c21 => ?_)
      · replace h := (if_pos c21).symm.trans h
        refine z_iconst (v := (-1)) (by decide) dX0_sideOf_28 ?_
        subst h
        exact z_iret dX0_sideOf_29 hQ
      · replace h := (if_neg c21).symm.trans h
        refine z_iconst (v := 1) (by decide) dX0_sideOf_24 ?_
        refine z_goto (tgt := 29) rfl dX0_sideOf_25 ?_
        subst h
        exact z_iret dX0_sideOf_29 hQ
    · replace h := (if_pos c13).symm.trans h
      refine z_iconst (v := 0) (by decide) dX0_sideOf_16 ?_
      subst h
      exact z_iret dX0_sideOf_17 hQ
set_option maxHeartbeats 400000 in
set_option maxRecDepth 100000 in
theorem c_X0_addLoad (l : Launch) (g : zG) (a : Nat → Nat) (u : tX0) (p0 : Int32) (p1 : Int32) (r : tX0) (h : f_X0_addLoad u p0 p1 = some r) : Ctr l g true yX0_addLoad cX0_addLoad 4 none 2 43 0 0 [.ref (a 0), .int p0, .int p1] ([cX0 g a u]) ([cX0 g a r]) none := by
  refine ctr_of (by decide) (Nat.le_of_ble_eq_true rfl) (fun X hl _ _ _ hQ => ?_)
  unfold f_X0_addLoad at h
  refine z_lv (lv' := [(0, .ref (a 0)), (1, .int p0), (2, .int p1)]) [0, 1, 2] rfl ?_
  refine z_aload_n 0 rfl rfl dX0_addLoad_0 ?_
  refine z_get zcX0 0 rfl 0 rfl 0 (Nat.le_of_ble_eq_true rfl) zfX0_9 (v := .ref (a 1)) rfl dX0_addLoad_1 ?_
  refine z_iload_n 1 rfl rfl dX0_addLoad_4 ?_
  refine z_aload_n 0 rfl rfl dX0_addLoad_5 ?_
  refine z_get zcX0 0 rfl 0 rfl 0 (Nat.le_of_ble_eq_true rfl) zfX0_9 (v := .ref (a 1)) rfl dX0_addLoad_6 ?_
  refine z_iload_n 1 rfl rfl dX0_addLoad_9 ?_
  refine z_callNR (rest := [.int p0, .ref (a 1)]) hl (c_X7_at l g (a 1) 12 (by decide) u.1 p0 _ rfl) zyX7_at zsX7_at zlX0_22 [(0, some (1, 1))] rfl rfl rfl (by decide) (Nat.le_of_ble_eq_true rfl) ⟨Nat.zero_le _, Nat.zero_le _⟩ dX0_addLoad_10 (st2 := [.int (f_X7_at 12 u.1 p0), .int p0, .ref (a 1)]) rfl ?_
  refine z_iload_n 2 rfl rfl dX0_addLoad_13 ?_
  refine z_iadd dX0_addLoad_14 ?_
  obtain ⟨r1, er1, h⟩ := zb h
  refine z_callNW (rest := []) hl (c_X7_write l g (a 1) 12 (by decide) u.1 p0 ((f_X7_at 12 u.1 p0) + p1) _ (Option.some.inj er1)) zyX7_write zsX7_write zlX0_26 [(0, some (1, 1))] rfl (by decide) rfl (w' := [dX0 g a r1 u.2]) rfl rfl rfl (by decide) (Nat.le_of_ble_eq_true rfl) ⟨Nat.zero_le _, Nat.zero_le _⟩ dX0_addLoad_15 (st2 := []) rfl ?_
  refine z_iconst (v := 0) (by decide) dX0_addLoad_18 ?_
  refine z_istore_n [(3, .int 0), (0, .ref (a 0)), (1, .int p0), (2, .int p1)] rfl (Nat.le_of_ble_eq_true rfl) rfl dX0_addLoad_19 ?_
  obtain ⟨z2, ez2, h⟩ := zb h
  refine z_lv (lv' := [(0, .ref (a 0)), (1, .int p0), (2, .int p1), (3, .int 0)]) [1, 2, 3, 0] rfl ?_
  suffices hk20 : (fun (s20 : Int32 × zF) => Z true RX0 cX0_addLoad 4 2 43 g X 0 0 ([dX0 g a r1 s20.2]) [(0, .ref (a 0)), (1, .int p0), (2, .int p1), (3, .int s20.1)] 20 []) (0, u.2) by try dsimp only at hk20; exact hk20
  refine lp_ind (σ := Int32 × zF) (ε := zF) (b_X0_addLoad_20 p0 p1) (fun s20 => Z true RX0 cX0_addLoad 4 2 43 g X 0 0 ([dX0 g a r1 s20.2]) [(0, .ref (a 0)), (1, .int p0), (2, .int p1), (3, .int s20.1)] 20 []) (fun z2 => Z true RX0 cX0_addLoad 4 2 43 g X 0 0 ([dX0 g a r1 z2]) [] 56 []) (fun s20 q20 h20 i20 x20 => ?_) 5000 (0, u.2) z2 ez2 ?_
  · unfold b_X0_addLoad_20 at h20
    refine z_iload_n 3 rfl rfl dX0_addLoad_20 ?_
    refine z_bipush (v := 12) (by decide) dX0_addLoad_21 ?_
    refine z_icmp_ge (tgt := 56) rfl dX0_addLoad_23 (fun c23 => ?_) (fun c23 => ?_)
    · replace h20 := (if_pos c23).symm.trans h20
      cases h20
      have k20 := x20 s20.2 rfl
      try dsimp only at k20
      exact z_lv [] rfl k20
    · replace h20 := (if_neg c23).symm.trans h20
      refine z_aload_n 0 rfl rfl dX0_addLoad_26 ?_
      refine z_get zcX0 0 rfl 0 rfl 1 (Nat.le_of_ble_eq_true rfl) zfX0_15 (v := .ref (a 2)) rfl dX0_addLoad_27 ?_
      refine z_iload_n 3 rfl rfl dX0_addLoad_30 ?_
      refine z_aload_n 0 rfl rfl dX0_addLoad_31 ?_
      refine z_get zcX0 0 rfl 0 rfl 1 (Nat.le_of_ble_eq_true rfl) zfX0_15 (v := .ref (a 2)) rfl dX0_addLoad_32 ?_
      refine z_iload_n 3 rfl rfl dX0_addLoad_35 ?_
      refine z_callNR (rest := [.int s20.1, .ref (a 2)]) hl (c_X7_at l g (a 2) 12 (by decide) s20.2 s20.1 _ rfl) zyX7_at zsX7_at zlX0_22 [(0, some (2, 1))] rfl rfl rfl (by decide) (Nat.le_of_ble_eq_true rfl) ⟨Nat.zero_le _, Nat.zero_le _⟩ dX0_addLoad_36 (st2 := [.int (f_X7_at 12 s20.2 s20.1), .int s20.1, .ref (a 2)]) rfl ?_
      refine z_iload_n 2 rfl rfl dX0_addLoad_39 ?_
      refine z_iload_n 1 rfl rfl dX0_addLoad_40 ?_
      refine z_iload_n 3 rfl rfl dX0_addLoad_41 ?_
      refine z_callSR (rest := [.int p1, .int (f_X7_at 12 s20.2 s20.1), .int s20.1, .ref (a 2)]) hl (c_X0_sideOf l g p0 s20.1 _ rfl) zyX0_sideOf zsX0_sideOf zlX0_30 [] rfl rfl rfl (by decide) (Nat.le_of_ble_eq_true rfl) ⟨Nat.zero_le _, Nat.zero_le _⟩ dX0_addLoad_42 (st2 := [.int (f_X0_sideOf p0 s20.1), .int p1, .int (f_X7_at 12 s20.2 s20.1), .int s20.1, .ref (a 2)]) rfl ?_
      refine z_imul dX0_addLoad_45 ?_
      refine z_iadd dX0_addLoad_46 ?_
      obtain ⟨r3, er3, h20⟩ := zb h20
      refine z_callNW (rest := []) hl (c_X7_write l g (a 2) 12 (by decide) s20.2 s20.1 ((f_X7_at 12 s20.2 s20.1) + (p1 * (f_X0_sideOf p0 s20.1))) _ (Option.some.inj er3)) zyX7_write zsX7_write zlX0_26 [(0, some (2, 1))] rfl (by decide) rfl (w' := [dX0 g a r1 r3]) rfl rfl rfl (by decide) (Nat.le_of_ble_eq_true rfl) ⟨Nat.zero_le _, Nat.zero_le _⟩ dX0_addLoad_47 (st2 := []) rfl ?_
      refine z_iinc 3 [(3, .int (s20.1 + 1)), (0, .ref (a 0)), (1, .int p0), (2, .int p1)] rfl (v := (s20.1 + 1)) zinc (Nat.le_of_ble_eq_true rfl) rfl dX0_addLoad_50 ?_
      refine z_goto (tgt := 20) rfl dX0_addLoad_53 ?_
      cases h20
      have k20 := i20 ((s20.1 + 1), r3) rfl
      try dsimp only at k20
      exact z_lv [1, 2, 3, 0] rfl k20
  · skip
    cases h
    exact z_vret dX0_addLoad_56 hQ
set_option maxHeartbeats 400000 in
set_option maxRecDepth 100000 in
theorem c_X0_imbalanceAt (l : Launch) (g : zG) (a : Nat → Nat) (u : tX0) (p0 : Int32) (r : Int32) (h : f_X0_imbalanceAt u p0 = r) : Ctr l g false yX0_imbalanceAt cX0_imbalanceAt 2 (some .int) 1 21 0 0 [.ref (a 0), .int p0] ([cX0 g a u]) ([cX0 g a u]) (some (.int r)) := by
  refine ctr_of (by decide) (Nat.le_of_ble_eq_true rfl) (fun X hl _ _ _ hQ => ?_)
  unfold f_X0_imbalanceAt at h
  refine z_lv (lv' := [(0, .ref (a 0)), (1, .int p0)]) [0, 1] rfl ?_
  refine z_aload_n 0 rfl rfl dX0_imbalanceAt_0 ?_
  refine z_get zcX0 0 rfl 0 rfl 1 (Nat.le_of_ble_eq_true rfl) zfX0_15 (v := .ref (a 2)) rfl dX0_imbalanceAt_1 ?_
  refine z_iload_n 1 rfl rfl dX0_imbalanceAt_4 ?_
  refine z_callNR (rest := []) hl (c_X7_at l g (a 2) 12 (by decide) u.2 p0 _ rfl) zyX7_at zsX7_at zlX0_22 [(0, some (2, 1))] rfl rfl rfl (by decide) (Nat.le_of_ble_eq_true rfl) ⟨Nat.zero_le _, Nat.zero_le _⟩ dX0_imbalanceAt_5 (st2 := [.int (f_X7_at 12 u.2 p0)]) rfl ?_
  refine z_mabs zlX0_37 ⟨Nat.le_of_ble_eq_true rfl, Nat.le_of_ble_eq_true rfl⟩ ⟨Nat.zero_le _, Nat.zero_le _⟩ dX0_imbalanceAt_8 ?_
  subst h
  exact z_iret dX0_imbalanceAt_11 hQ
set_option maxHeartbeats 400000 in
set_option maxRecDepth 100000 in
theorem c_X0_imbalanceWith (l : Launch) (g : zG) (a : Nat → Nat) (u : tX0) (p0 : Int32) (p1 : Int32) (p2 : Int32) (r : Int32) (h : f_X0_imbalanceWith u p0 p1 p2 = r) : Ctr l g false yX0_imbalanceWith cX0_imbalanceWith 4 (some .int) 2 43 0 0 [.ref (a 0), .int p0, .int p1, .int p2] ([cX0 g a u]) ([cX0 g a u]) (some (.int r)) := by
  refine ctr_of (by decide) (Nat.le_of_ble_eq_true rfl) (fun X hl _ _ _ hQ => ?_)
  unfold f_X0_imbalanceWith at h
  refine z_lv (lv' := [(0, .ref (a 0)), (1, .int p0), (2, .int p1), (3, .int p2)]) [0, 1, 2, 3] rfl ?_
  refine z_aload_n 0 rfl rfl dX0_imbalanceWith_0 ?_
  refine z_get zcX0 0 rfl 0 rfl 1 (Nat.le_of_ble_eq_true rfl) zfX0_15 (v := .ref (a 2)) rfl dX0_imbalanceWith_1 ?_
  refine z_iload_n 1 rfl rfl dX0_imbalanceWith_4 ?_
  refine z_callNR (rest := []) hl (c_X7_at l g (a 2) 12 (by decide) u.2 p0 _ rfl) zyX7_at zsX7_at zlX0_22 [(0, some (2, 1))] rfl rfl rfl (by decide) (Nat.le_of_ble_eq_true rfl) ⟨Nat.zero_le _, Nat.zero_le _⟩ dX0_imbalanceWith_5 (st2 := [.int (f_X7_at 12 u.2 p0)]) rfl ?_
  refine z_iload_n 3 rfl rfl dX0_imbalanceWith_8 ?_
  refine z_iload_n 2 rfl rfl dX0_imbalanceWith_9 ?_
  refine z_iload_n 1 rfl rfl dX0_imbalanceWith_10 ?_
  refine z_callSR (rest := [.int p2, .int (f_X7_at 12 u.2 p0)]) hl (c_X0_sideOf l g p1 p0 _ rfl) zyX0_sideOf zsX0_sideOf zlX0_30 [] rfl rfl rfl (by decide) (Nat.le_of_ble_eq_true rfl) ⟨Nat.zero_le _, Nat.zero_le _⟩ dX0_imbalanceWith_11 (st2 := [.int (f_X0_sideOf p1 p0), .int p2, .int (f_X7_at 12 u.2 p0)]) rfl ?_
  refine z_imul dX0_imbalanceWith_14 ?_
  refine z_iadd dX0_imbalanceWith_15 ?_
  refine z_mabs zlX0_37 ⟨Nat.le_of_ble_eq_true rfl, Nat.le_of_ble_eq_true rfl⟩ ⟨Nat.zero_le _, Nat.zero_le _⟩ dX0_imbalanceWith_16 ?_
  subst h
  exact z_iret dX0_imbalanceWith_19 hQ
set_option maxHeartbeats 400000 in
set_option maxRecDepth 100000 in
theorem c_X0_imbalanceMoved (l : Launch) (g : zG) (a : Nat → Nat) (u : tX0) (p0 : Int32) (p1 : Int32) (p2 : Int32) (p3 : Int32) (r : Int32) (h : f_X0_imbalanceMoved u p0 p1 p2 p3 = r) : Ctr l g false yX0_imbalanceMoved cX0_imbalanceMoved 6 (some .int) 2 43 0 0 [.ref (a 0), .int p0, .int p1, .int p2, .int p3] ([cX0 g a u]) ([cX0 g a u]) (some (.int r)) := by
  refine ctr_of (by decide) (Nat.le_of_ble_eq_true rfl) (fun X hl _ _ _ hQ => ?_)
  unfold f_X0_imbalanceMoved at h
  refine z_lv (lv' := [(0, .ref (a 0)), (1, .int p0), (2, .int p1), (3, .int p2), (4, .int p3)]) [0, 1, 2, 3, 4] rfl ?_
  refine z_iload 4 rfl dX0_imbalanceMoved_0 ?_
  refine z_iload_n 3 rfl rfl dX0_imbalanceMoved_2 ?_
  refine z_iload_n 1 rfl rfl dX0_imbalanceMoved_3 ?_
  refine z_callSR (rest := [.int p3]) hl (c_X0_sideOf l g p2 p0 _ rfl) zyX0_sideOf zsX0_sideOf zlX0_30 [] rfl rfl rfl (by decide) (Nat.le_of_ble_eq_true rfl) ⟨Nat.zero_le _, Nat.zero_le _⟩ dX0_imbalanceMoved_4 (st2 := [.int (f_X0_sideOf p2 p0), .int p3]) rfl ?_
  refine z_iload_n 2 rfl rfl dX0_imbalanceMoved_7 ?_
  refine z_iload_n 1 rfl rfl dX0_imbalanceMoved_8 ?_
  refine z_callSR (rest := [.int (f_X0_sideOf p2 p0), .int p3]) hl (c_X0_sideOf l g p1 p0 _ rfl) zyX0_sideOf zsX0_sideOf zlX0_30 [] rfl rfl rfl (by decide) (Nat.le_of_ble_eq_true rfl) ⟨Nat.zero_le _, Nat.zero_le _⟩ dX0_imbalanceMoved_9 (st2 := [.int (f_X0_sideOf p1 p0), .int (f_X0_sideOf p2 p0), .int p3]) rfl ?_
  refine z_isub dX0_imbalanceMoved_12 ?_
  refine z_imul dX0_imbalanceMoved_13 ?_
  refine z_istore [(5, .int (p3 * ((f_X0_sideOf p2 p0) - (f_X0_sideOf p1 p0)))), (0, .ref (a 0)), (1, .int p0), (2, .int p1), (3, .int p2), (4, .int p3)] (Nat.le_of_ble_eq_true rfl) rfl dX0_imbalanceMoved_14 ?_
  refine z_aload_n 1 rfl rfl dX0_imbalanceMoved_16 ?_
  refine z_get zcX0 0 rfl 0 rfl 1 (Nat.le_of_ble_eq_true rfl) zfX0_15 (v := .ref (a 2)) rfl dX0_imbalanceMoved_17 ?_
  refine z_iload_n 2 rfl rfl dX0_imbalanceMoved_20 ?_
  refine z_callNR (rest := []) hl (c_X7_at l g (a 2) 12 (by decide) u.2 p0 _ rfl) zyX7_at zsX7_at zlX0_22 [(0, some (2, 1))] rfl rfl rfl (by decide) (Nat.le_of_ble_eq_true rfl) ⟨Nat.zero_le _, Nat.zero_le _⟩ dX0_imbalanceMoved_21 (st2 := [.int (f_X7_at 12 u.2 p0)]) rfl ?_
  refine z_iload 0 rfl dX0_imbalanceMoved_24 ?_
  refine z_iadd dX0_imbalanceMoved_26 ?_
  refine z_mabs zlX0_37 ⟨Nat.le_of_ble_eq_true rfl, Nat.le_of_ble_eq_true rfl⟩ ⟨Nat.zero_le _, Nat.zero_le _⟩ dX0_imbalanceMoved_27 ?_
  subst h
  exact z_iret dX0_imbalanceMoved_30 hQ
set_option maxHeartbeats 400000 in
set_option maxRecDepth 100000 in
theorem c_X0_greatestWith (l : Launch) (g : zG) (a : Nat → Nat) (u : tX0) (p0 : Int32) (p1 : Int32) (r : Int32) (h : f_X0_greatestWith u p0 p1 = some r) : Ctr l g false yX0_greatestWith cX0_greatestWith 5 (some .int) 3 66 0 0 [.ref (a 0), .int p0, .int p1] ([cX0 g a u]) ([cX0 g a u]) (some (.int r)) := by
  refine ctr_of (by decide) (Nat.le_of_ble_eq_true rfl) (fun X hl _ _ _ hQ => ?_)
  unfold f_X0_greatestWith at h
  refine z_lv (lv' := [(0, .ref (a 0)), (1, .int p0), (2, .int p1)]) [0, 1, 2] rfl ?_
  refine z_iconst (v := 0) (by decide) dX0_greatestWith_0 ?_
  refine z_istore_n [(3, .int 0), (0, .ref (a 0)), (1, .int p0), (2, .int p1)] rfl (Nat.le_of_ble_eq_true rfl) rfl dX0_greatestWith_1 ?_
  refine z_iconst (v := 0) (by decide) dX0_greatestWith_2 ?_
  refine z_istore [(4, .int 0), (3, .int 0), (0, .ref (a 0)), (1, .int p0), (2, .int p1)] (Nat.le_of_ble_eq_true rfl) rfl dX0_greatestWith_3 ?_
  obtain ⟨z1, ez1, h⟩ := zb h
  refine z_lv (lv' := [(0, .ref (a 0)), (1, .int p0), (2, .int p1), (3, .int 0), (4, .int 0)]) [2, 3, 4, 1, 0] rfl ?_
  suffices hk5 : (fun (s5 : Int32 × Int32) => Z false RX0 cX0_greatestWith 5 3 66 g X 0 0 ([cX0 g a u]) [(0, .ref (a 0)), (1, .int p0), (2, .int p1), (3, .int s5.1), (4, .int s5.2)] 5 []) (0, 0) by try dsimp only at hk5; exact hk5
  refine lp_ind (σ := Int32 × Int32) (ε := Int32) (b_X0_greatestWith_5 u p0 p1) (fun s5 => Z false RX0 cX0_greatestWith 5 3 66 g X 0 0 ([cX0 g a u]) [(0, .ref (a 0)), (1, .int p0), (2, .int p1), (3, .int s5.1), (4, .int s5.2)] 5 []) (fun z1 => Z false RX0 cX0_greatestWith 5 3 66 g X 0 0 ([cX0 g a u]) [(3, .int z1)] 31 []) (fun s5 q5 h5 i5 x5 => ?_) 5000 (0, 0) z1 ez1 ?_
  · unfold b_X0_greatestWith_5 at h5
    refine z_iload 4 rfl dX0_greatestWith_5 ?_
    refine z_bipush (v := 12) (by decide) dX0_greatestWith_7 ?_
    refine z_icmp_ge (tgt := 31) rfl dX0_greatestWith_9 (fun c9 => ?_) (fun c9 => ?_)
    · replace h5 := (if_pos c9).symm.trans h5
      cases h5
      have k5 := x5 s5.1 rfl
      try dsimp only at k5
      exact z_lv [3] rfl k5
    · replace h5 := (if_neg c9).symm.trans h5
      refine z_iload_n 3 rfl rfl dX0_greatestWith_12 ?_
      refine z_aload_n 0 rfl rfl dX0_greatestWith_13 ?_
      refine z_iload 4 rfl dX0_greatestWith_14 ?_
      refine z_iload_n 1 rfl rfl dX0_greatestWith_16 ?_
      refine z_iload_n 2 rfl rfl dX0_greatestWith_17 ?_
      refine z_callVR (rest := [.int s5.1]) hl (c_X0_imbalanceWith l g a u s5.2 p0 p1 _ rfl) zyX0_imbalanceWith zvX0_imbalanceWith rfl zlX0_43 zcX0.1 ⟨_, _, rfl⟩ [(0, none)] rfl rfl rfl (by decide) (Nat.le_of_ble_eq_true rfl) ⟨Nat.zero_le _, Nat.zero_le _⟩ dX0_greatestWith_18 (st2 := [.int (f_X0_imbalanceWith u s5.2 p0 p1), .int s5.1]) rfl ?_
      refine z_mmax zlX0_47 ⟨Nat.le_of_ble_eq_true rfl, Nat.le_of_ble_eq_true rfl⟩ ⟨Nat.zero_le _, Nat.zero_le _⟩ dX0_greatestWith_21 ?_
      refine z_istore_n [(3, .int (i_max s5.1 (f_X0_imbalanceWith u s5.2 p0 p1))), (0, .ref (a 0)), (1, .int p0), (2, .int p1), (4, .int s5.2)] rfl (Nat.le_of_ble_eq_true rfl) rfl dX0_greatestWith_24 ?_
      refine z_iinc 4 [(4, .int (s5.2 + 1)), (3, .int (i_max s5.1 (f_X0_imbalanceWith u s5.2 p0 p1))), (0, .ref (a 0)), (1, .int p0), (2, .int p1)] rfl (v := (s5.2 + 1)) zinc (Nat.le_of_ble_eq_true rfl) rfl dX0_greatestWith_25 ?_
      refine z_goto (tgt := 5) rfl dX0_greatestWith_28 ?_
      cases h5
      have k5 := i5 ((i_max s5.1 (f_X0_imbalanceWith u s5.2 p0 p1)), (s5.2 + 1)) rfl
      try dsimp only at k5
      exact z_lv [2, 3, 4, 1, 0] rfl k5
  · skip
    refine z_iload_n 0 rfl rfl dX0_greatestWith_31 ?_
    cases h
    exact z_iret dX0_greatestWith_32 hQ
set_option maxHeartbeats 400000 in
set_option maxRecDepth 100000 in
theorem c_X0_balancedSet (l : Launch) (g : zG) (a : Nat → Nat) (u : tX0) (p0 : Int32) (r : Int32) (h : f_X0_balancedSet u p0 = some r) : Ctr l g false yX0_balancedSet cX0_balancedSet 4 (some .int) 0 0 0 0 [.ref (a 0), .int p0] ([cX0 g a u]) ([cX0 g a u]) (some (.int r)) := by
  refine ctr_of (by decide) (Nat.le_of_ble_eq_true rfl) (fun X hl _ _ _ hQ => ?_)
  unfold f_X0_balancedSet at h
  refine z_lv (lv' := [(0, .ref (a 0)), (1, .int p0)]) [0, 1] rfl ?_
  refine z_iconst (v := 0) (by decide) dX0_balancedSet_0 ?_
  refine z_istore_n [(2, .int 0), (0, .ref (a 0)), (1, .int p0)] rfl (Nat.le_of_ble_eq_true rfl) rfl dX0_balancedSet_1 ?_
  refine z_iconst (v := 0) (by decide) dX0_balancedSet_2 ?_
  refine z_istore_n [(3, .int 0), (2, .int 0), (0, .ref (a 0)), (1, .int p0)] rfl (Nat.le_of_ble_eq_true rfl) rfl dX0_balancedSet_3 ?_
  obtain ⟨z1, ez1, h⟩ := zb h
  refine z_lv (lv' := [(0, .ref (a 0)), (1, .int p0), (2, .int 0), (3, .int 0)]) [2, 3, 1, 0] rfl ?_
  suffices hk4 : (fun (s4 : Int32 × Int32) => Z false RX0 cX0_balancedSet 4 0 0 g X 0 0 ([cX0 g a u]) [(0, .ref (a 0)), (1, .int p0), (2, .int s4.1), (3, .int s4.2)] 4 []) (0, 0) by try dsimp only at hk4; exact hk4
  refine lp_ind (σ := Int32 × Int32) (ε := Int32) (b_X0_balancedSet_4 u p0) (fun s4 => Z false RX0 cX0_balancedSet 4 0 0 g X 0 0 ([cX0 g a u]) [(0, .ref (a 0)), (1, .int p0), (2, .int s4.1), (3, .int s4.2)] 4 []) (fun z1 => Z false RX0 cX0_balancedSet 4 0 0 g X 0 0 ([cX0 g a u]) [(2, .int z1)] 46 []) (fun s4 q4 h4 i4 x4 => ?_) 5000 (0, 0) z1 ez1 ?_
  · unfold b_X0_balancedSet_4 at h4
    refine z_iload_n 3 rfl rfl dX0_balancedSet_4 ?_
    refine z_aload_n 0 rfl rfl dX0_balancedSet_5 ?_
    refine z_get zcX0 0 rfl 0 rfl 1 (Nat.le_of_ble_eq_true rfl) zfX0_15 (v := .ref (a 2)) rfl dX0_balancedSet_6 ?_
    refine z_alen 0 rfl 2 rfl (v := 12) (by decide) dX0_balancedSet_9 ?_
    refine z_icmp_ge (tgt := 46) rfl dX0_balancedSet_10 (fun c10 => ?_) (fun c10 => ?_)
    · replace h4 := (if_pos c10).symm.trans h4
      cases h4
      have k4 := x4 s4.1 rfl
      try dsimp only at k4
      exact z_lv [2] rfl k4
    · replace h4 := (if_neg c10).symm.trans h4
      refine z_aload_n 0 rfl rfl dX0_balancedSet_13 ?_
      refine z_get zcX0 0 rfl 0 rfl 1 (Nat.le_of_ble_eq_true rfl) zfX0_15 (v := .ref (a 2)) rfl dX0_balancedSet_14 ?_
      refine z_iload_n 3 rfl rfl dX0_balancedSet_17 ?_
      obtain ⟨r2, er2, h4⟩ := zb h4
      refine z_iald 0 rfl 2 rfl er2 dX0_balancedSet_18 ?_
      refine z_iload_n 1 rfl rfl dX0_balancedSet_19 ?_
      refine z_icmp_gt (tgt := 40) rfl dX0_balancedSet_20 (fun c20 => ?_) (fun c20 => ?_)
      · replace h4 := (if_pos c20).symm.trans h4
        refine z_iinc 3 [(3, .int (s4.2 + 1)), (0, .ref (a 0)), (1, .int p0), (2, .int s4.1)] rfl (v := (s4.2 + 1)) zinc (Nat.le_of_ble_eq_true rfl) rfl dX0_balancedSet_40 ?_
        refine z_goto (tgt := 4) rfl dX0_balancedSet_43 ?_
        cases h4
        have k4 := i4 (s4.1, (s4.2 + 1)) rfl
        try dsimp only at k4
        exact z_lv [1, 2, 3, 0] rfl k4
      · replace h4 := (if_neg c20).symm.trans h4
        refine z_aload_n 0 rfl rfl dX0_balancedSet_23 ?_
        refine z_get zcX0 0 rfl 0 rfl 1 (Nat.le_of_ble_eq_true rfl) zfX0_15 (v := .ref (a 2)) rfl dX0_balancedSet_24 ?_
        refine z_iload_n 3 rfl rfl dX0_balancedSet_27 ?_
        obtain ⟨r3, er3, h4⟩ := zb h4
        refine z_iald 0 rfl 2 rfl er3 dX0_balancedSet_28 ?_
        refine z_ineg dX0_balancedSet_29 ?_
        refine z_iload_n 1 rfl rfl dX0_balancedSet_30 ?_
        refine z_icmp_gt (tgt := 40) rfl dX0_balancedSet_31 (fun c31 => ?_) (fun c31 => ?_)
        · replace h4 := (if_pos c31).symm.trans h4
          refine z_iinc 3 [(3, .int (s4.2 + 1)), (0, .ref (a 0)), (1, .int p0), (2, .int s4.1)] rfl (v := (s4.2 + 1)) zinc (Nat.le_of_ble_eq_true rfl) rfl dX0_balancedSet_40 ?_
          refine z_goto (tgt := 4) rfl dX0_balancedSet_43 ?_
          cases h4
          have k4 := i4 (s4.1, (s4.2 + 1)) rfl
          try dsimp only at k4
          exact z_lv [1, 2, 3, 0] rfl k4
        · replace h4 := (if_neg c31).symm.trans h4
          refine z_iload_n 2 rfl rfl dX0_balancedSet_34 ?_
          refine z_iconst (v := 1) (by decide) dX0_balancedSet_35 ?_
          refine z_iload_n 3 rfl rfl dX0_balancedSet_36 ?_
          refine z_ishl dX0_balancedSet_37 ?_
          refine z_ior dX0_balancedSet_38 ?_
          refine z_istore_n [(2, .int (s4.1 ||| ((1 : Int32) <<< (s4.2 &&& 31)))), (0, .ref (a 0)), (1, .int p0), (3, .int s4.2)] rfl (Nat.le_of_ble_eq_true rfl) rfl dX0_balancedSet_39 ?_
          refine z_iinc 3 [(3, .int (s4.2 + 1)), (2, .int (s4.1 ||| ((1 : Int32) <<< (s4.2 &&& 31)))), (0, .ref (a 0)), (1, .int p0)] rfl (v := (s4.2 + 1)) zinc (Nat.le_of_ble_eq_true rfl) rfl dX0_balancedSet_40 ?_
          refine z_goto (tgt := 4) rfl dX0_balancedSet_43 ?_
          cases h4
          have k4 := i4 ((s4.1 ||| ((1 : Int32) <<< (s4.2 &&& 31))), (s4.2 + 1)) rfl
          try dsimp only at k4
          exact z_lv [2, 3, 1, 0] rfl k4
  · skip
    refine z_iload_n 0 rfl rfl dX0_balancedSet_46 ?_
    cases h
    exact z_iret dX0_balancedSet_47 hQ
set_option maxHeartbeats 400000 in
set_option maxRecDepth 100000 in
theorem c_X0_wholeLoad (l : Launch) (g : zG) (a : Nat → Nat) (u : tX0) (r : Int32) (h : f_X0_wholeLoad u = some r) : Ctr l g false yX0_wholeLoad cX0_wholeLoad 6 (some .int) 0 0 0 0 [.ref (a 0)] ([cX0 g a u]) ([cX0 g a u]) (some (.int r)) := by
  refine ctr_of (by decide) (Nat.le_of_ble_eq_true rfl) (fun X hl _ _ _ hQ => ?_)
  unfold f_X0_wholeLoad at h
  refine z_lv (lv' := [(0, .ref (a 0))]) [0] rfl ?_
  refine z_iconst (v := 0) (by decide) dX0_wholeLoad_0 ?_
  refine z_istore_n [(1, .int 0), (0, .ref (a 0))] rfl (Nat.le_of_ble_eq_true rfl) rfl dX0_wholeLoad_1 ?_
  refine z_aload_n 1 rfl rfl dX0_wholeLoad_2 ?_
  refine z_get zcX0 0 rfl 0 rfl 0 (Nat.le_of_ble_eq_true rfl) zfX0_9 (v := .ref (a 1)) rfl dX0_wholeLoad_3 ?_
  refine z_astore_n [(2, .ref (a 1)), (1, .int 0), (0, .ref (a 0))] rfl (Nat.le_of_ble_eq_true rfl) rfl dX0_wholeLoad_6 ?_
  refine z_aload_n 0 rfl rfl dX0_wholeLoad_7 ?_
  refine z_alen 0 rfl 1 rfl (v := 12) (by decide) dX0_wholeLoad_8 ?_
  refine z_istore_n [(3, .int 12), (2, .ref (a 1)), (1, .int 0), (0, .ref (a 0))] rfl (Nat.le_of_ble_eq_true rfl) rfl dX0_wholeLoad_9 ?_
  refine z_iconst (v := 0) (by decide) dX0_wholeLoad_10 ?_
  refine z_istore [(4, .int 0), (3, .int 12), (2, .ref (a 1)), (1, .int 0), (0, .ref (a 0))] (Nat.le_of_ble_eq_true rfl) rfl dX0_wholeLoad_11 ?_
  obtain ⟨z1, ez1, h⟩ := zb h
  refine z_lv (lv' := [(1, .int 0), (2, .ref (a 1)), (3, .int 12), (4, .int 0)]) [3, 2, 1, 0] rfl ?_
  suffices hk13 : (fun (s13 : Int32 × Int32) => Z false RX0 cX0_wholeLoad 6 0 0 g X 0 0 ([cX0 g a u]) [(1, .int s13.1), (2, .ref (a 1)), (3, .int 12), (4, .int s13.2)] 13 []) (0, 0) by try dsimp only at hk13; exact hk13
  refine lp_ind (σ := Int32 × Int32) (ε := Int32) (b_X0_wholeLoad_13 u) (fun s13 => Z false RX0 cX0_wholeLoad 6 0 0 g X 0 0 ([cX0 g a u]) [(1, .int s13.1), (2, .ref (a 1)), (3, .int 12), (4, .int s13.2)] 13 []) (fun z1 => Z false RX0 cX0_wholeLoad 6 0 0 g X 0 0 ([cX0 g a u]) [(1, .int z1)] 36 []) (fun s13 q13 h13 i13 x13 => ?_) 5000 (0, 0) z1 ez1 ?_
  · unfold b_X0_wholeLoad_13 at h13
    refine z_iload 3 rfl dX0_wholeLoad_13 ?_
    refine z_iload_n 2 rfl rfl dX0_wholeLoad_15 ?_
    refine z_icmp_ge (tgt := 36) rfl dX0_wholeLoad_16 (fun c16 => ?_) (fun c16 => ?_)
    · replace h13 := (if_pos c16).symm.trans h13
      cases h13
      have k13 := x13 s13.1 rfl
      try dsimp only at k13
      exact z_lv [0] rfl k13
    · replace h13 := (if_neg c16).symm.trans h13
      refine z_aload_n 1 rfl rfl dX0_wholeLoad_19 ?_
      refine z_iload 3 rfl dX0_wholeLoad_20 ?_
      obtain ⟨r2, er2, h13⟩ := zb h13
      refine z_iald 0 rfl 1 rfl er2 dX0_wholeLoad_22 ?_
      refine z_istore [(5, .int r2), (1, .int s13.1), (2, .ref (a 1)), (3, .int 12), (4, .int s13.2)] (Nat.le_of_ble_eq_true rfl) rfl dX0_wholeLoad_23 ?_
      refine z_iload_n 1 rfl rfl dX0_wholeLoad_25 ?_
      refine z_iload 0 rfl dX0_wholeLoad_26 ?_
      refine z_iadd dX0_wholeLoad_28 ?_
      refine z_istore_n [(1, .int (s13.1 + r2)), (5, .int r2), (2, .ref (a 1)), (3, .int 12), (4, .int s13.2)] rfl (Nat.le_of_ble_eq_true rfl) rfl dX0_wholeLoad_29 ?_
      refine z_iinc 4 [(4, .int (s13.2 + 1)), (1, .int (s13.1 + r2)), (5, .int r2), (2, .ref (a 1)), (3, .int 12)] rfl (v := (s13.2 + 1)) zinc (Nat.le_of_ble_eq_true rfl) rfl dX0_wholeLoad_30 ?_
      refine z_goto (tgt := 13) rfl dX0_wholeLoad_33 ?_
      cases h13
      have k13 := i13 ((s13.1 + r2), (s13.2 + 1)) rfl
      try dsimp only at k13
      exact z_lv [1, 3, 4, 0] rfl k13
  · skip
    refine z_iload_n 0 rfl rfl dX0_wholeLoad_36 ?_
    cases h
    exact z_iret dX0_wholeLoad_37 hQ
set_option maxHeartbeats 400000 in
set_option maxRecDepth 100000 in
theorem c_X0_greatestLoad (l : Launch) (g : zG) (a : Nat → Nat) (u : tX0) (r : Int32) (h : f_X0_greatestLoad u = some r) : Ctr l g false yX0_greatestLoad cX0_greatestLoad 6 (some .int) 1 13 0 0 [.ref (a 0)] ([cX0 g a u]) ([cX0 g a u]) (some (.int r)) := by
  refine ctr_of (by decide) (Nat.le_of_ble_eq_true rfl) (fun X hl _ _ _ hQ => ?_)
  unfold f_X0_greatestLoad at h
  refine z_lv (lv' := [(0, .ref (a 0))]) [0] rfl ?_
  refine z_iconst (v := 0) (by decide) dX0_greatestLoad_0 ?_
  refine z_istore_n [(1, .int 0), (0, .ref (a 0))] rfl (Nat.le_of_ble_eq_true rfl) rfl dX0_greatestLoad_1 ?_
  refine z_aload_n 1 rfl rfl dX0_greatestLoad_2 ?_
  refine z_get zcX0 0 rfl 0 rfl 0 (Nat.le_of_ble_eq_true rfl) zfX0_9 (v := .ref (a 1)) rfl dX0_greatestLoad_3 ?_
  refine z_astore_n [(2, .ref (a 1)), (1, .int 0), (0, .ref (a 0))] rfl (Nat.le_of_ble_eq_true rfl) rfl dX0_greatestLoad_6 ?_
  refine z_aload_n 0 rfl rfl dX0_greatestLoad_7 ?_
  refine z_alen 0 rfl 1 rfl (v := 12) (by decide) dX0_greatestLoad_8 ?_
  refine z_istore_n [(3, .int 12), (2, .ref (a 1)), (1, .int 0), (0, .ref (a 0))] rfl (Nat.le_of_ble_eq_true rfl) rfl dX0_greatestLoad_9 ?_
  refine z_iconst (v := 0) (by decide) dX0_greatestLoad_10 ?_
  refine z_istore [(4, .int 0), (3, .int 12), (2, .ref (a 1)), (1, .int 0), (0, .ref (a 0))] (Nat.le_of_ble_eq_true rfl) rfl dX0_greatestLoad_11 ?_
  obtain ⟨z1, ez1, h⟩ := zb h
  refine z_lv (lv' := [(1, .int 0), (2, .ref (a 1)), (3, .int 12), (4, .int 0)]) [3, 2, 1, 0] rfl ?_
  suffices hk13 : (fun (s13 : Int32 × Int32) => Z false RX0 cX0_greatestLoad 6 1 13 g X 0 0 ([cX0 g a u]) [(1, .int s13.1), (2, .ref (a 1)), (3, .int 12), (4, .int s13.2)] 13 []) (0, 0) by try dsimp only at hk13; exact hk13
  refine lp_ind (σ := Int32 × Int32) (ε := Int32) (b_X0_greatestLoad_13 u) (fun s13 => Z false RX0 cX0_greatestLoad 6 1 13 g X 0 0 ([cX0 g a u]) [(1, .int s13.1), (2, .ref (a 1)), (3, .int 12), (4, .int s13.2)] 13 []) (fun z1 => Z false RX0 cX0_greatestLoad 6 1 13 g X 0 0 ([cX0 g a u]) [(1, .int z1)] 38 []) (fun s13 q13 h13 i13 x13 => ?_) 5000 (0, 0) z1 ez1 ?_
  · unfold b_X0_greatestLoad_13 at h13
    refine z_iload 3 rfl dX0_greatestLoad_13 ?_
    refine z_iload_n 2 rfl rfl dX0_greatestLoad_15 ?_
    refine z_icmp_ge (tgt := 38) rfl dX0_greatestLoad_16 (fun c16 => ?_) (fun c16 => ?_)
    · replace h13 := (if_pos c16).symm.trans h13
      cases h13
      have k13 := x13 s13.1 rfl
      try dsimp only at k13
      exact z_lv [0] rfl k13
    · replace h13 := (if_neg c16).symm.trans h13
      refine z_aload_n 1 rfl rfl dX0_greatestLoad_19 ?_
      refine z_iload 3 rfl dX0_greatestLoad_20 ?_
      obtain ⟨r2, er2, h13⟩ := zb h13
      refine z_iald 0 rfl 1 rfl er2 dX0_greatestLoad_22 ?_
      refine z_istore [(5, .int r2), (1, .int s13.1), (2, .ref (a 1)), (3, .int 12), (4, .int s13.2)] (Nat.le_of_ble_eq_true rfl) rfl dX0_greatestLoad_23 ?_
      refine z_iload_n 1 rfl rfl dX0_greatestLoad_25 ?_
      refine z_iload 0 rfl dX0_greatestLoad_26 ?_
      refine z_mmax zlX0_47 ⟨Nat.le_of_ble_eq_true rfl, Nat.le_of_ble_eq_true rfl⟩ ⟨Nat.zero_le _, Nat.zero_le _⟩ dX0_greatestLoad_28 ?_
      refine z_istore_n [(1, .int (i_max s13.1 r2)), (5, .int r2), (2, .ref (a 1)), (3, .int 12), (4, .int s13.2)] rfl (Nat.le_of_ble_eq_true rfl) rfl dX0_greatestLoad_31 ?_
      refine z_iinc 4 [(4, .int (s13.2 + 1)), (1, .int (i_max s13.1 r2)), (5, .int r2), (2, .ref (a 1)), (3, .int 12)] rfl (v := (s13.2 + 1)) zinc (Nat.le_of_ble_eq_true rfl) rfl dX0_greatestLoad_32 ?_
      refine z_goto (tgt := 13) rfl dX0_greatestLoad_35 ?_
      cases h13
      have k13 := i13 ((i_max s13.1 r2), (s13.2 + 1)) rfl
      try dsimp only at k13
      exact z_lv [1, 3, 4, 0] rfl k13
  · skip
    refine z_iload_n 0 rfl rfl dX0_greatestLoad_38 ?_
    cases h
    exact z_iret dX0_greatestLoad_39 hQ
set_option maxHeartbeats 400000 in
set_option maxRecDepth 100000 in
theorem c_X0_leastLoad (l : Launch) (g : zG) (a : Nat → Nat) (u : tX0) (r : Int32) (h : f_X0_leastLoad u = some r) : Ctr l g false yX0_leastLoad cX0_leastLoad 6 (some .int) 1 21 0 0 [.ref (a 0)] ([cX0 g a u]) ([cX0 g a u]) (some (.int r)) := by
  refine ctr_of (by decide) (Nat.le_of_ble_eq_true rfl) (fun X hl _ _ _ hQ => ?_)
  unfold f_X0_leastLoad at h
  refine z_lv (lv' := [(0, .ref (a 0))]) [0] rfl ?_
  refine z_aload_n 0 rfl rfl dX0_leastLoad_0 ?_
  refine z_get zcX0 0 rfl 0 rfl 0 (Nat.le_of_ble_eq_true rfl) zfX0_9 (v := .ref (a 1)) rfl dX0_leastLoad_1 ?_
  refine z_iconst (v := 0) (by decide) dX0_leastLoad_4 ?_
  refine z_callNR (rest := []) hl (c_X7_at l g (a 1) 12 (by decide) u.1 0 _ rfl) zyX7_at zsX7_at zlX0_22 [(0, some (1, 1))] rfl rfl rfl (by decide) (Nat.le_of_ble_eq_true rfl) ⟨Nat.zero_le _, Nat.zero_le _⟩ dX0_leastLoad_5 (st2 := [.int (f_X7_at 12 u.1 0)]) rfl ?_
  refine z_istore_n [(1, .int (f_X7_at 12 u.1 0)), (0, .ref (a 0))] rfl (Nat.le_of_ble_eq_true rfl) rfl dX0_leastLoad_8 ?_
  refine z_aload_n 1 rfl rfl dX0_leastLoad_9 ?_
  refine z_get zcX0 0 rfl 0 rfl 0 (Nat.le_of_ble_eq_true rfl) zfX0_9 (v := .ref (a 1)) rfl dX0_leastLoad_10 ?_
  refine z_astore_n [(2, .ref (a 1)), (1, .int (f_X7_at 12 u.1 0)), (0, .ref (a 0))] rfl (Nat.le_of_ble_eq_true rfl) rfl dX0_leastLoad_13 ?_
  refine z_aload_n 0 rfl rfl dX0_leastLoad_14 ?_
  refine z_alen 0 rfl 1 rfl (v := 12) (by decide) dX0_leastLoad_15 ?_
  refine z_istore_n [(3, .int 12), (2, .ref (a 1)), (1, .int (f_X7_at 12 u.1 0)), (0, .ref (a 0))] rfl (Nat.le_of_ble_eq_true rfl) rfl dX0_leastLoad_16 ?_
  refine z_iconst (v := 0) (by decide) dX0_leastLoad_17 ?_
  refine z_istore [(4, .int 0), (3, .int 12), (2, .ref (a 1)), (1, .int (f_X7_at 12 u.1 0)), (0, .ref (a 0))] (Nat.le_of_ble_eq_true rfl) rfl dX0_leastLoad_18 ?_
  obtain ⟨z1, ez1, h⟩ := zb h
  refine z_lv (lv' := [(1, .int (f_X7_at 12 u.1 0)), (2, .ref (a 1)), (3, .int 12), (4, .int 0)]) [3, 2, 1, 0] rfl ?_
  suffices hk20 : (fun (s20 : Int32 × Int32) => Z false RX0 cX0_leastLoad 6 1 21 g X 0 0 ([cX0 g a u]) [(1, .int s20.1), (2, .ref (a 1)), (3, .int 12), (4, .int s20.2)] 20 []) ((f_X7_at 12 u.1 0), 0) by try dsimp only at hk20; exact hk20
  refine lp_ind (σ := Int32 × Int32) (ε := Int32) (b_X0_leastLoad_20 u) (fun s20 => Z false RX0 cX0_leastLoad 6 1 21 g X 0 0 ([cX0 g a u]) [(1, .int s20.1), (2, .ref (a 1)), (3, .int 12), (4, .int s20.2)] 20 []) (fun z1 => Z false RX0 cX0_leastLoad 6 1 21 g X 0 0 ([cX0 g a u]) [(1, .int z1)] 45 []) (fun s20 q20 h20 i20 x20 => ?_) 5000 ((f_X7_at 12 u.1 0), 0) z1 ez1 ?_
  · unfold b_X0_leastLoad_20 at h20
    refine z_iload 3 rfl dX0_leastLoad_20 ?_
    refine z_iload_n 2 rfl rfl dX0_leastLoad_22 ?_
    refine z_icmp_ge (tgt := 45) rfl dX0_leastLoad_23 (fun c23 => ?_) (fun c23 => ?_)
    · replace h20 := (if_pos c23).symm.trans h20
      cases h20
      have k20 := x20 s20.1 rfl
      try dsimp only at k20
      exact z_lv [0] rfl k20
    · replace h20 := (if_neg c23).symm.trans h20
      refine z_aload_n 1 rfl rfl dX0_leastLoad_26 ?_
      refine z_iload 3 rfl dX0_leastLoad_27 ?_
      obtain ⟨r2, er2, h20⟩ := zb h20
      refine z_iald 0 rfl 1 rfl er2 dX0_leastLoad_29 ?_
      refine z_istore [(5, .int r2), (1, .int s20.1), (2, .ref (a 1)), (3, .int 12), (4, .int s20.2)] (Nat.le_of_ble_eq_true rfl) rfl dX0_leastLoad_30 ?_
      refine z_iload_n 1 rfl rfl dX0_leastLoad_32 ?_
      refine z_iload 0 rfl dX0_leastLoad_33 ?_
      refine z_mmin zlX0_50 ⟨Nat.le_of_ble_eq_true rfl, Nat.le_of_ble_eq_true rfl⟩ ⟨Nat.zero_le _, Nat.zero_le _⟩ dX0_leastLoad_35 ?_
      refine z_istore_n [(1, .int (i_min s20.1 r2)), (5, .int r2), (2, .ref (a 1)), (3, .int 12), (4, .int s20.2)] rfl (Nat.le_of_ble_eq_true rfl) rfl dX0_leastLoad_38 ?_
      refine z_iinc 4 [(4, .int (s20.2 + 1)), (1, .int (i_min s20.1 r2)), (5, .int r2), (2, .ref (a 1)), (3, .int 12)] rfl (v := (s20.2 + 1)) zinc (Nat.le_of_ble_eq_true rfl) rfl dX0_leastLoad_39 ?_
      refine z_goto (tgt := 20) rfl dX0_leastLoad_42 ?_
      cases h20
      have k20 := i20 ((i_min s20.1 r2), (s20.2 + 1)) rfl
      try dsimp only at k20
      exact z_lv [1, 3, 4, 0] rfl k20
  · skip
    refine z_iload_n 0 rfl rfl dX0_leastLoad_45 ?_
    cases h
    exact z_iret dX0_leastLoad_46 hQ
set_option maxHeartbeats 400000 in
set_option maxRecDepth 100000 in
theorem c_X1_addSign (l : Launch) (g : zG) (a : Nat → Nat) (u : tX1) (p0 : Int32) (r : tX1) (h : f_X1_addSign u p0 = some r) : Ctr l g true yX1_addSign cX1_addSign 2 none 1 22 0 0 [.ref (a 0), .int p0] ([cX1 g a u]) ([cX1 g a r]) none := by
  refine ctr_of (by decide) (Nat.le_of_ble_eq_true rfl) (fun X hl _ _ _ hQ => ?_)
  unfold f_X1_addSign at h
  refine z_lv (lv' := [(0, .ref (a 0)), (1, .int p0)]) [0, 1] rfl ?_
  refine z_aload_n 0 rfl rfl dX1_addSign_0 ?_
  refine z_get zcX1 0 rfl 0 rfl 0 (Nat.le_of_ble_eq_true rfl) zfX1_9 (v := .ref (a 1)) rfl dX1_addSign_1 ?_
  refine z_aload_n 0 rfl rfl dX1_addSign_4 ?_
  refine z_get zcX1 0 rfl 0 rfl 1 (Nat.le_of_ble_eq_true rfl) zfX1_18 (v := .int u.2.1) rfl dX1_addSign_5 ?_
  refine z_iload_n 1 rfl rfl dX1_addSign_8 ?_
  obtain ⟨r1, er1, h⟩ := zb h
  refine z_callNW (rest := []) hl (c_X7_write l g (a 1) 60 (by decide) u.1 u.2.1 p0 _ (Option.some.inj er1)) zyX7_write zsX7_write zlX1_22 [(0, some (1, 1))] rfl (by decide) rfl (w' := [dX1 g a r1 u.2.1 u.2.2.1 u.2.2.2.1 u.2.2.2.2.1 u.2.2.2.2.2]) rfl rfl rfl (by decide) (Nat.le_of_ble_eq_true rfl) ⟨Nat.zero_le _, Nat.zero_le _⟩ dX1_addSign_9 (st2 := []) rfl ?_
  refine z_aload_n 0 rfl rfl dX1_addSign_12 ?_
  refine z_dup rfl dX1_addSign_13 ?_
  refine z_get zcX1 0 rfl 0 rfl 1 (Nat.le_of_ble_eq_true rfl) zfX1_18 (v := .int u.2.1) rfl dX1_addSign_14 ?_
  refine z_iconst (v := 1) (by decide) dX1_addSign_17 ?_
  refine z_iadd dX1_addSign_18 ?_
  refine z_put (t := .int) ([dX1 g a r1 (u.2.1 + 1) u.2.2.1 u.2.2.2.1 u.2.2.2.2.1 u.2.2.2.2.2]) zcX1 0 rfl 0 rfl 1 (Nat.le_of_ble_eq_true rfl) zfX1_18 zpX1_1 (zn_i _) (zf_i _) (Nat.le_of_ble_eq_true rfl) rfl dX1_addSign_19 ?_
  cases h
  exact z_vret dX1_addSign_22 hQ
set_option maxHeartbeats 400000 in
set_option maxRecDepth 100000 in
theorem c_X1_isTold (l : Launch) (g : zG) (a : Nat → Nat) (u : tX1) (p0 : Int32) (r : Bool) (h : f_X1_isTold u p0 = some r) : Ctr l g false yX1_isTold cX1_isTold 3 (some .boolean) 0 0 0 0 [.ref (a 0), .int p0] ([cX1 g a u]) ([cX1 g a u]) (some (.int (b2i r))) := by
  refine ctr_of (by decide) (Nat.le_of_ble_eq_true rfl) (fun X hl _ _ _ hQ => ?_)
  unfold f_X1_isTold at h
  refine z_lv (lv' := [(0, .ref (a 0)), (1, .int p0)]) [0, 1] rfl ?_
  refine z_iconst (v := 0) (by decide) dX1_isTold_0 ?_
  refine z_istore_n [(2, .int 0), (0, .ref (a 0)), (1, .int p0)] rfl (Nat.le_of_ble_eq_true rfl) rfl dX1_isTold_1 ?_
  refine z_lv (lv' := [(0, .ref (a 0)), (1, .int p0), (2, .int 0)]) [1, 2, 0] rfl ?_
  suffices hk2 : (fun (s2 : Int32) => Z false RX1 cX1_isTold 3 0 0 g X 0 0 ([cX1 g a u]) [(0, .ref (a 0)), (1, .int p0), (2, .int s2)] 2 []) 0 by try dsimp only at hk2; exact hk2
  refine lp_ind (σ := Int32) (ε := Bool) (b_X1_isTold_2 u p0) (fun s2 => Z false RX1 cX1_isTold 3 0 0 g X 0 0 ([cX1 g a u]) [(0, .ref (a 0)), (1, .int p0), (2, .int s2)] 2 []) (fun z => z = r) (fun s2 q2 h2 i2 x2 => ?_) 5000 0 r h rfl
  unfold b_X1_isTold_2 at h2
  refine z_iload_n 2 rfl rfl dX1_isTold_2 ?_
  refine z_aload_n 0 rfl rfl dX1_isTold_3 ?_
  refine z_get zcX1 0 rfl 0 rfl 3 (Nat.le_of_ble_eq_true rfl) zfX1_26 (v := .int u.2.2.2.1) rfl dX1_isTold_4 ?_
  refine z_icmp_ge (tgt := 37) rfl dX1_isTold_7 (fun c7 => ?_) (fun c7 => ?_)
  · replace h2 := (if_pos c7).symm.trans h2
    refine z_iconst (v := 0) (by decide) dX1_isTold_37 ?_
    cases h2
    have y2 := x2 _ rfl
    cases y2
    exact z_zret _ (by rfl) dX1_isTold_38 hQ
  · replace h2 := (if_neg c7).symm.trans h2
    refine z_iload_n 2 rfl rfl dX1_isTold_10 ?_
    refine z_aload_n 0 rfl rfl dX1_isTold_11 ?_
    refine z_get zcX1 0 rfl 0 rfl 2 (Nat.le_of_ble_eq_true rfl) zfX1_15 (v := .ref (a 2)) rfl dX1_isTold_12 ?_
    refine z_alen 0 rfl 2 rfl (v := 6) (by decide) dX1_isTold_15 ?_
    refine z_icmp_ge (tgt := 37) rfl dX1_isTold_16 (fun c16 => ?_) (fun c16 => ?_)
    · replace h2 := (if_pos c16).symm.trans h2
      refine z_iconst (v := 0) (by decide) dX1_isTold_37 ?_
      cases h2
      have y2 := x2 _ rfl
      cases y2
      exact z_zret _ (by rfl) dX1_isTold_38 hQ
    · replace h2 := (if_neg c16).symm.trans h2
      refine z_aload_n 0 rfl rfl dX1_isTold_19 ?_
      refine z_get zcX1 0 rfl 0 rfl 2 (Nat.le_of_ble_eq_true rfl) zfX1_15 (v := .ref (a 2)) rfl dX1_isTold_20 ?_
      refine z_iload_n 2 rfl rfl dX1_isTold_23 ?_
      obtain ⟨r1, er1, h2⟩ := zb h2
      refine z_iald 0 rfl 2 rfl er1 dX1_isTold_24 ?_
      refine z_iload_n 1 rfl rfl dX1_isTold_25 ?_
      refine z_icmp_ne (tgt := 31) rfl dX1_isTold_26 (fun c26 => ?_) (fun c26 => ?_)
      · replace h2 := (if_neg c26).symm.trans h2
        refine z_iinc 2 [(2, .int (s2 + 1)), (0, .ref (a 0)), (1, .int p0)] rfl (v := (s2 + 1)) zinc (Nat.le_of_ble_eq_true rfl) rfl dX1_isTold_31 ?_
        refine z_goto (tgt := 2) rfl dX1_isTold_34 ?_
        cases h2
        have k2 := i2 (s2 + 1) rfl
        try dsimp only at k2
        exact z_lv [1, 2, 0] rfl k2
      · replace h2 := (if_pos c26).symm.trans h2
        refine z_iconst (v := 1) (by decide) dX1_isTold_29 ?_
        cases h2
        have y2 := x2 _ rfl
        cases y2
        exact z_zret _ (by rfl) dX1_isTold_30 hQ
set_option maxHeartbeats 400000 in
set_option maxRecDepth 100000 in
theorem c_X1_canGoOn (l : Launch) (g : zG) (a : Nat → Nat) (u : tX1) (r : Bool) (h : f_X1_canGoOn u = r) : Ctr l g false yX1_canGoOn cX1_canGoOn 1 (some .boolean) 0 0 0 0 [.ref (a 0)] ([cX1 g a u]) ([cX1 g a u]) (some (.int (b2i r))) := by
  refine ctr_of (by decide) (Nat.le_of_ble_eq_true rfl) (fun X hl _ _ _ hQ => ?_)
  unfold f_X1_canGoOn at h
  refine z_lv (lv' := [(0, .ref (a 0))]) [0] rfl ?_
  refine z_aload_n 0 rfl rfl dX1_canGoOn_0 ?_
  refine z_get zcX1 0 rfl 0 rfl 4 (Nat.le_of_ble_eq_true rfl) zfX1_29 (v := .int u.2.2.2.2.1) rfl dX1_canGoOn_1 ?_
  refine z_if_eq (tgt := 19) rfl dX1_canGoOn_4 (fun c4 => ?_) (fun c4 => ?_)
  · replace h := (if_pos c4).symm.trans h
    refine z_iconst (v := 0) (by decide) dX1_canGoOn_19 ?_
    subst h
    exact z_zret _ (by rfl) dX1_canGoOn_20 hQ
  · replace h := (if_neg c4).symm.trans h
    refine z_aload_n 0 rfl rfl dX1_canGoOn_7 ?_
    refine z_get zcX1 0 rfl 0 rfl 5 (Nat.le_of_ble_eq_true rfl) zfX1_32 (v := .int u.2.2.2.2.2) rfl dX1_canGoOn_8 ?_
    refine z_iconst (v := 3) (by decide) dX1_canGoOn_11 ?_
    refine z_icmp_ge (tgt := 19) rfl dX1_canGoOn_12 (fun c12 => ?_) (fun c12 => ?_)
    · replace h := (if_pos c12).symm.trans h
      refine z_iconst (v := 0) (by decide) dX1_canGoOn_19 ?_
      subst h
      exact z_zret _ (by rfl) dX1_canGoOn_20 hQ
    · replace h := (if_neg c12).symm.trans h
      refine z_iconst (v := 1) (by decide) dX1_canGoOn_15 ?_
      refine z_goto (tgt := 20) rfl dX1_canGoOn_16 ?_
      subst h
      exact z_zret _ (by rfl) dX1_canGoOn_20 hQ
set_option maxHeartbeats 400000 in
set_option maxRecDepth 100000 in
theorem c_X1_endNumber (l : Launch) (g : zG) (a : Nat → Nat) (u : tX1) (r : Bool × tX1) (h : f_X1_endNumber u = some r) : Ctr l g true yX1_endNumber cX1_endNumber 1 (some .boolean) 1 22 0 0 [.ref (a 0)] ([cX1 g a u]) ([cX1 g a r.2]) (some (.int (b2i r.1))) := by
  refine ctr_of (by decide) (Nat.le_of_ble_eq_true rfl) (fun X hl _ _ _ hQ => ?_)
  unfold f_X1_endNumber at h
  refine z_lv (lv' := [(0, .ref (a 0))]) [0] rfl ?_
  refine z_aload_n 0 rfl rfl dX1_endNumber_0 ?_
  refine z_get zcX1 0 rfl 0 rfl 5 (Nat.le_of_ble_eq_true rfl) zfX1_32 (v := .int u.2.2.2.2.2) rfl dX1_endNumber_1 ?_
  refine z_if_eq (tgt := 18) rfl dX1_endNumber_4 (fun c4 => ?_) (fun c4 => ?_)
  · replace h := (if_pos c4).symm.trans h
    refine z_iconst (v := 0) (by decide) dX1_endNumber_18 ?_
    cases h
    try dsimp only at hQ
    exact z_zret _ (by rfl) dX1_endNumber_19 hQ
  · replace h := (if_neg c4).symm.trans h
    refine z_aload_n 0 rfl rfl dX1_endNumber_7 ?_
    refine z_aload_n 0 rfl rfl dX1_endNumber_8 ?_
    refine z_get zcX1 0 rfl 0 rfl 4 (Nat.le_of_ble_eq_true rfl) zfX1_29 (v := .int u.2.2.2.2.1) rfl dX1_endNumber_9 ?_
    obtain ⟨r1, er1, h⟩ := zb h
    refine z_callVR (rest := []) hl (c_X1_isTold l g a u u.2.2.2.2.1 _ er1) zyX1_isTold zvX1_isTold rfl zlX1_57 zcX1.1 ⟨_, _, rfl⟩ [(0, none)] rfl rfl rfl (by decide) (Nat.le_of_ble_eq_true rfl) ⟨Nat.zero_le _, Nat.zero_le _⟩ dX1_endNumber_12 (st2 := [.int (b2i r1)]) rfl ?_
    refine z_ifB_eq (tgt := 20) rfl dX1_endNumber_15 (fun c15 => ?_) (fun c15 => ?_)
    · replace h := (if_neg c15).symm.trans h
      refine z_aload_n 0 rfl rfl dX1_endNumber_20 ?_
      refine z_get zcX1 0 rfl 0 rfl 2 (Nat.le_of_ble_eq_true rfl) zfX1_15 (v := .ref (a 2)) rfl dX1_endNumber_21 ?_
      refine z_aload_n 0 rfl rfl dX1_endNumber_24 ?_
      refine z_get zcX1 0 rfl 0 rfl 3 (Nat.le_of_ble_eq_true rfl) zfX1_26 (v := .int u.2.2.2.1) rfl dX1_endNumber_25 ?_
      refine z_aload_n 0 rfl rfl dX1_endNumber_28 ?_
      refine z_get zcX1 0 rfl 0 rfl 4 (Nat.le_of_ble_eq_true rfl) zfX1_29 (v := .int u.2.2.2.2.1) rfl dX1_endNumber_29 ?_
      obtain ⟨r2, er2, h⟩ := zb h
      refine z_callNW (rest := []) hl (c_X7_write l g (a 2) 6 (by decide) u.2.2.1 u.2.2.2.1 u.2.2.2.2.1 _ (Option.some.inj er2)) zyX7_write zsX7_write zlX1_22 [(0, some (2, 1))] rfl (by decide) rfl (w' := [dX1 g a u.1 u.2.1 r2 u.2.2.2.1 u.2.2.2.2.1 u.2.2.2.2.2]) rfl rfl rfl (by decide) (Nat.le_of_ble_eq_true rfl) ⟨Nat.zero_le _, Nat.zero_le _⟩ dX1_endNumber_32 (st2 := []) rfl ?_
      refine z_aload_n 0 rfl rfl dX1_endNumber_35 ?_
      refine z_dup rfl dX1_endNumber_36 ?_
      refine z_get zcX1 0 rfl 0 rfl 3 (Nat.le_of_ble_eq_true rfl) zfX1_26 (v := .int u.2.2.2.1) rfl dX1_endNumber_37 ?_
      refine z_iconst (v := 1) (by decide) dX1_endNumber_40 ?_
      refine z_iadd dX1_endNumber_41 ?_
      refine z_put (t := .int) ([dX1 g a u.1 u.2.1 r2 (u.2.2.2.1 + 1) u.2.2.2.2.1 u.2.2.2.2.2]) zcX1 0 rfl 0 rfl 3 (Nat.le_of_ble_eq_true rfl) zfX1_26 zpX1_3 (zn_i _) (zf_i _) (Nat.le_of_ble_eq_true rfl) rfl dX1_endNumber_42 ?_
      refine z_aload_n 0 rfl rfl dX1_endNumber_45 ?_
      refine z_iconst (v := 0) (by decide) dX1_endNumber_46 ?_
      refine z_put (t := .int) ([dX1 g a u.1 u.2.1 r2 (u.2.2.2.1 + 1) 0 u.2.2.2.2.2]) zcX1 0 rfl 0 rfl 4 (Nat.le_of_ble_eq_true rfl) zfX1_29 zpX1_4 (zn_i _) (zf_i _) (Nat.le_of_ble_eq_true rfl) rfl dX1_endNumber_47 ?_
      refine z_aload_n 0 rfl rfl dX1_endNumber_50 ?_
      refine z_iconst (v := 0) (by decide) dX1_endNumber_51 ?_
      refine z_put (t := .int) ([dX1 g a u.1 u.2.1 r2 (u.2.2.2.1 + 1) 0 0]) zcX1 0 rfl 0 rfl 5 (Nat.le_of_ble_eq_true rfl) zfX1_32 zpX1_5 (zn_i _) (zf_i _) (Nat.le_of_ble_eq_true rfl) rfl dX1_endNumber_52 ?_
      refine z_iconst (v := 1) (by decide) dX1_endNumber_55 ?_
      cases h
      try dsimp only at hQ
      exact z_zret _ (by rfl) dX1_endNumber_56 hQ
    · replace h := (if_pos c15).symm.trans h
      refine z_iconst (v := 0) (by decide) dX1_endNumber_18 ?_
      cases h
      try dsimp only at hQ
      exact z_zret _ (by rfl) dX1_endNumber_19 hQ
set_option maxHeartbeats 400000 in
set_option maxRecDepth 100000 in
theorem c_X1_isDigitTaken (l : Launch) (g : zG) (a : Nat → Nat) (u : tX1) (p0 : Int32) (r : Bool × tX1) (h : f_X1_isDigitTaken u p0 = some r) : Ctr l g true yX1_isDigitTaken cX1_isDigitTaken 2 (some .boolean) 1 22 0 0 [.ref (a 0), .int p0] ([cX1 g a u]) ([cX1 g a r.2]) (some (.int (b2i r.1))) := by
  refine ctr_of (by decide) (Nat.le_of_ble_eq_true rfl) (fun X hl _ _ _ hQ => ?_)
  unfold f_X1_isDigitTaken at h
  refine z_lv (lv' := [(0, .ref (a 0)), (1, .int p0)]) [0, 1] rfl ?_
  refine z_aload_n 0 rfl rfl dX1_isDigitTaken_0 ?_
  refine z_get zcX1 0 rfl 0 rfl 5 (Nat.le_of_ble_eq_true rfl) zfX1_32 (v := .int u.2.2.2.2.2) rfl dX1_isDigitTaken_1 ?_
  refine z_if_le (tgt := 16) rfl dX1_isDigitTaken_4 (fun c4 => ?_) (fun c4 => ?_)
  · replace h := (if_pos c4).symm.trans h
    refine z_aload_n 0 rfl rfl dX1_isDigitTaken_16 ?_
    refine z_aload_n 0 rfl rfl dX1_isDigitTaken_17 ?_
    refine z_get zcX1 0 rfl 0 rfl 4 (Nat.le_of_ble_eq_true rfl) zfX1_29 (v := .int u.2.2.2.2.1) rfl dX1_isDigitTaken_18 ?_
    refine z_bipush (v := 10) (by decide) dX1_isDigitTaken_21 ?_
    refine z_imul dX1_isDigitTaken_23 ?_
    refine z_iload_n 1 rfl rfl dX1_isDigitTaken_24 ?_
    refine z_iadd dX1_isDigitTaken_25 ?_
    refine z_put (t := .int) ([dX1 g a u.1 u.2.1 u.2.2.1 u.2.2.2.1 ((u.2.2.2.2.1 * 10) + p0) u.2.2.2.2.2]) zcX1 0 rfl 0 rfl 4 (Nat.le_of_ble_eq_true rfl) zfX1_29 zpX1_4 (zn_i _) (zf_i _) (Nat.le_of_ble_eq_true rfl) rfl dX1_isDigitTaken_26 ?_
    refine z_aload_n 0 rfl rfl dX1_isDigitTaken_29 ?_
    refine z_dup rfl dX1_isDigitTaken_30 ?_
    refine z_get zcX1 0 rfl 0 rfl 5 (Nat.le_of_ble_eq_true rfl) zfX1_32 (v := .int u.2.2.2.2.2) rfl dX1_isDigitTaken_31 ?_
    refine z_iconst (v := 1) (by decide) dX1_isDigitTaken_34 ?_
    refine z_iadd dX1_isDigitTaken_35 ?_
    refine z_put (t := .int) ([dX1 g a u.1 u.2.1 u.2.2.1 u.2.2.2.1 ((u.2.2.2.2.1 * 10) + p0) (u.2.2.2.2.2 + 1)]) zcX1 0 rfl 0 rfl 5 (Nat.le_of_ble_eq_true rfl) zfX1_32 zpX1_5 (zn_i _) (zf_i _) (Nat.le_of_ble_eq_true rfl) rfl dX1_isDigitTaken_36 ?_
    refine z_aload_n 0 rfl rfl dX1_isDigitTaken_39 ?_
    refine z_callVR (rest := []) hl (c_X1_canGoOn l g a (u.1, u.2.1, u.2.2.1, u.2.2.2.1, ((u.2.2.2.2.1 * 10) + p0), (u.2.2.2.2.2 + 1)) _ rfl) zyX1_canGoOn zvX1_canGoOn rfl zlX1_54 zcX1.1 ⟨_, _, rfl⟩ [(0, none)] rfl rfl rfl (by decide) (Nat.le_of_ble_eq_true rfl) ⟨Nat.zero_le _, Nat.zero_le _⟩ dX1_isDigitTaken_40 (st2 := [.int (b2i (f_X1_canGoOn (u.1, u.2.1, u.2.2.1, u.2.2.2.1, ((u.2.2.2.2.1 * 10) + p0), (u.2.2.2.2.2 + 1))))]) rfl ?_
    refine z_ifB_ne (tgt := 57) rfl dX1_isDigitTaken_43 (fun c43 => ?_) (fun c43 => ?_)
    · replace h := (if_pos c43).symm.trans h
      refine z_iconst (v := 1) (by decide) dX1_isDigitTaken_57 ?_
      refine z_goto (tgt := 62) rfl dX1_isDigitTaken_58 ?_
      cases h
      try dsimp only at hQ
      exact z_zret _ (by rfl) dX1_isDigitTaken_62 hQ
    · replace h := (if_neg c43).symm.trans h
      refine z_aload_n 0 rfl rfl dX1_isDigitTaken_46 ?_
      refine z_aload_n 0 rfl rfl dX1_isDigitTaken_47 ?_
      refine z_get zcX1 0 rfl 0 rfl 4 (Nat.le_of_ble_eq_true rfl) zfX1_29 (v := .int ((u.2.2.2.2.1 * 10) + p0)) rfl dX1_isDigitTaken_48 ?_
      obtain ⟨r1, er1, h⟩ := zb h
      refine z_callVR (rest := []) hl (c_X1_isTold l g a (u.1, u.2.1, u.2.2.1, u.2.2.2.1, ((u.2.2.2.2.1 * 10) + p0), (u.2.2.2.2.2 + 1)) ((u.2.2.2.2.1 * 10) + p0) _ er1) zyX1_isTold zvX1_isTold rfl zlX1_57 zcX1.1 ⟨_, _, rfl⟩ [(0, none)] rfl rfl rfl (by decide) (Nat.le_of_ble_eq_true rfl) ⟨Nat.zero_le _, Nat.zero_le _⟩ dX1_isDigitTaken_51 (st2 := [.int (b2i r1)]) rfl ?_
      refine z_ifB_ne (tgt := 61) rfl dX1_isDigitTaken_54 (fun c54 => ?_) (fun c54 => ?_)
      · replace h := (if_pos c54).symm.trans h
        refine z_iconst (v := 0) (by decide) dX1_isDigitTaken_61 ?_
        cases h
        try dsimp only at hQ
        exact z_zret _ (by rfl) dX1_isDigitTaken_62 hQ
      · replace h := (if_neg c54).symm.trans h
        refine z_iconst (v := 1) (by decide) dX1_isDigitTaken_57 ?_
        refine z_goto (tgt := 62) rfl dX1_isDigitTaken_58 ?_
        cases h
        try dsimp only at hQ
        exact z_zret _ (by rfl) dX1_isDigitTaken_62 hQ
  · replace h := (if_neg c4).symm.trans h
    refine z_aload_n 0 rfl rfl dX1_isDigitTaken_7 ?_
    refine z_callVR (rest := []) hl (c_X1_canGoOn l g a u _ rfl) zyX1_canGoOn zvX1_canGoOn rfl zlX1_54 zcX1.1 ⟨_, _, rfl⟩ [(0, none)] rfl rfl rfl (by decide) (Nat.le_of_ble_eq_true rfl) ⟨Nat.zero_le _, Nat.zero_le _⟩ dX1_isDigitTaken_8 (st2 := [.int (b2i (f_X1_canGoOn u))]) rfl ?_
    refine z_ifB_ne (tgt := 16) rfl dX1_isDigitTaken_11 (fun c11 => ?_) (fun c11 => ?_)
    · replace h := (if_pos c11).symm.trans h
      refine z_aload_n 0 rfl rfl dX1_isDigitTaken_16 ?_
      refine z_aload_n 0 rfl rfl dX1_isDigitTaken_17 ?_
      refine z_get zcX1 0 rfl 0 rfl 4 (Nat.le_of_ble_eq_true rfl) zfX1_29 (v := .int u.2.2.2.2.1) rfl dX1_isDigitTaken_18 ?_
      refine z_bipush (v := 10) (by decide) dX1_isDigitTaken_21 ?_
      refine z_imul dX1_isDigitTaken_23 ?_
      refine z_iload_n 1 rfl rfl dX1_isDigitTaken_24 ?_
      refine z_iadd dX1_isDigitTaken_25 ?_
      refine z_put (t := .int) ([dX1 g a u.1 u.2.1 u.2.2.1 u.2.2.2.1 ((u.2.2.2.2.1 * 10) + p0) u.2.2.2.2.2]) zcX1 0 rfl 0 rfl 4 (Nat.le_of_ble_eq_true rfl) zfX1_29 zpX1_4 (zn_i _) (zf_i _) (Nat.le_of_ble_eq_true rfl) rfl dX1_isDigitTaken_26 ?_
      refine z_aload_n 0 rfl rfl dX1_isDigitTaken_29 ?_
      refine z_dup rfl dX1_isDigitTaken_30 ?_
      refine z_get zcX1 0 rfl 0 rfl 5 (Nat.le_of_ble_eq_true rfl) zfX1_32 (v := .int u.2.2.2.2.2) rfl dX1_isDigitTaken_31 ?_
      refine z_iconst (v := 1) (by decide) dX1_isDigitTaken_34 ?_
      refine z_iadd dX1_isDigitTaken_35 ?_
      refine z_put (t := .int) ([dX1 g a u.1 u.2.1 u.2.2.1 u.2.2.2.1 ((u.2.2.2.2.1 * 10) + p0) (u.2.2.2.2.2 + 1)]) zcX1 0 rfl 0 rfl 5 (Nat.le_of_ble_eq_true rfl) zfX1_32 zpX1_5 (zn_i _) (zf_i _) (Nat.le_of_ble_eq_true rfl) rfl dX1_isDigitTaken_36 ?_
      refine z_aload_n 0 rfl rfl dX1_isDigitTaken_39 ?_
      refine z_callVR (rest := []) hl (c_X1_canGoOn l g a (u.1, u.2.1, u.2.2.1, u.2.2.2.1, ((u.2.2.2.2.1 * 10) + p0), (u.2.2.2.2.2 + 1)) _ rfl) zyX1_canGoOn zvX1_canGoOn rfl zlX1_54 zcX1.1 ⟨_, _, rfl⟩ [(0, none)] rfl rfl rfl (by decide) (Nat.le_of_ble_eq_true rfl) ⟨Nat.zero_le _, Nat.zero_le _⟩ dX1_isDigitTaken_40 (st2 := [.int (b2i (f_X1_canGoOn (u.1, u.2.1, u.2.2.1, u.2.2.2.1, ((u.2.2.2.2.1 * 10) + p0), (u.2.2.2.2.2 + 1))))]) rfl ?_
      refine z_ifB_ne (tgt := 57) rfl dX1_isDigitTaken_43 (fun c43 => ?_) (fun c43 => ?_)
      · replace h := (if_pos c43).symm.trans h
        refine z_iconst (v := 1) (by decide) dX1_isDigitTaken_57 ?_
        refine z_goto (tgt := 62) rfl dX1_isDigitTaken_58 ?_
        cases h
        try dsimp only at hQ
        exact z_zret _ (by rfl) dX1_isDigitTaken_62 hQ
      · replace h := (if_neg c43).symm.trans h
        refine z_aload_n 0 rfl rfl dX1_isDigitTaken_46 ?_
        refine z_aload_n 0 rfl rfl dX1_isDigitTaken_47 ?_
        refine z_get zcX1 0 rfl 0 rfl 4 (Nat.le_of_ble_eq_true rfl) zfX1_29 (v := .int ((u.2.2.2.2.1 * 10) + p0)) rfl dX1_isDigitTaken_48 ?_
        obtain ⟨r2, er2, h⟩ := zb h
        refine z_callVR (rest := []) hl (c_X1_isTold l g a (u.1, u.2.1, u.2.2.1, u.2.2.2.1, ((u.2.2.2.2.1 * 10) + p0), (u.2.2.2.2.2 + 1)) ((u.2.2.2.2.1 * 10) + p0) _ er2) zyX1_isTold zvX1_isTold rfl zlX1_57 zcX1.1 ⟨_, _, rfl⟩ [(0, none)] rfl rfl rfl (by decide) (Nat.le_of_ble_eq_true rfl) ⟨Nat.zero_le _, Nat.zero_le _⟩ dX1_isDigitTaken_51 (st2 := [.int (b2i r2)]) rfl ?_
        refine z_ifB_ne (tgt := 61) rfl dX1_isDigitTaken_54 (fun c54 => ?_) (fun c54 => ?_)
        · replace h := (if_pos c54).symm.trans h
          refine z_iconst (v := 0) (by decide) dX1_isDigitTaken_61 ?_
          cases h
          try dsimp only at hQ
          exact z_zret _ (by rfl) dX1_isDigitTaken_62 hQ
        · replace h := (if_neg c54).symm.trans h
          refine z_iconst (v := 1) (by decide) dX1_isDigitTaken_57 ?_
          refine z_goto (tgt := 62) rfl dX1_isDigitTaken_58 ?_
          cases h
          try dsimp only at hQ
          exact z_zret _ (by rfl) dX1_isDigitTaken_62 hQ
    · replace h := (if_neg c11).symm.trans h
      refine z_iconst (v := 0) (by decide) dX1_isDigitTaken_14 ?_
      cases h
      try dsimp only at hQ
      exact z_zret _ (by rfl) dX1_isDigitTaken_15 hQ
set_option maxHeartbeats 400000 in
set_option maxRecDepth 100000 in
theorem c_X1_isTaken (l : Launch) (g : zG) (a : Nat → Nat) (u : tX1) (p0 : Int32) (r : Bool × tX1) (h : f_X1_isTaken u p0 = some r) : Ctr l g true yX1_isTaken cX1_isTaken 2 (some .boolean) 2 43 0 0 [.ref (a 0), .int p0] ([cX1 g a u]) ([cX1 g a r.2]) (some (.int (b2i r.1))) := by
  refine ctr_of (by decide) (Nat.le_of_ble_eq_true rfl) (fun X hl _ _ _ hQ => ?_)
  unfold f_X1_isTaken at h
  refine z_lv (lv' := [(0, .ref (a 0)), (1, .int p0)]) [0, 1] rfl ?_
  refine z_iload_n 1 rfl rfl dX1_isTaken_0 ?_
  refine z_bipush (v := 44) (by decide) dX1_isTaken_1 ?_
  refine z_icmp_ne (tgt := 27) rfl dX1_isTaken_3 (fun c3 => ?_) (fun c3 => ?_)
  · replace h := (if_neg c3).symm.trans h
    refine z_iload_n 1 rfl rfl dX1_isTaken_27 ?_
    refine z_bipush (v := 48) (by decide) dX1_isTaken_28 ?_
    refine z_icmp_lt (tgt := 54) rfl dX1_isTaken_30 (fun c30 => ?_) (fun c30 => ?_)
    · replace h := (if_pos c30).symm.trans h
      refine z_iconst (v := 0) (by decide) dX1_isTaken_54 ?_
      cases h
      try dsimp only at hQ
      exact z_zret _ (by rfl) dX1_isTaken_55 hQ
    · replace h := (if_neg c30).symm.trans h
      refine z_iload_n 1 rfl rfl dX1_isTaken_33 ?_
      refine z_bipush (v := 57) (by decide) dX1_isTaken_34 ?_
      refine z_icmp_gt (tgt := 54) rfl dX1_isTaken_36 (fun c36 => ?_) (fun c36 => ?_)
      · replace h := (if_pos c36).symm.trans h
        refine z_iconst (v := 0) (by decide) dX1_isTaken_54 ?_
        cases h
        try dsimp only at hQ
        exact z_zret _ (by rfl) dX1_isTaken_55 hQ
      · replace h := (if_neg c36).symm.trans h
        refine z_aload_n 0 rfl rfl dX1_isTaken_39 ?_
        refine z_iload_n 1 rfl rfl dX1_isTaken_40 ?_
        refine z_bipush (v := 48) (by decide) dX1_isTaken_41 ?_
        refine z_isub dX1_isTaken_43 ?_
        obtain ⟨r1, er1, h⟩ := zb h
        refine z_callVW (rest := []) hl (c_X1_isDigitTaken l g a u (p0 - 48) _ er1) zyX1_isDigitTaken zvX1_isDigitTaken rfl zlX1_51 zcX1.1 ⟨_, _, rfl⟩ [(0, none)] rfl (by decide) rfl (w' := [cX1 g a r1.2]) rfl rfl rfl (by decide) (Nat.le_of_ble_eq_true rfl) ⟨Nat.zero_le _, Nat.zero_le _⟩ dX1_isTaken_44 (st2 := [.int (b2i r1.1)]) rfl ?_
        refine z_ifB_eq (tgt := 54) rfl dX1_isTaken_47 (fun c47 => ?_) (fun c47 => ?_)
        · replace h := (if_neg c47).symm.trans h
          refine z_iconst (v := 0) (by decide) dX1_isTaken_54 ?_
          cases h
          try dsimp only at hQ
          exact z_zret _ (by rfl) dX1_isTaken_55 hQ
        · replace h := (if_pos c47).symm.trans h
          refine z_iconst (v := 1) (by decide) dX1_isTaken_50 ?_
          refine z_goto (tgt := 55) rfl dX1_isTaken_51 ?_
          cases h
          try dsimp only at hQ
          exact z_zret _ (by rfl) dX1_isTaken_55 hQ
  · replace h := (if_pos c3).symm.trans h
    refine z_aload_n 0 rfl rfl dX1_isTaken_6 ?_
    refine z_get zcX1 0 rfl 0 rfl 3 (Nat.le_of_ble_eq_true rfl) zfX1_26 (v := .int u.2.2.2.1) rfl dX1_isTaken_7 ?_
    refine z_iconst (v := 5) (by decide) dX1_isTaken_10 ?_
    refine z_icmp_ge (tgt := 25) rfl dX1_isTaken_11 (fun c11 => ?_) (fun c11 => ?_)
    · replace h := (if_pos c11).symm.trans h
      refine z_iconst (v := 0) (by decide) dX1_isTaken_25 ?_
      cases h
      try dsimp only at hQ
      exact z_zret _ (by rfl) dX1_isTaken_26 hQ
    · replace h := (if_neg c11).symm.trans h
      refine z_aload_n 0 rfl rfl dX1_isTaken_14 ?_
      obtain ⟨r2, er2, h⟩ := zb h
      refine z_callVW (rest := []) hl (c_X1_endNumber l g a u _ er2) zyX1_endNumber zvX1_endNumber rfl zlX1_47 zcX1.1 ⟨_, _, rfl⟩ [(0, none)] rfl (by decide) rfl (w' := [cX1 g a r2.2]) rfl rfl rfl (by decide) (Nat.le_of_ble_eq_true rfl) ⟨Nat.zero_le _, Nat.zero_le _⟩ dX1_isTaken_15 (st2 := [.int (b2i r2.1)]) rfl ?_
      refine z_ifB_eq (tgt := 25) rfl dX1_isTaken_18 (fun c18 => ?_) (fun c18 => ?_)
      · replace h := (if_neg c18).symm.trans h
        refine z_iconst (v := 0) (by decide) dX1_isTaken_25 ?_
        cases h
        try dsimp only at hQ
        exact z_zret _ (by rfl) dX1_isTaken_26 hQ
      · replace h := (if_pos c18).symm.trans h
        refine z_iconst (v := 1) (by decide) dX1_isTaken_21 ?_
        refine z_goto (tgt := 26) rfl dX1_isTaken_22 ?_
        cases h
        try dsimp only at hQ
        exact z_zret _ (by rfl) dX1_isTaken_26 hQ
set_option maxHeartbeats 400000 in
set_option maxRecDepth 100000 in
theorem c_X1_readSigns (l : Launch) (g : zG) (a : Nat → Nat) (u : tX1) (r : Int32 × tX1) (h : f_X1_readSigns u = some r) : Ctr l g true yX1_readSigns cX1_readSigns 2 (some .int) 3 64 0 0 [.ref (a 0)] ([cX1 g a u]) ([cX1 g a r.2]) (some (.int r.1)) := by
  refine ctr_of (by decide) (Nat.le_of_ble_eq_true rfl) (fun X hl _ _ _ hQ => ?_)
  unfold f_X1_readSigns at h
  refine z_lv (lv' := [(0, .ref (a 0))]) [0] rfl ?_
  refine z_aload_n 0 rfl rfl dX1_readSigns_0 ?_
  refine z_iconst (v := 0) (by decide) dX1_readSigns_1 ?_
  refine z_put (t := .int) ([dX1 g a u.1 u.2.1 u.2.2.1 0 u.2.2.2.2.1 u.2.2.2.2.2]) zcX1 0 rfl 0 rfl 3 (Nat.le_of_ble_eq_true rfl) zfX1_26 zpX1_3 (zn_i _) (zf_i _) (Nat.le_of_ble_eq_true rfl) rfl dX1_readSigns_2 ?_
  refine z_aload_n 0 rfl rfl dX1_readSigns_5 ?_
  refine z_iconst (v := 0) (by decide) dX1_readSigns_6 ?_
  refine z_put (t := .int) ([dX1 g a u.1 u.2.1 u.2.2.1 0 0 u.2.2.2.2.2]) zcX1 0 rfl 0 rfl 4 (Nat.le_of_ble_eq_true rfl) zfX1_29 zpX1_4 (zn_i _) (zf_i _) (Nat.le_of_ble_eq_true rfl) rfl dX1_readSigns_7 ?_
  refine z_aload_n 0 rfl rfl dX1_readSigns_10 ?_
  refine z_iconst (v := 0) (by decide) dX1_readSigns_11 ?_
  refine z_put (t := .int) ([dX1 g a u.1 u.2.1 u.2.2.1 0 0 0]) zcX1 0 rfl 0 rfl 5 (Nat.le_of_ble_eq_true rfl) zfX1_32 zpX1_5 (zn_i _) (zf_i _) (Nat.le_of_ble_eq_true rfl) rfl dX1_readSigns_12 ?_
  refine z_iconst (v := 0) (by decide) dX1_readSigns_15 ?_
  refine z_istore_n [(1, .int 0), (0, .ref (a 0))] rfl (Nat.le_of_ble_eq_true rfl) rfl dX1_readSigns_16 ?_
  obtain ⟨z1, ez1, h⟩ := zb h
  refine z_lv (lv' := [(0, .ref (a 0)), (1, .int 0)]) [1, 0] rfl ?_
  suffices hk17 : (fun (s17 : Int32 × tX1) => Z true RX1 cX1_readSigns 2 3 64 g X 0 0 ([cX1 g a s17.2]) [(0, .ref (a 0)), (1, .int s17.1)] 17 []) (0, (u.1, u.2.1, u.2.2.1, 0, 0, 0)) by try dsimp only at hk17; exact hk17
  refine lp_ind (σ := Int32 × tX1) (ε := Int32 × tX1) b_X1_readSigns_17 (fun s17 => Z true RX1 cX1_readSigns 2 3 64 g X 0 0 ([cX1 g a s17.2]) [(0, .ref (a 0)), (1, .int s17.1)] 17 []) (fun z1 => Z true RX1 cX1_readSigns 2 3 64 g X 0 0 ([cX1 g a z1.2]) [(1, .int z1.1)] 46 []) (fun s17 q17 h17 i17 x17 => ?_) 5000 (0, (u.1, u.2.1, u.2.2.1, 0, 0, 0)) z1 ez1 ?_
  · unfold b_X1_readSigns_17 at h17
    refine z_iload_n 1 rfl rfl dX1_readSigns_17 ?_
    refine z_aload_n 0 rfl rfl dX1_readSigns_18 ?_
    refine z_get zcX1 0 rfl 0 rfl 1 (Nat.le_of_ble_eq_true rfl) zfX1_18 (v := .int s17.2.2.1) rfl dX1_readSigns_19 ?_
    refine z_icmp_ge (tgt := 46) rfl dX1_readSigns_22 (fun c22 => ?_) (fun c22 => ?_)
    · replace h17 := (if_pos c22).symm.trans h17
      cases h17
      have k17 := x17 (s17.1, s17.2) rfl
      try dsimp only at k17
      exact z_lv [1] rfl k17
    · replace h17 := (if_neg c22).symm.trans h17
      refine z_aload_n 0 rfl rfl dX1_readSigns_25 ?_
      refine z_aload_n 0 rfl rfl dX1_readSigns_26 ?_
      refine z_get zcX1 0 rfl 0 rfl 0 (Nat.le_of_ble_eq_true rfl) zfX1_9 (v := .ref (a 1)) rfl dX1_readSigns_27 ?_
      refine z_iload_n 1 rfl rfl dX1_readSigns_30 ?_
      refine z_callNR (rest := [.ref (a 0)]) hl (c_X7_at l g (a 1) 60 (by decide) s17.2.1 s17.1 _ rfl) zyX7_at zsX7_at zlX1_35 [(0, some (1, 1))] rfl rfl rfl (by decide) (Nat.le_of_ble_eq_true rfl) ⟨Nat.zero_le _, Nat.zero_le _⟩ dX1_readSigns_31 (st2 := [.int (f_X7_at 60 s17.2.1 s17.1), .ref (a 0)]) rfl ?_
      obtain ⟨r2, er2, h17⟩ := zb h17
      refine z_callVW (rest := []) hl (c_X1_isTaken l g a s17.2 (f_X7_at 60 s17.2.1 s17.1) _ er2) zyX1_isTaken zvX1_isTaken rfl zlX1_39 zcX1.1 ⟨_, _, rfl⟩ [(0, none)] rfl (by decide) rfl (w' := [cX1 g a r2.2]) rfl rfl rfl (by decide) (Nat.le_of_ble_eq_true rfl) ⟨Nat.zero_le _, Nat.zero_le _⟩ dX1_readSigns_34 (st2 := [.int (b2i r2.1)]) rfl ?_
      refine z_ifB_eq (tgt := 46) rfl dX1_readSigns_37 (fun c37 => ?_) (fun c37 => ?_)
      · replace h17 := (if_neg c37).symm.trans h17
        cases h17
        have k17 := x17 (s17.1, r2.2) rfl
        try dsimp only at k17
        exact z_lv [1] rfl k17
      · replace h17 := (if_pos c37).symm.trans h17
        refine z_iinc 1 [(1, .int (s17.1 + 1)), (0, .ref (a 0))] rfl (v := (s17.1 + 1)) zinc (Nat.le_of_ble_eq_true rfl) rfl dX1_readSigns_40 ?_
        refine z_goto (tgt := 17) rfl dX1_readSigns_43 ?_
        cases h17
        have k17 := i17 ((s17.1 + 1), r2.2) rfl
        try dsimp only at k17
        exact z_lv [1, 0] rfl k17
  · skip
    refine z_iload_n 0 rfl rfl dX1_readSigns_46 ?_
    cases h
    try dsimp only at hQ
    exact z_iret dX1_readSigns_47 hQ
set_option maxHeartbeats 400000 in
set_option maxRecDepth 100000 in
theorem c_X1_readBatch (l : Launch) (g : zG) (a : Nat → Nat) (u : tX1) (r : Bool × tX1) (h : f_X1_readBatch u = some r) : Ctr l g true yX1_readBatch cX1_readBatch 1 (some .boolean) 4 85 0 0 [.ref (a 0)] ([cX1 g a u]) ([cX1 g a r.2]) (some (.int (b2i r.1))) := by
  refine ctr_of (by decide) (Nat.le_of_ble_eq_true rfl) (fun X hl _ _ _ hQ => ?_)
  unfold f_X1_readBatch at h
  refine z_lv (lv' := [(0, .ref (a 0))]) [0] rfl ?_
  refine z_aload_n 0 rfl rfl dX1_readBatch_0 ?_
  obtain ⟨r1, er1, h⟩ := zb h
  refine z_callVW (rest := []) hl (c_X1_readSigns l g a u _ er1) zyX1_readSigns zvX1_readSigns rfl zlX1_43 zcX1.1 ⟨_, _, rfl⟩ [(0, none)] rfl (by decide) rfl (w' := [cX1 g a r1.2]) rfl rfl rfl (by decide) (Nat.le_of_ble_eq_true rfl) ⟨Nat.zero_le _, Nat.zero_le _⟩ dX1_readBatch_1 (st2 := [.int r1.1]) rfl ?_
  refine z_aload_n 0 rfl rfl dX1_readBatch_4 ?_
  refine z_get zcX1 0 rfl 0 rfl 1 (Nat.le_of_ble_eq_true rfl) zfX1_18 (v := .int r1.2.2.1) rfl dX1_readBatch_5 ?_
  refine z_icmp_ne (tgt := 22) rfl dX1_readBatch_8 (fun c8 => ?_) (fun c8 => ?_)
  · replace h := (if_neg c8).symm.trans h
    refine z_iconst (v := 0) (by decide) dX1_readBatch_22 ?_
    cases h
    try dsimp only at hQ
    exact z_zret _ (by rfl) dX1_readBatch_23 hQ
  · replace h := (if_pos c8).symm.trans h
    refine z_aload_n 0 rfl rfl dX1_readBatch_11 ?_
    obtain ⟨r2, er2, h⟩ := zb h
    refine z_callVW (rest := []) hl (c_X1_endNumber l g a r1.2 _ er2) zyX1_endNumber zvX1_endNumber rfl zlX1_47 zcX1.1 ⟨_, _, rfl⟩ [(0, none)] rfl (by decide) rfl (w' := [cX1 g a r2.2]) rfl rfl rfl (by decide) (Nat.le_of_ble_eq_true rfl) ⟨Nat.zero_le _, Nat.zero_le _⟩ dX1_readBatch_12 (st2 := [.int (b2i r2.1)]) rfl ?_
    refine z_ifB_eq (tgt := 22) rfl dX1_readBatch_15 (fun c15 => ?_) (fun c15 => ?_)
    · replace h := (if_neg c15).symm.trans h
      refine z_iconst (v := 0) (by decide) dX1_readBatch_22 ?_
      cases h
      try dsimp only at hQ
      exact z_zret _ (by rfl) dX1_readBatch_23 hQ
    · replace h := (if_pos c15).symm.trans h
      refine z_iconst (v := 1) (by decide) dX1_readBatch_18 ?_
      refine z_goto (tgt := 23) rfl dX1_readBatch_19 ?_
      cases h
      try dsimp only at hQ
      exact z_zret _ (by rfl) dX1_readBatch_23 hQ
set_option maxHeartbeats 400000 in
set_option maxRecDepth 100000 in
theorem c_X3_slotOf (l : Launch) (g : zG) (a : Nat → Nat) (u : tX3) (p0 : Int32) (r : Int32) (h : f_X3_slotOf u p0 = some r) : Ctr l g false yX3_slotOf cX3_slotOf 3 (some .int) 0 0 0 0 [.ref (a 0), .int p0] ([cX3 g a u]) ([cX3 g a u]) (some (.int r)) := by
  refine ctr_of (by decide) (Nat.le_of_ble_eq_true rfl) (fun X hl _ _ _ hQ => ?_)
  unfold f_X3_slotOf at h
  refine z_lv (lv' := [(0, .ref (a 0)), (1, .int p0)]) [0, 1] rfl ?_
  refine z_iconst (v := 0) (by decide) dX3_slotOf_0 ?_
  refine z_istore_n [(2, .int 0), (0, .ref (a 0)), (1, .int p0)] rfl (Nat.le_of_ble_eq_true rfl) rfl dX3_slotOf_1 ?_
  refine z_lv (lv' := [(0, .ref (a 0)), (1, .int p0), (2, .int 0)]) [1, 2, 0] rfl ?_
  suffices hk2 : (fun (s2 : Int32) => Z false RX3 cX3_slotOf 3 0 0 g X 0 0 ([cX3 g a u]) [(0, .ref (a 0)), (1, .int p0), (2, .int s2)] 2 []) 0 by try dsimp only at hk2; exact hk2
  refine lp_ind (σ := Int32) (ε := Int32) (b_X3_slotOf_2 u p0) (fun s2 => Z false RX3 cX3_slotOf 3 0 0 g X 0 0 ([cX3 g a u]) [(0, .ref (a 0)), (1, .int p0), (2, .int s2)] 2 []) (fun z => z = r) (fun s2 q2 h2 i2 x2 => ?_) 5000 0 r h rfl
  unfold b_X3_slotOf_2 at h2
  refine z_iload_n 2 rfl rfl dX3_slotOf_2 ?_
  refine z_aload_n 0 rfl rfl dX3_slotOf_3 ?_
  refine z_get zcX3 0 rfl 0 rfl 3 (Nat.le_of_ble_eq_true rfl) zfX3_25 (v := .int u.2.2.2.1) rfl dX3_slotOf_4 ?_
  refine z_icmp_ge (tgt := 37) rfl dX3_slotOf_7 (fun c7 => ?_) (fun c7 => ?_)
  · replace h2 := (if_pos c7).symm.trans h2
    refine z_iconst (v := (-1)) (by decide) dX3_slotOf_37 ?_
    cases h2
    have y2 := x2 _ rfl
    cases y2
    exact z_iret dX3_slotOf_38 hQ
  · replace h2 := (if_neg c7).symm.trans h2
    refine z_iload_n 2 rfl rfl dX3_slotOf_10 ?_
    refine z_aload_n 0 rfl rfl dX3_slotOf_11 ?_
    refine z_get zcX3 0 rfl 0 rfl 0 (Nat.le_of_ble_eq_true rfl) zfX3_9 (v := .ref (a 1)) rfl dX3_slotOf_12 ?_
    refine z_alen 0 rfl 1 rfl (v := 40) (by decide) dX3_slotOf_15 ?_
    refine z_icmp_ge (tgt := 37) rfl dX3_slotOf_16 (fun c16 => ?_) (fun c16 => ?_)
    · replace h2 := (if_pos c16).symm.trans h2
      refine z_iconst (v := (-1)) (by decide) dX3_slotOf_37 ?_
      cases h2
      have y2 := x2 _ rfl
      cases y2
      exact z_iret dX3_slotOf_38 hQ
    · replace h2 := (if_neg c16).symm.trans h2
      refine z_aload_n 0 rfl rfl dX3_slotOf_19 ?_
      refine z_get zcX3 0 rfl 0 rfl 0 (Nat.le_of_ble_eq_true rfl) zfX3_9 (v := .ref (a 1)) rfl dX3_slotOf_20 ?_
      refine z_iload_n 2 rfl rfl dX3_slotOf_23 ?_
      obtain ⟨r1, er1, h2⟩ := zb h2
      refine z_iald 0 rfl 1 rfl er1 dX3_slotOf_24 ?_
      refine z_iload_n 1 rfl rfl dX3_slotOf_25 ?_
      refine z_icmp_ne (tgt := 31) rfl dX3_slotOf_26 (fun c26 => ?_) (fun c26 => ?_)
      · replace h2 := (if_neg c26).symm.trans h2
        refine z_iinc 2 [(2, .int (s2 + 1)), (0, .ref (a 0)), (1, .int p0)] rfl (v := (s2 + 1)) zinc (Nat.le_of_ble_eq_true rfl) rfl dX3_slotOf_31 ?_
        refine z_goto (tgt := 2) rfl dX3_slotOf_34 ?_
        cases h2
        have k2 := i2 (s2 + 1) rfl
        try dsimp only at k2
        exact z_lv [1, 2, 0] rfl k2
      · replace h2 := (if_pos c26).symm.trans h2
        refine z_iload_n 2 rfl rfl dX3_slotOf_29 ?_
        cases h2
        have y2 := x2 _ rfl
        cases y2
        exact z_iret dX3_slotOf_30 hQ
set_option maxHeartbeats 400000 in
set_option maxRecDepth 100000 in
theorem c_X3_has (l : Launch) (g : zG) (a : Nat → Nat) (u : tX3) (p0 : Int32) (r : Bool) (h : f_X3_has u p0 = some r) : Ctr l g false yX3_has cX3_has 2 (some .boolean) 1 22 0 0 [.ref (a 0), .int p0] ([cX3 g a u]) ([cX3 g a u]) (some (.int (b2i r))) := by
  refine ctr_of (by decide) (Nat.le_of_ble_eq_true rfl) (fun X hl _ _ _ hQ => ?_)
  unfold f_X3_has at h
  refine z_lv (lv' := [(0, .ref (a 0)), (1, .int p0)]) [0, 1] rfl ?_
  refine z_aload_n 0 rfl rfl dX3_has_0 ?_
  refine z_iload_n 1 rfl rfl dX3_has_1 ?_
  obtain ⟨r1, er1, h⟩ := zb h
  refine z_callVR (rest := []) hl (c_X3_slotOf l g a u p0 _ er1) zyX3_slotOf zvX3_slotOf rfl zlX3_32 zcX3.1 ⟨_, _, rfl⟩ [(0, none)] rfl rfl rfl (by decide) (Nat.le_of_ble_eq_true rfl) ⟨Nat.zero_le _, Nat.zero_le _⟩ dX3_has_2 (st2 := [.int r1]) rfl ?_
  refine z_iconst (v := (-1)) (by decide) dX3_has_5 ?_
  refine z_icmp_eq (tgt := 13) rfl dX3_has_6 (fun c6 => ?_) (fun c6 => ?_)
  · replace h := (if_pos c6).symm.trans h
    refine z_iconst (v := 0) (by decide) dX3_has_13 ?_
    cases h
    exact z_zret _ (by rfl) dX3_has_14 hQ
  · replace h := (if_neg c6).symm.trans h
    refine z_iconst (v := 1) (by decide) dX3_has_9 ?_
    refine z_goto (tgt := 14) rfl dX3_has_10 ?_
    cases h
    exact z_zret _ (by rfl) dX3_has_14 hQ
set_option maxHeartbeats 400000 in
set_option maxRecDepth 100000 in
theorem c_X3_weightOf (l : Launch) (g : zG) (a : Nat → Nat) (u : tX3) (p0 : Int32) (r : Int32) (h : f_X3_weightOf u p0 = some r) : Ctr l g false yX3_weightOf cX3_weightOf 2 (some .int) 1 22 0 0 [.ref (a 0), .int p0] ([cX3 g a u]) ([cX3 g a u]) (some (.int r)) := by
  refine ctr_of (by decide) (Nat.le_of_ble_eq_true rfl) (fun X hl _ _ _ hQ => ?_)
  unfold f_X3_weightOf at h
  refine z_lv (lv' := [(0, .ref (a 0)), (1, .int p0)]) [0, 1] rfl ?_
  refine z_aload_n 0 rfl rfl dX3_weightOf_0 ?_
  refine z_get zcX3 0 rfl 0 rfl 1 (Nat.le_of_ble_eq_true rfl) zfX3_15 (v := .ref (a 2)) rfl dX3_weightOf_1 ?_
  refine z_aload_n 0 rfl rfl dX3_weightOf_4 ?_
  refine z_iload_n 1 rfl rfl dX3_weightOf_5 ?_
  obtain ⟨r1, er1, h⟩ := zb h
  refine z_callVR (rest := [.ref (a 2)]) hl (c_X3_slotOf l g a u p0 _ er1) zyX3_slotOf zvX3_slotOf rfl zlX3_32 zcX3.1 ⟨_, _, rfl⟩ [(0, none)] rfl rfl rfl (by decide) (Nat.le_of_ble_eq_true rfl) ⟨Nat.zero_le _, Nat.zero_le _⟩ dX3_weightOf_6 (st2 := [.int r1, .ref (a 2)]) rfl ?_
  refine z_callNR (rest := []) hl (c_X7_at l g (a 2) 40 (by decide) u.2.1 r1 _ rfl) zyX7_at zsX7_at zlX3_36 [(0, some (2, 1))] rfl rfl rfl (by decide) (Nat.le_of_ble_eq_true rfl) ⟨Nat.zero_le _, Nat.zero_le _⟩ dX3_weightOf_9 (st2 := [.int (f_X7_at 40 u.2.1 r1)]) rfl ?_
  cases h
  exact z_iret dX3_weightOf_12 hQ
set_option maxHeartbeats 400000 in
set_option maxRecDepth 100000 in
theorem c_X3_drawerOf (l : Launch) (g : zG) (a : Nat → Nat) (u : tX3) (p0 : Int32) (r : Int32) (h : f_X3_drawerOf u p0 = some r) : Ctr l g false yX3_drawerOf cX3_drawerOf 2 (some .int) 1 22 0 0 [.ref (a 0), .int p0] ([cX3 g a u]) ([cX3 g a u]) (some (.int r)) := by
  refine ctr_of (by decide) (Nat.le_of_ble_eq_true rfl) (fun X hl _ _ _ hQ => ?_)
  unfold f_X3_drawerOf at h
  refine z_lv (lv' := [(0, .ref (a 0)), (1, .int p0)]) [0, 1] rfl ?_
  refine z_aload_n 0 rfl rfl dX3_drawerOf_0 ?_
  refine z_get zcX3 0 rfl 0 rfl 2 (Nat.le_of_ble_eq_true rfl) zfX3_18 (v := .ref (a 3)) rfl dX3_drawerOf_1 ?_
  refine z_aload_n 0 rfl rfl dX3_drawerOf_4 ?_
  refine z_iload_n 1 rfl rfl dX3_drawerOf_5 ?_
  obtain ⟨r1, er1, h⟩ := zb h
  refine z_callVR (rest := [.ref (a 3)]) hl (c_X3_slotOf l g a u p0 _ er1) zyX3_slotOf zvX3_slotOf rfl zlX3_32 zcX3.1 ⟨_, _, rfl⟩ [(0, none)] rfl rfl rfl (by decide) (Nat.le_of_ble_eq_true rfl) ⟨Nat.zero_le _, Nat.zero_le _⟩ dX3_drawerOf_6 (st2 := [.int r1, .ref (a 3)]) rfl ?_
  refine z_callNR (rest := []) hl (c_X7_at l g (a 3) 40 (by decide) u.2.2.1 r1 _ rfl) zyX7_at zsX7_at zlX3_36 [(0, some (3, 1))] rfl rfl rfl (by decide) (Nat.le_of_ble_eq_true rfl) ⟨Nat.zero_le _, Nat.zero_le _⟩ dX3_drawerOf_9 (st2 := [.int (f_X7_at 40 u.2.2.1 r1)]) rfl ?_
  cases h
  exact z_iret dX3_drawerOf_12 hQ
set_option maxHeartbeats 400000 in
set_option maxRecDepth 100000 in
theorem c_X3_propertyOf (l : Launch) (g : zG) (a : Nat → Nat) (u : tX3) (p0 : Int32) (p1 : Int32) (r : Int32) (h : f_X3_propertyOf u p0 p1 = some r) : Ctr l g false yX3_propertyOf cX3_propertyOf 3 (some .int) 2 43 0 0 [.ref (a 0), .int p0, .int p1] ([cX3 g a u]) ([cX3 g a u]) (some (.int r)) := by
  refine ctr_of (by decide) (Nat.le_of_ble_eq_true rfl) (fun X hl _ _ _ hQ => ?_)
  unfold f_X3_propertyOf at h
  refine z_lv (lv' := [(0, .ref (a 0)), (1, .int p0), (2, .int p1)]) [0, 1, 2] rfl ?_
  refine z_aload_n 0 rfl rfl dX3_propertyOf_0 ?_
  refine z_iload_n 1 rfl rfl dX3_propertyOf_1 ?_
  obtain ⟨r1, er1, h⟩ := zb h
  refine z_callVR (rest := []) hl (c_X3_has l g a u p0 _ er1) zyX3_has zvX3_has rfl zlX3_40 zcX3.1 ⟨_, _, rfl⟩ [(0, none)] rfl rfl rfl (by decide) (Nat.le_of_ble_eq_true rfl) ⟨Nat.zero_le _, Nat.zero_le _⟩ dX3_propertyOf_2 (st2 := [.int (b2i r1)]) rfl ?_
  refine z_ifB_ne (tgt := 10) rfl dX3_propertyOf_5 (fun c5 => ?_) (fun c5 => ?_)
  · replace h := (if_pos c5).symm.trans h
    refine z_iload_n 2 rfl rfl dX3_propertyOf_10 ?_
    refine z_if_ne (tgt := 22) rfl dX3_propertyOf_11 (fun c11 => ?_) (fun c11 => ?_)
    · replace h := (if_neg c11).symm.trans h
      refine z_aload_n 0 rfl rfl dX3_propertyOf_22 ?_
      refine z_iload_n 1 rfl rfl dX3_propertyOf_23 ?_
      obtain ⟨r2, er2, h⟩ := zb h
      refine z_callVR (rest := []) hl (c_X3_drawerOf l g a u p0 _ er2) zyX3_drawerOf zvX3_drawerOf rfl zlX3_47 zcX3.1 ⟨_, _, rfl⟩ [(0, none)] rfl rfl rfl (by decide) (Nat.le_of_ble_eq_true rfl) ⟨Nat.zero_le _, Nat.zero_le _⟩ dX3_propertyOf_24 (st2 := [.int r2]) rfl ?_
      cases h
      exact z_iret dX3_propertyOf_27 hQ
    · replace h := (if_pos c11).symm.trans h
      refine z_aload_n 0 rfl rfl dX3_propertyOf_14 ?_
      refine z_iload_n 1 rfl rfl dX3_propertyOf_15 ?_
      obtain ⟨r3, er3, h⟩ := zb h
      refine z_callVR (rest := []) hl (c_X3_weightOf l g a u p0 _ er3) zyX3_weightOf zvX3_weightOf rfl zlX3_44 zcX3.1 ⟨_, _, rfl⟩ [(0, none)] rfl rfl rfl (by decide) (Nat.le_of_ble_eq_true rfl) ⟨Nat.zero_le _, Nat.zero_le _⟩ dX3_propertyOf_16 (st2 := [.int r3]) rfl ?_
      refine z_goto (tgt := 27) rfl dX3_propertyOf_19 ?_
      cases h
      exact z_iret dX3_propertyOf_27 hQ
  · replace h := (if_neg c5).symm.trans h
    refine z_iconst (v := (-1)) (by decide) dX3_propertyOf_8 ?_
    cases h
    exact z_iret dX3_propertyOf_9 hQ
set_option maxHeartbeats 400000 in
set_option maxRecDepth 100000 in
theorem c_X3_lieIn (l : Launch) (g : zG) (a : Nat → Nat) (u : tX3) (p0 : Int32) (r : Int32) (h : f_X3_lieIn u p0 = some r) : Ctr l g false yX3_lieIn cX3_lieIn 4 (some .int) 1 21 0 0 [.ref (a 0), .int p0] ([cX3 g a u]) ([cX3 g a u]) (some (.int r)) := by
  refine ctr_of (by decide) (Nat.le_of_ble_eq_true rfl) (fun X hl _ _ _ hQ => ?_)
  unfold f_X3_lieIn at h
  refine z_lv (lv' := [(0, .ref (a 0)), (1, .int p0)]) [0, 1] rfl ?_
  refine z_iconst (v := 0) (by decide) dX3_lieIn_0 ?_
  refine z_istore_n [(2, .int 0), (0, .ref (a 0)), (1, .int p0)] rfl (Nat.le_of_ble_eq_true rfl) rfl dX3_lieIn_1 ?_
  refine z_iconst (v := 0) (by decide) dX3_lieIn_2 ?_
  refine z_istore_n [(3, .int 0), (2, .int 0), (0, .ref (a 0)), (1, .int p0)] rfl (Nat.le_of_ble_eq_true rfl) rfl dX3_lieIn_3 ?_
  obtain ⟨z1, ez1, h⟩ := zb h
  refine z_lv (lv' := [(0, .ref (a 0)), (1, .int p0), (2, .int 0), (3, .int 0)]) [2, 3, 1, 0] rfl ?_
  suffices hk4 : (fun (s4 : Int32 × Int32) => Z false RX3 cX3_lieIn 4 1 21 g X 0 0 ([cX3 g a u]) [(0, .ref (a 0)), (1, .int p0), (2, .int s4.1), (3, .int s4.2)] 4 []) (0, 0) by try dsimp only at hk4; exact hk4
  refine lp_ind (σ := Int32 × Int32) (ε := Int32) (b_X3_lieIn_4 u p0) (fun s4 => Z false RX3 cX3_lieIn 4 1 21 g X 0 0 ([cX3 g a u]) [(0, .ref (a 0)), (1, .int p0), (2, .int s4.1), (3, .int s4.2)] 4 []) (fun z1 => Z false RX3 cX3_lieIn 4 1 21 g X 0 0 ([cX3 g a u]) [(2, .int z1)] 33 []) (fun s4 q4 h4 i4 x4 => ?_) 5000 (0, 0) z1 ez1 ?_
  · unfold b_X3_lieIn_4 at h4
    refine z_iload_n 3 rfl rfl dX3_lieIn_4 ?_
    refine z_aload_n 0 rfl rfl dX3_lieIn_5 ?_
    refine z_get zcX3 0 rfl 0 rfl 3 (Nat.le_of_ble_eq_true rfl) zfX3_25 (v := .int u.2.2.2.1) rfl dX3_lieIn_6 ?_
    refine z_icmp_ge (tgt := 33) rfl dX3_lieIn_9 (fun c9 => ?_) (fun c9 => ?_)
    · replace h4 := (if_pos c9).symm.trans h4
      cases h4
      have k4 := x4 s4.1 rfl
      try dsimp only at k4
      exact z_lv [2] rfl k4
    · replace h4 := (if_neg c9).symm.trans h4
      refine z_aload_n 0 rfl rfl dX3_lieIn_12 ?_
      refine z_get zcX3 0 rfl 0 rfl 2 (Nat.le_of_ble_eq_true rfl) zfX3_18 (v := .ref (a 3)) rfl dX3_lieIn_13 ?_
      refine z_iload_n 3 rfl rfl dX3_lieIn_16 ?_
      refine z_callNR (rest := []) hl (c_X7_at l g (a 3) 40 (by decide) u.2.2.1 s4.2 _ rfl) zyX7_at zsX7_at zlX3_36 [(0, some (3, 1))] rfl rfl rfl (by decide) (Nat.le_of_ble_eq_true rfl) ⟨Nat.zero_le _, Nat.zero_le _⟩ dX3_lieIn_17 (st2 := [.int (f_X7_at 40 u.2.2.1 s4.2)]) rfl ?_
      refine z_iload_n 1 rfl rfl dX3_lieIn_20 ?_
      refine z_icmp_ne (tgt := 27) rfl dX3_lieIn_21 (fun c21 => ?_) (fun c21 => ?_)
      · replace h4 := (if_neg c21).symm.trans h4
        refine z_iinc 3 [(3, .int (s4.2 + 1)), (0, .ref (a 0)), (1, .int p0), (2, .int s4.1)] rfl (v := (s4.2 + 1)) zinc (Nat.le_of_ble_eq_true rfl) rfl dX3_lieIn_27 ?_
        refine z_goto (tgt := 4) rfl dX3_lieIn_30 ?_
        cases h4
        have k4 := i4 (s4.1, (s4.2 + 1)) rfl
        try dsimp only at k4
        exact z_lv [1, 2, 3, 0] rfl k4
      · replace h4 := (if_pos c21).symm.trans h4
        refine z_iinc 2 [(2, .int (s4.1 + 1)), (0, .ref (a 0)), (1, .int p0), (3, .int s4.2)] rfl (v := (s4.1 + 1)) zinc (Nat.le_of_ble_eq_true rfl) rfl dX3_lieIn_24 ?_
        refine z_iinc 3 [(3, .int (s4.2 + 1)), (2, .int (s4.1 + 1)), (0, .ref (a 0)), (1, .int p0)] rfl (v := (s4.2 + 1)) zinc (Nat.le_of_ble_eq_true rfl) rfl dX3_lieIn_27 ?_
        refine z_goto (tgt := 4) rfl dX3_lieIn_30 ?_
        cases h4
        have k4 := i4 ((s4.1 + 1), (s4.2 + 1)) rfl
        try dsimp only at k4
        exact z_lv [2, 3, 1, 0] rfl k4
  · skip
    refine z_iload_n 0 rfl rfl dX3_lieIn_33 ?_
    cases h
    exact z_iret dX3_lieIn_34 hQ
set_option maxHeartbeats 400000 in
set_option maxRecDepth 100000 in
theorem c_X3_add (l : Launch) (g : zG) (a : Nat → Nat) (u : tX3) (p0 : Int32) (p1 : Int32) (r : Int32 × tX3) (h : f_X3_add u p0 p1 = some r) : Ctr l g true yX3_add cX3_add 4 (some .int) 1 22 0 0 [.ref (a 0), .int p0, .int p1] ([cX3 g a u]) ([cX3 g a r.2]) (some (.int r.1)) := by
  refine ctr_of (by decide) (Nat.le_of_ble_eq_true rfl) (fun X hl _ _ _ hQ => ?_)
  unfold f_X3_add at h
  refine z_lv (lv' := [(0, .ref (a 0)), (1, .int p0), (2, .int p1)]) [0, 1, 2] rfl ?_
  refine z_aload_n 0 rfl rfl dX3_add_0 ?_
  refine z_get zcX3 0 rfl 0 rfl 4 (Nat.le_of_ble_eq_true rfl) zfX3_29 (v := .int u.2.2.2.2) rfl dX3_add_1 ?_
  refine z_istore_n [(3, .int u.2.2.2.2), (0, .ref (a 0)), (1, .int p0), (2, .int p1)] rfl (Nat.le_of_ble_eq_true rfl) rfl dX3_add_4 ?_
  refine z_aload_n 1 rfl rfl dX3_add_5 ?_
  refine z_get zcX3 0 rfl 0 rfl 0 (Nat.le_of_ble_eq_true rfl) zfX3_9 (v := .ref (a 1)) rfl dX3_add_6 ?_
  refine z_aload_n 1 rfl rfl dX3_add_9 ?_
  refine z_get zcX3 0 rfl 0 rfl 3 (Nat.le_of_ble_eq_true rfl) zfX3_25 (v := .int u.2.2.2.1) rfl dX3_add_10 ?_
  refine z_iload_n 0 rfl rfl dX3_add_13 ?_
  obtain ⟨r1, er1, h⟩ := zb h
  refine z_callNW (rest := []) hl (c_X7_write l g (a 1) 40 (by decide) u.1 u.2.2.2.1 u.2.2.2.2 _ (Option.some.inj er1)) zyX7_write zsX7_write zlX3_50 [(0, some (1, 1))] rfl (by decide) rfl (w' := [dX3 g a r1 u.2.1 u.2.2.1 u.2.2.2.1 u.2.2.2.2]) rfl rfl rfl (by decide) (Nat.le_of_ble_eq_true rfl) ⟨Nat.zero_le _, Nat.zero_le _⟩ dX3_add_14 (st2 := []) rfl ?_
  refine z_aload_n 1 rfl rfl dX3_add_17 ?_
  refine z_get zcX3 0 rfl 0 rfl 1 (Nat.le_of_ble_eq_true rfl) zfX3_15 (v := .ref (a 2)) rfl dX3_add_18 ?_
  refine z_aload_n 1 rfl rfl dX3_add_21 ?_
  refine z_get zcX3 0 rfl 0 rfl 3 (Nat.le_of_ble_eq_true rfl) zfX3_25 (v := .int u.2.2.2.1) rfl dX3_add_22 ?_
  refine z_iload_n 3 rfl rfl dX3_add_25 ?_
  obtain ⟨r2, er2, h⟩ := zb h
  refine z_callNW (rest := []) hl (c_X7_write l g (a 2) 40 (by decide) u.2.1 u.2.2.2.1 p1 _ (Option.some.inj er2)) zyX7_write zsX7_write zlX3_50 [(0, some (2, 1))] rfl (by decide) rfl (w' := [dX3 g a r1 r2 u.2.2.1 u.2.2.2.1 u.2.2.2.2]) rfl rfl rfl (by decide) (Nat.le_of_ble_eq_true rfl) ⟨Nat.zero_le _, Nat.zero_le _⟩ dX3_add_26 (st2 := []) rfl ?_
  refine z_aload_n 1 rfl rfl dX3_add_29 ?_
  refine z_get zcX3 0 rfl 0 rfl 2 (Nat.le_of_ble_eq_true rfl) zfX3_18 (v := .ref (a 3)) rfl dX3_add_30 ?_
  refine z_aload_n 1 rfl rfl dX3_add_33 ?_
  refine z_get zcX3 0 rfl 0 rfl 3 (Nat.le_of_ble_eq_true rfl) zfX3_25 (v := .int u.2.2.2.1) rfl dX3_add_34 ?_
  refine z_iload_n 2 rfl rfl dX3_add_37 ?_
  obtain ⟨r3, er3, h⟩ := zb h
  refine z_callNW (rest := []) hl (c_X7_write l g (a 3) 40 (by decide) u.2.2.1 u.2.2.2.1 p0 _ (Option.some.inj er3)) zyX7_write zsX7_write zlX3_50 [(0, some (3, 1))] rfl (by decide) rfl (w' := [dX3 g a r1 r2 r3 u.2.2.2.1 u.2.2.2.2]) rfl rfl rfl (by decide) (Nat.le_of_ble_eq_true rfl) ⟨Nat.zero_le _, Nat.zero_le _⟩ dX3_add_38 (st2 := []) rfl ?_
  refine z_aload_n 1 rfl rfl dX3_add_41 ?_
  refine z_dup rfl dX3_add_42 ?_
  refine z_get zcX3 0 rfl 0 rfl 3 (Nat.le_of_ble_eq_true rfl) zfX3_25 (v := .int u.2.2.2.1) rfl dX3_add_43 ?_
  refine z_iconst (v := 1) (by decide) dX3_add_46 ?_
  refine z_iadd dX3_add_47 ?_
  refine z_put (t := .int) ([dX3 g a r1 r2 r3 (u.2.2.2.1 + 1) u.2.2.2.2]) zcX3 0 rfl 0 rfl 3 (Nat.le_of_ble_eq_true rfl) zfX3_25 zpX3_3 (zn_i _) (zf_i _) (Nat.le_of_ble_eq_true rfl) rfl dX3_add_48 ?_
  refine z_aload_n 1 rfl rfl dX3_add_51 ?_
  refine z_dup rfl dX3_add_52 ?_
  refine z_get zcX3 0 rfl 0 rfl 4 (Nat.le_of_ble_eq_true rfl) zfX3_29 (v := .int u.2.2.2.2) rfl dX3_add_53 ?_
  refine z_iconst (v := 1) (by decide) dX3_add_56 ?_
  refine z_iadd dX3_add_57 ?_
  refine z_put (t := .int) ([dX3 g a r1 r2 r3 (u.2.2.2.1 + 1) (u.2.2.2.2 + 1)]) zcX3 0 rfl 0 rfl 4 (Nat.le_of_ble_eq_true rfl) zfX3_29 zpX3_4 (zn_i _) (zf_i _) (Nat.le_of_ble_eq_true rfl) rfl dX3_add_58 ?_
  refine z_iload_n 0 rfl rfl dX3_add_61 ?_
  cases h
  try dsimp only at hQ
  exact z_iret dX3_add_62 hQ
set_option maxHeartbeats 400000 in
set_option maxRecDepth 100000 in
theorem c_X3_remove (l : Launch) (g : zG) (a : Nat → Nat) (u : tX3) (p0 : Int32) (r : tX3) (h : f_X3_remove u p0 = some r) : Ctr l g true yX3_remove cX3_remove 4 none 1 22 0 0 [.ref (a 0), .int p0] ([cX3 g a u]) ([cX3 g a r]) none := by
  refine ctr_of (by decide) (Nat.le_of_ble_eq_true rfl) (fun X hl _ _ _ hQ => ?_)
  unfold f_X3_remove at h
  refine z_lv (lv' := [(0, .ref (a 0)), (1, .int p0)]) [0, 1] rfl ?_
  refine z_aload_n 0 rfl rfl dX3_remove_0 ?_
  refine z_iload_n 1 rfl rfl dX3_remove_1 ?_
  obtain ⟨r1, er1, h⟩ := zb h
  refine z_callVR (rest := []) hl (c_X3_slotOf l g a u p0 _ er1) zyX3_slotOf zvX3_slotOf rfl zlX3_32 zcX3.1 ⟨_, _, rfl⟩ [(0, none)] rfl rfl rfl (by decide) (Nat.le_of_ble_eq_true rfl) ⟨Nat.zero_le _, Nat.zero_le _⟩ dX3_remove_2 (st2 := [.int r1]) rfl ?_
  refine z_istore_n [(2, .int r1), (0, .ref (a 0)), (1, .int p0)] rfl (Nat.le_of_ble_eq_true rfl) rfl dX3_remove_5 ?_
  refine z_iload_n 0 rfl rfl dX3_remove_6 ?_
  refine z_iconst (v := (-1)) (by decide) dX3_remove_7 ?_
  refine z_icmp_ne (tgt := 12) rfl dX3_remove_8 (fun c8 => ?_) (fun c8 => ?_)
  · replace h := (if_neg c8).symm.trans h
    refine z_aload_n 1 rfl rfl dX3_remove_12 ?_
    refine z_dup rfl dX3_remove_13 ?_
    refine z_get zcX3 0 rfl 0 rfl 3 (Nat.le_of_ble_eq_true rfl) zfX3_25 (v := .int u.2.2.2.1) rfl dX3_remove_14 ?_
    refine z_iconst (v := 1) (by decide) dX3_remove_17 ?_
    refine z_isub dX3_remove_18 ?_
    refine z_put (t := .int) ([dX3 g a u.1 u.2.1 u.2.2.1 (u.2.2.2.1 - 1) u.2.2.2.2]) zcX3 0 rfl 0 rfl 3 (Nat.le_of_ble_eq_true rfl) zfX3_25 zpX3_3 (zn_i _) (zf_i _) (Nat.le_of_ble_eq_true rfl) rfl dX3_remove_19 ?_
    refine z_iload_n 0 rfl rfl dX3_remove_22 ?_
    refine z_istore_n [(3, .int r1), (2, .int r1), (0, .ref (a 0)), (1, .int p0)] rfl (Nat.le_of_ble_eq_true rfl) rfl dX3_remove_23 ?_
    obtain ⟨z2, ez2, h⟩ := zb h
    refine z_lv (lv' := [(0, .ref (a 0)), (3, .int r1)]) [2, 0] rfl ?_
    suffices hk24 : (fun (s24 : Int32 × zF × zF × zF) => Z true RX3 cX3_remove 4 1 22 g X 0 0 ([dX3 g a s24.2.1 s24.2.2.1 s24.2.2.2 (u.2.2.2.1 - 1) u.2.2.2.2]) [(0, .ref (a 0)), (3, .int s24.1)] 24 []) (r1, u.1, u.2.1, u.2.2.1) by try dsimp only at hk24; exact hk24
    refine lp_ind (σ := Int32 × zF × zF × zF) (ε := zF × zF × zF) (b_X3_remove_24 u) (fun s24 => Z true RX3 cX3_remove 4 1 22 g X 0 0 ([dX3 g a s24.2.1 s24.2.2.1 s24.2.2.2 (u.2.2.2.1 - 1) u.2.2.2.2]) [(0, .ref (a 0)), (3, .int s24.1)] 24 []) (fun z2 => Z true RX3 cX3_remove 4 1 22 g X 0 0 ([dX3 g a z2.1 z2.2.1 z2.2.2 (u.2.2.2.1 - 1) u.2.2.2.2]) [] 92 []) (fun s24 q24 h24 i24 x24 => ?_) 5000 (r1, u.1, u.2.1, u.2.2.1) z2 ez2 ?_
    · unfold b_X3_remove_24 at h24
      refine z_iload_n 1 rfl rfl dX3_remove_24 ?_
      refine z_aload_n 0 rfl rfl dX3_remove_25 ?_
      refine z_get zcX3 0 rfl 0 rfl 3 (Nat.le_of_ble_eq_true rfl) zfX3_25 (v := .int (u.2.2.2.1 - 1)) rfl dX3_remove_26 ?_
      refine z_icmp_ge (tgt := 92) rfl dX3_remove_29 (fun c29 => ?_) (fun c29 => ?_)
      · replace h24 := (if_pos c29).symm.trans h24
        cases h24
        have k24 := x24 (s24.2.1, s24.2.2.1, s24.2.2.2) rfl
        try dsimp only at k24
        exact z_lv [] rfl k24
      · replace h24 := (if_neg c29).symm.trans h24
        refine z_aload_n 0 rfl rfl dX3_remove_32 ?_
        refine z_get zcX3 0 rfl 0 rfl 0 (Nat.le_of_ble_eq_true rfl) zfX3_9 (v := .ref (a 1)) rfl dX3_remove_33 ?_
        refine z_iload_n 1 rfl rfl dX3_remove_36 ?_
        refine z_aload_n 0 rfl rfl dX3_remove_37 ?_
        refine z_get zcX3 0 rfl 0 rfl 0 (Nat.le_of_ble_eq_true rfl) zfX3_9 (v := .ref (a 1)) rfl dX3_remove_38 ?_
        refine z_iload_n 1 rfl rfl dX3_remove_41 ?_
        refine z_iconst (v := 1) (by decide) dX3_remove_42 ?_
        refine z_iadd dX3_remove_43 ?_
        refine z_callNR (rest := [.int s24.1, .ref (a 1)]) hl (c_X7_at l g (a 1) 40 (by decide) s24.2.1 (s24.1 + 1) _ rfl) zyX7_at zsX7_at zlX3_36 [(0, some (1, 1))] rfl rfl rfl (by decide) (Nat.le_of_ble_eq_true rfl) ⟨Nat.zero_le _, Nat.zero_le _⟩ dX3_remove_44 (st2 := [.int (f_X7_at 40 s24.2.1 (s24.1 + 1)), .int s24.1, .ref (a 1)]) rfl ?_
        obtain ⟨r3, er3, h24⟩ := zb h24
        refine z_callNW (rest := []) hl (c_X7_write l g (a 1) 40 (by decide) s24.2.1 s24.1 (f_X7_at 40 s24.2.1 (s24.1 + 1)) _ (Option.some.inj er3)) zyX7_write zsX7_write zlX3_50 [(0, some (1, 1))] rfl (by decide) rfl (w' := [dX3 g a r3 s24.2.2.1 s24.2.2.2 (u.2.2.2.1 - 1) u.2.2.2.2]) rfl rfl rfl (by decide) (Nat.le_of_ble_eq_true rfl) ⟨Nat.zero_le _, Nat.zero_le _⟩ dX3_remove_47 (st2 := []) rfl ?_
        refine z_aload_n 0 rfl rfl dX3_remove_50 ?_
        refine z_get zcX3 0 rfl 0 rfl 1 (Nat.le_of_ble_eq_true rfl) zfX3_15 (v := .ref (a 2)) rfl dX3_remove_51 ?_
        refine z_iload_n 1 rfl rfl dX3_remove_54 ?_
        refine z_aload_n 0 rfl rfl dX3_remove_55 ?_
        refine z_get zcX3 0 rfl 0 rfl 1 (Nat.le_of_ble_eq_true rfl) zfX3_15 (v := .ref (a 2)) rfl dX3_remove_56 ?_
        refine z_iload_n 1 rfl rfl dX3_remove_59 ?_
        refine z_iconst (v := 1) (by decide) dX3_remove_60 ?_
        refine z_iadd dX3_remove_61 ?_
        refine z_callNR (rest := [.int s24.1, .ref (a 2)]) hl (c_X7_at l g (a 2) 40 (by decide) s24.2.2.1 (s24.1 + 1) _ rfl) zyX7_at zsX7_at zlX3_36 [(0, some (2, 1))] rfl rfl rfl (by decide) (Nat.le_of_ble_eq_true rfl) ⟨Nat.zero_le _, Nat.zero_le _⟩ dX3_remove_62 (st2 := [.int (f_X7_at 40 s24.2.2.1 (s24.1 + 1)), .int s24.1, .ref (a 2)]) rfl ?_
        obtain ⟨r4, er4, h24⟩ := zb h24
        refine z_callNW (rest := []) hl (c_X7_write l g (a 2) 40 (by decide) s24.2.2.1 s24.1 (f_X7_at 40 s24.2.2.1 (s24.1 + 1)) _ (Option.some.inj er4)) zyX7_write zsX7_write zlX3_50 [(0, some (2, 1))] rfl (by decide) rfl (w' := [dX3 g a r3 r4 s24.2.2.2 (u.2.2.2.1 - 1) u.2.2.2.2]) rfl rfl rfl (by decide) (Nat.le_of_ble_eq_true rfl) ⟨Nat.zero_le _, Nat.zero_le _⟩ dX3_remove_65 (st2 := []) rfl ?_
        refine z_aload_n 0 rfl rfl dX3_remove_68 ?_
        refine z_get zcX3 0 rfl 0 rfl 2 (Nat.le_of_ble_eq_true rfl) zfX3_18 (v := .ref (a 3)) rfl dX3_remove_69 ?_
        refine z_iload_n 1 rfl rfl dX3_remove_72 ?_
        refine z_aload_n 0 rfl rfl dX3_remove_73 ?_
        refine z_get zcX3 0 rfl 0 rfl 2 (Nat.le_of_ble_eq_true rfl) zfX3_18 (v := .ref (a 3)) rfl dX3_remove_74 ?_
        refine z_iload_n 1 rfl rfl dX3_remove_77 ?_
        refine z_iconst (v := 1) (by decide) dX3_remove_78 ?_
        refine z_iadd dX3_remove_79 ?_
        refine z_callNR (rest := [.int s24.1, .ref (a 3)]) hl (c_X7_at l g (a 3) 40 (by decide) s24.2.2.2 (s24.1 + 1) _ rfl) zyX7_at zsX7_at zlX3_36 [(0, some (3, 1))] rfl rfl rfl (by decide) (Nat.le_of_ble_eq_true rfl) ⟨Nat.zero_le _, Nat.zero_le _⟩ dX3_remove_80 (st2 := [.int (f_X7_at 40 s24.2.2.2 (s24.1 + 1)), .int s24.1, .ref (a 3)]) rfl ?_
        obtain ⟨r5, er5, h24⟩ := zb h24
        refine z_callNW (rest := []) hl (c_X7_write l g (a 3) 40 (by decide) s24.2.2.2 s24.1 (f_X7_at 40 s24.2.2.2 (s24.1 + 1)) _ (Option.some.inj er5)) zyX7_write zsX7_write zlX3_50 [(0, some (3, 1))] rfl (by decide) rfl (w' := [dX3 g a r3 r4 r5 (u.2.2.2.1 - 1) u.2.2.2.2]) rfl rfl rfl (by decide) (Nat.le_of_ble_eq_true rfl) ⟨Nat.zero_le _, Nat.zero_le _⟩ dX3_remove_83 (st2 := []) rfl ?_
        refine z_iinc 1 [(3, .int (s24.1 + 1)), (0, .ref (a 0))] rfl (v := (s24.1 + 1)) zinc (Nat.le_of_ble_eq_true rfl) rfl dX3_remove_86 ?_
        refine z_goto (tgt := 24) rfl dX3_remove_89 ?_
        cases h24
        have k24 := i24 ((s24.1 + 1), r3, r4, r5) rfl
        try dsimp only at k24
        exact z_lv [1, 0] rfl k24
    · skip
      cases h
      exact z_vret dX3_remove_92 hQ
  · replace h := (if_pos c8).symm.trans h
    cases h
    exact z_vret dX3_remove_11 hQ
set_option maxHeartbeats 400000 in
set_option maxRecDepth 100000 in
theorem c_X6_isJammed (l : Launch) (g : zG) (a : Nat → Nat) (u : tX6) (p0 : Int32) (r : Bool) (h : f_X6_isJammed u p0 = r) : Ctr l g false yX6_isJammed cX6_isJammed 2 (some .boolean) 1 21 0 0 [.ref (a 0), .int p0] ([cX6 g a u]) ([cX6 g a u]) (some (.int (b2i r))) := by
  refine ctr_of (by decide) (Nat.le_of_ble_eq_true rfl) (fun X hl _ _ _ hQ => ?_)
  unfold f_X6_isJammed at h
  refine z_lv (lv' := [(0, .ref (a 0)), (1, .int p0)]) [0, 1] rfl ?_
  refine z_aload_n 0 rfl rfl dX6_isJammed_0 ?_
  refine z_get zcX6 0 rfl 0 rfl 2 (Nat.le_of_ble_eq_true rfl) zfX6_25 (v := .ref (a 8)) rfl dX6_isJammed_1 ?_
  refine z_iload_n 1 rfl rfl dX6_isJammed_4 ?_
  refine z_callNR (rest := []) hl (c_X7_at l g (a 8) 12 (by decide) u.2.2.1 p0 _ rfl) zyX7_at zsX7_at zlX6_67 [(0, some (8, 1))] rfl rfl rfl (by decide) (Nat.le_of_ble_eq_true rfl) ⟨Nat.zero_le _, Nat.zero_le _⟩ dX6_isJammed_5 (st2 := [.int (f_X7_at 12 u.2.2.1 p0)]) rfl ?_
  refine z_iconst (v := 1) (by decide) dX6_isJammed_8 ?_
  refine z_icmp_ne (tgt := 16) rfl dX6_isJammed_9 (fun c9 => ?_) (fun c9 => ?_)
  · replace h := (if_neg c9).symm.trans h
    refine z_iconst (v := 0) (by decide) dX6_isJammed_16 ?_
    subst h
    exact z_zret _ (by rfl) dX6_isJammed_17 hQ
  · replace h := (if_pos c9).symm.trans h
    refine z_iconst (v := 1) (by decide) dX6_isJammed_12 ?_
    refine z_goto (tgt := 17) rfl dX6_isJammed_13 ?_
    subst h
    exact z_zret _ (by rfl) dX6_isJammed_17 hQ
set_option maxHeartbeats 400000 in
set_option maxRecDepth 100000 in
theorem c_X6_jammedDrawers (l : Launch) (g : zG) (a : Nat → Nat) (u : tX6) (r : Int32) (h : f_X6_jammedDrawers u = some r) : Ctr l g false yX6_jammedDrawers cX6_jammedDrawers 6 (some .int) 0 0 0 0 [.ref (a 0)] ([cX6 g a u]) ([cX6 g a u]) (some (.int r)) := by
  refine ctr_of (by decide) (Nat.le_of_ble_eq_true rfl) (fun X hl _ _ _ hQ => ?_)
  unfold f_X6_jammedDrawers at h
  refine z_lv (lv' := [(0, .ref (a 0))]) [0] rfl ?_
  refine z_iconst (v := 0) (by decide) dX6_jammedDrawers_0 ?_
  refine z_istore_n [(1, .int 0), (0, .ref (a 0))] rfl (Nat.le_of_ble_eq_true rfl) rfl dX6_jammedDrawers_1 ?_
  refine z_aload_n 1 rfl rfl dX6_jammedDrawers_2 ?_
  refine z_get zcX6 0 rfl 0 rfl 2 (Nat.le_of_ble_eq_true rfl) zfX6_25 (v := .ref (a 8)) rfl dX6_jammedDrawers_3 ?_
  refine z_astore_n [(2, .ref (a 8)), (1, .int 0), (0, .ref (a 0))] rfl (Nat.le_of_ble_eq_true rfl) rfl dX6_jammedDrawers_6 ?_
  refine z_aload_n 0 rfl rfl dX6_jammedDrawers_7 ?_
  refine z_alen 0 rfl 8 rfl (v := 12) (by decide) dX6_jammedDrawers_8 ?_
  refine z_istore_n [(3, .int 12), (2, .ref (a 8)), (1, .int 0), (0, .ref (a 0))] rfl (Nat.le_of_ble_eq_true rfl) rfl dX6_jammedDrawers_9 ?_
  refine z_iconst (v := 0) (by decide) dX6_jammedDrawers_10 ?_
  refine z_istore [(4, .int 0), (3, .int 12), (2, .ref (a 8)), (1, .int 0), (0, .ref (a 0))] (Nat.le_of_ble_eq_true rfl) rfl dX6_jammedDrawers_11 ?_
  obtain ⟨z1, ez1, h⟩ := zb h
  refine z_lv (lv' := [(1, .int 0), (2, .ref (a 8)), (3, .int 12), (4, .int 0)]) [3, 2, 1, 0] rfl ?_
  suffices hk13 : (fun (s13 : Int32 × Int32) => Z false RX6 cX6_jammedDrawers 6 0 0 g X 0 0 ([cX6 g a u]) [(1, .int s13.1), (2, .ref (a 8)), (3, .int 12), (4, .int s13.2)] 13 []) (0, 0) by try dsimp only at hk13; exact hk13
  refine lp_ind (σ := Int32 × Int32) (ε := Int32) (b_X6_jammedDrawers_13 u) (fun s13 => Z false RX6 cX6_jammedDrawers 6 0 0 g X 0 0 ([cX6 g a u]) [(1, .int s13.1), (2, .ref (a 8)), (3, .int 12), (4, .int s13.2)] 13 []) (fun z1 => Z false RX6 cX6_jammedDrawers 6 0 0 g X 0 0 ([cX6 g a u]) [(1, .int z1)] 36 []) (fun s13 q13 h13 i13 x13 => ?_) 5000 (0, 0) z1 ez1 ?_
  · unfold b_X6_jammedDrawers_13 at h13
    refine z_iload 3 rfl dX6_jammedDrawers_13 ?_
    refine z_iload_n 2 rfl rfl dX6_jammedDrawers_15 ?_
    refine z_icmp_ge (tgt := 36) rfl dX6_jammedDrawers_16 (fun c16 => ?_) (fun c16 => ?_)
    · replace h13 := (if_pos c16).symm.trans h13
      cases h13
      have k13 := x13 s13.1 rfl
      try dsimp only at k13
      exact z_lv [0] rfl k13
    · replace h13 := (if_neg c16).symm.trans h13
      refine z_aload_n 1 rfl rfl dX6_jammedDrawers_19 ?_
      refine z_iload 3 rfl dX6_jammedDrawers_20 ?_
      obtain ⟨r2, er2, h13⟩ := zb h13
      refine z_iald 0 rfl 8 rfl er2 dX6_jammedDrawers_22 ?_
      refine z_istore [(5, .int r2), (1, .int s13.1), (2, .ref (a 8)), (3, .int 12), (4, .int s13.2)] (Nat.le_of_ble_eq_true rfl) rfl dX6_jammedDrawers_23 ?_
      refine z_iload_n 1 rfl rfl dX6_jammedDrawers_25 ?_
      refine z_iload 0 rfl dX6_jammedDrawers_26 ?_
      refine z_iadd dX6_jammedDrawers_28 ?_
      refine z_istore_n [(1, .int (s13.1 + r2)), (5, .int r2), (2, .ref (a 8)), (3, .int 12), (4, .int s13.2)] rfl (Nat.le_of_ble_eq_true rfl) rfl dX6_jammedDrawers_29 ?_
      refine z_iinc 4 [(4, .int (s13.2 + 1)), (1, .int (s13.1 + r2)), (5, .int r2), (2, .ref (a 8)), (3, .int 12)] rfl (v := (s13.2 + 1)) zinc (Nat.le_of_ble_eq_true rfl) rfl dX6_jammedDrawers_30 ?_
      refine z_goto (tgt := 13) rfl dX6_jammedDrawers_33 ?_
      cases h13
      have k13 := i13 ((s13.1 + r2), (s13.2 + 1)) rfl
      try dsimp only at k13
      exact z_lv [1, 3, 4, 0] rfl k13
  · skip
    refine z_iload_n 0 rfl rfl dX6_jammedDrawers_36 ?_
    cases h
    exact z_iret dX6_jammedDrawers_37 hQ
set_option maxHeartbeats 400000 in
set_option maxRecDepth 100000 in
theorem c_X6_spaceIn (l : Launch) (g : zG) (a : Nat → Nat) (u : tX6) (p0 : Int32) (r : Int32) (h : f_X6_spaceIn u p0 = r) : Ctr l g false yX6_spaceIn cX6_spaceIn 2 (some .int) 1 21 0 0 [.ref (a 0), .int p0] ([cX6 g a u]) ([cX6 g a u]) (some (.int r)) := by
  refine ctr_of (by decide) (Nat.le_of_ble_eq_true rfl) (fun X hl _ _ _ hQ => ?_)
  unfold f_X6_spaceIn at h
  refine z_lv (lv' := [(0, .ref (a 0)), (1, .int p0)]) [0, 1] rfl ?_
  refine z_aload_n 0 rfl rfl dX6_spaceIn_0 ?_
  refine z_get zcX6 0 rfl 0 rfl 3 (Nat.le_of_ble_eq_true rfl) zfX6_37 (v := .ref (a 9)) rfl dX6_spaceIn_1 ?_
  refine z_iconst (v := 1) (by decide) dX6_spaceIn_4 ?_
  refine z_callNR (rest := []) hl (c_X7_at l g (a 9) 3 (by decide) u.2.2.2.1 1 _ rfl) zyX7_at zsX7_at zlX6_67 [(0, some (9, 1))] rfl rfl rfl (by decide) (Nat.le_of_ble_eq_true rfl) ⟨Nat.zero_le _, Nat.zero_le _⟩ dX6_spaceIn_5 (st2 := [.int (f_X7_at 3 u.2.2.2.1 1)]) rfl ?_
  refine z_aload_n 0 rfl rfl dX6_spaceIn_8 ?_
  refine z_get zcX6 0 rfl 0 rfl 0 (Nat.le_of_ble_eq_true rfl) zfX6_12 (v := .ref (a 1)) rfl dX6_spaceIn_9 ?_
  refine z_get zcX0 0 rfl 1 rfl 0 (Nat.le_of_ble_eq_true rfl) zfX6_71 (v := .ref (a 2)) rfl dX6_spaceIn_12 ?_
  refine z_iload_n 1 rfl rfl dX6_spaceIn_15 ?_
  refine z_callNR (rest := [.int (f_X7_at 3 u.2.2.2.1 1)]) hl (c_X7_at l g (a 2) 12 (by decide) u.1.1 p0 _ rfl) zyX7_at zsX7_at zlX6_67 [(0, some (2, 1))] rfl rfl rfl (by decide) (Nat.le_of_ble_eq_true rfl) ⟨Nat.zero_le _, Nat.zero_le _⟩ dX6_spaceIn_16 (st2 := [.int (f_X7_at 12 u.1.1 p0), .int (f_X7_at 3 u.2.2.2.1 1)]) rfl ?_
  refine z_isub dX6_spaceIn_19 ?_
  subst h
  exact z_iret dX6_spaceIn_20 hQ
set_option maxHeartbeats 400000 in
set_option maxRecDepth 100000 in
theorem c_X6_drawerProperty (l : Launch) (g : zG) (a : Nat → Nat) (u : tX6) (p0 : Int32) (p1 : Int32) (r : Int32) (h : f_X6_drawerProperty u p0 p1 = some r) : Ctr l g false yX6_drawerProperty cX6_drawerProperty 3 (some .int) 2 44 0 0 [.ref (a 0), .int p0, .int p1] ([cX6 g a u]) ([cX6 g a u]) (some (.int r)) := by
  refine ctr_of (by decide) (Nat.le_of_ble_eq_true rfl) (fun X hl _ _ _ hQ => ?_)
  unfold f_X6_drawerProperty at h
  refine z_lv (lv' := [(0, .ref (a 0)), (1, .int p0), (2, .int p1)]) [0, 1, 2] rfl ?_
  refine z_iload_n 2 rfl rfl dX6_drawerProperty_0 ?_
  by_cases c1_0 : p1 = (0 : Int32)
  · replace h := (if_pos c1_0).symm.trans h
    refine z_tabIn (tgt := 36) (off := 35) (by rw [c1_0]; decide) (by rw [c1_0]; decide) (by rw [c1_0]; rfl) rfl dX6_drawerProperty_1 ?_
    refine z_aload_n 0 rfl rfl dX6_drawerProperty_36 ?_
    refine z_get zcX6 0 rfl 0 rfl 0 (Nat.le_of_ble_eq_true rfl) zfX6_12 (v := .ref (a 1)) rfl dX6_drawerProperty_37 ?_
    refine z_get zcX0 0 rfl 1 rfl 0 (Nat.le_of_ble_eq_true rfl) zfX6_71 (v := .ref (a 2)) rfl dX6_drawerProperty_40 ?_
    refine z_iload_n 1 rfl rfl dX6_drawerProperty_43 ?_
    refine z_callNR (rest := []) hl (c_X7_at l g (a 2) 12 (by decide) u.1.1 p0 _ rfl) zyX7_at zsX7_at zlX6_67 [(0, some (2, 1))] rfl rfl rfl (by decide) (Nat.le_of_ble_eq_true rfl) ⟨Nat.zero_le _, Nat.zero_le _⟩ dX6_drawerProperty_44 (st2 := [.int (f_X7_at 12 u.1.1 p0)]) rfl ?_
    cases h
    exact z_iret dX6_drawerProperty_47 hQ
  · replace h := (if_neg c1_0).symm.trans h
    by_cases c1_1 : p1 = (1 : Int32)
    · replace h := (if_pos c1_1).symm.trans h
      refine z_tabIn (tgt := 48) (off := 47) (by rw [c1_1]; decide) (by rw [c1_1]; decide) (by rw [c1_1]; rfl) rfl dX6_drawerProperty_1 ?_
      refine z_aload_n 0 rfl rfl dX6_drawerProperty_48 ?_
      refine z_get zcX6 0 rfl 0 rfl 1 (Nat.le_of_ble_eq_true rfl) zfX6_21 (v := .ref (a 4)) rfl dX6_drawerProperty_49 ?_
      refine z_iload_n 1 rfl rfl dX6_drawerProperty_52 ?_
      obtain ⟨r1, er1, h⟩ := zb h
      refine z_callVR (rest := []) hl (c_X3_lieIn l g (fun i => a (i + 4)) u.2.1 p0 _ er1) zyX3_lieIn zvX3_lieIn rfl zlX6_74 zcX3.1 ⟨_, _, rfl⟩ [(0, some (4, 4))] rfl rfl rfl (by decide) (Nat.le_of_ble_eq_true rfl) ⟨Nat.zero_le _, Nat.zero_le _⟩ dX6_drawerProperty_53 (st2 := [.int r1]) rfl ?_
      cases h
      exact z_iret dX6_drawerProperty_56 hQ
    · replace h := (if_neg c1_1).symm.trans h
      by_cases c1_2 : p1 = (2 : Int32)
      · replace h := (if_pos c1_2).symm.trans h
        refine z_tabIn (tgt := 57) (off := 56) (by rw [c1_2]; decide) (by rw [c1_2]; decide) (by rw [c1_2]; rfl) rfl dX6_drawerProperty_1 ?_
        refine z_iload_n 1 rfl rfl dX6_drawerProperty_57 ?_
        refine z_aload_n 0 rfl rfl dX6_drawerProperty_58 ?_
        refine z_get zcX6 0 rfl 0 rfl 4 (Nat.le_of_ble_eq_true rfl) zfX6_51 (v := .int u.2.2.2.2.1) rfl dX6_drawerProperty_59 ?_
        refine z_callNR (rest := []) hl (c_X7_placeOf l g p0 u.2.2.2.2.1 _ rfl) zyX7_placeOf zsX7_placeOf zlX6_78 [] rfl rfl rfl (by decide) (Nat.le_of_ble_eq_true rfl) ⟨Nat.zero_le _, Nat.zero_le _⟩ dX6_drawerProperty_62 (st2 := [.int (f_X7_placeOf p0 u.2.2.2.2.1)]) rfl ?_
        cases h
        exact z_iret dX6_drawerProperty_65 hQ
      · replace h := (if_neg c1_2).symm.trans h
        by_cases c1_3 : p1 = (3 : Int32)
        · replace h := (if_pos c1_3).symm.trans h
          refine z_tabIn (tgt := 66) (off := 65) (by rw [c1_3]; decide) (by rw [c1_3]; decide) (by rw [c1_3]; rfl) rfl dX6_drawerProperty_1 ?_
          refine z_aload_n 0 rfl rfl dX6_drawerProperty_66 ?_
          refine z_get zcX6 0 rfl 0 rfl 2 (Nat.le_of_ble_eq_true rfl) zfX6_25 (v := .ref (a 8)) rfl dX6_drawerProperty_67 ?_
          refine z_iload_n 1 rfl rfl dX6_drawerProperty_70 ?_
          refine z_callNR (rest := []) hl (c_X7_at l g (a 8) 12 (by decide) u.2.2.1 p0 _ rfl) zyX7_at zsX7_at zlX6_67 [(0, some (8, 1))] rfl rfl rfl (by decide) (Nat.le_of_ble_eq_true rfl) ⟨Nat.zero_le _, Nat.zero_le _⟩ dX6_drawerProperty_71 (st2 := [.int (f_X7_at 12 u.2.2.1 p0)]) rfl ?_
          cases h
          exact z_iret dX6_drawerProperty_74 hQ
        · replace h := (if_neg c1_3).symm.trans h
          by_cases c1_4 : p1 = (4 : Int32)
          · replace h := (if_pos c1_4).symm.trans h
            refine z_tabIn (tgt := 75) (off := 74) (by rw [c1_4]; decide) (by rw [c1_4]; decide) (by rw [c1_4]; rfl) rfl dX6_drawerProperty_1 ?_
            refine z_aload_n 0 rfl rfl dX6_drawerProperty_75 ?_
            refine z_get zcX6 0 rfl 0 rfl 0 (Nat.le_of_ble_eq_true rfl) zfX6_12 (v := .ref (a 1)) rfl dX6_drawerProperty_76 ?_
            refine z_iload_n 1 rfl rfl dX6_drawerProperty_79 ?_
            refine z_callVR (rest := []) hl (c_X0_imbalanceAt l g (fun i => a (i + 1)) u.1 p0 _ rfl) zyX0_imbalanceAt zvX0_imbalanceAt rfl zlX6_82 zcX0.1 ⟨_, _, rfl⟩ [(0, some (1, 3))] rfl rfl rfl (by decide) (Nat.le_of_ble_eq_true rfl) ⟨Nat.zero_le _, Nat.zero_le _⟩ dX6_drawerProperty_80 (st2 := [.int (f_X0_imbalanceAt u.1 p0)]) rfl ?_
            cases h
            exact z_iret dX6_drawerProperty_83 hQ
          · replace h := (if_neg c1_4).symm.trans h
            have n1_0 := lv_neT c1_0 (a := 0) rfl
            have n1_1 := lv_neT c1_1 (a := 1) rfl
            have n1_2 := lv_neT c1_2 (a := 2) rfl
            have n1_3 := lv_neT c1_3 (a := 3) rfl
            have n1_4 := lv_neT c1_4 (a := 4) rfl
            refine z_tabOut (tgt := 84) (by omega) rfl dX6_drawerProperty_1 ?_
            refine z_aload_n 0 rfl rfl dX6_drawerProperty_84 ?_
            refine z_iload_n 1 rfl rfl dX6_drawerProperty_85 ?_
            refine z_callVR (rest := []) hl (c_X6_spaceIn l g a u p0 _ rfl) zyX6_spaceIn zvX6_spaceIn rfl zlX6_85 zcX6.1 ⟨_, _, rfl⟩ [(0, none)] rfl rfl rfl (by decide) (Nat.le_of_ble_eq_true rfl) ⟨Nat.zero_le _, Nat.zero_le _⟩ dX6_drawerProperty_86 (st2 := [.int (f_X6_spaceIn u p0)]) rfl ?_
            cases h
            exact z_iret dX6_drawerProperty_89 hQ
set_option maxHeartbeats 400000 in
set_option maxRecDepth 100000 in
theorem c_X6_mayAdd (l : Launch) (g : zG) (a : Nat → Nat) (u : tX6) (p0 : Int32) (p1 : Int32) (r : Bool) (h : f_X6_mayAdd u p0 p1 = r) : Ctr l g false yX6_mayAdd cX6_mayAdd 3 (some .boolean) 3 66 0 0 [.ref (a 0), .int p0, .int p1] ([cX6 g a u]) ([cX6 g a u]) (some (.int (b2i r))) := by
  refine ctr_of (by decide) (Nat.le_of_ble_eq_true rfl) (fun X hl _ _ _ hQ => ?_)
  unfold f_X6_mayAdd at h
  refine z_lv (lv' := [(0, .ref (a 0)), (1, .int p0), (2, .int p1)]) [0, 1, 2] rfl ?_
  refine z_aload_n 0 rfl rfl dX6_mayAdd_0 ?_
  refine z_get zcX6 0 rfl 0 rfl 1 (Nat.le_of_ble_eq_true rfl) zfX6_21 (v := .ref (a 4)) rfl dX6_mayAdd_1 ?_
  refine z_get zcX3 0 rfl 4 rfl 3 (Nat.le_of_ble_eq_true rfl) zfX6_88 (v := .int u.2.1.2.2.2.1) rfl dX6_mayAdd_4 ?_
  refine z_bipush (v := 40) (by decide) dX6_mayAdd_7 ?_
  refine z_icmp_ge (tgt := 62) rfl dX6_mayAdd_9 (fun c9 => ?_) (fun c9 => ?_)
  · replace h := (if_pos c9).symm.trans h
    refine z_iconst (v := 0) (by decide) dX6_mayAdd_62 ?_
    subst h
    exact z_zret _ (by rfl) dX6_mayAdd_63 hQ
  · replace h := (if_neg c9).symm.trans h
    refine z_aload_n 0 rfl rfl dX6_mayAdd_12 ?_
    refine z_get zcX6 0 rfl 0 rfl 1 (Nat.le_of_ble_eq_true rfl) zfX6_21 (v := .ref (a 4)) rfl dX6_mayAdd_13 ?_
    refine z_get zcX3 0 rfl 4 rfl 4 (Nat.le_of_ble_eq_true rfl) zfX6_91 (v := .int u.2.1.2.2.2.2) rfl dX6_mayAdd_16 ?_
    refine z_sipush (v := 1000) (by decide) dX6_mayAdd_19 ?_
    refine z_icmp_ge (tgt := 62) rfl dX6_mayAdd_22 (fun c22 => ?_) (fun c22 => ?_)
    · replace h := (if_pos c22).symm.trans h
      refine z_iconst (v := 0) (by decide) dX6_mayAdd_62 ?_
      subst h
      exact z_zret _ (by rfl) dX6_mayAdd_63 hQ
    · replace h := (if_neg c22).symm.trans h
      refine z_iload_n 2 rfl rfl dX6_mayAdd_25 ?_
      refine z_aload_n 0 rfl rfl dX6_mayAdd_26 ?_
      refine z_iload_n 1 rfl rfl dX6_mayAdd_27 ?_
      refine z_callVR (rest := [.int p1]) hl (c_X6_spaceIn l g a u p0 _ rfl) zyX6_spaceIn zvX6_spaceIn rfl zlX6_85 zcX6.1 ⟨_, _, rfl⟩ [(0, none)] rfl rfl rfl (by decide) (Nat.le_of_ble_eq_true rfl) ⟨Nat.zero_le _, Nat.zero_le _⟩ dX6_mayAdd_28 (st2 := [.int (f_X6_spaceIn u p0), .int p1]) rfl ?_
      refine z_icmp_gt (tgt := 62) rfl dX6_mayAdd_31 (fun c31 => ?_) (fun c31 => ?_)
      · replace h := (if_pos c31).symm.trans h
        refine z_iconst (v := 0) (by decide) dX6_mayAdd_62 ?_
        subst h
        exact z_zret _ (by rfl) dX6_mayAdd_63 hQ
      · replace h := (if_neg c31).symm.trans h
        refine z_aload_n 0 rfl rfl dX6_mayAdd_34 ?_
        refine z_get zcX6 0 rfl 0 rfl 0 (Nat.le_of_ble_eq_true rfl) zfX6_12 (v := .ref (a 1)) rfl dX6_mayAdd_35 ?_
        refine z_aload_n 0 rfl rfl dX6_mayAdd_38 ?_
        refine z_get zcX6 0 rfl 0 rfl 4 (Nat.le_of_ble_eq_true rfl) zfX6_51 (v := .int u.2.2.2.2.1) rfl dX6_mayAdd_39 ?_
        refine z_iload_n 1 rfl rfl dX6_mayAdd_42 ?_
        refine z_iload_n 2 rfl rfl dX6_mayAdd_43 ?_
        refine z_callVR (rest := []) hl (c_X0_imbalanceWith l g (fun i => a (i + 1)) u.1 u.2.2.2.2.1 p0 p1 _ rfl) zyX0_imbalanceWith zvX0_imbalanceWith rfl zlX6_94 zcX0.1 ⟨_, _, rfl⟩ [(0, some (1, 3))] rfl rfl rfl (by decide) (Nat.le_of_ble_eq_true rfl) ⟨Nat.zero_le _, Nat.zero_le _⟩ dX6_mayAdd_44 (st2 := [.int (f_X0_imbalanceWith u.1 u.2.2.2.2.1 p0 p1)]) rfl ?_
        refine z_aload_n 0 rfl rfl dX6_mayAdd_47 ?_
        refine z_get zcX6 0 rfl 0 rfl 3 (Nat.le_of_ble_eq_true rfl) zfX6_37 (v := .ref (a 9)) rfl dX6_mayAdd_48 ?_
        refine z_iconst (v := 0) (by decide) dX6_mayAdd_51 ?_
        refine z_callNR (rest := [.int (f_X0_imbalanceWith u.1 u.2.2.2.2.1 p0 p1)]) hl (c_X7_at l g (a 9) 3 (by decide) u.2.2.2.1 0 _ rfl) zyX7_at zsX7_at zlX6_67 [(0, some (9, 1))] rfl rfl rfl (by decide) (Nat.le_of_ble_eq_true rfl) ⟨Nat.zero_le _, Nat.zero_le _⟩ dX6_mayAdd_52 (st2 := [.int (f_X7_at 3 u.2.2.2.1 0), .int (f_X0_imbalanceWith u.1 u.2.2.2.2.1 p0 p1)]) rfl ?_
        refine z_icmp_gt (tgt := 62) rfl dX6_mayAdd_55 (fun c55 => ?_) (fun c55 => ?_)
        · replace h := (if_pos c55).symm.trans h
          refine z_iconst (v := 0) (by decide) dX6_mayAdd_62 ?_
          subst h
          exact z_zret _ (by rfl) dX6_mayAdd_63 hQ
        · replace h := (if_neg c55).symm.trans h
          refine z_iconst (v := 1) (by decide) dX6_mayAdd_58 ?_
          refine z_goto (tgt := 63) rfl dX6_mayAdd_59 ?_
          subst h
          exact z_zret _ (by rfl) dX6_mayAdd_63 hQ
set_option maxHeartbeats 400000 in
set_option maxRecDepth 100000 in
theorem c_X6_addItem (l : Launch) (g : zG) (a : Nat → Nat) (u : tX6) (p0 : Int32) (p1 : Int32) (r : Int32 × tX6) (h : f_X6_addItem u p0 p1 = some r) : Ctr l g true yX6_addItem cX6_addItem 3 (some .int) 3 66 0 0 [.ref (a 0), .int p0, .int p1] ([cX6 g a u]) ([cX6 g a r.2]) (some (.int r.1)) := by
  refine ctr_of (by decide) (Nat.le_of_ble_eq_true rfl) (fun X hl _ _ _ hQ => ?_)
  unfold f_X6_addItem at h
  refine z_lv (lv' := [(0, .ref (a 0)), (1, .int p0), (2, .int p1)]) [0, 1, 2] rfl ?_
  refine z_aload_n 0 rfl rfl dX6_addItem_0 ?_
  refine z_get zcX6 0 rfl 0 rfl 0 (Nat.le_of_ble_eq_true rfl) zfX6_12 (v := .ref (a 1)) rfl dX6_addItem_1 ?_
  refine z_iload_n 1 rfl rfl dX6_addItem_4 ?_
  refine z_iload_n 2 rfl rfl dX6_addItem_5 ?_
  obtain ⟨r1, er1, h⟩ := zb h
  refine z_callVW (rest := []) hl (c_X0_addLoad l g (fun i => a (i + 1)) u.1 p0 p1 _ er1) zyX0_addLoad zvX0_addLoad rfl zlX6_98 zcX0.1 ⟨_, _, rfl⟩ [(0, some (1, 3))] rfl (by decide) rfl (w' := [dX6 g a r1.1 r1.2 u.2.1.1 u.2.1.2.1 u.2.1.2.2.1 u.2.1.2.2.2.1 u.2.1.2.2.2.2 u.2.2.1 u.2.2.2.1 u.2.2.2.2.1 u.2.2.2.2.2.1 u.2.2.2.2.2.2.1 u.2.2.2.2.2.2.2.1 u.2.2.2.2.2.2.2.2]) rfl rfl rfl (by decide) (Nat.le_of_ble_eq_true rfl) ⟨Nat.zero_le _, Nat.zero_le _⟩ dX6_addItem_6 (st2 := []) rfl ?_
  refine z_aload_n 0 rfl rfl dX6_addItem_9 ?_
  refine z_get zcX6 0 rfl 0 rfl 1 (Nat.le_of_ble_eq_true rfl) zfX6_21 (v := .ref (a 4)) rfl dX6_addItem_10 ?_
  refine z_iload_n 1 rfl rfl dX6_addItem_13 ?_
  refine z_iload_n 2 rfl rfl dX6_addItem_14 ?_
  obtain ⟨r2, er2, h⟩ := zb h
  refine z_callVW (rest := []) hl (c_X3_add l g (fun i => a (i + 4)) u.2.1 p0 p1 _ er2) zyX3_add zvX3_add rfl zlX6_102 zcX3.1 ⟨_, _, rfl⟩ [(0, some (4, 4))] rfl (by decide) rfl (w' := [dX6 g a r1.1 r1.2 r2.2.1 r2.2.2.1 r2.2.2.2.1 r2.2.2.2.2.1 r2.2.2.2.2.2 u.2.2.1 u.2.2.2.1 u.2.2.2.2.1 u.2.2.2.2.2.1 u.2.2.2.2.2.2.1 u.2.2.2.2.2.2.2.1 u.2.2.2.2.2.2.2.2]) rfl rfl rfl (by decide) (Nat.le_of_ble_eq_true rfl) ⟨Nat.zero_le _, Nat.zero_le _⟩ dX6_addItem_15 (st2 := [.int r2.1]) rfl ?_
  cases h
  try dsimp only at hQ
  exact z_iret dX6_addItem_18 hQ
set_option maxHeartbeats 400000 in
set_option maxRecDepth 100000 in
theorem c_X6_mayRelocate (l : Launch) (g : zG) (a : Nat → Nat) (u : tX6) (p0 : Int32) (p1 : Int32) (r : Bool) (h : f_X6_mayRelocate u p0 p1 = some r) : Ctr l g false yX6_mayRelocate cX6_mayRelocate 6 (some .boolean) 3 68 0 0 [.ref (a 0), .int p0, .int p1] ([cX6 g a u]) ([cX6 g a u]) (some (.int (b2i r))) := by
  refine ctr_of (by decide) (Nat.le_of_ble_eq_true rfl) (fun X hl _ _ _ hQ => ?_)
  unfold f_X6_mayRelocate at h
  refine z_lv (lv' := [(0, .ref (a 0)), (1, .int p0), (2, .int p1)]) [0, 1, 2] rfl ?_
  refine z_aload_n 0 rfl rfl dX6_mayRelocate_0 ?_
  refine z_get zcX6 0 rfl 0 rfl 1 (Nat.le_of_ble_eq_true rfl) zfX6_21 (v := .ref (a 4)) rfl dX6_mayRelocate_1 ?_
  refine z_iload_n 1 rfl rfl dX6_mayRelocate_4 ?_
  obtain ⟨r1, er1, h⟩ := zb h
  refine z_callVR (rest := []) hl (c_X3_drawerOf l g (fun i => a (i + 4)) u.2.1 p0 _ er1) zyX3_drawerOf zvX3_drawerOf rfl zlX6_105 zcX3.1 ⟨_, _, rfl⟩ [(0, some (4, 4))] rfl rfl rfl (by decide) (Nat.le_of_ble_eq_true rfl) ⟨Nat.zero_le _, Nat.zero_le _⟩ dX6_mayRelocate_5 (st2 := [.int r1]) rfl ?_
  refine z_istore_n [(3, .int r1), (0, .ref (a 0)), (1, .int p0), (2, .int p1)] rfl (Nat.le_of_ble_eq_true rfl) rfl dX6_mayRelocate_8 ?_
  refine z_aload_n 1 rfl rfl dX6_mayRelocate_9 ?_
  refine z_get zcX6 0 rfl 0 rfl 1 (Nat.le_of_ble_eq_true rfl) zfX6_21 (v := .ref (a 4)) rfl dX6_mayRelocate_10 ?_
  refine z_iload_n 2 rfl rfl dX6_mayRelocate_13 ?_
  obtain ⟨r2, er2, h⟩ := zb h
  refine z_callVR (rest := []) hl (c_X3_weightOf l g (fun i => a (i + 4)) u.2.1 p0 _ er2) zyX3_weightOf zvX3_weightOf rfl zlX6_108 zcX3.1 ⟨_, _, rfl⟩ [(0, some (4, 4))] rfl rfl rfl (by decide) (Nat.le_of_ble_eq_true rfl) ⟨Nat.zero_le _, Nat.zero_le _⟩ dX6_mayRelocate_14 (st2 := [.int r2]) rfl ?_
  refine z_istore [(4, .int r2), (3, .int r1), (0, .ref (a 0)), (1, .int p0), (2, .int p1)] (Nat.le_of_ble_eq_true rfl) rfl dX6_mayRelocate_17 ?_
  refine z_iload_n 1 rfl rfl dX6_mayRelocate_19 ?_
  refine z_iload_n 4 rfl rfl dX6_mayRelocate_20 ?_
  obtain ⟨j3, ej3, h⟩ := zb h
  have Kj3 : Z false RX6 cX6_mayRelocate 6 3 68 g X 0 0 ([cX6 g a u]) [(0, .ref (a 0)), (2, .int p1), (3, .int r1), (4, .int r2)] 30 [.int j3] := by
    refine z_istore [(5, .int j3), (0, .ref (a 0)), (2, .int p1), (3, .int r1), (4, .int r2)] (Nat.le_of_ble_eq_true rfl) rfl dX6_mayRelocate_30 ?_
    refine z_aload_n 1 rfl rfl dX6_mayRelocate_32 ?_
    refine z_iload_n 3 rfl rfl dX6_mayRelocate_33 ?_
    refine z_callVR (rest := []) hl (c_X6_isJammed l g a u r1 _ rfl) zyX6_isJammed zvX6_isJammed rfl zlX6_111 zcX6.1 ⟨_, _, rfl⟩ [(0, none)] rfl rfl rfl (by decide) (Nat.le_of_ble_eq_true rfl) ⟨Nat.zero_le _, Nat.zero_le _⟩ dX6_mayRelocate_34 (st2 := [.int (b2i (f_X6_isJammed u r1))]) rfl ?_
    refine z_ifB_ne (tgt := 88) rfl dX6_mayRelocate_37 (fun c37 => ?_) (fun c37 => ?_)
    · replace h := (if_pos c37).symm.trans h
      refine z_iconst (v := 0) (by decide) dX6_mayRelocate_88 ?_
      cases h
      exact z_zret _ (by rfl) dX6_mayRelocate_89 hQ
    · replace h := (if_neg c37).symm.trans h
      refine z_aload_n 1 rfl rfl dX6_mayRelocate_40 ?_
      refine z_iload_n 2 rfl rfl dX6_mayRelocate_41 ?_
      refine z_callVR (rest := []) hl (c_X6_isJammed l g a u p1 _ rfl) zyX6_isJammed zvX6_isJammed rfl zlX6_111 zcX6.1 ⟨_, _, rfl⟩ [(0, none)] rfl rfl rfl (by decide) (Nat.le_of_ble_eq_true rfl) ⟨Nat.zero_le _, Nat.zero_le _⟩ dX6_mayRelocate_42 (st2 := [.int (b2i (f_X6_isJammed u p1))]) rfl ?_
      refine z_ifB_ne (tgt := 88) rfl dX6_mayRelocate_45 (fun c45 => ?_) (fun c45 => ?_)
      · replace h := (if_pos c45).symm.trans h
        refine z_iconst (v := 0) (by decide) dX6_mayRelocate_88 ?_
        cases h
        exact z_zret _ (by rfl) dX6_mayRelocate_89 hQ
      · replace h := (if_neg c45).symm.trans h
        refine z_iload 0 rfl dX6_mayRelocate_48 ?_
        refine z_aload_n 1 rfl rfl dX6_mayRelocate_50 ?_
        refine z_iload_n 2 rfl rfl dX6_mayRelocate_51 ?_
        refine z_callVR (rest := [.int j3]) hl (c_X6_spaceIn l g a u p1 _ rfl) zyX6_spaceIn zvX6_spaceIn rfl zlX6_85 zcX6.1 ⟨_, _, rfl⟩ [(0, none)] rfl rfl rfl (by decide) (Nat.le_of_ble_eq_true rfl) ⟨Nat.zero_le _, Nat.zero_le _⟩ dX6_mayRelocate_52 (st2 := [.int (f_X6_spaceIn u p1), .int j3]) rfl ?_
        refine z_icmp_gt (tgt := 88) rfl dX6_mayRelocate_55 (fun c55 => ?_) (fun c55 => ?_)
        · replace h := (if_pos c55).symm.trans h
          refine z_iconst (v := 0) (by decide) dX6_mayRelocate_88 ?_
          cases h
          exact z_zret _ (by rfl) dX6_mayRelocate_89 hQ
        · replace h := (if_neg c55).symm.trans h
          refine z_aload_n 1 rfl rfl dX6_mayRelocate_58 ?_
          refine z_get zcX6 0 rfl 0 rfl 0 (Nat.le_of_ble_eq_true rfl) zfX6_12 (v := .ref (a 1)) rfl dX6_mayRelocate_59 ?_
          refine z_aload_n 1 rfl rfl dX6_mayRelocate_62 ?_
          refine z_get zcX6 0 rfl 0 rfl 4 (Nat.le_of_ble_eq_true rfl) zfX6_51 (v := .int u.2.2.2.2.1) rfl dX6_mayRelocate_63 ?_
          refine z_iload_n 3 rfl rfl dX6_mayRelocate_66 ?_
          refine z_iload_n 2 rfl rfl dX6_mayRelocate_67 ?_
          refine z_iload 4 rfl dX6_mayRelocate_68 ?_
          refine z_callVR (rest := []) hl (c_X0_imbalanceMoved l g (fun i => a (i + 1)) u.1 u.2.2.2.2.1 r1 p1 r2 _ rfl) zyX0_imbalanceMoved zvX0_imbalanceMoved rfl zlX6_115 zcX0.1 ⟨_, _, rfl⟩ [(0, some (1, 3))] rfl rfl rfl (by decide) (Nat.le_of_ble_eq_true rfl) ⟨Nat.zero_le _, Nat.zero_le _⟩ dX6_mayRelocate_70 (st2 := [.int (f_X0_imbalanceMoved u.1 u.2.2.2.2.1 r1 p1 r2)]) rfl ?_
          refine z_aload_n 1 rfl rfl dX6_mayRelocate_73 ?_
          refine z_get zcX6 0 rfl 0 rfl 3 (Nat.le_of_ble_eq_true rfl) zfX6_37 (v := .ref (a 9)) rfl dX6_mayRelocate_74 ?_
          refine z_iconst (v := 0) (by decide) dX6_mayRelocate_77 ?_
          refine z_callNR (rest := [.int (f_X0_imbalanceMoved u.1 u.2.2.2.2.1 r1 p1 r2)]) hl (c_X7_at l g (a 9) 3 (by decide) u.2.2.2.1 0 _ rfl) zyX7_at zsX7_at zlX6_67 [(0, some (9, 1))] rfl rfl rfl (by decide) (Nat.le_of_ble_eq_true rfl) ⟨Nat.zero_le _, Nat.zero_le _⟩ dX6_mayRelocate_78 (st2 := [.int (f_X7_at 3 u.2.2.2.1 0), .int (f_X0_imbalanceMoved u.1 u.2.2.2.2.1 r1 p1 r2)]) rfl ?_
          refine z_icmp_gt (tgt := 88) rfl dX6_mayRelocate_81 (fun c81 => ?_) (fun c81 => ?_)
          · replace h := (if_pos c81).symm.trans h
            refine z_iconst (v := 0) (by decide) dX6_mayRelocate_88 ?_
            cases h
            exact z_zret _ (by rfl) dX6_mayRelocate_89 hQ
          · replace h := (if_neg c81).symm.trans h
            refine z_iconst (v := 1) (by decide) dX6_mayRelocate_84 ?_
            refine z_goto (tgt := 89) rfl dX6_mayRelocate_85 ?_
            cases h
            exact z_zret _ (by rfl) dX6_mayRelocate_89 hQ
  clear h
  refine z_icmp_ne (tgt := 28) rfl dX6_mayRelocate_21 (fun c21 => ?_) (fun c21 => ?_)
  · replace ej3 := (if_neg c21).symm.trans ej3
    refine z_iload 0 rfl dX6_mayRelocate_28 ?_
    cases ej3
    exact z_lv [2, 4, 1, 0] rfl Kj3
  · replace ej3 := (if_pos c21).symm.trans ej3
    refine z_iconst (v := 0) (by decide) dX6_mayRelocate_24 ?_
    refine z_goto (tgt := 30) rfl dX6_mayRelocate_25 ?_
    cases ej3
    exact z_lv [2, 4, 1, 0] rfl Kj3
set_option maxHeartbeats 400000 in
set_option maxRecDepth 100000 in
theorem c_X6_relocateItem (l : Launch) (g : zG) (a : Nat → Nat) (u : tX6) (p0 : Int32) (p1 : Int32) (r : Int32 × tX6) (h : f_X6_relocateItem u p0 p1 = some r) : Ctr l g true yX6_relocateItem cX6_relocateItem 5 (some .int) 3 66 0 0 [.ref (a 0), .int p0, .int p1] ([cX6 g a u]) ([cX6 g a r.2]) (some (.int r.1)) := by
  refine ctr_of (by decide) (Nat.le_of_ble_eq_true rfl) (fun X hl _ _ _ hQ => ?_)
  unfold f_X6_relocateItem at h
  refine z_lv (lv' := [(0, .ref (a 0)), (1, .int p0), (2, .int p1)]) [0, 1, 2] rfl ?_
  refine z_aload_n 0 rfl rfl dX6_relocateItem_0 ?_
  refine z_get zcX6 0 rfl 0 rfl 1 (Nat.le_of_ble_eq_true rfl) zfX6_21 (v := .ref (a 4)) rfl dX6_relocateItem_1 ?_
  refine z_iload_n 1 rfl rfl dX6_relocateItem_4 ?_
  obtain ⟨r1, er1, h⟩ := zb h
  refine z_callVR (rest := []) hl (c_X3_drawerOf l g (fun i => a (i + 4)) u.2.1 p0 _ er1) zyX3_drawerOf zvX3_drawerOf rfl zlX6_105 zcX3.1 ⟨_, _, rfl⟩ [(0, some (4, 4))] rfl rfl rfl (by decide) (Nat.le_of_ble_eq_true rfl) ⟨Nat.zero_le _, Nat.zero_le _⟩ dX6_relocateItem_5 (st2 := [.int r1]) rfl ?_
  refine z_istore_n [(3, .int r1), (0, .ref (a 0)), (1, .int p0), (2, .int p1)] rfl (Nat.le_of_ble_eq_true rfl) rfl dX6_relocateItem_8 ?_
  refine z_aload_n 1 rfl rfl dX6_relocateItem_9 ?_
  refine z_get zcX6 0 rfl 0 rfl 1 (Nat.le_of_ble_eq_true rfl) zfX6_21 (v := .ref (a 4)) rfl dX6_relocateItem_10 ?_
  refine z_iload_n 2 rfl rfl dX6_relocateItem_13 ?_
  obtain ⟨r2, er2, h⟩ := zb h
  refine z_callVR (rest := []) hl (c_X3_weightOf l g (fun i => a (i + 4)) u.2.1 p0 _ er2) zyX3_weightOf zvX3_weightOf rfl zlX6_108 zcX3.1 ⟨_, _, rfl⟩ [(0, some (4, 4))] rfl rfl rfl (by decide) (Nat.le_of_ble_eq_true rfl) ⟨Nat.zero_le _, Nat.zero_le _⟩ dX6_relocateItem_14 (st2 := [.int r2]) rfl ?_
  refine z_istore [(4, .int r2), (3, .int r1), (0, .ref (a 0)), (1, .int p0), (2, .int p1)] (Nat.le_of_ble_eq_true rfl) rfl dX6_relocateItem_17 ?_
  refine z_aload_n 2 rfl rfl dX6_relocateItem_19 ?_
  refine z_get zcX6 0 rfl 0 rfl 0 (Nat.le_of_ble_eq_true rfl) zfX6_12 (v := .ref (a 1)) rfl dX6_relocateItem_20 ?_
  refine z_iload_n 1 rfl rfl dX6_relocateItem_23 ?_
  refine z_iload 0 rfl dX6_relocateItem_24 ?_
  refine z_ineg dX6_relocateItem_26 ?_
  obtain ⟨r3, er3, h⟩ := zb h
  refine z_callVW (rest := []) hl (c_X0_addLoad l g (fun i => a (i + 1)) u.1 r1 (-r2) _ er3) zyX0_addLoad zvX0_addLoad rfl zlX6_98 zcX0.1 ⟨_, _, rfl⟩ [(0, some (1, 3))] rfl (by decide) rfl (w' := [dX6 g a r3.1 r3.2 u.2.1.1 u.2.1.2.1 u.2.1.2.2.1 u.2.1.2.2.2.1 u.2.1.2.2.2.2 u.2.2.1 u.2.2.2.1 u.2.2.2.2.1 u.2.2.2.2.2.1 u.2.2.2.2.2.2.1 u.2.2.2.2.2.2.2.1 u.2.2.2.2.2.2.2.2]) rfl rfl rfl (by decide) (Nat.le_of_ble_eq_true rfl) ⟨Nat.zero_le _, Nat.zero_le _⟩ dX6_relocateItem_27 (st2 := []) rfl ?_
  refine z_aload_n 2 rfl rfl dX6_relocateItem_30 ?_
  refine z_get zcX6 0 rfl 0 rfl 0 (Nat.le_of_ble_eq_true rfl) zfX6_12 (v := .ref (a 1)) rfl dX6_relocateItem_31 ?_
  refine z_iload_n 4 rfl rfl dX6_relocateItem_34 ?_
  refine z_iload 0 rfl dX6_relocateItem_35 ?_
  obtain ⟨r4, er4, h⟩ := zb h
  refine z_callVW (rest := []) hl (c_X0_addLoad l g (fun i => a (i + 1)) r3 p1 r2 _ er4) zyX0_addLoad zvX0_addLoad rfl zlX6_98 zcX0.1 ⟨_, _, rfl⟩ [(0, some (1, 3))] rfl (by decide) rfl (w' := [dX6 g a r4.1 r4.2 u.2.1.1 u.2.1.2.1 u.2.1.2.2.1 u.2.1.2.2.2.1 u.2.1.2.2.2.2 u.2.2.1 u.2.2.2.1 u.2.2.2.2.1 u.2.2.2.2.2.1 u.2.2.2.2.2.2.1 u.2.2.2.2.2.2.2.1 u.2.2.2.2.2.2.2.2]) rfl rfl rfl (by decide) (Nat.le_of_ble_eq_true rfl) ⟨Nat.zero_le _, Nat.zero_le _⟩ dX6_relocateItem_37 (st2 := []) rfl ?_
  refine z_aload_n 2 rfl rfl dX6_relocateItem_40 ?_
  refine z_get zcX6 0 rfl 0 rfl 1 (Nat.le_of_ble_eq_true rfl) zfX6_21 (v := .ref (a 4)) rfl dX6_relocateItem_41 ?_
  refine z_get zcX3 0 rfl 4 rfl 2 (Nat.le_of_ble_eq_true rfl) zfX6_119 (v := .ref (a 7)) rfl dX6_relocateItem_44 ?_
  refine z_aload_n 2 rfl rfl dX6_relocateItem_47 ?_
  refine z_get zcX6 0 rfl 0 rfl 1 (Nat.le_of_ble_eq_true rfl) zfX6_21 (v := .ref (a 4)) rfl dX6_relocateItem_48 ?_
  refine z_iload_n 3 rfl rfl dX6_relocateItem_51 ?_
  obtain ⟨r5, er5, h⟩ := zb h
  refine z_callVR (rest := [.ref (a 7)]) hl (c_X3_slotOf l g (fun i => a (i + 4)) u.2.1 p0 _ er5) zyX3_slotOf zvX3_slotOf rfl zlX6_122 zcX3.1 ⟨_, _, rfl⟩ [(0, some (4, 4))] rfl rfl rfl (by decide) (Nat.le_of_ble_eq_true rfl) ⟨Nat.zero_le _, Nat.zero_le _⟩ dX6_relocateItem_52 (st2 := [.int r5, .ref (a 7)]) rfl ?_
  refine z_iload_n 4 rfl rfl dX6_relocateItem_55 ?_
  obtain ⟨r6, er6, h⟩ := zb h
  refine z_callNW (rest := []) hl (c_X7_write l g (a 7) 40 (by decide) u.2.1.2.2.1 r5 p1 _ (Option.some.inj er6)) zyX7_write zsX7_write zlX6_125 [(0, some (7, 1))] rfl (by decide) rfl (w' := [dX6 g a r4.1 r4.2 u.2.1.1 u.2.1.2.1 r6 u.2.1.2.2.2.1 u.2.1.2.2.2.2 u.2.2.1 u.2.2.2.1 u.2.2.2.2.1 u.2.2.2.2.2.1 u.2.2.2.2.2.2.1 u.2.2.2.2.2.2.2.1 u.2.2.2.2.2.2.2.2]) rfl rfl rfl (by decide) (Nat.le_of_ble_eq_true rfl) ⟨Nat.zero_le _, Nat.zero_le _⟩ dX6_relocateItem_56 (st2 := []) rfl ?_
  refine z_iload_n 1 rfl rfl dX6_relocateItem_59 ?_
  cases h
  try dsimp only at hQ
  exact z_iret dX6_relocateItem_60 hQ
set_option maxHeartbeats 400000 in
set_option maxRecDepth 100000 in
theorem c_X6_wayTo (l : Launch) (g : zG) (a : Nat → Nat) (u : tX6) (p0 : Int32) (r : Int32) (h : f_X6_wayTo u p0 = some r) : Ctr l g false yX6_wayTo cX6_wayTo 3 (some .int) 2 49 0 0 [.ref (a 0), .int p0] ([cX6 g a u]) ([cX6 g a u]) (some (.int r)) := by
  refine ctr_of (by decide) (Nat.le_of_ble_eq_true rfl) (fun X hl _ _ _ hQ => ?_)
  unfold f_X6_wayTo at h
  refine z_lv (lv' := [(0, .ref (a 0)), (1, .int p0)]) [0, 1] rfl ?_
  refine z_aload_n 0 rfl rfl dX6_wayTo_0 ?_
  refine z_get zcX6 0 rfl 0 rfl 3 (Nat.le_of_ble_eq_true rfl) zfX6_37 (v := .ref (a 9)) rfl dX6_wayTo_1 ?_
  refine z_iconst (v := 0) (by decide) dX6_wayTo_4 ?_
  refine z_callNR (rest := []) hl (c_X7_at l g (a 9) 3 (by decide) u.2.2.2.1 0 _ rfl) zyX7_at zsX7_at zlX6_67 [(0, some (9, 1))] rfl rfl rfl (by decide) (Nat.le_of_ble_eq_true rfl) ⟨Nat.zero_le _, Nat.zero_le _⟩ dX6_wayTo_5 (st2 := [.int (f_X7_at 3 u.2.2.2.1 0)]) rfl ?_
  refine z_istore_n [(2, .int (f_X7_at 3 u.2.2.2.1 0)), (0, .ref (a 0)), (1, .int p0)] rfl (Nat.le_of_ble_eq_true rfl) rfl dX6_wayTo_8 ?_
  refine z_aload_n 1 rfl rfl dX6_wayTo_9 ?_
  refine z_get zcX6 0 rfl 0 rfl 0 (Nat.le_of_ble_eq_true rfl) zfX6_12 (v := .ref (a 1)) rfl dX6_wayTo_10 ?_
  refine z_iload_n 0 rfl rfl dX6_wayTo_13 ?_
  obtain ⟨r1, er1, h⟩ := zb h
  refine z_callVR (rest := []) hl (c_X0_balancedSet l g (fun i => a (i + 1)) u.1 (f_X7_at 3 u.2.2.2.1 0) _ er1) zyX0_balancedSet zvX0_balancedSet rfl zlX6_129 zcX0.1 ⟨_, _, rfl⟩ [(0, some (1, 3))] rfl rfl rfl (by decide) (Nat.le_of_ble_eq_true rfl) ⟨Nat.zero_le _, Nat.zero_le _⟩ dX6_wayTo_14 (st2 := [.int r1]) rfl ?_
  refine z_aload_n 1 rfl rfl dX6_wayTo_17 ?_
  refine z_get zcX6 0 rfl 0 rfl 4 (Nat.le_of_ble_eq_true rfl) zfX6_51 (v := .int u.2.2.2.2.1) rfl dX6_wayTo_18 ?_
  refine z_iload_n 2 rfl rfl dX6_wayTo_21 ?_
  obtain ⟨r2, er2, h⟩ := zb h
  refine z_callNR (rest := []) hl (c_X7_wayOver l g r1 u.2.2.2.2.1 p0 _ er2) zyX7_wayOver zsX7_wayOver zlX6_132 [] rfl rfl rfl (by decide) (Nat.le_of_ble_eq_true rfl) ⟨Nat.zero_le _, Nat.zero_le _⟩ dX6_wayTo_22 (st2 := [.int r2]) rfl ?_
  cases h
  exact z_iret dX6_wayTo_25 hQ
set_option maxHeartbeats 400000 in
set_option maxRecDepth 100000 in
theorem c_X6_goTo (l : Launch) (g : zG) (a : Nat → Nat) (u : tX6) (p0 : Int32) (p1 : Int32) (r : tX6) (h : f_X6_goTo u p0 p1 = r) : Ctr l g true yX6_goTo cX6_goTo 3 none 1 15 0 0 [.ref (a 0), .int p0, .int p1] ([cX6 g a u]) ([cX6 g a r]) none := by
  refine ctr_of (by decide) (Nat.le_of_ble_eq_true rfl) (fun X hl _ _ _ hQ => ?_)
  unfold f_X6_goTo at h
  refine z_lv (lv' := [(0, .ref (a 0)), (1, .int p0), (2, .int p1)]) [0, 1, 2] rfl ?_
  refine z_aload_n 0 rfl rfl dX6_goTo_0 ?_
  refine z_iload_n 1 rfl rfl dX6_goTo_1 ?_
  refine z_put (t := .int) ([dX6 g a u.1.1 u.1.2 u.2.1.1 u.2.1.2.1 u.2.1.2.2.1 u.2.1.2.2.2.1 u.2.1.2.2.2.2 u.2.2.1 u.2.2.2.1 p0 u.2.2.2.2.2.1 u.2.2.2.2.2.2.1 u.2.2.2.2.2.2.2.1 u.2.2.2.2.2.2.2.2]) zcX6 0 rfl 0 rfl 4 (Nat.le_of_ble_eq_true rfl) zfX6_51 zpX6_4 (zn_i _) (zf_i _) (Nat.le_of_ble_eq_true rfl) rfl dX6_goTo_2 ?_
  refine z_aload_n 0 rfl rfl dX6_goTo_5 ?_
  refine z_dup rfl dX6_goTo_6 ?_
  refine z_get zcX6 0 rfl 0 rfl 5 (Nat.le_of_ble_eq_true rfl) zfX6_55 (v := .int u.2.2.2.2.2.1) rfl dX6_goTo_7 ?_
  refine z_iload_n 2 rfl rfl dX6_goTo_10 ?_
  refine z_mabs zlX6_135 ⟨Nat.le_of_ble_eq_true rfl, Nat.le_of_ble_eq_true rfl⟩ ⟨Nat.zero_le _, Nat.zero_le _⟩ dX6_goTo_11 ?_
  refine z_iadd dX6_goTo_14 ?_
  refine z_put (t := .int) ([dX6 g a u.1.1 u.1.2 u.2.1.1 u.2.1.2.1 u.2.1.2.2.1 u.2.1.2.2.2.1 u.2.1.2.2.2.2 u.2.2.1 u.2.2.2.1 p0 (u.2.2.2.2.2.1 + (i_abs p1)) u.2.2.2.2.2.2.1 u.2.2.2.2.2.2.2.1 u.2.2.2.2.2.2.2.2]) zcX6 0 rfl 0 rfl 5 (Nat.le_of_ble_eq_true rfl) zfX6_55 zpX6_5 (zn_i _) (zf_i _) (Nat.le_of_ble_eq_true rfl) rfl dX6_goTo_15 ?_
  refine z_aload_n 0 rfl rfl dX6_goTo_18 ?_
  refine z_dup rfl dX6_goTo_19 ?_
  refine z_get zcX6 0 rfl 0 rfl 6 (Nat.le_of_ble_eq_true rfl) zfX6_58 (v := .int u.2.2.2.2.2.2.1) rfl dX6_goTo_20 ?_
  refine z_iconst (v := 0) (by decide) dX6_goTo_23 ?_
  refine z_iload_n 2 rfl rfl dX6_goTo_24 ?_
  refine z_ineg dX6_goTo_25 ?_
  refine z_mmax zlX6_140 ⟨Nat.le_of_ble_eq_true rfl, Nat.le_of_ble_eq_true rfl⟩ ⟨Nat.zero_le _, Nat.zero_le _⟩ dX6_goTo_26 ?_
  refine z_iadd dX6_goTo_29 ?_
  refine z_put (t := .int) ([dX6 g a u.1.1 u.1.2 u.2.1.1 u.2.1.2.1 u.2.1.2.2.1 u.2.1.2.2.2.1 u.2.1.2.2.2.2 u.2.2.1 u.2.2.2.1 p0 (u.2.2.2.2.2.1 + (i_abs p1)) (u.2.2.2.2.2.2.1 + (i_max 0 (-p1))) u.2.2.2.2.2.2.2.1 u.2.2.2.2.2.2.2.2]) zcX6 0 rfl 0 rfl 6 (Nat.le_of_ble_eq_true rfl) zfX6_58 zpX6_6 (zn_i _) (zf_i _) (Nat.le_of_ble_eq_true rfl) rfl dX6_goTo_30 ?_
  refine z_iload_n 2 rfl rfl dX6_goTo_33 ?_
  refine z_bipush (v := 6) (by decide) dX6_goTo_34 ?_
  refine z_icmp_gt (tgt := 45) rfl dX6_goTo_36 (fun c36 => ?_) (fun c36 => ?_)
  · replace h := (if_pos c36).symm.trans h
    refine z_aload_n 0 rfl rfl dX6_goTo_45 ?_
    refine z_dup rfl dX6_goTo_46 ?_
    refine z_get zcX6 0 rfl 0 rfl 7 (Nat.le_of_ble_eq_true rfl) zfX6_61 (v := .int u.2.2.2.2.2.2.2.1) rfl dX6_goTo_47 ?_
    refine z_iconst (v := 1) (by decide) dX6_goTo_50 ?_
    refine z_iadd dX6_goTo_51 ?_
    refine z_put (t := .int) ([dX6 g a u.1.1 u.1.2 u.2.1.1 u.2.1.2.1 u.2.1.2.2.1 u.2.1.2.2.2.1 u.2.1.2.2.2.2 u.2.2.1 u.2.2.2.1 p0 (u.2.2.2.2.2.1 + (i_abs p1)) (u.2.2.2.2.2.2.1 + (i_max 0 (-p1))) (u.2.2.2.2.2.2.2.1 + 1) u.2.2.2.2.2.2.2.2]) zcX6 0 rfl 0 rfl 7 (Nat.le_of_ble_eq_true rfl) zfX6_61 zpX6_7 (zn_i _) (zf_i _) (Nat.le_of_ble_eq_true rfl) rfl dX6_goTo_52 ?_
    subst h
    exact z_vret dX6_goTo_55 hQ
  · replace h := (if_neg c36).symm.trans h
    refine z_iload_n 2 rfl rfl dX6_goTo_39 ?_
    refine z_bipush (v := (-6)) (by decide) dX6_goTo_40 ?_
    refine z_icmp_gt (tgt := 55) rfl dX6_goTo_42 (fun c42 => ?_) (fun c42 => ?_)
    · replace h := (if_pos c42).symm.trans h
      subst h
      exact z_vret dX6_goTo_55 hQ
    · replace h := (if_neg c42).symm.trans h
      refine z_aload_n 0 rfl rfl dX6_goTo_45 ?_
      refine z_dup rfl dX6_goTo_46 ?_
      refine z_get zcX6 0 rfl 0 rfl 7 (Nat.le_of_ble_eq_true rfl) zfX6_61 (v := .int u.2.2.2.2.2.2.2.1) rfl dX6_goTo_47 ?_
      refine z_iconst (v := 1) (by decide) dX6_goTo_50 ?_
      refine z_iadd dX6_goTo_51 ?_
      refine z_put (t := .int) ([dX6 g a u.1.1 u.1.2 u.2.1.1 u.2.1.2.1 u.2.1.2.2.1 u.2.1.2.2.2.1 u.2.1.2.2.2.2 u.2.2.1 u.2.2.2.1 p0 (u.2.2.2.2.2.1 + (i_abs p1)) (u.2.2.2.2.2.2.1 + (i_max 0 (-p1))) (u.2.2.2.2.2.2.2.1 + 1) u.2.2.2.2.2.2.2.2]) zcX6 0 rfl 0 rfl 7 (Nat.le_of_ble_eq_true rfl) zfX6_61 zpX6_7 (zn_i _) (zf_i _) (Nat.le_of_ble_eq_true rfl) rfl dX6_goTo_52 ?_
      subst h
      exact z_vret dX6_goTo_55 hQ
set_option maxHeartbeats 400000 in
set_option maxRecDepth 100000 in
theorem c_X6_reasonAgainst (l : Launch) (g : zG) (a : Nat → Nat) (u : tX6) (p0 : Int32) (r : Int32) (h : f_X6_reasonAgainst u p0 = some r) : Ctr l g false yX6_reasonAgainst cX6_reasonAgainst 3 (some .int) 3 71 0 0 [.ref (a 0), .int p0] ([cX6 g a u]) ([cX6 g a u]) (some (.int r)) := by
  refine ctr_of (by decide) (Nat.le_of_ble_eq_true rfl) (fun X hl _ _ _ hQ => ?_)
  unfold f_X6_reasonAgainst at h
  refine z_lv (lv' := [(0, .ref (a 0)), (1, .int p0)]) [0, 1] rfl ?_
  refine z_aload_n 0 rfl rfl dX6_reasonAgainst_0 ?_
  refine z_get zcX6 0 rfl 0 rfl 1 (Nat.le_of_ble_eq_true rfl) zfX6_21 (v := .ref (a 4)) rfl dX6_reasonAgainst_1 ?_
  refine z_iload_n 1 rfl rfl dX6_reasonAgainst_4 ?_
  obtain ⟨r1, er1, h⟩ := zb h
  refine z_callVR (rest := []) hl (c_X3_has l g (fun i => a (i + 4)) u.2.1 p0 _ er1) zyX3_has zvX3_has rfl zlX6_143 zcX3.1 ⟨_, _, rfl⟩ [(0, some (4, 4))] rfl rfl rfl (by decide) (Nat.le_of_ble_eq_true rfl) ⟨Nat.zero_le _, Nat.zero_le _⟩ dX6_reasonAgainst_5 (st2 := [.int (b2i r1)]) rfl ?_
  refine z_ifB_ne (tgt := 13) rfl dX6_reasonAgainst_8 (fun c8 => ?_) (fun c8 => ?_)
  · replace h := (if_pos c8).symm.trans h
    refine z_aload_n 0 rfl rfl dX6_reasonAgainst_13 ?_
    refine z_get zcX6 0 rfl 0 rfl 1 (Nat.le_of_ble_eq_true rfl) zfX6_21 (v := .ref (a 4)) rfl dX6_reasonAgainst_14 ?_
    refine z_iload_n 1 rfl rfl dX6_reasonAgainst_17 ?_
    obtain ⟨r2, er2, h⟩ := zb h
    refine z_callVR (rest := []) hl (c_X3_drawerOf l g (fun i => a (i + 4)) u.2.1 p0 _ er2) zyX3_drawerOf zvX3_drawerOf rfl zlX6_105 zcX3.1 ⟨_, _, rfl⟩ [(0, some (4, 4))] rfl rfl rfl (by decide) (Nat.le_of_ble_eq_true rfl) ⟨Nat.zero_le _, Nat.zero_le _⟩ dX6_reasonAgainst_18 (st2 := [.int r2]) rfl ?_
    refine z_istore_n [(2, .int r2), (0, .ref (a 0)), (1, .int p0)] rfl (Nat.le_of_ble_eq_true rfl) rfl dX6_reasonAgainst_21 ?_
    refine z_aload_n 1 rfl rfl dX6_reasonAgainst_22 ?_
    refine z_iload_n 0 rfl rfl dX6_reasonAgainst_23 ?_
    refine z_callVR (rest := []) hl (c_X6_isJammed l g a u r2 _ rfl) zyX6_isJammed zvX6_isJammed rfl zlX6_111 zcX6.1 ⟨_, _, rfl⟩ [(0, none)] rfl rfl rfl (by decide) (Nat.le_of_ble_eq_true rfl) ⟨Nat.zero_le _, Nat.zero_le _⟩ dX6_reasonAgainst_24 (st2 := [.int (b2i (f_X6_isJammed u r2))]) rfl ?_
    refine z_ifB_eq (tgt := 32) rfl dX6_reasonAgainst_27 (fun c27 => ?_) (fun c27 => ?_)
    · replace h := (if_neg c27).symm.trans h
      refine z_aload_n 1 rfl rfl dX6_reasonAgainst_32 ?_
      refine z_iload_n 0 rfl rfl dX6_reasonAgainst_33 ?_
      obtain ⟨r3, er3, h⟩ := zb h
      refine z_callVR (rest := []) hl (c_X6_wayTo l g a u r2 _ er3) zyX6_wayTo zvX6_wayTo rfl zlX6_146 zcX6.1 ⟨_, _, rfl⟩ [(0, none)] rfl rfl rfl (by decide) (Nat.le_of_ble_eq_true rfl) ⟨Nat.zero_le _, Nat.zero_le _⟩ dX6_reasonAgainst_34 (st2 := [.int r3]) rfl ?_
      refine z_bipush (v := 99) (by decide) dX6_reasonAgainst_37 ?_
      refine z_icmp_ne (tgt := 46) rfl dX6_reasonAgainst_39 (fun c39 => ?_) (fun c39 => ?_)
      · replace h := (if_neg c39).symm.trans h
        refine z_iconst (v := 0) (by decide) dX6_reasonAgainst_46 ?_
        cases h
        exact z_iret dX6_reasonAgainst_47 hQ
      · replace h := (if_pos c39).symm.trans h
        refine z_iconst (v := 3) (by decide) dX6_reasonAgainst_42 ?_
        refine z_goto (tgt := 47) rfl dX6_reasonAgainst_43 ?_
        cases h
        exact z_iret dX6_reasonAgainst_47 hQ
    · replace h := (if_pos c27).symm.trans h
      refine z_iconst (v := 2) (by decide) dX6_reasonAgainst_30 ?_
      cases h
      exact z_iret dX6_reasonAgainst_31 hQ
  · replace h := (if_neg c8).symm.trans h
    refine z_iconst (v := 1) (by decide) dX6_reasonAgainst_11 ?_
    cases h
    exact z_iret dX6_reasonAgainst_12 hQ
set_option maxHeartbeats 400000 in
set_option maxRecDepth 100000 in
theorem c_X6_takeItem (l : Launch) (g : zG) (a : Nat → Nat) (u : tX6) (p0 : Int32) (r : Int32 × tX6) (h : f_X6_takeItem u p0 = some r) : Ctr l g true yX6_takeItem cX6_takeItem 4 (some .int) 3 71 0 0 [.ref (a 0), .int p0] ([cX6 g a u]) ([cX6 g a r.2]) (some (.int r.1)) := by
  refine ctr_of (by decide) (Nat.le_of_ble_eq_true rfl) (fun X hl _ _ _ hQ => ?_)
  unfold f_X6_takeItem at h
  refine z_lv (lv' := [(0, .ref (a 0)), (1, .int p0)]) [0, 1] rfl ?_
  refine z_aload_n 0 rfl rfl dX6_takeItem_0 ?_
  refine z_get zcX6 0 rfl 0 rfl 1 (Nat.le_of_ble_eq_true rfl) zfX6_21 (v := .ref (a 4)) rfl dX6_takeItem_1 ?_
  refine z_iload_n 1 rfl rfl dX6_takeItem_4 ?_
  obtain ⟨r1, er1, h⟩ := zb h
  refine z_callVR (rest := []) hl (c_X3_drawerOf l g (fun i => a (i + 4)) u.2.1 p0 _ er1) zyX3_drawerOf zvX3_drawerOf rfl zlX6_105 zcX3.1 ⟨_, _, rfl⟩ [(0, some (4, 4))] rfl rfl rfl (by decide) (Nat.le_of_ble_eq_true rfl) ⟨Nat.zero_le _, Nat.zero_le _⟩ dX6_takeItem_5 (st2 := [.int r1]) rfl ?_
  refine z_istore_n [(2, .int r1), (0, .ref (a 0)), (1, .int p0)] rfl (Nat.le_of_ble_eq_true rfl) rfl dX6_takeItem_8 ?_
  refine z_aload_n 1 rfl rfl dX6_takeItem_9 ?_
  refine z_iload_n 0 rfl rfl dX6_takeItem_10 ?_
  obtain ⟨r2, er2, h⟩ := zb h
  refine z_callVR (rest := []) hl (c_X6_wayTo l g a u r1 _ er2) zyX6_wayTo zvX6_wayTo rfl zlX6_146 zcX6.1 ⟨_, _, rfl⟩ [(0, none)] rfl rfl rfl (by decide) (Nat.le_of_ble_eq_true rfl) ⟨Nat.zero_le _, Nat.zero_le _⟩ dX6_takeItem_11 (st2 := [.int r2]) rfl ?_
  refine z_istore_n [(3, .int r2), (2, .int r1), (0, .ref (a 0)), (1, .int p0)] rfl (Nat.le_of_ble_eq_true rfl) rfl dX6_takeItem_14 ?_
  refine z_aload_n 2 rfl rfl dX6_takeItem_15 ?_
  refine z_iload_n 1 rfl rfl dX6_takeItem_16 ?_
  refine z_iload_n 0 rfl rfl dX6_takeItem_17 ?_
  obtain ⟨r3, er3, h⟩ := zb h
  refine z_callVW (rest := []) hl (c_X6_goTo l g a u r1 r2 _ (Option.some.inj er3)) zyX6_goTo zvX6_goTo rfl zlX6_149 zcX6.1 ⟨_, _, rfl⟩ [(0, none)] rfl (by decide) rfl (w' := [cX6 g a r3]) rfl rfl rfl (by decide) (Nat.le_of_ble_eq_true rfl) ⟨Nat.zero_le _, Nat.zero_le _⟩ dX6_takeItem_18 (st2 := []) rfl ?_
  refine z_aload_n 2 rfl rfl dX6_takeItem_21 ?_
  refine z_get zcX6 0 rfl 0 rfl 0 (Nat.le_of_ble_eq_true rfl) zfX6_12 (v := .ref (a 1)) rfl dX6_takeItem_22 ?_
  refine z_iload_n 1 rfl rfl dX6_takeItem_25 ?_
  refine z_aload_n 2 rfl rfl dX6_takeItem_26 ?_
  refine z_get zcX6 0 rfl 0 rfl 1 (Nat.le_of_ble_eq_true rfl) zfX6_21 (v := .ref (a 4)) rfl dX6_takeItem_27 ?_
  refine z_iload_n 3 rfl rfl dX6_takeItem_30 ?_
  obtain ⟨r4, er4, h⟩ := zb h
  refine z_callVR (rest := [.int r1, .ref (a 1)]) hl (c_X3_weightOf l g (fun i => a (i + 4)) r3.2.1 p0 _ er4) zyX3_weightOf zvX3_weightOf rfl zlX6_108 zcX3.1 ⟨_, _, rfl⟩ [(0, some (4, 4))] rfl rfl rfl (by decide) (Nat.le_of_ble_eq_true rfl) ⟨Nat.zero_le _, Nat.zero_le _⟩ dX6_takeItem_31 (st2 := [.int r4, .int r1, .ref (a 1)]) rfl ?_
  refine z_ineg dX6_takeItem_34 ?_
  obtain ⟨r5, er5, h⟩ := zb h
  refine z_callVW (rest := []) hl (c_X0_addLoad l g (fun i => a (i + 1)) r3.1 r1 (-r4) _ er5) zyX0_addLoad zvX0_addLoad rfl zlX6_98 zcX0.1 ⟨_, _, rfl⟩ [(0, some (1, 3))] rfl (by decide) rfl (w' := [dX6 g a r5.1 r5.2 r3.2.1.1 r3.2.1.2.1 r3.2.1.2.2.1 r3.2.1.2.2.2.1 r3.2.1.2.2.2.2 r3.2.2.1 r3.2.2.2.1 r3.2.2.2.2.1 r3.2.2.2.2.2.1 r3.2.2.2.2.2.2.1 r3.2.2.2.2.2.2.2.1 r3.2.2.2.2.2.2.2.2]) rfl rfl rfl (by decide) (Nat.le_of_ble_eq_true rfl) ⟨Nat.zero_le _, Nat.zero_le _⟩ dX6_takeItem_35 (st2 := []) rfl ?_
  refine z_aload_n 2 rfl rfl dX6_takeItem_38 ?_
  refine z_get zcX6 0 rfl 0 rfl 1 (Nat.le_of_ble_eq_true rfl) zfX6_21 (v := .ref (a 4)) rfl dX6_takeItem_39 ?_
  refine z_iload_n 3 rfl rfl dX6_takeItem_42 ?_
  obtain ⟨r6, er6, h⟩ := zb h
  refine z_callVW (rest := []) hl (c_X3_remove l g (fun i => a (i + 4)) r3.2.1 p0 _ er6) zyX3_remove zvX3_remove rfl zlX6_152 zcX3.1 ⟨_, _, rfl⟩ [(0, some (4, 4))] rfl (by decide) rfl (w' := [dX6 g a r5.1 r5.2 r6.1 r6.2.1 r6.2.2.1 r6.2.2.2.1 r6.2.2.2.2 r3.2.2.1 r3.2.2.2.1 r3.2.2.2.2.1 r3.2.2.2.2.2.1 r3.2.2.2.2.2.2.1 r3.2.2.2.2.2.2.2.1 r3.2.2.2.2.2.2.2.2]) rfl rfl rfl (by decide) (Nat.le_of_ble_eq_true rfl) ⟨Nat.zero_le _, Nat.zero_le _⟩ dX6_takeItem_43 (st2 := []) rfl ?_
  refine z_aload_n 2 rfl rfl dX6_takeItem_46 ?_
  refine z_dup rfl dX6_takeItem_47 ?_
  refine z_get zcX6 0 rfl 0 rfl 8 (Nat.le_of_ble_eq_true rfl) zfX6_64 (v := .int r3.2.2.2.2.2.2.2.2) rfl dX6_takeItem_48 ?_
  refine z_iconst (v := 1) (by decide) dX6_takeItem_51 ?_
  refine z_iadd dX6_takeItem_52 ?_
  refine z_put (t := .int) ([dX6 g a r5.1 r5.2 r6.1 r6.2.1 r6.2.2.1 r6.2.2.2.1 r6.2.2.2.2 r3.2.2.1 r3.2.2.2.1 r3.2.2.2.2.1 r3.2.2.2.2.2.1 r3.2.2.2.2.2.2.1 r3.2.2.2.2.2.2.2.1 (r3.2.2.2.2.2.2.2.2 + 1)]) zcX6 0 rfl 0 rfl 8 (Nat.le_of_ble_eq_true rfl) zfX6_64 zpX6_8 (zn_i _) (zf_i _) (Nat.le_of_ble_eq_true rfl) rfl dX6_takeItem_53 ?_
  refine z_iload_n 0 rfl rfl dX6_takeItem_56 ?_
  refine z_mabs zlX6_135 ⟨Nat.le_of_ble_eq_true rfl, Nat.le_of_ble_eq_true rfl⟩ ⟨Nat.zero_le _, Nat.zero_le _⟩ dX6_takeItem_57 ?_
  cases h
  try dsimp only at hQ
  exact z_iret dX6_takeItem_60 hQ
set_option maxHeartbeats 400000 in
set_option maxRecDepth 100000 in
theorem c_X6_isBetter (l : Launch) (g : zG) (a : Nat → Nat) (u : tX6) (p0 : Int32) (p1 : Int32) (p2 : Int32) (r : Bool) (h : f_X6_isBetter u p0 p1 p2 = some r) : Ctr l g false yX6_isBetter cX6_isBetter 6 (some .boolean) 4 90 0 0 [.ref (a 0), .int p0, .int p1, .int p2] ([cX6 g a u]) ([cX6 g a u]) (some (.int (b2i r))) := by
  refine ctr_of (by decide) (Nat.le_of_ble_eq_true rfl) (fun X hl _ _ _ hQ => ?_)
  unfold f_X6_isBetter at h
  refine z_lv (lv' := [(0, .ref (a 0)), (1, .int p0), (2, .int p1), (3, .int p2)]) [0, 1, 2, 3] rfl ?_
  refine z_aload_n 0 rfl rfl dX6_isBetter_0 ?_
  refine z_get zcX6 0 rfl 0 rfl 0 (Nat.le_of_ble_eq_true rfl) zfX6_12 (v := .ref (a 1)) rfl dX6_isBetter_1 ?_
  refine z_iload_n 1 rfl rfl dX6_isBetter_4 ?_
  refine z_iload_n 3 rfl rfl dX6_isBetter_5 ?_
  obtain ⟨r1, er1, h⟩ := zb h
  refine z_callVR (rest := []) hl (c_X0_greatestWith l g (fun i => a (i + 1)) u.1 p0 p2 _ er1) zyX0_greatestWith zvX0_greatestWith rfl zlX6_160 zcX0.1 ⟨_, _, rfl⟩ [(0, some (1, 3))] rfl rfl rfl (by decide) (Nat.le_of_ble_eq_true rfl) ⟨Nat.zero_le _, Nat.zero_le _⟩ dX6_isBetter_6 (st2 := [.int r1]) rfl ?_
  refine z_istore [(4, .int r1), (0, .ref (a 0)), (1, .int p0), (2, .int p1), (3, .int p2)] (Nat.le_of_ble_eq_true rfl) rfl dX6_isBetter_9 ?_
  refine z_aload_n 1 rfl rfl dX6_isBetter_11 ?_
  refine z_get zcX6 0 rfl 0 rfl 0 (Nat.le_of_ble_eq_true rfl) zfX6_12 (v := .ref (a 1)) rfl dX6_isBetter_12 ?_
  refine z_iload_n 3 rfl rfl dX6_isBetter_15 ?_
  refine z_iload_n 4 rfl rfl dX6_isBetter_16 ?_
  obtain ⟨r2, er2, h⟩ := zb h
  refine z_callVR (rest := []) hl (c_X0_greatestWith l g (fun i => a (i + 1)) u.1 p1 p2 _ er2) zyX0_greatestWith zvX0_greatestWith rfl zlX6_160 zcX0.1 ⟨_, _, rfl⟩ [(0, some (1, 3))] rfl rfl rfl (by decide) (Nat.le_of_ble_eq_true rfl) ⟨Nat.zero_le _, Nat.zero_le _⟩ dX6_isBetter_17 (st2 := [.int r2]) rfl ?_
  refine z_istore [(5, .int r2), (4, .int r1), (0, .ref (a 0)), (1, .int p0), (2, .int p1), (3, .int p2)] (Nat.le_of_ble_eq_true rfl) rfl dX6_isBetter_20 ?_
  refine z_iload 1 rfl dX6_isBetter_22 ?_
  refine z_iload 0 rfl dX6_isBetter_24 ?_
  refine z_icmp_eq (tgt := 42) rfl dX6_isBetter_26 (fun c26 => ?_) (fun c26 => ?_)
  · replace h := (if_pos c26).symm.trans h
    refine z_aload_n 2 rfl rfl dX6_isBetter_42 ?_
    refine z_get zcX6 0 rfl 0 rfl 0 (Nat.le_of_ble_eq_true rfl) zfX6_12 (v := .ref (a 1)) rfl dX6_isBetter_43 ?_
    refine z_get zcX0 0 rfl 1 rfl 0 (Nat.le_of_ble_eq_true rfl) zfX6_71 (v := .ref (a 2)) rfl dX6_isBetter_46 ?_
    refine z_iload_n 3 rfl rfl dX6_isBetter_49 ?_
    refine z_callNR (rest := []) hl (c_X7_at l g (a 2) 12 (by decide) u.1.1 p0 _ rfl) zyX7_at zsX7_at zlX6_67 [(0, some (2, 1))] rfl rfl rfl (by decide) (Nat.le_of_ble_eq_true rfl) ⟨Nat.zero_le _, Nat.zero_le _⟩ dX6_isBetter_50 (st2 := [.int (f_X7_at 12 u.1.1 p0)]) rfl ?_
    refine z_aload_n 2 rfl rfl dX6_isBetter_53 ?_
    refine z_get zcX6 0 rfl 0 rfl 0 (Nat.le_of_ble_eq_true rfl) zfX6_12 (v := .ref (a 1)) rfl dX6_isBetter_54 ?_
    refine z_get zcX0 0 rfl 1 rfl 0 (Nat.le_of_ble_eq_true rfl) zfX6_71 (v := .ref (a 2)) rfl dX6_isBetter_57 ?_
    refine z_iload_n 4 rfl rfl dX6_isBetter_60 ?_
    refine z_callNR (rest := [.int (f_X7_at 12 u.1.1 p0)]) hl (c_X7_at l g (a 2) 12 (by decide) u.1.1 p1 _ rfl) zyX7_at zsX7_at zlX6_67 [(0, some (2, 1))] rfl rfl rfl (by decide) (Nat.le_of_ble_eq_true rfl) ⟨Nat.zero_le _, Nat.zero_le _⟩ dX6_isBetter_61 (st2 := [.int (f_X7_at 12 u.1.1 p1), .int (f_X7_at 12 u.1.1 p0)]) rfl ?_
    refine z_icmp_ge (tgt := 71) rfl dX6_isBetter_64 (fun c64 => ?_) (fun c64 => ?_)
    · replace h := (if_pos c64).symm.trans h
      refine z_iconst (v := 0) (by decide) dX6_isBetter_71 ?_
      cases h
      exact z_zret _ (by rfl) dX6_isBetter_72 hQ
    · replace h := (if_neg c64).symm.trans h
      refine z_iconst (v := 1) (by decide) dX6_isBetter_67 ?_
      refine z_goto (tgt := 72) rfl dX6_isBetter_68 ?_
      cases h
      exact z_zret _ (by rfl) dX6_isBetter_72 hQ
  · replace h := (if_neg c26).symm.trans h
    refine z_iload 1 rfl dX6_isBetter_29 ?_
    refine z_iload 0 rfl dX6_isBetter_31 ?_
    refine z_icmp_ge (tgt := 40) rfl dX6_isBetter_33 (fun c33 => ?_) (fun c33 => ?_)
    · replace h := (if_pos c33).symm.trans h
      refine z_iconst (v := 0) (by decide) dX6_isBetter_40 ?_
      cases h
      exact z_zret _ (by rfl) dX6_isBetter_41 hQ
    · replace h := (if_neg c33).symm.trans h
      refine z_iconst (v := 1) (by decide) dX6_isBetter_36 ?_
      refine z_goto (tgt := 41) rfl dX6_isBetter_37 ?_
      cases h
      exact z_zret _ (by rfl) dX6_isBetter_41 hQ
set_option maxHeartbeats 400000 in
set_option maxRecDepth 100000 in
theorem c_X6_bestFor (l : Launch) (g : zG) (a : Nat → Nat) (u : tX6) (p0 : Int32) (r : Int32) (h : f_X6_bestFor u p0 = some r) : Ctr l g false yX6_bestFor cX6_bestFor 4 (some .int) 5 115 0 0 [.ref (a 0), .int p0] ([cX6 g a u]) ([cX6 g a u]) (some (.int r)) := by
  refine ctr_of (by decide) (Nat.le_of_ble_eq_true rfl) (fun X hl _ _ _ hQ => ?_)
  unfold f_X6_bestFor at h
  refine z_lv (lv' := [(0, .ref (a 0)), (1, .int p0)]) [0, 1] rfl ?_
  refine z_iconst (v := (-1)) (by decide) dX6_bestFor_0 ?_
  refine z_istore_n [(2, .int (-1)), (0, .ref (a 0)), (1, .int p0)] rfl (Nat.le_of_ble_eq_true rfl) rfl dX6_bestFor_1 ?_
  refine z_iconst (v := 0) (by decide) dX6_bestFor_2 ?_
  refine z_istore_n [(3, .int 0), (2, .int (-1)), (0, .ref (a 0)), (1, .int p0)] rfl (Nat.le_of_ble_eq_true rfl) rfl dX6_bestFor_3 ?_
  obtain ⟨z1, ez1, h⟩ := zb h
  refine z_lv (lv' := [(0, .ref (a 0)), (1, .int p0), (2, .int (-1)), (3, .int 0)]) [2, 3, 1, 0] rfl ?_
  suffices hk4 : (fun (s4 : Int32 × Int32) => Z false RX6 cX6_bestFor 4 5 115 g X 0 0 ([cX6 g a u]) [(0, .ref (a 0)), (1, .int p0), (2, .int s4.1), (3, .int s4.2)] 4 []) ((-1), 0) by try dsimp only at hk4; exact hk4
  refine lp_ind (σ := Int32 × Int32) (ε := Int32) (b_X6_bestFor_4 u p0) (fun s4 => Z false RX6 cX6_bestFor 4 5 115 g X 0 0 ([cX6 g a u]) [(0, .ref (a 0)), (1, .int p0), (2, .int s4.1), (3, .int s4.2)] 4 []) (fun z1 => Z false RX6 cX6_bestFor 4 5 115 g X 0 0 ([cX6 g a u]) [(2, .int z1)] 53 []) (fun s4 q4 h4 i4 x4 => ?_) 5000 ((-1), 0) z1 ez1 ?_
  · unfold b_X6_bestFor_4 at h4
    refine z_iload_n 3 rfl rfl dX6_bestFor_4 ?_
    refine z_bipush (v := 12) (by decide) dX6_bestFor_5 ?_
    refine z_icmp_ge (tgt := 53) rfl dX6_bestFor_7 (fun c7 => ?_) (fun c7 => ?_)
    · replace h4 := (if_pos c7).symm.trans h4
      cases h4
      have k4 := x4 s4.1 rfl
      try dsimp only at k4
      exact z_lv [2] rfl k4
    · replace h4 := (if_neg c7).symm.trans h4
      refine z_aload_n 0 rfl rfl dX6_bestFor_10 ?_
      refine z_iload_n 3 rfl rfl dX6_bestFor_11 ?_
      refine z_callVR (rest := []) hl (c_X6_isJammed l g a u s4.2 _ rfl) zyX6_isJammed zvX6_isJammed rfl zlX6_111 zcX6.1 ⟨_, _, rfl⟩ [(0, none)] rfl rfl rfl (by decide) (Nat.le_of_ble_eq_true rfl) ⟨Nat.zero_le _, Nat.zero_le _⟩ dX6_bestFor_12 (st2 := [.int (b2i (f_X6_isJammed u s4.2))]) rfl ?_
      refine z_ifB_ne (tgt := 47) rfl dX6_bestFor_15 (fun c15 => ?_) (fun c15 => ?_)
      · replace h4 := (if_pos c15).symm.trans h4
        refine z_iinc 3 [(3, .int (s4.2 + 1)), (0, .ref (a 0)), (1, .int p0), (2, .int s4.1)] rfl (v := (s4.2 + 1)) zinc (Nat.le_of_ble_eq_true rfl) rfl dX6_bestFor_47 ?_
        refine z_goto (tgt := 4) rfl dX6_bestFor_50 ?_
        cases h4
        have k4 := i4 (s4.1, (s4.2 + 1)) rfl
        try dsimp only at k4
        exact z_lv [1, 2, 3, 0] rfl k4
      · replace h4 := (if_neg c15).symm.trans h4
        refine z_iload_n 1 rfl rfl dX6_bestFor_18 ?_
        refine z_aload_n 0 rfl rfl dX6_bestFor_19 ?_
        refine z_iload_n 3 rfl rfl dX6_bestFor_20 ?_
        refine z_callVR (rest := [.int p0]) hl (c_X6_spaceIn l g a u s4.2 _ rfl) zyX6_spaceIn zvX6_spaceIn rfl zlX6_85 zcX6.1 ⟨_, _, rfl⟩ [(0, none)] rfl rfl rfl (by decide) (Nat.le_of_ble_eq_true rfl) ⟨Nat.zero_le _, Nat.zero_le _⟩ dX6_bestFor_21 (st2 := [.int (f_X6_spaceIn u s4.2), .int p0]) rfl ?_
        refine z_icmp_le (tgt := 30) rfl dX6_bestFor_24 (fun c24 => ?_) (fun c24 => ?_)
        · replace h4 := (if_pos c24).symm.trans h4
          refine z_iload_n 2 rfl rfl dX6_bestFor_30 ?_
          refine z_iconst (v := (-1)) (by decide) dX6_bestFor_31 ?_
          refine z_icmp_eq (tgt := 45) rfl dX6_bestFor_32 (fun c32 => ?_) (fun c32 => ?_)
          · replace h4 := (if_pos c32).symm.trans h4
            refine z_iload_n 3 rfl rfl dX6_bestFor_45 ?_
            refine z_istore_n [(2, .int s4.2), (0, .ref (a 0)), (1, .int p0), (3, .int s4.2)] rfl (Nat.le_of_ble_eq_true rfl) rfl dX6_bestFor_46 ?_
            refine z_iinc 3 [(3, .int (s4.2 + 1)), (2, .int s4.2), (0, .ref (a 0)), (1, .int p0)] rfl (v := (s4.2 + 1)) zinc (Nat.le_of_ble_eq_true rfl) rfl dX6_bestFor_47 ?_
            refine z_goto (tgt := 4) rfl dX6_bestFor_50 ?_
            cases h4
            have k4 := i4 (s4.2, (s4.2 + 1)) rfl
            try dsimp only at k4
            exact z_lv [2, 3, 1, 0] rfl k4
          · replace h4 := (if_neg c32).symm.trans h4
            refine z_aload_n 0 rfl rfl dX6_bestFor_35 ?_
            refine z_iload_n 3 rfl rfl dX6_bestFor_36 ?_
            refine z_iload_n 2 rfl rfl dX6_bestFor_37 ?_
            refine z_iload_n 1 rfl rfl dX6_bestFor_38 ?_
            obtain ⟨r2, er2, h4⟩ := zb h4
            refine z_callVR (rest := []) hl (c_X6_isBetter l g a u s4.2 s4.1 p0 _ er2) zyX6_isBetter zvX6_isBetter rfl zlX6_156 zcX6.1 ⟨_, _, rfl⟩ [(0, none)] rfl rfl rfl (by decide) (Nat.le_of_ble_eq_true rfl) ⟨Nat.zero_le _, Nat.zero_le _⟩ dX6_bestFor_39 (st2 := [.int (b2i r2)]) rfl ?_
            refine z_ifB_eq (tgt := 47) rfl dX6_bestFor_42 (fun c42 => ?_) (fun c42 => ?_)
            · replace h4 := (if_neg c42).symm.trans h4
              refine z_iinc 3 [(3, .int (s4.2 + 1)), (0, .ref (a 0)), (1, .int p0), (2, .int s4.1)] rfl (v := (s4.2 + 1)) zinc (Nat.le_of_ble_eq_true rfl) rfl dX6_bestFor_47 ?_
              refine z_goto (tgt := 4) rfl dX6_bestFor_50 ?_
              cases h4
              have k4 := i4 (s4.1, (s4.2 + 1)) rfl
              try dsimp only at k4
              exact z_lv [1, 2, 3, 0] rfl k4
            · replace h4 := (if_pos c42).symm.trans h4
              refine z_iload_n 3 rfl rfl dX6_bestFor_45 ?_
              refine z_istore_n [(2, .int s4.2), (0, .ref (a 0)), (1, .int p0), (3, .int s4.2)] rfl (Nat.le_of_ble_eq_true rfl) rfl dX6_bestFor_46 ?_
              refine z_iinc 3 [(3, .int (s4.2 + 1)), (2, .int s4.2), (0, .ref (a 0)), (1, .int p0)] rfl (v := (s4.2 + 1)) zinc (Nat.le_of_ble_eq_true rfl) rfl dX6_bestFor_47 ?_
              refine z_goto (tgt := 4) rfl dX6_bestFor_50 ?_
              cases h4
              have k4 := i4 (s4.2, (s4.2 + 1)) rfl
              try dsimp only at k4
              exact z_lv [2, 3, 1, 0] rfl k4
        · replace h4 := (if_neg c24).symm.trans h4
          refine z_goto (tgt := 47) rfl dX6_bestFor_27 ?_
          refine z_iinc 3 [(3, .int (s4.2 + 1)), (0, .ref (a 0)), (1, .int p0), (2, .int s4.1)] rfl (v := (s4.2 + 1)) zinc (Nat.le_of_ble_eq_true rfl) rfl dX6_bestFor_47 ?_
          refine z_goto (tgt := 4) rfl dX6_bestFor_50 ?_
          cases h4
          have k4 := i4 (s4.1, (s4.2 + 1)) rfl
          try dsimp only at k4
          exact z_lv [1, 2, 3, 0] rfl k4
  · skip
    refine z_iload_n 0 rfl rfl dX6_bestFor_53 ?_
    cases h
    exact z_iret dX6_bestFor_54 hQ
