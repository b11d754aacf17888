set_option maxHeartbeats 400000 in
theorem c_L_put (l : Launch) (hls : l.stackTraces = false) (g : zG) (a : Nat → Nat) (u : tX7) (ao : Nat) (o : Nat → Int64) (p0 : Int32) (p1 : Int32) (r : (Int32 ⊕ Nat) × tX7) (h : f_X7_put u p0 p1 = some r) : CtrH l g true zEx yL_put cL_put 5 (some .int) [(0, 10, 13, 13), (0, 10, 17, 15), (0, 10, 21, 17)] 7 147 1 6 [.ref (a 0), .int p0, .int p1, .ref ao] (kX7 g a u ++ [[(ao, .inl (g.2.2.2.1, 1, .inr (.inl o)))]]) (kX7 g a r.2 ++ [[(ao, .inl (g.2.2.2.1, 1, .inr (.inl (zLo o r.1))))]]) (some (.int (zLc 1 2 3 r.1))) := by
  refine ctrh_of (by decide) (Nat.le_of_ble_eq_true rfl) (fun X hl hmc hms htab hE hQ => ?_)
  refine z_lv (lv' := [(0, .ref (a 0)), (1, .int p0), (2, .int p1), (3, .ref ao)]) [0, 1, 2, 3] rfl ?_
  refine z_aload_n 3 rfl rfl dL_put_0 ?_
  refine z_iconst (v := 0) (by decide) dL_put_1 ?_
  refine z_aload_n 0 rfl rfl dL_put_2 ?_
  refine z_iload_n 1 rfl rfl dL_put_3 ?_
  refine z_iload_n 2 rfl rfl dL_put_4 ?_
  refine z_callVXW (rest := [.int 0, .ref ao]) zEx_st hE hl (c_X7_put l hls g a u p0 p1 r h) zyX7_put zvX7_put rfl zlL_7 zcX7.1 ⟨_, _, rfl⟩ [(0, none), (1, none), (2, none), (3, none), (4, none), (5, none), (6, none), (7, none), (8, none), (9, none), (10, none), (11, none), (12, none)] rfl rfl rfl (w' := kX7 g a r.2 ++ [[(ao, .inl (g.2.2.2.1, 1, .inr (.inl o)))]]) rfl rfl rfl ⟨Nat.le_of_ble_eq_true rfl, Nat.le_of_ble_eq_true rfl⟩ (Nat.le_of_ble_eq_true rfl) ⟨by rw [hmc]; exact Nat.le_refl _, by rw [hms]; exact Nat.le_refl _⟩ dL_put_5 (fun v e => ?_) (fun x e => ?_)
  · rw [e] at hQ
    refine z_i2l dL_put_8 ?_
    refine z_lastI (kX7 g a r.2 ++ [[(ao, .inl (g.2.2.2.1, 1, .inr (.inl (zLo o (.inl v)))))]]) 13 rfl 0 rfl zin0 rfl dL_put_9 ?_
    refine z_goto (tgt := 25) rfl dL_put_10 ?_
    refine z_iconst (v := 0) (by decide) dL_put_25 ?_
    exact z_iret dL_put_26 hQ
  · skip
    rw [e] at hQ
    obtain ⟨_, _, _, _, hN, _⟩ := hE
    rcases x with _ | x
    · refine ⟨13, ⟨[], ⟨0, 10, 13, 13⟩, [⟨0, 10, 17, 15⟩, ⟨0, 10, 21, 17⟩], htab, fun z hz => ?_, rfl, (by decide), zlcL_13, zcastzIOB, rfl⟩, fun q => ?_⟩
      · cases hz
      · refine z_astore [(4, .ref q), (0, .ref (a 0)), (1, .int p0), (2, .int p1), (3, .ref ao)] (Nat.le_of_ble_eq_true rfl) rfl dL_put_13 ?_
        refine z_iconst (v := 1) (by decide) dL_put_15 ?_
        rw [zLo_r, zLc_0] at hQ
        exact z_iret dL_put_16 hQ
    rcases x with _ | x
    · refine ⟨17, ⟨[⟨0, 10, 13, 13⟩], ⟨0, 10, 17, 15⟩, [⟨0, 10, 21, 17⟩], htab, fun z hz => ?_, rfl, (by decide), zlcL_15, zcastzIAE, rfl⟩, fun q => ?_⟩
      · simp only [List.mem_cons, List.not_mem_nil, or_false] at hz
        rcases hz with rfl
        · exact Or.inr ⟨by decide, zIOB, zlcL_13, hN (zIAE, zIOB) (List.mem_of_getElem? (i := 0) rfl)⟩
      · refine z_astore [(4, .ref q), (0, .ref (a 0)), (1, .int p0), (2, .int p1), (3, .ref ao)] (Nat.le_of_ble_eq_true rfl) rfl dL_put_17 ?_
        refine z_iconst (v := 2) (by decide) dL_put_19 ?_
        rw [zLo_r, zLc_1] at hQ
        exact z_iret dL_put_20 hQ
    · refine ⟨21, ⟨[⟨0, 10, 13, 13⟩, ⟨0, 10, 17, 15⟩], ⟨0, 10, 21, 17⟩, [], htab, fun z hz => ?_, rfl, (by decide), zlcL_17, zcastzISE, rfl⟩, fun q => ?_⟩
      · simp only [List.mem_cons, List.not_mem_nil, or_false] at hz
        rcases hz with rfl | rfl
        · exact Or.inr ⟨by decide, zIOB, zlcL_13, hN (zISE, zIOB) (List.mem_of_getElem? (i := 1) rfl)⟩
        · exact Or.inr ⟨by decide, zIAE, zlcL_15, hN (zISE, zIAE) (List.mem_of_getElem? (i := 3) rfl)⟩
      · refine z_astore [(4, .ref q), (0, .ref (a 0)), (1, .int p0), (2, .int p1), (3, .ref ao)] (Nat.le_of_ble_eq_true rfl) rfl dL_put_21 ?_
        refine z_iconst (v := 3) (by decide) dL_put_23 ?_
        rw [zLo_r, zLc_2] at hQ
        exact z_iret dL_put_24 hQ
theorem ex_X7_move (u : tX7) (p0 : Int32) (p1 : Int32) : zNo Prod.fst (fun e => e ≠ 1) (f_X7_move u p0 p1) := by
  unfold f_X7_move
  exact (zNo_bind fun _ => (zNo_ite (zNo_ite (zNo_bind fun _ => (zNo_ite (zNo_bind fun _ => (zNo_bind fun _ => zNo_lp)) (zNo_rp (by decide)))) (zNo_rp (by decide))) (zNo_rp (by decide))))
set_option maxHeartbeats 400000 in
theorem c_L_move (l : Launch) (hls : l.stackTraces = false) (g : zG) (a : Nat → Nat) (u : tX7) (ao : Nat) (o : Nat → Int64) (p0 : Int32) (p1 : Int32) (r : (Int32 ⊕ Nat) × tX7) (h : f_X7_move u p0 p1 = some r) : CtrH l g true zEx yL_move cL_move 5 (some .int) [(0, 10, 13, 13), (0, 10, 17, 17)] 7 147 1 6 [.ref (a 0), .int p0, .int p1, .ref ao] (kX7 g a u ++ [[(ao, .inl (g.2.2.2.1, 1, .inr (.inl o)))]]) (kX7 g a r.2 ++ [[(ao, .inl (g.2.2.2.1, 1, .inr (.inl (zLo o r.1))))]]) (some (.int (zLc 1 0 2 r.1))) := by
  refine ctrh_of (by decide) (Nat.le_of_ble_eq_true rfl) (fun X hl hmc hms htab hE hQ => ?_)
  refine z_lv (lv' := [(0, .ref (a 0)), (1, .int p0), (2, .int p1), (3, .ref ao)]) [0, 1, 2, 3] rfl ?_
  refine z_aload_n 3 rfl rfl dL_move_0 ?_
  refine z_iconst (v := 0) (by decide) dL_move_1 ?_
  refine z_aload_n 0 rfl rfl dL_move_2 ?_
  refine z_iload_n 1 rfl rfl dL_move_3 ?_
  refine z_iload_n 2 rfl rfl dL_move_4 ?_
  refine z_callVXW (rest := [.int 0, .ref ao]) zEx_st hE hl (c_X7_move l hls g a u p0 p1 r h) zyX7_move zvX7_move rfl zlL_19 zcX7.1 ⟨_, _, rfl⟩ [(0, none), (1, none), (2, none), (3, none), (4, none), (5, none), (6, none), (7, none), (8, none), (9, none), (10, none), (11, none), (12, none)] rfl rfl rfl (w' := kX7 g a r.2 ++ [[(ao, .inl (g.2.2.2.1, 1, .inr (.inl o)))]]) rfl rfl rfl ⟨Nat.le_of_ble_eq_true rfl, Nat.le_of_ble_eq_true rfl⟩ (Nat.le_of_ble_eq_true rfl) ⟨by rw [hmc]; exact Nat.le_refl _, by rw [hms]; exact Nat.le_refl _⟩ dL_move_5 (fun v e => ?_) (fun x e => ?_)
  · rw [e] at hQ
    refine z_i2l dL_move_8 ?_
    refine z_lastI (kX7 g a r.2 ++ [[(ao, .inl (g.2.2.2.1, 1, .inr (.inl (zLo o (.inl v)))))]]) 13 rfl 0 rfl zin0 rfl dL_move_9 ?_
    refine z_goto (tgt := 21) rfl dL_move_10 ?_
    refine z_iconst (v := 0) (by decide) dL_move_21 ?_
    exact z_iret dL_move_22 hQ
  · have hx := ex_X7_move u p0 p1 r h x e
    dsimp only at hx
    rw [e] at hQ
    obtain ⟨_, _, _, _, hN, _⟩ := hE
    rcases x with _ | x
    · refine ⟨13, ⟨[], ⟨0, 10, 13, 13⟩, [⟨0, 10, 17, 17⟩], htab, fun z hz => ?_, rfl, (by decide), zlcL_13, zcastzIOB, rfl⟩, fun q => ?_⟩
      · cases hz
      · refine z_astore [(4, .ref q), (0, .ref (a 0)), (1, .int p0), (2, .int p1), (3, .ref ao)] (Nat.le_of_ble_eq_true rfl) rfl dL_move_13 ?_
        refine z_iconst (v := 1) (by decide) dL_move_15 ?_
        rw [zLo_r, zLc_0] at hQ
        exact z_iret dL_move_16 hQ
    rcases x with _ | x
    · omega
    · refine ⟨17, ⟨[⟨0, 10, 13, 13⟩], ⟨0, 10, 17, 17⟩, [], htab, fun z hz => ?_, rfl, (by decide), zlcL_17, zcastzISE, rfl⟩, fun q => ?_⟩
      · simp only [List.mem_cons, List.not_mem_nil, or_false] at hz
        rcases hz with rfl
        · exact Or.inr ⟨by decide, zIOB, zlcL_13, hN (zISE, zIOB) (List.mem_of_getElem? (i := 1) rfl)⟩
      · refine z_astore [(4, .ref q), (0, .ref (a 0)), (1, .int p0), (2, .int p1), (3, .ref ao)] (Nat.le_of_ble_eq_true rfl) rfl dL_move_17 ?_
        refine z_iconst (v := 2) (by decide) dL_move_19 ?_
        rw [zLo_r, zLc_2] at hQ
        exact z_iret dL_move_20 hQ
theorem ex_X7_pick (u : tX7) (p0 : Int32) : zNo Prod.fst (fun e => e ≠ 1) (f_X7_pick u p0) := by
  unfold f_X7_pick
  exact (zNo_bind fun _ => (zNo_ite (zNo_bind fun _ => (zNo_ite (zNo_bind fun _ => (zNo_bind fun _ => zNo_lp)) (zNo_rp (by decide)))) (zNo_rp (by decide))))
set_option maxHeartbeats 400000 in
theorem c_L_pick (l : Launch) (hls : l.stackTraces = false) (g : zG) (a : Nat → Nat) (u : tX7) (ao : Nat) (o : Nat → Int64) (p0 : Int32) (r : (Int32 ⊕ Nat) × tX7) (h : f_X7_pick u p0 = some r) : CtrH l g true zEx yL_pick cL_pick 4 (some .int) [(0, 9, 12, 13), (0, 9, 15, 17)] 7 146 1 6 [.ref (a 0), .int p0, .ref ao] (kX7 g a u ++ [[(ao, .inl (g.2.2.2.1, 1, .inr (.inl o)))]]) (kX7 g a r.2 ++ [[(ao, .inl (g.2.2.2.1, 1, .inr (.inl (zLo o r.1))))]]) (some (.int (zLc 1 0 2 r.1))) := by
  refine ctrh_of (by decide) (Nat.le_of_ble_eq_true rfl) (fun X hl hmc hms htab hE hQ => ?_)
  refine z_lv (lv' := [(0, .ref (a 0)), (1, .int p0), (2, .ref ao)]) [0, 1, 2] rfl ?_
  refine z_aload_n 2 rfl rfl dL_pick_0 ?_
  refine z_iconst (v := 0) (by decide) dL_pick_1 ?_
  refine z_aload_n 0 rfl rfl dL_pick_2 ?_
  refine z_iload_n 1 rfl rfl dL_pick_3 ?_
  refine z_callVXW (rest := [.int 0, .ref ao]) zEx_st hE hl (c_X7_pick l hls g a u p0 r h) zyX7_pick zvX7_pick rfl zlL_22 zcX7.1 ⟨_, _, rfl⟩ [(0, none), (1, none), (2, none), (3, none), (4, none), (5, none), (6, none), (7, none), (8, none), (9, none), (10, none), (11, none), (12, none)] rfl rfl rfl (w' := kX7 g a r.2 ++ [[(ao, .inl (g.2.2.2.1, 1, .inr (.inl o)))]]) rfl rfl rfl ⟨Nat.le_of_ble_eq_true rfl, Nat.le_of_ble_eq_true rfl⟩ (Nat.le_of_ble_eq_true rfl) ⟨by rw [hmc]; exact Nat.le_refl _, by rw [hms]; exact Nat.le_refl _⟩ dL_pick_4 (fun v e => ?_) (fun x e => ?_)
  · rw [e] at hQ
    refine z_i2l dL_pick_7 ?_
    refine z_lastI (kX7 g a r.2 ++ [[(ao, .inl (g.2.2.2.1, 1, .inr (.inl (zLo o (.inl v)))))]]) 13 rfl 0 rfl zin0 rfl dL_pick_8 ?_
    refine z_goto (tgt := 18) rfl dL_pick_9 ?_
    refine z_iconst (v := 0) (by decide) dL_pick_18 ?_
    exact z_iret dL_pick_19 hQ
  · have hx := ex_X7_pick u p0 r h x e
    dsimp only at hx
    rw [e] at hQ
    obtain ⟨_, _, _, _, hN, _⟩ := hE
    rcases x with _ | x
    · refine ⟨12, ⟨[], ⟨0, 9, 12, 13⟩, [⟨0, 9, 15, 17⟩], htab, fun z hz => ?_, rfl, (by decide), zlcL_13, zcastzIOB, rfl⟩, fun q => ?_⟩
      · cases hz
      · refine z_astore_n [(3, .ref q), (0, .ref (a 0)), (1, .int p0), (2, .ref ao)] rfl (Nat.le_of_ble_eq_true rfl) rfl dL_pick_12 ?_
        refine z_iconst (v := 1) (by decide) dL_pick_13 ?_
        rw [zLo_r, zLc_0] at hQ
        exact z_iret dL_pick_14 hQ
    rcases x with _ | x
    · omega
    · refine ⟨15, ⟨[⟨0, 9, 12, 13⟩], ⟨0, 9, 15, 17⟩, [], htab, fun z hz => ?_, rfl, (by decide), zlcL_17, zcastzISE, rfl⟩, fun q => ?_⟩
      · simp only [List.mem_cons, List.not_mem_nil, or_false] at hz
        rcases hz with rfl
        · exact Or.inr ⟨by decide, zIOB, zlcL_13, hN (zISE, zIOB) (List.mem_of_getElem? (i := 1) rfl)⟩
      · refine z_astore_n [(3, .ref q), (0, .ref (a 0)), (1, .int p0), (2, .ref ao)] rfl (Nat.le_of_ble_eq_true rfl) rfl dL_pick_15 ?_
        refine z_iconst (v := 2) (by decide) dL_pick_16 ?_
        rw [zLo_r, zLc_2] at hQ
        exact z_iret dL_pick_17 hQ
theorem ex_X7_turn (u : tX7) (p0 : Int32) : zNo Prod.fst (fun e => e ≠ 1) (f_X7_turn u p0) := by
  unfold f_X7_turn
  exact (zNo_ite (zNo_bind fun _ => (zNo_ite (zNo_rp (by decide)) (zNo_bind fun _ => (zNo_bind fun _ => zNo_lp)))) (zNo_rp (by decide)))
set_option maxHeartbeats 400000 in
theorem c_L_turn (l : Launch) (hls : l.stackTraces = false) (g : zG) (a : Nat → Nat) (u : tX7) (ao : Nat) (o : Nat → Int64) (p0 : Int32) (r : (Int32 ⊕ Nat) × tX7) (h : f_X7_turn u p0 = some r) : CtrH l g true zEx yL_turn cL_turn 4 (some .int) [(0, 9, 12, 13), (0, 9, 15, 17)] 7 147 1 6 [.ref (a 0), .int p0, .ref ao] (kX7 g a u ++ [[(ao, .inl (g.2.2.2.1, 1, .inr (.inl o)))]]) (kX7 g a r.2 ++ [[(ao, .inl (g.2.2.2.1, 1, .inr (.inl (zLo o r.1))))]]) (some (.int (zLc 1 0 2 r.1))) := by
  refine ctrh_of (by decide) (Nat.le_of_ble_eq_true rfl) (fun X hl hmc hms htab hE hQ => ?_)
  refine z_lv (lv' := [(0, .ref (a 0)), (1, .int p0), (2, .ref ao)]) [0, 1, 2] rfl ?_
  refine z_aload_n 2 rfl rfl dL_turn_0 ?_
  refine z_iconst (v := 0) (by decide) dL_turn_1 ?_
  refine z_aload_n 0 rfl rfl dL_turn_2 ?_
  refine z_iload_n 1 rfl rfl dL_turn_3 ?_
  refine z_callVXW (rest := [.int 0, .ref ao]) zEx_st hE hl (c_X7_turn l hls g a u p0 r h) zyX7_turn zvX7_turn rfl zlL_26 zcX7.1 ⟨_, _, rfl⟩ [(0, none), (1, none), (2, none), (3, none), (4, none), (5, none), (6, none), (7, none), (8, none), (9, none), (10, none), (11, none), (12, none)] rfl rfl rfl (w' := kX7 g a r.2 ++ [[(ao, .inl (g.2.2.2.1, 1, .inr (.inl o)))]]) rfl rfl rfl ⟨Nat.le_of_ble_eq_true rfl, Nat.le_of_ble_eq_true rfl⟩ (Nat.le_of_ble_eq_true rfl) ⟨by rw [hmc]; exact Nat.le_refl _, by rw [hms]; exact Nat.le_refl _⟩ dL_turn_4 (fun v e => ?_) (fun x e => ?_)
  · rw [e] at hQ
    refine z_i2l dL_turn_7 ?_
    refine z_lastI (kX7 g a r.2 ++ [[(ao, .inl (g.2.2.2.1, 1, .inr (.inl (zLo o (.inl v)))))]]) 13 rfl 0 rfl zin0 rfl dL_turn_8 ?_
    refine z_goto (tgt := 18) rfl dL_turn_9 ?_
    refine z_iconst (v := 0) (by decide) dL_turn_18 ?_
    exact z_iret dL_turn_19 hQ
  · have hx := ex_X7_turn u p0 r h x e
    dsimp only at hx
    rw [e] at hQ
    obtain ⟨_, _, _, _, hN, _⟩ := hE
    rcases x with _ | x
    · refine ⟨12, ⟨[], ⟨0, 9, 12, 13⟩, [⟨0, 9, 15, 17⟩], htab, fun z hz => ?_, rfl, (by decide), zlcL_13, zcastzIOB, rfl⟩, fun q => ?_⟩
      · cases hz
      · refine z_astore_n [(3, .ref q), (0, .ref (a 0)), (1, .int p0), (2, .ref ao)] rfl (Nat.le_of_ble_eq_true rfl) rfl dL_turn_12 ?_
        refine z_iconst (v := 1) (by decide) dL_turn_13 ?_
        rw [zLo_r, zLc_0] at hQ
        exact z_iret dL_turn_14 hQ
    rcases x with _ | x
    · omega
    · refine ⟨15, ⟨[⟨0, 9, 12, 13⟩], ⟨0, 9, 15, 17⟩, [], htab, fun z hz => ?_, rfl, (by decide), zlcL_17, zcastzISE, rfl⟩, fun q => ?_⟩
      · simp only [List.mem_cons, List.not_mem_nil, or_false] at hz
        rcases hz with rfl
        · exact Or.inr ⟨by decide, zIOB, zlcL_13, hN (zISE, zIOB) (List.mem_of_getElem? (i := 1) rfl)⟩
      · refine z_astore_n [(3, .ref q), (0, .ref (a 0)), (1, .int p0), (2, .ref ao)] rfl (Nat.le_of_ble_eq_true rfl) rfl dL_turn_15 ?_
        refine z_iconst (v := 2) (by decide) dL_turn_16 ?_
        rw [zLo_r, zLc_2] at hQ
        exact z_iret dL_turn_17 hQ
theorem ex_X7_jam (u : tX7) (p0 : Int32) (p1 : Bool) : zNo Prod.fst (fun e => e ≠ 1 ∧ e < 2) (f_X7_jam u p0 p1) := by
  unfold f_X7_jam
  exact (zNo_ite (zNo_bind fun _ => (zNo_ite (zNo_bind fun _ => zNo_lp) (zNo_bind fun _ => zNo_lp))) (zNo_rp (by decide)))
set_option maxHeartbeats 400000 in
theorem c_L_jam (l : Launch) (hls : l.stackTraces = false) (g : zG) (a : Nat → Nat) (u : tX7) (ao : Nat) (o : Nat → Int64) (p0 : Int32) (p1 : Bool) (r : (Int32 ⊕ Nat) × tX7) (h : f_X7_jam u p0 p1 = some r) : CtrH l g true zEx yL_jam cL_jam 5 (some .int) [(0, 10, 13, 13)] 7 148 1 6 [.ref (a 0), .int p0, .int (b2i p1), .ref ao] (kX7 g a u ++ [[(ao, .inl (g.2.2.2.1, 1, .inr (.inl o)))]]) (kX7 g a r.2 ++ [[(ao, .inl (g.2.2.2.1, 1, .inr (.inl (zLo o r.1))))]]) (some (.int (zLc 1 0 0 r.1))) := by
  refine ctrh_of (by decide) (Nat.le_of_ble_eq_true rfl) (fun X hl hmc hms htab hE hQ => ?_)
  refine z_lv (lv' := [(0, .ref (a 0)), (1, .int p0), (2, .int (b2i p1)), (3, .ref ao)]) [0, 1, 2, 3] rfl ?_
  refine z_aload_n 3 rfl rfl dL_jam_0 ?_
  refine z_iconst (v := 0) (by decide) dL_jam_1 ?_
  refine z_aload_n 0 rfl rfl dL_jam_2 ?_
  refine z_iload_n 1 rfl rfl dL_jam_3 ?_
  refine z_iload_n 2 rfl rfl dL_jam_4 ?_
  refine z_callVXW (rest := [.int 0, .ref ao]) zEx_st hE hl (c_X7_jam l hls g a u p0 p1 r h) zyX7_jam zvX7_jam rfl zlL_29 zcX7.1 ⟨_, _, rfl⟩ [(0, none), (1, none), (2, none), (3, none), (4, none), (5, none), (6, none), (7, none), (8, none), (9, none), (10, none), (11, none), (12, none)] rfl rfl rfl (w' := kX7 g a r.2 ++ [[(ao, .inl (g.2.2.2.1, 1, .inr (.inl o)))]]) rfl rfl rfl ⟨Nat.le_of_ble_eq_true rfl, Nat.le_of_ble_eq_true rfl⟩ (Nat.le_of_ble_eq_true rfl) ⟨by rw [hmc]; exact Nat.le_refl _, by rw [hms]; exact Nat.le_refl _⟩ dL_jam_5 (fun v e => ?_) (fun x e => ?_)
  · rw [e] at hQ
    refine z_i2l dL_jam_8 ?_
    refine z_lastI (kX7 g a r.2 ++ [[(ao, .inl (g.2.2.2.1, 1, .inr (.inl (zLo o (.inl v)))))]]) 13 rfl 0 rfl zin0 rfl dL_jam_9 ?_
    refine z_goto (tgt := 17) rfl dL_jam_10 ?_
    refine z_iconst (v := 0) (by decide) dL_jam_17 ?_
    exact z_iret dL_jam_18 hQ
  · have hx := ex_X7_jam u p0 p1 r h x e
    dsimp only at hx
    rw [e] at hQ
    obtain ⟨_, _, _, _, hN, _⟩ := hE
    rcases x with _ | x
    · refine ⟨13, ⟨[], ⟨0, 10, 13, 13⟩, [], htab, fun z hz => ?_, rfl, (by decide), zlcL_13, zcastzIOB, rfl⟩, fun q => ?_⟩
      · cases hz
      · refine z_astore [(4, .ref q), (0, .ref (a 0)), (1, .int p0), (2, .int (b2i p1)), (3, .ref ao)] (Nat.le_of_ble_eq_true rfl) rfl dL_jam_13 ?_
        refine z_iconst (v := 1) (by decide) dL_jam_15 ?_
        rw [zLo_r, zLc_0] at hQ
        exact z_iret dL_jam_16 hQ
    rcases x with _ | x
    · omega
    · omega
set_option maxHeartbeats 400000 in
theorem c_L_set (l : Launch) (hls : l.stackTraces = false) (g : zG) (a : Nat → Nat) (u : tX7) (ao : Nat) (o : Nat → Int64) (p0 : Int32) (p1 : Int32) (r : (Int32 ⊕ Nat) × tX7) (h : f_X7_set u p0 p1 = some r) : CtrH l g true zEx yL_set cL_set 5 (some .int) [(0, 10, 13, 13), (0, 10, 17, 15), (0, 10, 21, 17)] 7 148 1 6 [.ref (a 0), .int p0, .int p1, .ref ao] (kX7 g a u ++ [[(ao, .inl (g.2.2.2.1, 1, .inr (.inl o)))]]) (kX7 g a r.2 ++ [[(ao, .inl (g.2.2.2.1, 1, .inr (.inl (zLo o r.1))))]]) (some (.int (zLc 1 2 3 r.1))) := by
  refine ctrh_of (by decide) (Nat.le_of_ble_eq_true rfl) (fun X hl hmc hms htab hE hQ => ?_)
  refine z_lv (lv' := [(0, .ref (a 0)), (1, .int p0), (2, .int p1), (3, .ref ao)]) [0, 1, 2, 3] rfl ?_
  refine z_aload_n 3 rfl rfl dL_set_0 ?_
  refine z_iconst (v := 0) (by decide) dL_set_1 ?_
  refine z_aload_n 0 rfl rfl dL_set_2 ?_
  refine z_iload_n 1 rfl rfl dL_set_3 ?_
  refine z_iload_n 2 rfl rfl dL_set_4 ?_
  refine z_callVXW (rest := [.int 0, .ref ao]) zEx_st hE hl (c_X7_set l hls g a u p0 p1 r h) zyX7_set zvX7_set rfl zlL_33 zcX7.1 ⟨_, _, rfl⟩ [(0, none), (1, none), (2, none), (3, none), (4, none), (5, none), (6, none), (7, none), (8, none), (9, none), (10, none), (11, none), (12, none)] rfl rfl rfl (w' := kX7 g a r.2 ++ [[(ao, .inl (g.2.2.2.1, 1, .inr (.inl o)))]]) rfl rfl rfl ⟨Nat.le_of_ble_eq_true rfl, Nat.le_of_ble_eq_true rfl⟩ (Nat.le_of_ble_eq_true rfl) ⟨by rw [hmc]; exact Nat.le_refl _, by rw [hms]; exact Nat.le_refl _⟩ dL_set_5 (fun v e => ?_) (fun x e => ?_)
  · rw [e] at hQ
    refine z_i2l dL_set_8 ?_
    refine z_lastI (kX7 g a r.2 ++ [[(ao, .inl (g.2.2.2.1, 1, .inr (.inl (zLo o (.inl v)))))]]) 13 rfl 0 rfl zin0 rfl dL_set_9 ?_
    refine z_goto (tgt := 25) rfl dL_set_10 ?_
    refine z_iconst (v := 0) (by decide) dL_set_25 ?_
    exact z_iret dL_set_26 hQ
  · skip
    rw [e] at hQ
    obtain ⟨_, _, _, _, hN, _⟩ := hE
    rcases x with _ | x
    · refine ⟨13, ⟨[], ⟨0, 10, 13, 13⟩, [⟨0, 10, 17, 15⟩, ⟨0, 10, 21, 17⟩], htab, fun z hz => ?_, rfl, (by decide), zlcL_13, zcastzIOB, rfl⟩, fun q => ?_⟩
      · cases hz
      · refine z_astore [(4, .ref q), (0, .ref (a 0)), (1, .int p0), (2, .int p1), (3, .ref ao)] (Nat.le_of_ble_eq_true rfl) rfl dL_set_13 ?_
        refine z_iconst (v := 1) (by decide) dL_set_15 ?_
        rw [zLo_r, zLc_0] at hQ
        exact z_iret dL_set_16 hQ
    rcases x with _ | x
    · refine ⟨17, ⟨[⟨0, 10, 13, 13⟩], ⟨0, 10, 17, 15⟩, [⟨0, 10, 21, 17⟩], htab, fun z hz => ?_, rfl, (by decide), zlcL_15, zcastzIAE, rfl⟩, fun q => ?_⟩
      · simp only [List.mem_cons, List.not_mem_nil, or_false] at hz
        rcases hz with rfl
        · exact Or.inr ⟨by decide, zIOB, zlcL_13, hN (zIAE, zIOB) (List.mem_of_getElem? (i := 0) rfl)⟩
      · refine z_astore [(4, .ref q), (0, .ref (a 0)), (1, .int p0), (2, .int p1), (3, .ref ao)] (Nat.le_of_ble_eq_true rfl) rfl dL_set_17 ?_
        refine z_iconst (v := 2) (by decide) dL_set_19 ?_
        rw [zLo_r, zLc_1] at hQ
        exact z_iret dL_set_20 hQ
    · refine ⟨21, ⟨[⟨0, 10, 13, 13⟩, ⟨0, 10, 17, 15⟩], ⟨0, 10, 21, 17⟩, [], htab, fun z hz => ?_, rfl, (by decide), zlcL_17, zcastzISE, rfl⟩, fun q => ?_⟩
      · simp only [List.mem_cons, List.not_mem_nil, or_false] at hz
        rcases hz with rfl | rfl
        · exact Or.inr ⟨by decide, zIOB, zlcL_13, hN (zISE, zIOB) (List.mem_of_getElem? (i := 1) rfl)⟩
        · exact Or.inr ⟨by decide, zIAE, zlcL_15, hN (zISE, zIAE) (List.mem_of_getElem? (i := 3) rfl)⟩
      · refine z_astore [(4, .ref q), (0, .ref (a 0)), (1, .int p0), (2, .int p1), (3, .ref ao)] (Nat.le_of_ble_eq_true rfl) rfl dL_set_21 ?_
        refine z_iconst (v := 3) (by decide) dL_set_23 ?_
        rw [zLo_r, zLc_2] at hQ
        exact z_iret dL_set_24 hQ
theorem ex_X7_append (u : tX7) (p0 : Int32) : zNo Prod.fst (fun e => e ≠ 0) (f_X7_append u p0) := by
  unfold f_X7_append
  exact (zNo_ite (zNo_rp (by decide)) (zNo_ite (zNo_ite (zNo_bind fun _ => zNo_lp) (zNo_rp (by decide))) (zNo_rp (by decide))))
set_option maxHeartbeats 400000 in
theorem c_L_append (l : Launch) (hls : l.stackTraces = false) (g : zG) (a : Nat → Nat) (u : tX7) (ao : Nat) (o : Nat → Int64) (p0 : Int32) (r : (Int32 ⊕ Nat) × tX7) (h : f_X7_append u p0 = some r) : CtrH l g true zEx yL_append cL_append 4 (some .int) [(0, 9, 12, 15), (0, 9, 15, 17)] 7 103 1 6 [.ref (a 0), .int p0, .ref ao] (kX7 g a u ++ [[(ao, .inl (g.2.2.2.1, 1, .inr (.inl o)))]]) (kX7 g a r.2 ++ [[(ao, .inl (g.2.2.2.1, 1, .inr (.inl (zLo o r.1))))]]) (some (.int (zLc 0 1 2 r.1))) := by
  refine ctrh_of (by decide) (Nat.le_of_ble_eq_true rfl) (fun X hl hmc hms htab hE hQ => ?_)
  refine z_lv (lv' := [(0, .ref (a 0)), (1, .int p0), (2, .ref ao)]) [0, 1, 2] rfl ?_
  refine z_aload_n 2 rfl rfl dL_append_0 ?_
  refine z_iconst (v := 0) (by decide) dL_append_1 ?_
  refine z_aload_n 0 rfl rfl dL_append_2 ?_
  refine z_iload_n 1 rfl rfl dL_append_3 ?_
  refine z_callVXW (rest := [.int 0, .ref ao]) zEx_st hE hl (c_X7_append l hls g a u p0 r h) zyX7_append zvX7_append rfl zlL_36 zcX7.1 ⟨_, _, rfl⟩ [(0, none), (1, none), (2, none), (3, none), (4, none), (5, none), (6, none), (7, none), (8, none), (9, none), (10, none), (11, none), (12, none)] rfl rfl rfl (w' := kX7 g a r.2 ++ [[(ao, .inl (g.2.2.2.1, 1, .inr (.inl o)))]]) rfl rfl rfl ⟨Nat.le_of_ble_eq_true rfl, Nat.le_of_ble_eq_true rfl⟩ (Nat.le_of_ble_eq_true rfl) ⟨by rw [hmc]; exact Nat.le_refl _, by rw [hms]; exact Nat.le_refl _⟩ dL_append_4 (fun v e => ?_) (fun x e => ?_)
  · rw [e] at hQ
    refine z_i2l dL_append_7 ?_
    refine z_lastI (kX7 g a r.2 ++ [[(ao, .inl (g.2.2.2.1, 1, .inr (.inl (zLo o (.inl v)))))]]) 13 rfl 0 rfl zin0 rfl dL_append_8 ?_
    refine z_goto (tgt := 18) rfl dL_append_9 ?_
    refine z_iconst (v := 0) (by decide) dL_append_18 ?_
    exact z_iret dL_append_19 hQ
  · have hx := ex_X7_append u p0 r h x e
    dsimp only at hx
    rw [e] at hQ
    obtain ⟨_, _, _, _, hN, _⟩ := hE
    rcases x with _ | x
    · omega
    rcases x with _ | x
    · refine ⟨12, ⟨[], ⟨0, 9, 12, 15⟩, [⟨0, 9, 15, 17⟩], htab, fun z hz => ?_, rfl, (by decide), zlcL_15, zcastzIAE, rfl⟩, fun q => ?_⟩
      · cases hz
      · refine z_astore_n [(3, .ref q), (0, .ref (a 0)), (1, .int p0), (2, .ref ao)] rfl (Nat.le_of_ble_eq_true rfl) rfl dL_append_12 ?_
        refine z_iconst (v := 1) (by decide) dL_append_13 ?_
        rw [zLo_r, zLc_1] at hQ
        exact z_iret dL_append_14 hQ
    · refine ⟨15, ⟨[⟨0, 9, 12, 15⟩], ⟨0, 9, 15, 17⟩, [], htab, fun z hz => ?_, rfl, (by decide), zlcL_17, zcastzISE, rfl⟩, fun q => ?_⟩
      · simp only [List.mem_cons, List.not_mem_nil, or_false] at hz
        rcases hz with rfl
        · exact Or.inr ⟨by decide, zIAE, zlcL_15, hN (zISE, zIAE) (List.mem_of_getElem? (i := 3) rfl)⟩
      · refine z_astore_n [(3, .ref q), (0, .ref (a 0)), (1, .int p0), (2, .ref ao)] rfl (Nat.le_of_ble_eq_true rfl) rfl dL_append_15 ?_
        refine z_iconst (v := 2) (by decide) dL_append_16 ?_
        rw [zLo_r, zLc_2] at hQ
        exact z_iret dL_append_17 hQ
theorem ex_X7_pickAll (u : tX7)  : zNo Prod.fst (fun e => e ≠ 0 ∧ e < 2) (f_X7_pickAll u) := by
  unfold f_X7_pickAll
  exact (zNo_bind fun _ => (zNo_ite (zNo_bind fun _ => (zNo_bind fun _ => zNo_lp)) (zNo_rp (by decide))))
set_option maxHeartbeats 400000 in
theorem c_L_pickAll (l : Launch) (hls : l.stackTraces = false) (g : zG) (a : Nat → Nat) (u : tX7) (ao : Nat) (o : Nat → Int64)  (r : (Int32 ⊕ Nat) × tX7) (h : f_X7_pickAll u = some r) : CtrH l g true zEx yL_pickAll cL_pickAll 3 (some .int) [(0, 8, 11, 15)] 7 175 1 6 [.ref (a 0), .ref ao] (kX7 g a u ++ [[(ao, .inl (g.2.2.2.1, 1, .inr (.inl o)))]]) (kX7 g a r.2 ++ [[(ao, .inl (g.2.2.2.1, 1, .inr (.inl (zLo o r.1))))]]) (some (.int (zLc 0 1 0 r.1))) := by
  refine ctrh_of (by decide) (Nat.le_of_ble_eq_true rfl) (fun X hl hmc hms htab hE hQ => ?_)
  refine z_lv (lv' := [(0, .ref (a 0)), (1, .ref ao)]) [0, 1] rfl ?_
  refine z_aload_n 1 rfl rfl dL_pickAll_0 ?_
  refine z_iconst (v := 0) (by decide) dL_pickAll_1 ?_
  refine z_aload_n 0 rfl rfl dL_pickAll_2 ?_
  refine z_callVXW (rest := [.int 0, .ref ao]) zEx_st hE hl (c_X7_pickAll l hls g a u r h) zyX7_pickAll zvX7_pickAll rfl zlL_39 zcX7.1 ⟨_, _, rfl⟩ [(0, none), (1, none), (2, none), (3, none), (4, none), (5, none), (6, none), (7, none), (8, none), (9, none), (10, none), (11, none), (12, none)] rfl rfl rfl (w' := kX7 g a r.2 ++ [[(ao, .inl (g.2.2.2.1, 1, .inr (.inl o)))]]) rfl rfl rfl ⟨Nat.le_of_ble_eq_true rfl, Nat.le_of_ble_eq_true rfl⟩ (Nat.le_of_ble_eq_true rfl) ⟨by rw [hmc]; exact Nat.le_refl _, by rw [hms]; exact Nat.le_refl _⟩ dL_pickAll_3 (fun v e => ?_) (fun x e => ?_)
  · rw [e] at hQ
    refine z_i2l dL_pickAll_6 ?_
    refine z_lastI (kX7 g a r.2 ++ [[(ao, .inl (g.2.2.2.1, 1, .inr (.inl (zLo o (.inl v)))))]]) 13 rfl 0 rfl zin0 rfl dL_pickAll_7 ?_
    refine z_goto (tgt := 14) rfl dL_pickAll_8 ?_
    refine z_iconst (v := 0) (by decide) dL_pickAll_14 ?_
    exact z_iret dL_pickAll_15 hQ
  · have hx := ex_X7_pickAll u r h x e
    dsimp only at hx
    rw [e] at hQ
    obtain ⟨_, _, _, _, hN, _⟩ := hE
    rcases x with _ | x
    · omega
    rcases x with _ | x
    · refine ⟨11, ⟨[], ⟨0, 8, 11, 15⟩, [], htab, fun z hz => ?_, rfl, (by decide), zlcL_15, zcastzIAE, rfl⟩, fun q => ?_⟩
      · cases hz
      · refine z_astore_n [(2, .ref q), (0, .ref (a 0)), (1, .ref ao)] rfl (Nat.le_of_ble_eq_true rfl) rfl dL_pickAll_11 ?_
        refine z_iconst (v := 1) (by decide) dL_pickAll_12 ?_
        rw [zLo_r, zLc_1] at hQ
        exact z_iret dL_pickAll_13 hQ
    · omega
theorem ex_X7_undo (u : tX7)  : zNo Prod.fst (fun e => e ≠ 0 ∧ e ≠ 1) (f_X7_undo u) := by
  unfold f_X7_undo
  exact (zNo_ite (zNo_rp (by decide)) (zNo_bind fun _ => zNo_lp))
set_option maxHeartbeats 400000 in
theorem c_L_undo (l : Launch) (hls : l.stackTraces = false) (g : zG) (a : Nat → Nat) (u : tX7) (ao : Nat) (o : Nat → Int64)  (r : (Int32 ⊕ Nat) × tX7) (h : f_X7_undo u = some r) : CtrH l g true zEx yL_undo cL_undo 3 (some .int) [(0, 8, 11, 17)] 7 145 1 6 [.ref (a 0), .ref ao] (kX7 g a u ++ [[(ao, .inl (g.2.2.2.1, 1, .inr (.inl o)))]]) (kX7 g a r.2 ++ [[(ao, .inl (g.2.2.2.1, 1, .inr (.inl (zLo o r.1))))]]) (some (.int (zLc 0 0 1 r.1))) := by
  refine ctrh_of (by decide) (Nat.le_of_ble_eq_true rfl) (fun X hl hmc hms htab hE hQ => ?_)
  refine z_lv (lv' := [(0, .ref (a 0)), (1, .ref ao)]) [0, 1] rfl ?_
  refine z_aload_n 1 rfl rfl dL_undo_0 ?_
  refine z_iconst (v := 0) (by decide) dL_undo_1 ?_
  refine z_aload_n 0 rfl rfl dL_undo_2 ?_
  refine z_callVXW (rest := [.int 0, .ref ao]) zEx_st hE hl (c_X7_undo l hls g a u r h) zyX7_undo zvX7_undo rfl zlL_43 zcX7.1 ⟨_, _, rfl⟩ [(0, none), (1, none), (2, none), (3, none), (4, none), (5, none), (6, none), (7, none), (8, none), (9, none), (10, none), (11, none), (12, none)] rfl rfl rfl (w' := kX7 g a r.2 ++ [[(ao, .inl (g.2.2.2.1, 1, .inr (.inl o)))]]) rfl rfl rfl ⟨Nat.le_of_ble_eq_true rfl, Nat.le_of_ble_eq_true rfl⟩ (Nat.le_of_ble_eq_true rfl) ⟨by rw [hmc]; exact Nat.le_refl _, by rw [hms]; exact Nat.le_refl _⟩ dL_undo_3 (fun v e => ?_) (fun x e => ?_)
  · rw [e] at hQ
    refine z_i2l dL_undo_6 ?_
    refine z_lastI (kX7 g a r.2 ++ [[(ao, .inl (g.2.2.2.1, 1, .inr (.inl (zLo o (.inl v)))))]]) 13 rfl 0 rfl zin0 rfl dL_undo_7 ?_
    refine z_goto (tgt := 14) rfl dL_undo_8 ?_
    refine z_iconst (v := 0) (by decide) dL_undo_14 ?_
    exact z_iret dL_undo_15 hQ
  · have hx := ex_X7_undo u r h x e
    dsimp only at hx
    rw [e] at hQ
    obtain ⟨_, _, _, _, hN, _⟩ := hE
    rcases x with _ | x
    · omega
    rcases x with _ | x
    · omega
    · refine ⟨11, ⟨[], ⟨0, 8, 11, 17⟩, [], htab, fun z hz => ?_, rfl, (by decide), zlcL_17, zcastzISE, rfl⟩, fun q => ?_⟩
      · cases hz
      · refine z_astore_n [(2, .ref q), (0, .ref (a 0)), (1, .ref ao)] rfl (Nat.le_of_ble_eq_true rfl) rfl dL_undo_11 ?_
        refine z_iconst (v := 1) (by decide) dL_undo_12 ?_
        rw [zLo_r, zLc_2] at hQ
        exact z_iret dL_undo_13 hQ
theorem ex_X7_drawer (u : tX7) (p0 : Int32) (p1 : Int32) : zNo id (fun e => e < 2) (f_X7_drawer u p0 p1) := by
  unfold f_X7_drawer
  exact (zNo_ite (zNo_ite (zNo_r (by decide)) (zNo_ite (zNo_bind fun _ => zNo_l) (zNo_r (by decide)))) (zNo_r (by decide)))
set_option maxHeartbeats 400000 in
theorem c_L_drawer (l : Launch) (hls : l.stackTraces = false) (g : zG) (a : Nat → Nat) (u : tX7) (ao : Nat) (o : Nat → Int64) (p0 : Int32) (p1 : Int32) (r : (Int32 ⊕ Nat)) (h : f_X7_drawer u p0 p1 = some r) : CtrH l g true zEx yL_drawer cL_drawer 5 (some .int) [(0, 10, 13, 13), (0, 10, 17, 15)] 7 104 1 6 [.ref (a 0), .int p0, .int p1, .ref ao] (kX7 g a u ++ [[(ao, .inl (g.2.2.2.1, 1, .inr (.inl o)))]]) (kX7 g a u ++ [[(ao, .inl (g.2.2.2.1, 1, .inr (.inl (zLo o r))))]]) (some (.int (zLc 1 2 0 r))) := by
  refine ctrh_of (by decide) (Nat.le_of_ble_eq_true rfl) (fun X hl hmc hms htab hE hQ => ?_)
  refine z_lv (lv' := [(0, .ref (a 0)), (1, .int p0), (2, .int p1), (3, .ref ao)]) [0, 1, 2, 3] rfl ?_
  refine z_aload_n 3 rfl rfl dL_drawer_0 ?_
  refine z_iconst (v := 0) (by decide) dL_drawer_1 ?_
  refine z_aload_n 0 rfl rfl dL_drawer_2 ?_
  refine z_iload_n 1 rfl rfl dL_drawer_3 ?_
  refine z_iload_n 2 rfl rfl dL_drawer_4 ?_
  refine z_callVXR (rest := [.int 0, .ref ao]) zEx_st hE hl (c_X7_drawer l hls g a u p0 p1 r h) zyX7_drawer zvX7_drawer rfl zlL_46 zcX7.1 ⟨_, _, rfl⟩ [(0, none), (1, none), (2, none), (3, none), (4, none), (5, none), (6, none), (7, none), (8, none), (9, none), (10, none), (11, none), (12, none)] rfl rfl rfl ⟨Nat.le_of_ble_eq_true rfl, Nat.le_of_ble_eq_true rfl⟩ (Nat.le_of_ble_eq_true rfl) ⟨by rw [hmc]; exact Nat.le_refl _, by rw [hms]; exact Nat.le_refl _⟩ dL_drawer_5 (fun v e => ?_) (fun x e => ?_)
  · rw [e] at hQ
    refine z_i2l dL_drawer_8 ?_
    refine z_lastI (kX7 g a u ++ [[(ao, .inl (g.2.2.2.1, 1, .inr (.inl (zLo o (.inl v)))))]]) 13 rfl 0 rfl zin0 rfl dL_drawer_9 ?_
    refine z_goto (tgt := 21) rfl dL_drawer_10 ?_
    refine z_iconst (v := 0) (by decide) dL_drawer_21 ?_
    exact z_iret dL_drawer_22 hQ
  · have hx := ex_X7_drawer u p0 p1 r h x e
    dsimp only at hx
    rw [e] at hQ
    obtain ⟨_, _, _, _, hN, _⟩ := hE
    rcases x with _ | x
    · refine ⟨13, ⟨[], ⟨0, 10, 13, 13⟩, [⟨0, 10, 17, 15⟩], htab, fun z hz => ?_, rfl, (by decide), zlcL_13, zcastzIOB, rfl⟩, fun q => ?_⟩
      · cases hz
      · refine z_astore [(4, .ref q), (0, .ref (a 0)), (1, .int p0), (2, .int p1), (3, .ref ao)] (Nat.le_of_ble_eq_true rfl) rfl dL_drawer_13 ?_
        refine z_iconst (v := 1) (by decide) dL_drawer_15 ?_
        rw [zLo_r, zLc_0] at hQ
        exact z_iret dL_drawer_16 hQ
    rcases x with _ | x
    · refine ⟨17, ⟨[⟨0, 10, 13, 13⟩], ⟨0, 10, 17, 15⟩, [], htab, fun z hz => ?_, rfl, (by decide), zlcL_15, zcastzIAE, rfl⟩, fun q => ?_⟩
      · simp only [List.mem_cons, List.not_mem_nil, or_false] at hz
        rcases hz with rfl
        · exact Or.inr ⟨by decide, zIOB, zlcL_13, hN (zIAE, zIOB) (List.mem_of_getElem? (i := 0) rfl)⟩
      · refine z_astore [(4, .ref q), (0, .ref (a 0)), (1, .int p0), (2, .int p1), (3, .ref ao)] (Nat.le_of_ble_eq_true rfl) rfl dL_drawer_17 ?_
        refine z_iconst (v := 2) (by decide) dL_drawer_19 ?_
        rw [zLo_r, zLc_1] at hQ
        exact z_iret dL_drawer_20 hQ
    · omega
theorem ex_X7_item (u : tX7) (p0 : Int32) (p1 : Int32) : zNo id (fun e => e < 2) (f_X7_item u p0 p1) := by
  unfold f_X7_item
  exact (zNo_ite (zNo_r (by decide)) (zNo_ite (zNo_ite (zNo_r (by decide)) (zNo_ite (zNo_bind fun _ => zNo_l) (zNo_r (by decide)))) (zNo_r (by decide))))
set_option maxHeartbeats 400000 in
theorem c_L_item (l : Launch) (hls : l.stackTraces = false) (g : zG) (a : Nat → Nat) (u : tX7) (ao : Nat) (o : Nat → Int64) (p0 : Int32) (p1 : Int32) (r : (Int32 ⊕ Nat)) (h : f_X7_item u p0 p1 = some r) : CtrH l g true zEx yL_item cL_item 5 (some .int) [(0, 10, 13, 13), (0, 10, 17, 15)] 7 104 1 6 [.ref (a 0), .int p0, .int p1, .ref ao] (kX7 g a u ++ [[(ao, .inl (g.2.2.2.1, 1, .inr (.inl o)))]]) (kX7 g a u ++ [[(ao, .inl (g.2.2.2.1, 1, .inr (.inl (zLo o r))))]]) (some (.int (zLc 1 2 0 r))) := by
  refine ctrh_of (by decide) (Nat.le_of_ble_eq_true rfl) (fun X hl hmc hms htab hE hQ => ?_)
  refine z_lv (lv' := [(0, .ref (a 0)), (1, .int p0), (2, .int p1), (3, .ref ao)]) [0, 1, 2, 3] rfl ?_
  refine z_aload_n 3 rfl rfl dL_item_0 ?_
  refine z_iconst (v := 0) (by decide) dL_item_1 ?_
  refine z_aload_n 0 rfl rfl dL_item_2 ?_
  refine z_iload_n 1 rfl rfl dL_item_3 ?_
  refine z_iload_n 2 rfl rfl dL_item_4 ?_
  refine z_callVXR (rest := [.int 0, .ref ao]) zEx_st hE hl (c_X7_item l hls g a u p0 p1 r h) zyX7_item zvX7_item rfl zlL_49 zcX7.1 ⟨_, _, rfl⟩ [(0, none), (1, none), (2, none), (3, none), (4, none), (5, none), (6, none), (7, none), (8, none), (9, none), (10, none), (11, none), (12, none)] rfl rfl rfl ⟨Nat.le_of_ble_eq_true rfl, Nat.le_of_ble_eq_true rfl⟩ (Nat.le_of_ble_eq_true rfl) ⟨by rw [hmc]; exact Nat.le_refl _, by rw [hms]; exact Nat.le_refl _⟩ dL_item_5 (fun v e => ?_) (fun x e => ?_)
  · rw [e] at hQ
    refine z_i2l dL_item_8 ?_
    refine z_lastI (kX7 g a u ++ [[(ao, .inl (g.2.2.2.1, 1, .inr (.inl (zLo o (.inl v)))))]]) 13 rfl 0 rfl zin0 rfl dL_item_9 ?_
    refine z_goto (tgt := 21) rfl dL_item_10 ?_
    refine z_iconst (v := 0) (by decide) dL_item_21 ?_
    exact z_iret dL_item_22 hQ
  · have hx := ex_X7_item u p0 p1 r h x e
    dsimp only at hx
    rw [e] at hQ
    obtain ⟨_, _, _, _, hN, _⟩ := hE
    rcases x with _ | x
    · refine ⟨13, ⟨[], ⟨0, 10, 13, 13⟩, [⟨0, 10, 17, 15⟩], htab, fun z hz => ?_, rfl, (by decide), zlcL_13, zcastzIOB, rfl⟩, fun q => ?_⟩
      · cases hz
      · refine z_astore [(4, .ref q), (0, .ref (a 0)), (1, .int p0), (2, .int p1), (3, .ref ao)] (Nat.le_of_ble_eq_true rfl) rfl dL_item_13 ?_
        refine z_iconst (v := 1) (by decide) dL_item_15 ?_
        rw [zLo_r, zLc_0] at hQ
        exact z_iret dL_item_16 hQ
    rcases x with _ | x
    · refine ⟨17, ⟨[⟨0, 10, 13, 13⟩], ⟨0, 10, 17, 15⟩, [], htab, fun z hz => ?_, rfl, (by decide), zlcL_15, zcastzIAE, rfl⟩, fun q => ?_⟩
      · simp only [List.mem_cons, List.not_mem_nil, or_false] at hz
        rcases hz with rfl
        · exact Or.inr ⟨by decide, zIOB, zlcL_13, hN (zIAE, zIOB) (List.mem_of_getElem? (i := 0) rfl)⟩
      · refine z_astore [(4, .ref q), (0, .ref (a 0)), (1, .int p0), (2, .int p1), (3, .ref ao)] (Nat.le_of_ble_eq_true rfl) rfl dL_item_17 ?_
        refine z_iconst (v := 2) (by decide) dL_item_19 ?_
        rw [zLo_r, zLc_1] at hQ
        exact z_iret dL_item_20 hQ
    · omega
theorem ex_X7_count (u : tX7) (p0 : Int32) : zNo id (fun e => e ≠ 0 ∧ e < 2) (f_X7_count u p0) := by
  unfold f_X7_count
  exact (zNo_ite (zNo_r (by decide)) (zNo_ite (zNo_bind fun _ => zNo_l) (zNo_r (by decide))))
set_option maxHeartbeats 400000 in
theorem c_L_count (l : Launch) (hls : l.stackTraces = false) (g : zG) (a : Nat → Nat) (u : tX7) (ao : Nat) (o : Nat → Int64) (p0 : Int32) (r : (Int32 ⊕ Nat)) (h : f_X7_count u p0 = some r) : CtrH l g true zEx yL_count cL_count 4 (some .int) [(0, 9, 12, 15)] 7 132 1 6 [.ref (a 0), .int p0, .ref ao] (kX7 g a u ++ [[(ao, .inl (g.2.2.2.1, 1, .inr (.inl o)))]]) (kX7 g a u ++ [[(ao, .inl (g.2.2.2.1, 1, .inr (.inl (zLo o r))))]]) (some (.int (zLc 0 1 0 r))) := by
  refine ctrh_of (by decide) (Nat.le_of_ble_eq_true rfl) (fun X hl hmc hms htab hE hQ => ?_)
  refine z_lv (lv' := [(0, .ref (a 0)), (1, .int p0), (2, .ref ao)]) [0, 1, 2] rfl ?_
  refine z_aload_n 2 rfl rfl dL_count_0 ?_
  refine z_iconst (v := 0) (by decide) dL_count_1 ?_
  refine z_aload_n 0 rfl rfl dL_count_2 ?_
  refine z_iload_n 1 rfl rfl dL_count_3 ?_
  refine z_callVXR (rest := [.int 0, .ref ao]) zEx_st hE hl (c_X7_count l hls g a u p0 r h) zyX7_count zvX7_count rfl zlL_52 zcX7.1 ⟨_, _, rfl⟩ [(0, none), (1, none), (2, none), (3, none), (4, none), (5, none), (6, none), (7, none), (8, none), (9, none), (10, none), (11, none), (12, none)] rfl rfl rfl ⟨Nat.le_of_ble_eq_true rfl, Nat.le_of_ble_eq_true rfl⟩ (Nat.le_of_ble_eq_true rfl) ⟨by rw [hmc]; exact Nat.le_refl _, by rw [hms]; exact Nat.le_refl _⟩ dL_count_4 (fun v e => ?_) (fun x e => ?_)
  · rw [e] at hQ
    refine z_i2l dL_count_7 ?_
    refine z_lastI (kX7 g a u ++ [[(ao, .inl (g.2.2.2.1, 1, .inr (.inl (zLo o (.inl v)))))]]) 13 rfl 0 rfl zin0 rfl dL_count_8 ?_
    refine z_goto (tgt := 15) rfl dL_count_9 ?_
    refine z_iconst (v := 0) (by decide) dL_count_15 ?_
    exact z_iret dL_count_16 hQ
  · have hx := ex_X7_count u p0 r h x e
    dsimp only at hx
    rw [e] at hQ
    obtain ⟨_, _, _, _, hN, _⟩ := hE
    rcases x with _ | x
    · omega
    rcases x with _ | x
    · refine ⟨12, ⟨[], ⟨0, 9, 12, 15⟩, [], htab, fun z hz => ?_, rfl, (by decide), zlcL_15, zcastzIAE, rfl⟩, fun q => ?_⟩
      · cases hz
      · refine z_astore_n [(3, .ref q), (0, .ref (a 0)), (1, .int p0), (2, .ref ao)] rfl (Nat.le_of_ble_eq_true rfl) rfl dL_count_12 ?_
        refine z_iconst (v := 1) (by decide) dL_count_13 ?_
        rw [zLo_r, zLc_1] at hQ
        exact z_iret dL_count_14 hQ
    · omega
theorem ex_X7_setting (u : tX7) (p0 : Int32) : zNe id (fun e => e ≠ 1 ∧ e < 2) (f_X7_setting u p0) := by
  unfold f_X7_setting
  exact (zNe_ite zNe_l (zNe_r (by decide)))
set_option maxHeartbeats 400000 in
theorem c_L_setting (l : Launch) (hls : l.stackTraces = false) (g : zG) (a : Nat → Nat) (u : tX7) (ao : Nat) (o : Nat → Int64) (p0 : Int32) (r : (Int32 ⊕ Nat)) (h : f_X7_setting u p0 = r) : CtrH l g true zEx yL_setting cL_setting 4 (some .int) [(0, 9, 12, 13)] 7 103 1 6 [.ref (a 0), .int p0, .ref ao] (kX7 g a u ++ [[(ao, .inl (g.2.2.2.1, 1, .inr (.inl o)))]]) (kX7 g a u ++ [[(ao, .inl (g.2.2.2.1, 1, .inr (.inl (zLo o r))))]]) (some (.int (zLc 1 0 0 r))) := by
  refine ctrh_of (by decide) (Nat.le_of_ble_eq_true rfl) (fun X hl hmc hms htab hE hQ => ?_)
  refine z_lv (lv' := [(0, .ref (a 0)), (1, .int p0), (2, .ref ao)]) [0, 1, 2] rfl ?_
  refine z_aload_n 2 rfl rfl dL_setting_0 ?_
  refine z_iconst (v := 0) (by decide) dL_setting_1 ?_
  refine z_aload_n 0 rfl rfl dL_setting_2 ?_
  refine z_iload_n 1 rfl rfl dL_setting_3 ?_
  refine z_callVXR (rest := [.int 0, .ref ao]) zEx_st hE hl (c_X7_setting l hls g a u p0 r h) zyX7_setting zvX7_setting rfl zlL_55 zcX7.1 ⟨_, _, rfl⟩ [(0, none), (1, none), (2, none), (3, none), (4, none), (5, none), (6, none), (7, none), (8, none), (9, none), (10, none), (11, none), (12, none)] rfl rfl rfl ⟨Nat.le_of_ble_eq_true rfl, Nat.le_of_ble_eq_true rfl⟩ (Nat.le_of_ble_eq_true rfl) ⟨by rw [hmc]; exact Nat.le_refl _, by rw [hms]; exact Nat.le_refl _⟩ dL_setting_4 (fun v e => ?_) (fun x e => ?_)
  · rw [e] at hQ
    refine z_i2l dL_setting_7 ?_
    refine z_lastI (kX7 g a u ++ [[(ao, .inl (g.2.2.2.1, 1, .inr (.inl (zLo o (.inl v)))))]]) 13 rfl 0 rfl zin0 rfl dL_setting_8 ?_
    refine z_goto (tgt := 15) rfl dL_setting_9 ?_
    refine z_iconst (v := 0) (by decide) dL_setting_15 ?_
    exact z_iret dL_setting_16 hQ
  · have hx := ex_X7_setting u p0 r h x e
    dsimp only at hx
    rw [e] at hQ
    obtain ⟨_, _, _, _, hN, _⟩ := hE
    rcases x with _ | x
    · refine ⟨12, ⟨[], ⟨0, 9, 12, 13⟩, [], htab, fun z hz => ?_, rfl, (by decide), zlcL_13, zcastzIOB, rfl⟩, fun q => ?_⟩
      · cases hz
      · refine z_astore_n [(3, .ref q), (0, .ref (a 0)), (1, .int p0), (2, .ref ao)] rfl (Nat.le_of_ble_eq_true rfl) rfl dL_setting_12 ?_
        refine z_iconst (v := 1) (by decide) dL_setting_13 ?_
        rw [zLo_r, zLc_0] at hQ
        exact z_iret dL_setting_14 hQ
    rcases x with _ | x
    · omega
    · omega
theorem ex_X7_way (u : tX7) (p0 : Int32) : zNo id (fun e => e ≠ 1 ∧ e < 2) (f_X7_way u p0) := by
  unfold f_X7_way
  exact (zNo_ite (zNo_bind fun _ => zNo_l) (zNo_r (by decide)))
set_option maxHeartbeats 400000 in
theorem c_L_way (l : Launch) (hls : l.stackTraces = false) (g : zG) (a : Nat → Nat) (u : tX7) (ao : Nat) (o : Nat → Int64) (p0 : Int32) (r : (Int32 ⊕ Nat)) (h : f_X7_way u p0 = some r) : CtrH l g true zEx yL_way cL_way 4 (some .int) [(0, 9, 12, 13)] 7 103 1 6 [.ref (a 0), .int p0, .ref ao] (kX7 g a u ++ [[(ao, .inl (g.2.2.2.1, 1, .inr (.inl o)))]]) (kX7 g a u ++ [[(ao, .inl (g.2.2.2.1, 1, .inr (.inl (zLo o r))))]]) (some (.int (zLc 1 0 0 r))) := by
  refine ctrh_of (by decide) (Nat.le_of_ble_eq_true rfl) (fun X hl hmc hms htab hE hQ => ?_)
  refine z_lv (lv' := [(0, .ref (a 0)), (1, .int p0), (2, .ref ao)]) [0, 1, 2] rfl ?_
  refine z_aload_n 2 rfl rfl dL_way_0 ?_
  refine z_iconst (v := 0) (by decide) dL_way_1 ?_
  refine z_aload_n 0 rfl rfl dL_way_2 ?_
  refine z_iload_n 1 rfl rfl dL_way_3 ?_
  refine z_callVXR (rest := [.int 0, .ref ao]) zEx_st hE hl (c_X7_way l hls g a u p0 r h) zyX7_way zvX7_way rfl zlL_58 zcX7.1 ⟨_, _, rfl⟩ [(0, none), (1, none), (2, none), (3, none), (4, none), (5, none), (6, none), (7, none), (8, none), (9, none), (10, none), (11, none), (12, none)] rfl rfl rfl ⟨Nat.le_of_ble_eq_true rfl, Nat.le_of_ble_eq_true rfl⟩ (Nat.le_of_ble_eq_true rfl) ⟨by rw [hmc]; exact Nat.le_refl _, by rw [hms]; exact Nat.le_refl _⟩ dL_way_4 (fun v e => ?_) (fun x e => ?_)
  · rw [e] at hQ
    refine z_i2l dL_way_7 ?_
    refine z_lastI (kX7 g a u ++ [[(ao, .inl (g.2.2.2.1, 1, .inr (.inl (zLo o (.inl v)))))]]) 13 rfl 0 rfl zin0 rfl dL_way_8 ?_
    refine z_goto (tgt := 15) rfl dL_way_9 ?_
    refine z_iconst (v := 0) (by decide) dL_way_15 ?_
    exact z_iret dL_way_16 hQ
  · have hx := ex_X7_way u p0 r h x e
    dsimp only at hx
    rw [e] at hQ
    obtain ⟨_, _, _, _, hN, _⟩ := hE
    rcases x with _ | x
    · refine ⟨12, ⟨[], ⟨0, 9, 12, 13⟩, [], htab, fun z hz => ?_, rfl, (by decide), zlcL_13, zcastzIOB, rfl⟩, fun q => ?_⟩
      · cases hz
      · refine z_astore_n [(3, .ref q), (0, .ref (a 0)), (1, .int p0), (2, .ref ao)] rfl (Nat.le_of_ble_eq_true rfl) rfl dL_way_12 ?_
        refine z_iconst (v := 1) (by decide) dL_way_13 ?_
        rw [zLo_r, zLc_0] at hQ
        exact z_iret dL_way_14 hQ
    rcases x with _ | x
    · omega
    · omega
theorem ex_X7_ifPut (u : tX7) (p0 : Int32) (p1 : Int32) : zNo id (fun e => e < 2) (f_X7_ifPut u p0 p1) := by
  unfold f_X7_ifPut
  exact (zNo_ite (zNo_ite (zNo_bind fun _ => zNo_l) (zNo_r (by decide))) (zNo_r (by decide)))
set_option maxHeartbeats 400000 in
theorem c_L_ifPut (l : Launch) (hls : l.stackTraces = false) (g : zG) (a : Nat → Nat) (u : tX7) (ao : Nat) (o : Nat → Int64) (p0 : Int32) (p1 : Int32) (r : (Int32 ⊕ Nat)) (h : f_X7_ifPut u p0 p1 = some r) : CtrH l g true zEx yL_ifPut cL_ifPut 5 (some .int) [(0, 10, 13, 13), (0, 10, 17, 15)] 7 112 1 6 [.ref (a 0), .int p0, .int p1, .ref ao] (kX7 g a u ++ [[(ao, .inl (g.2.2.2.1, 1, .inr (.inl o)))]]) (kX7 g a u ++ [[(ao, .inl (g.2.2.2.1, 1, .inr (.inl (zLo o r))))]]) (some (.int (zLc 1 2 0 r))) := by
  refine ctrh_of (by decide) (Nat.le_of_ble_eq_true rfl) (fun X hl hmc hms htab hE hQ => ?_)
  refine z_lv (lv' := [(0, .ref (a 0)), (1, .int p0), (2, .int p1), (3, .ref ao)]) [0, 1, 2, 3] rfl ?_
  refine z_aload_n 3 rfl rfl dL_ifPut_0 ?_
  refine z_iconst (v := 0) (by decide) dL_ifPut_1 ?_
  refine z_aload_n 0 rfl rfl dL_ifPut_2 ?_
  refine z_iload_n 1 rfl rfl dL_ifPut_3 ?_
  refine z_iload_n 2 rfl rfl dL_ifPut_4 ?_
  refine z_callVXR (rest := [.int 0, .ref ao]) zEx_st hE hl (c_X7_ifPut l hls g a u p0 p1 r h) zyX7_ifPut zvX7_ifPut rfl zlL_61 zcX7.1 ⟨_, _, rfl⟩ [(0, none), (1, none), (2, none), (3, none), (4, none), (5, none), (6, none), (7, none), (8, none), (9, none), (10, none), (11, none), (12, none)] rfl rfl rfl ⟨Nat.le_of_ble_eq_true rfl, Nat.le_of_ble_eq_true rfl⟩ (Nat.le_of_ble_eq_true rfl) ⟨by rw [hmc]; exact Nat.le_refl _, by rw [hms]; exact Nat.le_refl _⟩ dL_ifPut_5 (fun v e => ?_) (fun x e => ?_)
  · rw [e] at hQ
    refine z_i2l dL_ifPut_8 ?_
    refine z_lastI (kX7 g a u ++ [[(ao, .inl (g.2.2.2.1, 1, .inr (.inl (zLo o (.inl v)))))]]) 13 rfl 0 rfl zin0 rfl dL_ifPut_9 ?_
    refine z_goto (tgt := 21) rfl dL_ifPut_10 ?_
    refine z_iconst (v := 0) (by decide) dL_ifPut_21 ?_
    exact z_iret dL_ifPut_22 hQ
  · have hx := ex_X7_ifPut u p0 p1 r h x e
    dsimp only at hx
    rw [e] at hQ
    obtain ⟨_, _, _, _, hN, _⟩ := hE
    rcases x with _ | x
    · refine ⟨13, ⟨[], ⟨0, 10, 13, 13⟩, [⟨0, 10, 17, 15⟩], htab, fun z hz => ?_, rfl, (by decide), zlcL_13, zcastzIOB, rfl⟩, fun q => ?_⟩
      · cases hz
      · refine z_astore [(4, .ref q), (0, .ref (a 0)), (1, .int p0), (2, .int p1), (3, .ref ao)] (Nat.le_of_ble_eq_true rfl) rfl dL_ifPut_13 ?_
        refine z_iconst (v := 1) (by decide) dL_ifPut_15 ?_
        rw [zLo_r, zLc_0] at hQ
        exact z_iret dL_ifPut_16 hQ
    rcases x with _ | x
    · refine ⟨17, ⟨[⟨0, 10, 13, 13⟩], ⟨0, 10, 17, 15⟩, [], htab, fun z hz => ?_, rfl, (by decide), zlcL_15, zcastzIAE, rfl⟩, fun q => ?_⟩
      · simp only [List.mem_cons, List.not_mem_nil, or_false] at hz
        rcases hz with rfl
        · exact Or.inr ⟨by decide, zIOB, zlcL_13, hN (zIAE, zIOB) (List.mem_of_getElem? (i := 0) rfl)⟩
      · refine z_astore [(4, .ref q), (0, .ref (a 0)), (1, .int p0), (2, .int p1), (3, .ref ao)] (Nat.le_of_ble_eq_true rfl) rfl dL_ifPut_17 ?_
        refine z_iconst (v := 2) (by decide) dL_ifPut_19 ?_
        rw [zLo_r, zLc_1] at hQ
        exact z_iret dL_ifPut_20 hQ
    · omega
theorem ex_X7_bestDrawer (u : tX7) (p0 : Int32) : zNo id (fun e => e ≠ 0 ∧ e < 2) (f_X7_bestDrawer u p0) := by
  unfold f_X7_bestDrawer
  exact (zNo_ite (zNo_bind fun _ => zNo_l) (zNo_r (by decide)))
set_option maxHeartbeats 400000 in
theorem c_L_bestDrawer (l : Launch) (hls : l.stackTraces = false) (g : zG) (a : Nat → Nat) (u : tX7) (ao : Nat) (o : Nat → Int64) (p0 : Int32) (r : (Int32 ⊕ Nat)) (h : f_X7_bestDrawer u p0 = some r) : CtrH l g true zEx yL_bestDrawer cL_bestDrawer 4 (some .int) [(0, 9, 12, 15)] 7 159 1 6 [.ref (a 0), .int p0, .ref ao] (kX7 g a u ++ [[(ao, .inl (g.2.2.2.1, 1, .inr (.inl o)))]]) (kX7 g a u ++ [[(ao, .inl (g.2.2.2.1, 1, .inr (.inl (zLo o r))))]]) (some (.int (zLc 0 1 0 r))) := by
  refine ctrh_of (by decide) (Nat.le_of_ble_eq_true rfl) (fun X hl hmc hms htab hE hQ => ?_)
  refine z_lv (lv' := [(0, .ref (a 0)), (1, .int p0), (2, .ref ao)]) [0, 1, 2] rfl ?_
  refine z_aload_n 2 rfl rfl dL_bestDrawer_0 ?_
  refine z_iconst (v := 0) (by decide) dL_bestDrawer_1 ?_
  refine z_aload_n 0 rfl rfl dL_bestDrawer_2 ?_
  refine z_iload_n 1 rfl rfl dL_bestDrawer_3 ?_
  refine z_callVXR (rest := [.int 0, .ref ao]) zEx_st hE hl (c_X7_bestDrawer l hls g a u p0 r h) zyX7_bestDrawer zvX7_bestDrawer rfl zlL_64 zcX7.1 ⟨_, _, rfl⟩ [(0, none), (1, none), (2, none), (3, none), (4, none), (5, none), (6, none), (7, none), (8, none), (9, none), (10, none), (11, none), (12, none)] rfl rfl rfl ⟨Nat.le_of_ble_eq_true rfl, Nat.le_of_ble_eq_true rfl⟩ (Nat.le_of_ble_eq_true rfl) ⟨by rw [hmc]; exact Nat.le_refl _, by rw [hms]; exact Nat.le_refl _⟩ dL_bestDrawer_4 (fun v e => ?_) (fun x e => ?_)
  · rw [e] at hQ
    refine z_i2l dL_bestDrawer_7 ?_
    refine z_lastI (kX7 g a u ++ [[(ao, .inl (g.2.2.2.1, 1, .inr (.inl (zLo o (.inl v)))))]]) 13 rfl 0 rfl zin0 rfl dL_bestDrawer_8 ?_
    refine z_goto (tgt := 15) rfl dL_bestDrawer_9 ?_
    refine z_iconst (v := 0) (by decide) dL_bestDrawer_15 ?_
    exact z_iret dL_bestDrawer_16 hQ
  · have hx := ex_X7_bestDrawer u p0 r h x e
    dsimp only at hx
    rw [e] at hQ
    obtain ⟨_, _, _, _, hN, _⟩ := hE
    rcases x with _ | x
    · omega
    rcases x with _ | x
    · refine ⟨12, ⟨[], ⟨0, 9, 12, 15⟩, [], htab, fun z hz => ?_, rfl, (by decide), zlcL_15, zcastzIAE, rfl⟩, fun q => ?_⟩
      · cases hz
      · refine z_astore_n [(3, .ref q), (0, .ref (a 0)), (1, .int p0), (2, .ref ao)] rfl (Nat.le_of_ble_eq_true rfl) rfl dL_bestDrawer_12 ?_
        refine z_iconst (v := 1) (by decide) dL_bestDrawer_13 ?_
        rw [zLo_r, zLc_1] at hQ
        exact z_iret dL_bestDrawer_14 hQ
    · omega
theorem ex_X7_ifPicked (u : tX7) (p0 : Int32) (p1 : Int32) : zNo Prod.fst (fun e => e ≠ 0 ∧ e < 2) (f_X7_ifPicked u p0 p1) := by
  unfold f_X7_ifPicked
  exact (zNo_ite (zNo_rp (by decide)) (zNo_ite (zNo_ite (zNo_rp (by decide)) (zNo_ite (zNo_bind fun _ => (zNo_bind fun _ => zNo_lp)) (zNo_rp (by decide)))) (zNo_rp (by decide))))
set_option maxHeartbeats 400000 in
theorem c_L_ifPicked (l : Launch) (hls : l.stackTraces = false) (g : zG) (a : Nat → Nat) (u : tX7) (ao : Nat) (o : Nat → Int64) (p0 : Int32) (p1 : Int32) (r : (Int32 ⊕ Nat) × tX7) (h : f_X7_ifPicked u p0 p1 = some r) : CtrH l g true zEx yL_ifPicked cL_ifPicked 5 (some .int) [(0, 10, 13, 15)] 8 197 1 6 [.ref (a 0), .int p0, .int p1, .ref ao] (kX7 g a u ++ [[(ao, .inl (g.2.2.2.1, 1, .inr (.inl o)))]]) (kX7 g a r.2 ++ [[(ao, .inl (g.2.2.2.1, 1, .inr (.inl (zLo o r.1))))]]) (some (.int (zLc 0 1 0 r.1))) := by
  refine ctrh_of (by decide) (Nat.le_of_ble_eq_true rfl) (fun X hl hmc hms htab hE hQ => ?_)
  refine z_lv (lv' := [(0, .ref (a 0)), (1, .int p0), (2, .int p1), (3, .ref ao)]) [0, 1, 2, 3] rfl ?_
  refine z_aload_n 3 rfl rfl dL_ifPicked_0 ?_
  refine z_iconst (v := 0) (by decide) dL_ifPicked_1 ?_
  refine z_aload_n 0 rfl rfl dL_ifPicked_2 ?_
  refine z_iload_n 1 rfl rfl dL_ifPicked_3 ?_
  refine z_iload_n 2 rfl rfl dL_ifPicked_4 ?_
  refine z_callVXW (rest := [.int 0, .ref ao]) zEx_st hE hl (c_X7_ifPicked l hls g a u p0 p1 r h) zyX7_ifPicked zvX7_ifPicked rfl zlL_67 zcX7.1 ⟨_, _, rfl⟩ [(0, none), (1, none), (2, none), (3, none), (4, none), (5, none), (6, none), (7, none), (8, none), (9, none), (10, none), (11, none), (12, none)] rfl rfl rfl (w' := kX7 g a r.2 ++ [[(ao, .inl (g.2.2.2.1, 1, .inr (.inl o)))]]) rfl rfl rfl ⟨Nat.le_of_ble_eq_true rfl, Nat.le_of_ble_eq_true rfl⟩ (Nat.le_of_ble_eq_true rfl) ⟨by rw [hmc]; exact Nat.le_refl _, by rw [hms]; exact Nat.le_refl _⟩ dL_ifPicked_5 (fun v e => ?_) (fun x e => ?_)
  · rw [e] at hQ
    refine z_i2l dL_ifPicked_8 ?_
    refine z_lastI (kX7 g a r.2 ++ [[(ao, .inl (g.2.2.2.1, 1, .inr (.inl (zLo o (.inl v)))))]]) 13 rfl 0 rfl zin0 rfl dL_ifPicked_9 ?_
    refine z_goto (tgt := 17) rfl dL_ifPicked_10 ?_
    refine z_iconst (v := 0) (by decide) dL_ifPicked_17 ?_
    exact z_iret dL_ifPicked_18 hQ
  · have hx := ex_X7_ifPicked u p0 p1 r h x e
    dsimp only at hx
    rw [e] at hQ
    obtain ⟨_, _, _, _, hN, _⟩ := hE
    rcases x with _ | x
    · omega
    rcases x with _ | x
    · refine ⟨13, ⟨[], ⟨0, 10, 13, 15⟩, [], htab, fun z hz => ?_, rfl, (by decide), zlcL_15, zcastzIAE, rfl⟩, fun q => ?_⟩
      · cases hz
      · refine z_astore [(4, .ref q), (0, .ref (a 0)), (1, .int p0), (2, .int p1), (3, .ref ao)] (Nat.le_of_ble_eq_true rfl) rfl dL_ifPicked_13 ?_
        refine z_iconst (v := 1) (by decide) dL_ifPicked_15 ?_
        rw [zLo_r, zLc_1] at hQ
        exact z_iret dL_ifPicked_16 hQ
    · omega
