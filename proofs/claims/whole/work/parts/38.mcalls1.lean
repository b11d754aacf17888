/-! the calls that look -/
theorem RR.th {u : tX7} {v : tX8} (h : RR u v) (c : Int32) : RR u (c, v.2) := h
theorem isDr (p : Int32) : (f_X7_isDrawer p = false ∧ f_X8_isDrawer p = false) ∨ ∃ d, d < 12 ∧ p = nI d ∧ f_X7_isDrawer p = true ∧ f_X8_isDrawer p = true := by
  unfold f_X7_isDrawer f_X8_isDrawer f_X8_in
  rcases pk_ix p (n := 12) (by omega) with h | h | ⟨d, h, rfl⟩
  · left
    rw [if_pos h, if_pos h]
    exact ⟨rfl, rfl⟩
  · left
    have h0 : ¬ p < 0 := fun e => by
      have h1 := Int32.le_iff_toInt_le.mp h
      have h2 := Int32.lt_iff_toInt_lt.mp e
      rw [nI_toInt (by omega)] at h1
      have h3 : (0 : Int32).toInt = 0 := by decide
      omega
    have h11 : (11 : Int32) < p := by
      have h1 := Int32.le_iff_toInt_le.mp h
      rw [nI_toInt (by omega)] at h1
      refine Int32.lt_iff_toInt_lt.mpr ?_
      have h3 : (11 : Int32).toInt = 11 := by decide
      omega
    rw [if_neg h0, if_pos (show (12 : Int32) ≤ p from h), if_neg h0, if_pos h11]
    exact ⟨rfl, rfl⟩
  · right
    refine ⟨d, h, rfl, ?_, ?_⟩
    · rw [if_neg (nI_pos (by omega)), if_neg (g12 h)]
    · rw [if_neg (nI_pos (by omega)), if_neg (show ¬ (11 : Int32) < nI d from nI_nlt (b := d) (a := 11) (by omega) (by omega))]
theorem nI_lo {p : Int32} {a : Nat} (ha : a < 2 ^ 31) (h : ¬ p < nI a) : ∃ j, a ≤ j ∧ j < 2 ^ 31 ∧ p = nI j := by
  have h0 : ¬ p < 0 := fun e => h (by
    have h2 := Int32.lt_iff_toInt_lt.mp e
    refine Int32.lt_iff_toInt_lt.mpr ?_
    rw [nI_toInt ha]
    have h3 : (0 : Int32).toInt = 0 := by decide
    omega)
  obtain ⟨j, hj, rfl⟩ := nI_of h0
  refine ⟨j, ?_, hj, rfl⟩
  exact Nat.not_lt.mp fun e => h (nI_lt e ha)
theorem in_cases (p : Int32) {a b : Nat} (ha : a < 2 ^ 31) (hb : b < 2 ^ 31) : (f_X8_in p (nI a) (nI b) = false ∧ (p < nI a ∨ (¬ p < nI a ∧ nI b < p))) ∨ ∃ j, a ≤ j ∧ j ≤ b ∧ p = nI j ∧ f_X8_in p (nI a) (nI b) = true := by
  unfold f_X8_in
  by_cases h : p < nI a
  · left
    rw [if_pos h]
    exact ⟨rfl, Or.inl h⟩
  · by_cases h2 : nI b < p
    · left
      rw [if_neg h, if_pos h2]
      exact ⟨rfl, Or.inr ⟨h, h2⟩⟩
    · right
      obtain ⟨j, h3, h4, rfl⟩ := nI_lo ha h
      refine ⟨j, h3, Nat.not_lt.mp fun e => h2 (nI_lt e h4), rfl, ?_⟩
      rw [if_neg h, if_neg h2]
theorem isWt (p : Int32) : (f_X7_isWeight p = false ∧ f_X8_in p 1 20 = false) ∨ ∃ w, 1 ≤ w ∧ w ≤ 20 ∧ p = nI w ∧ f_X7_isWeight p = true ∧ f_X8_in p 1 20 = true := by
  rcases in_cases p (a := 1) (b := 20) (by omega) (by omega) with ⟨h1, h2⟩ | ⟨j, h1, h2, rfl, h3⟩
  · left
    refine ⟨?_, h1⟩
    unfold f_X7_isWeight
    rcases h2 with h2 | ⟨h2, h3⟩
    · rw [if_pos (show p < 1 from h2)]
    · rw [if_neg (show ¬ p < 1 from h2), if_pos (show (20 : Int32) < p from h3)]
  · right
    refine ⟨j, h1, h2, rfl, ?_, h3⟩
    unfold f_X7_isWeight
    rw [if_neg (show ¬ nI j < 1 from nI_nlt (b := 1) (by omega) (by omega)), if_neg (show ¬ (20 : Int32) < nI j from nI_nlt (a := 20) (by omega) (by omega))]
theorem lt_in {p : Int32} {b : Nat} (hb : b + 1 < 2 ^ 31) : (f_X8_in p (nI 0) (nI b) = false ∧ (p < 0 ∨ (¬ p < 0 ∧ ¬ p < nI (b + 1)))) ∨ ∃ j, j ≤ b ∧ p = nI j ∧ f_X8_in p (nI 0) (nI b) = true ∧ ¬ p < 0 ∧ p < nI (b + 1) := by
  rcases in_cases p (a := 0) (b := b) (by omega) (by omega) with ⟨h1, h2⟩ | ⟨j, h1, h2, rfl, h3⟩
  · left
    refine ⟨h1, ?_⟩
    rcases h2 with h2 | ⟨h2, h3⟩
    · exact Or.inl h2
    · right
      refine ⟨h2, fun e => ?_⟩
      obtain ⟨j, hj, rfl⟩ := nI_of h2
      have h4 := (nI_ltI (by omega) hj).mp h3
      have h5 := (nI_ltI hj hb).mp e
      omega
  · right
    exact ⟨j, h2, rfl, h3, nI_pos (by omega), nI_lt (by omega) hb⟩
theorem o_drawer : op_drawer RR := by
  intro u v hR p0 p1
  obtain ⟨A, H, t, ⟨hu, hv, hi⟩, _, _⟩ := id hR
  rcases isDr p0 with ⟨a1, a2⟩ | ⟨d, hd, rfl, a1, a2⟩
  · have h7 : f_X7_drawer u p0 p1 = some (.inr 0) := by
      unfold f_X7_drawer
      rw [if_neg (by rw [a1]; decide)]
    have h8 : f_X8_drawer v p0 p1 = some (0, (1, v.2)) := by
      unfold f_X8_drawer
      rw [if_neg (by rw [a2]; decide)]
      rfl
    exact ⟨_, _, h7, h8, rfl, fun x hx => (by cases hx), hR.th 1⟩
  · rcases lt_in (p := p1) (b := 5) (by omega) with ⟨b1, b2⟩ | ⟨w, hw, rfl, b1, b2, b3⟩
    · have h7 : f_X7_drawer u (nI d) p1 = some (.inr 1) := by
        unfold f_X7_drawer
        rw [if_pos a1]
        rcases b2 with b2 | ⟨b2, b3⟩
        · rw [if_pos b2]
        · rw [if_neg b2, if_neg (show ¬ p1 < 6 from b3)]
      have h8 : f_X8_drawer v (nI d) p1 = some (0, (2, v.2)) := by
        unfold f_X8_drawer
        rw [if_pos a2, if_neg (show ¬ f_X8_in p1 0 5 = true from fun e => by rw [show f_X8_in p1 0 5 = false from b1] at e; cases e)]
        rfl
      exact ⟨_, _, h7, h8, rfl, fun x hx => (by cases hx), hR.th 2⟩
    · have h7 : f_X7_drawer u (nI d) (nI w) = some (.inl (propD A d w)) := by
        unfold f_X7_drawer
        rw [if_pos a1, if_neg b2, if_pos (show nI w < 6 from b3), x6_prop hu hi hd (by omega)]
        rfl
      have h8 : f_X8_drawer v (nI d) (nI w) = some (propD A d w, (0, v.2)) := by
        unfold f_X8_drawer
        rw [if_pos a2, if_pos (show f_X8_in (nI w) 0 5 = true from b1), show f_X8_tellsDrawer (0, v.2.1, v.2.2.1, v.2.2.2.1, v.2.2.2.2.1, v.2.2.2.2.2.1, v.2.2.2.2.2.2.1, v.2.2.2.2.2.2.2.1, v.2.2.2.2.2.2.2.2.1, v.2.2.2.2.2.2.2.2.2.1, v.2.2.2.2.2.2.2.2.2.2.1, v.2.2.2.2.2.2.2.2.2.2.2.1, v.2.2.2.2.2.2.2.2.2.2.2.2.1, v.2.2.2.2.2.2.2.2.2.2.2.2.2.1, v.2.2.2.2.2.2.2.2.2.2.2.2.2.2.1, v.2.2.2.2.2.2.2.2.2.2.2.2.2.2.2) (nI d) (nI w) = some (propD A d w) from x8_prop (u := (0, v.2.1, v.2.2.1, v.2.2.2.1, v.2.2.2.2.1, v.2.2.2.2.2.1, v.2.2.2.2.2.2.1, v.2.2.2.2.2.2.2.1, v.2.2.2.2.2.2.2.2.1, v.2.2.2.2.2.2.2.2.2.1, v.2.2.2.2.2.2.2.2.2.2.1, v.2.2.2.2.2.2.2.2.2.2.2.1, v.2.2.2.2.2.2.2.2.2.2.2.2.1, v.2.2.2.2.2.2.2.2.2.2.2.2.2.1, v.2.2.2.2.2.2.2.2.2.2.2.2.2.2.1, v.2.2.2.2.2.2.2.2.2.2.2.2.2.2.2)) hv hi hd (by omega)]
        rfl
      exact ⟨_, _, h7, h8, rfl, fun x hx => (Sum.inl.inj hx).symm, hR.th 0⟩
theorem propA_of {u : tX8} {A : AS} (h : R8 u.2.1 A) (hi : Inv A) (n : Int32) {what : Nat} (hw : what < 2) : (f_X8_placeOfItem u n).bind (fun r2 => if r2 = (-1) then some (-1 : Int32) else f_X8_of u r2 (1 + nI what)) = some (propA (aL A) n what) := by
  rw [x8_place_of h hi.1.1, Option.bind_some]
  unfold sl propA
  cases e : ix (aL A) n with
  | none =>
    rw [fd_no e]
    exact if_pos rfl
  | some k =>
    obtain ⟨x, hx, h1, _, _⟩ := fd_of e
    have hk := ix_lt e
    have hl := hi.1.1
    rw [h1]
    dsimp only
    rw [if_neg (nI_nm1 (by omega)), show (1 : Int32) = nI 1 from rfl, nI_add, x8_of u (by omega) (by omega)]
    have := h.1 k x hx
    rcases (show what = 0 ∨ what = 1 by omega) with rfl | rfl
    · rw [if_pos rfl]
      exact congrArg some this.2.1
    · rw [if_neg (by decide)]
      exact congrArg some this.2.2
theorem o_item : op_item RR := by
  intro u v hR p0 p1
  obtain ⟨A, H, t, ⟨hu, hv, hi⟩, _, _⟩ := id hR
  have hG := hi.2.1
  have hg8 : v.2.1 8 - 1 = zI ((aG A : Int) - 1) := by
    rw [hv.2.2.1, nI_zI, show (1 : Int32) = zI 1 from rfl, zI_sub]
  have hcase : (f_X8_in p0 0 (v.2.1 8 - 1) = false ∧ (p0 < 0 ∨ (¬ p0 < 0 ∧ ¬ p0 < nI (aG A)))) ∨ (f_X8_in p0 0 (v.2.1 8 - 1) = true ∧ ¬ p0 < 0 ∧ p0 < nI (aG A)) := by
    rw [hg8]
    unfold f_X8_in
    by_cases c : p0 < 0
    · left
      rw [if_pos c]
      exact ⟨rfl, Or.inl c⟩
    · obtain ⟨j, hj, rfl⟩ := nI_of c
      have e1 : (zI ((aG A : Int) - 1) < nI j) ↔ ((aG A : Int) - 1 < j) := by
        rw [nI_zI j]
        exact zI_lt (by omega) (by omega) (by omega) (by omega)
      have e2 : (nI j < nI (aG A)) ↔ j < aG A := nI_ltI hj (by omega)
      by_cases c2 : (aG A : Int) - 1 < j
      · left
        rw [if_neg c, if_pos (e1.mpr c2)]
        exact ⟨rfl, Or.inr ⟨c, fun e => by have := e2.mp e; omega⟩⟩
      · right
        rw [if_neg c, if_neg (fun e => c2 (e1.mp e))]
        exact ⟨rfl, c, e2.mpr (by omega)⟩
  rcases hcase with ⟨a1, a2⟩ | ⟨a1, a2, a3⟩
  · have h7 : f_X7_item u p0 p1 = some (.inr 0) := by
      unfold f_X7_item
      rcases a2 with a2 | ⟨a2, a3⟩
      · rw [if_pos a2]
      · rw [if_neg a2, if_neg (by rw [hu.2.1.2.2]; exact a3)]
    have h8 : f_X8_item v p0 p1 = some (0, (1, v.2)) := by
      unfold f_X8_item
      rw [q8, Option.bind_some, if_neg (by rw [a1]; decide)]
      rfl
    exact ⟨_, _, h7, h8, rfl, fun x hx => (by cases hx), hR.th 1⟩
  · rcases lt_in (p := p1) (b := 1) (by omega) with ⟨b1, b2⟩ | ⟨w, hw, rfl, b1, b2, b3⟩
    · have h7 : f_X7_item u p0 p1 = some (.inr 1) := by
        unfold f_X7_item
        rw [if_neg a2, if_pos (by rw [hu.2.1.2.2]; exact a3)]
        rcases b2 with b2 | ⟨b2, b3⟩
        · rw [if_pos b2]
        · rw [if_neg b2, if_neg (show ¬ p1 < 2 from b3)]
      have h8 : f_X8_item v p0 p1 = some (0, (2, v.2)) := by
        unfold f_X8_item
        rw [q8, Option.bind_some, if_pos a1, if_neg (show ¬ f_X8_in p1 0 1 = true from fun e => by rw [show f_X8_in p1 0 1 = false from b1] at e; cases e)]
        rfl
      exact ⟨_, _, h7, h8, rfl, fun x hx => (by cases hx), hR.th 2⟩
    · have h7 : f_X7_item u p0 (nI w) = some (.inl (propA (aL A) p0 w)) := by
        unfold f_X7_item
        rw [if_neg a2, if_pos (by rw [hu.2.1.2.2]; exact a3), if_neg b2, if_pos (show nI w < 2 from b3), x3_prop hu.2.1 hi.1.1 p0 (by omega)]
        rfl
      have h8 : f_X8_item v p0 (nI w) = some (propA (aL A) p0 w, (0, v.2)) := by
        have hp := propA_of (u := (0, v.2.1, v.2.2.1, v.2.2.2.1, v.2.2.2.2.1, v.2.2.2.2.2.1, v.2.2.2.2.2.2.1, v.2.2.2.2.2.2.2.1, v.2.2.2.2.2.2.2.2.1, v.2.2.2.2.2.2.2.2.2.1, v.2.2.2.2.2.2.2.2.2.2.1, v.2.2.2.2.2.2.2.2.2.2.2.1, v.2.2.2.2.2.2.2.2.2.2.2.2.1, v.2.2.2.2.2.2.2.2.2.2.2.2.2.1, v.2.2.2.2.2.2.2.2.2.2.2.2.2.2.1, v.2.2.2.2.2.2.2.2.2.2.2.2.2.2.2)) hv hi p0 (what := w) (by omega)
        unfold f_X8_item
        rw [q8, Option.bind_some, if_pos a1, if_pos (show f_X8_in (nI w) 0 1 = true from b1)]
        cases e : f_X8_placeOfItem (0, v.2.1, v.2.2.1, v.2.2.2.1, v.2.2.2.2.1, v.2.2.2.2.2.1, v.2.2.2.2.2.2.1, v.2.2.2.2.2.2.2.1, v.2.2.2.2.2.2.2.2.1, v.2.2.2.2.2.2.2.2.2.1, v.2.2.2.2.2.2.2.2.2.2.1, v.2.2.2.2.2.2.2.2.2.2.2.1, v.2.2.2.2.2.2.2.2.2.2.2.2.1, v.2.2.2.2.2.2.2.2.2.2.2.2.2.1, v.2.2.2.2.2.2.2.2.2.2.2.2.2.2.1, v.2.2.2.2.2.2.2.2.2.2.2.2.2.2.2) p0 with
        | none => rw [e] at hp; cases hp
        | some r =>
          rw [e, Option.bind_some] at hp
          rw [Option.bind_some]
          by_cases c : r = -1
          · rw [if_pos c] at hp ⊢
            have := Option.some.inj hp
            rw [this]
          · rw [if_neg c] at hp ⊢
            rw [hp]
            rfl
      exact ⟨_, _, h7, h8, rfl, fun x hx => (Sum.inl.inj hx).symm, hR.th 0⟩
theorem o_count : op_count RR := by
  intro u v hR p0
  obtain ⟨A, H, t, ⟨hu, hv, hi⟩, ⟨hx, hm, _⟩, _⟩ := id hR
  rcases lt_in (p := p0) (b := 10) (by omega) with ⟨b1, b2⟩ | ⟨w, hw, rfl, b1, b2, b3⟩
  · have h7 : f_X7_count u p0 = some (.inr 1) := by
      unfold f_X7_count
      rcases b2 with b2 | ⟨b2, b3⟩
      · rw [if_pos b2]
      · rw [if_neg b2, if_neg (show ¬ p0 < 11 from b3)]
    have h8 : f_X8_count v p0 = some (0, (1, v.2)) := by
      unfold f_X8_count
      rw [if_neg (show ¬ f_X8_in p0 0 10 = true from fun e => by rw [show f_X8_in p0 0 10 = false from b1] at e; cases e)]
      rfl
    exact ⟨_, _, h7, h8, rfl, fun x hx => (by cases hx), hR.th 1⟩
  · have h7 : f_X7_count u (nI w) = some (.inl (cntA A (nI H.length) w)) := by
      unfold f_X7_count
      rw [if_neg b2, if_pos (show nI w < 11 from b3), x7_count hu hi (by omega), hx.1]
      rfl
    have h8 : f_X8_count v (nI w) = some (cntA A (nI H.length) w, (0, v.2)) := by
      unfold f_X8_count
      rw [if_pos (show f_X8_in (nI w) 0 10 = true from b1), show f_X8_counts (0, v.2.1, v.2.2.1, v.2.2.2.1, v.2.2.2.2.1, v.2.2.2.2.2.1, v.2.2.2.2.2.2.1, v.2.2.2.2.2.2.2.1, v.2.2.2.2.2.2.2.2.1, v.2.2.2.2.2.2.2.2.2.1, v.2.2.2.2.2.2.2.2.2.2.1, v.2.2.2.2.2.2.2.2.2.2.2.1, v.2.2.2.2.2.2.2.2.2.2.2.2.1, v.2.2.2.2.2.2.2.2.2.2.2.2.2.1, v.2.2.2.2.2.2.2.2.2.2.2.2.2.2.1, v.2.2.2.2.2.2.2.2.2.2.2.2.2.2.2) (nI w) = some (cntA A (nI H.length) w) from (x8_count (u := (0, v.2.1, v.2.2.1, v.2.2.2.1, v.2.2.2.2.1, v.2.2.2.2.2.1, v.2.2.2.2.2.2.1, v.2.2.2.2.2.2.2.1, v.2.2.2.2.2.2.2.2.1, v.2.2.2.2.2.2.2.2.2.1, v.2.2.2.2.2.2.2.2.2.2.1, v.2.2.2.2.2.2.2.2.2.2.2.1, v.2.2.2.2.2.2.2.2.2.2.2.2.1, v.2.2.2.2.2.2.2.2.2.2.2.2.2.1, v.2.2.2.2.2.2.2.2.2.2.2.2.2.2.1, v.2.2.2.2.2.2.2.2.2.2.2.2.2.2.2)) hv hi (by omega)).trans (by rw [hm.1])]
      rfl
    exact ⟨_, _, h7, h8, rfl, fun x hx => (Sum.inl.inj hx).symm, hR.th 0⟩
theorem set_at {u : tX6} {s : zF} {A : AS} (hu : R6 u A) (hv : R8 s A) {k : Nat} (hk : k < 3) : u.2.2.2.1 k = s k := by
  rcases (show k = 0 ∨ k = 1 ∨ k = 2 by omega) with rfl | rfl | rfl
  · rw [hu.2.2.2.1.1, hv.2.2.2.2.1.1]
  · rw [hu.2.2.2.1.2.1, hv.2.2.2.2.1.2.1]
  · rw [hu.2.2.2.1.2.2, hv.2.2.2.2.1.2.2]
theorem isSet (p : Int32) : (f_X7_isSetting p = false ∧ f_X8_in p 0 2 = false) ∨ ∃ k, k < 3 ∧ p = nI k ∧ f_X7_isSetting p = true ∧ f_X8_in p 0 2 = true := by
  rcases lt_in (p := p) (b := 2) (by omega) with ⟨b1, b2⟩ | ⟨w, hw, rfl, b1, b2, b3⟩
  · left
    refine ⟨?_, b1⟩
    unfold f_X7_isSetting
    rcases b2 with b2 | ⟨b2, b3⟩
    · rw [if_pos b2]
    · obtain ⟨j, hj, rfl⟩ := nI_of b2
      rw [if_neg b2, if_pos (show (3 : Int32) ≤ nI j from nI_le (a := 3) (Nat.not_lt.mp fun e => b3 (nI_lt e (by omega))) hj)]
  · right
    refine ⟨w, by omega, rfl, ?_, b1⟩
    unfold f_X7_isSetting
    rw [if_neg b2, if_neg (show ¬ (3 : Int32) ≤ nI w from nI_ge (b := 3) (by omega) (by omega))]
theorem o_setting : op_setting RR := by
  intro u v hR p0
  obtain ⟨A, H, t, ⟨hu, hv, hi⟩, _, _⟩ := id hR
  rcases isSet p0 with ⟨a1, a2⟩ | ⟨k, hk, rfl, a1, a2⟩
  · have h7 : f_X7_setting u p0 = .inr 0 := by
      unfold f_X7_setting
      rw [if_neg (by rw [a1]; decide)]
    have h8 : f_X8_setting v p0 = some (0, (1, v.2)) := by
      unfold f_X8_setting
      rw [if_neg (by rw [a2]; decide)]
      rfl
    exact ⟨_, _, h7, h8, rfl, fun x hx => (by cases hx), hR.th 1⟩
  · have h7 : f_X7_setting u (nI k) = .inl (v.2.1 k) := by
      unfold f_X7_setting
      rw [if_pos a1, at_n hk (by omega), set_at hu hv hk]
    have h8 : f_X8_setting v (nI k) = some (v.2.1 k, (0, v.2)) := by
      unfold f_X8_setting
      rw [if_pos a2, aget_n (by omega) (by omega)]
      rfl
    exact ⟨_, _, h7, h8, rfl, fun x hx => (Sum.inl.inj hx).symm, hR.th 0⟩
theorem o_refusal : op_refusal RR := by
  intro u v hR p0
  obtain ⟨A, H, t, ⟨hu, hv, hi⟩, _, _⟩ := id hR
  have h7 : f_X7_refusal u p0 = some (nI (reasonA A p0)) := by
    unfold f_X7_refusal
    rw [x6_reason hu hi]
    rfl
  have h8 : f_X8_refusal v p0 = some (nI (reasonA A p0), (0, v.2)) := by
    unfold f_X8_refusal
    rw [show f_X8_reason (0, v.2.1, v.2.2.1, v.2.2.2.1, v.2.2.2.2.1, v.2.2.2.2.2.1, v.2.2.2.2.2.2.1, v.2.2.2.2.2.2.2.1, v.2.2.2.2.2.2.2.2.1, v.2.2.2.2.2.2.2.2.2.1, v.2.2.2.2.2.2.2.2.2.2.1, v.2.2.2.2.2.2.2.2.2.2.2.1, v.2.2.2.2.2.2.2.2.2.2.2.2.1, v.2.2.2.2.2.2.2.2.2.2.2.2.2.1, v.2.2.2.2.2.2.2.2.2.2.2.2.2.2.1, v.2.2.2.2.2.2.2.2.2.2.2.2.2.2.2) p0 = some (nI (reasonA A p0)) from x8_reason (u := (0, v.2.1, v.2.2.1, v.2.2.2.1, v.2.2.2.2.1, v.2.2.2.2.2.1, v.2.2.2.2.2.2.1, v.2.2.2.2.2.2.2.1, v.2.2.2.2.2.2.2.2.1, v.2.2.2.2.2.2.2.2.2.1, v.2.2.2.2.2.2.2.2.2.2.1, v.2.2.2.2.2.2.2.2.2.2.2.1, v.2.2.2.2.2.2.2.2.2.2.2.2.1, v.2.2.2.2.2.2.2.2.2.2.2.2.2.1, v.2.2.2.2.2.2.2.2.2.2.2.2.2.2.1, v.2.2.2.2.2.2.2.2.2.2.2.2.2.2.2)) hv hi p0]
    rfl
  exact ⟨_, _, h7, h8, rfl, hR.th 0⟩
theorem o_way : op_way RR := by
  intro u v hR p0
  obtain ⟨A, H, t, ⟨hu, hv, hi⟩, _, _⟩ := id hR
  rcases isDr p0 with ⟨a1, a2⟩ | ⟨d, hd, rfl, a1, a2⟩
  · have h7 : f_X7_way u p0 = some (.inr 0) := by
      unfold f_X7_way
      rw [if_neg (by rw [a1]; decide)]
    have h8 : f_X8_way v p0 = some (0, (1, v.2)) := by
      unfold f_X8_way
      rw [if_neg (by rw [a2]; decide)]
      rfl
    exact ⟨_, _, h7, h8, rfl, fun x hx => (by cases hx), hR.th 1⟩
  · have h7 : f_X7_way u (nI d) = some (.inl (zI (wayA A d))) := by
      unfold f_X7_way
      rw [if_pos a1, x6_way hu hi hd]
      rfl
    have h8 : f_X8_way v (nI d) = some (zI (wayA A d), (0, v.2)) := by
      unfold f_X8_way
      rw [if_pos a2, show f_X8_wayTo (0, v.2.1, v.2.2.1, v.2.2.2.1, v.2.2.2.2.1, v.2.2.2.2.2.1, v.2.2.2.2.2.2.1, v.2.2.2.2.2.2.2.1, v.2.2.2.2.2.2.2.2.1, v.2.2.2.2.2.2.2.2.2.1, v.2.2.2.2.2.2.2.2.2.2.1, v.2.2.2.2.2.2.2.2.2.2.2.1, v.2.2.2.2.2.2.2.2.2.2.2.2.1, v.2.2.2.2.2.2.2.2.2.2.2.2.2.1, v.2.2.2.2.2.2.2.2.2.2.2.2.2.2.1, v.2.2.2.2.2.2.2.2.2.2.2.2.2.2.2) (nI d) = some (zI (wayA A d)) from x8_way (u := (0, v.2.1, v.2.2.1, v.2.2.2.1, v.2.2.2.2.1, v.2.2.2.2.2.1, v.2.2.2.2.2.2.1, v.2.2.2.2.2.2.2.1, v.2.2.2.2.2.2.2.2.1, v.2.2.2.2.2.2.2.2.2.1, v.2.2.2.2.2.2.2.2.2.2.1, v.2.2.2.2.2.2.2.2.2.2.2.1, v.2.2.2.2.2.2.2.2.2.2.2.2.1, v.2.2.2.2.2.2.2.2.2.2.2.2.2.1, v.2.2.2.2.2.2.2.2.2.2.2.2.2.2.1, v.2.2.2.2.2.2.2.2.2.2.2.2.2.2.2)) hv hi hd]
      rfl
    exact ⟨_, _, h7, h8, rfl, fun x hx => (Sum.inl.inj hx).symm, hR.th 0⟩
theorem o_ifPut : op_ifPut RR := by
  intro u v hR p0 p1
  obtain ⟨A, H, t, ⟨hu, hv, hi⟩, _, _⟩ := id hR
  rcases isDr p0 with ⟨a1, a2⟩ | ⟨d, hd, rfl, a1, a2⟩
  · have h7 : f_X7_ifPut u p0 p1 = some (.inr 0) := by
      unfold f_X7_ifPut
      rw [if_neg (by rw [a1]; decide)]
    have h8 : f_X8_ifPut v p0 p1 = some (0, (1, v.2)) := by
      unfold f_X8_ifPut
      rw [if_neg (by rw [a2]; decide)]
      rfl
    exact ⟨_, _, h7, h8, rfl, fun x hx => (by cases hx), hR.th 1⟩
  · rcases isWt p1 with ⟨b1, b2⟩ | ⟨w, w1, w2, rfl, b1, b2⟩
    · have h7 : f_X7_ifPut u (nI d) p1 = some (.inr 1) := by
        unfold f_X7_ifPut
        rw [if_pos a1, if_neg (by rw [b1]; decide)]
      have h8 : f_X8_ifPut v (nI d) p1 = some (0, (2, v.2)) := by
        unfold f_X8_ifPut
        rw [if_pos a2, if_neg (by rw [b2]; decide)]
        rfl
      exact ⟨_, _, h7, h8, rfl, fun x hx => (by cases hx), hR.th 2⟩
    · have e7 := x0_great hu.1 hi.1.Tb hd w (by omega)
      have e8 : f_X8_greatestWith (0, v.2.1, v.2.2.1, v.2.2.2.1, v.2.2.2.2.1, v.2.2.2.2.2.1, v.2.2.2.2.2.2.1, v.2.2.2.2.2.2.2.1, v.2.2.2.2.2.2.2.2.1, v.2.2.2.2.2.2.2.2.2.1, v.2.2.2.2.2.2.2.2.2.2.1, v.2.2.2.2.2.2.2.2.2.2.2.1, v.2.2.2.2.2.2.2.2.2.2.2.2.1, v.2.2.2.2.2.2.2.2.2.2.2.2.2.1, v.2.2.2.2.2.2.2.2.2.2.2.2.2.2.1, v.2.2.2.2.2.2.2.2.2.2.2.2.2.2.2) (nI d) (nI w) = some (nI (gw (tilt (aL A)) d w)) := x8_gw (u := (0, v.2.1, v.2.2.1, v.2.2.2.1, v.2.2.2.2.1, v.2.2.2.2.2.1, v.2.2.2.2.2.2.1, v.2.2.2.2.2.2.2.1, v.2.2.2.2.2.2.2.2.1, v.2.2.2.2.2.2.2.2.2.1, v.2.2.2.2.2.2.2.2.2.2.1, v.2.2.2.2.2.2.2.2.2.2.2.1, v.2.2.2.2.2.2.2.2.2.2.2.2.1, v.2.2.2.2.2.2.2.2.2.2.2.2.2.1, v.2.2.2.2.2.2.2.2.2.2.2.2.2.2.1, v.2.2.2.2.2.2.2.2.2.2.2.2.2.2.2)) hv hi.1 hd (by omega)
      generalize nI (gw (tilt (aL A)) d w) = z at e7 e8
      have h7 : f_X7_ifPut u (nI d) (nI w) = some (.inl z) := by
        unfold f_X7_ifPut
        rw [if_pos a1, if_pos b1, e7]
        rfl
      have h8 : f_X8_ifPut v (nI d) (nI w) = some (z, (0, v.2)) := by
        unfold f_X8_ifPut
        rw [if_pos a2, if_pos b2, e8]
        rfl
      exact ⟨_, _, h7, h8, rfl, fun x hx => (Sum.inl.inj hx).symm, hR.th 0⟩
theorem o_bestDrawer : op_bestDrawer RR := by
  intro u v hR p0
  obtain ⟨A, H, t, ⟨hu, hv, hi⟩, _, _⟩ := id hR
  rcases isWt p0 with ⟨b1, b2⟩ | ⟨w, w1, w2, rfl, b1, b2⟩
  · have h7 : f_X7_bestDrawer u p0 = some (.inr 1) := by
      unfold f_X7_bestDrawer
      rw [if_neg (by rw [b1]; decide)]
    have h8 : f_X8_bestDrawer v p0 = some (0, (1, v.2)) := by
      unfold f_X8_bestDrawer
      rw [if_neg (by rw [b2]; decide)]
      rfl
    exact ⟨_, _, h7, h8, rfl, fun x hx => (by cases hx), hR.th 1⟩
  · have e7 := x6_best hu hi (x := w) (by omega)
    have e8 : f_X8_drawerFor (0, v.2.1, v.2.2.1, v.2.2.2.1, v.2.2.2.2.1, v.2.2.2.2.2.1, v.2.2.2.2.2.2.1, v.2.2.2.2.2.2.2.1, v.2.2.2.2.2.2.2.2.1, v.2.2.2.2.2.2.2.2.2.1, v.2.2.2.2.2.2.2.2.2.2.1, v.2.2.2.2.2.2.2.2.2.2.2.1, v.2.2.2.2.2.2.2.2.2.2.2.2.1, v.2.2.2.2.2.2.2.2.2.2.2.2.2.1, v.2.2.2.2.2.2.2.2.2.2.2.2.2.2.1, v.2.2.2.2.2.2.2.2.2.2.2.2.2.2.2) (nI w) = some (fB (bb A w 12)) := x8_best (u := (0, v.2.1, v.2.2.1, v.2.2.2.1, v.2.2.2.2.1, v.2.2.2.2.2.1, v.2.2.2.2.2.2.1, v.2.2.2.2.2.2.2.1, v.2.2.2.2.2.2.2.2.1, v.2.2.2.2.2.2.2.2.2.1, v.2.2.2.2.2.2.2.2.2.2.1, v.2.2.2.2.2.2.2.2.2.2.2.1, v.2.2.2.2.2.2.2.2.2.2.2.2.1, v.2.2.2.2.2.2.2.2.2.2.2.2.2.1, v.2.2.2.2.2.2.2.2.2.2.2.2.2.2.1, v.2.2.2.2.2.2.2.2.2.2.2.2.2.2.2)) hv hi (by omega)
    generalize fB (bb A w 12) = z at e7 e8
    have h7 : f_X7_bestDrawer u (nI w) = some (.inl z) := by
      unfold f_X7_bestDrawer
      rw [if_pos b1, e7]
      rfl
    have h8 : f_X8_bestDrawer v (nI w) = some (z, (0, v.2)) := by
      unfold f_X8_bestDrawer
      rw [if_pos b2, e8]
      rfl
    exact ⟨_, _, h7, h8, rfl, fun x hx => (Sum.inl.inj hx).symm, hR.th 0⟩
theorem o_evenness : op_evenness RR := by
  intro u v hR
  obtain ⟨A, H, t, ⟨hu, hv, hi⟩, _, _⟩ := id hR
  have e7 := x7_even hu hi
  have e8 : f_X8_even (0, v.2.1, v.2.2.1, v.2.2.2.1, v.2.2.2.2.1, v.2.2.2.2.2.1, v.2.2.2.2.2.2.1, v.2.2.2.2.2.2.2.1, v.2.2.2.2.2.2.2.2.1, v.2.2.2.2.2.2.2.2.2.1, v.2.2.2.2.2.2.2.2.2.2.1, v.2.2.2.2.2.2.2.2.2.2.2.1, v.2.2.2.2.2.2.2.2.2.2.2.2.1, v.2.2.2.2.2.2.2.2.2.2.2.2.2.1, v.2.2.2.2.2.2.2.2.2.2.2.2.2.2.1, v.2.2.2.2.2.2.2.2.2.2.2.2.2.2.2) = some (evA A) := x8_even (u := (0, v.2.1, v.2.2.1, v.2.2.2.1, v.2.2.2.2.1, v.2.2.2.2.2.1, v.2.2.2.2.2.2.1, v.2.2.2.2.2.2.2.1, v.2.2.2.2.2.2.2.2.1, v.2.2.2.2.2.2.2.2.2.1, v.2.2.2.2.2.2.2.2.2.2.1, v.2.2.2.2.2.2.2.2.2.2.2.1, v.2.2.2.2.2.2.2.2.2.2.2.2.1, v.2.2.2.2.2.2.2.2.2.2.2.2.2.1, v.2.2.2.2.2.2.2.2.2.2.2.2.2.2.1, v.2.2.2.2.2.2.2.2.2.2.2.2.2.2.2)) hv hi
  generalize evA A = z at e7 e8
  have h7 : f_X7_evenness u = some z := by
    unfold f_X7_evenness
    rw [e7]
    rfl
  have h8 : f_X8_evenness v = some (z, (0, v.2)) := by
    unfold f_X8_evenness
    rw [e8]
    rfl
  exact ⟨_, _, h7, h8, rfl, hR.th 0⟩
