/-! items go and come in the reference's row; rows of items are picked, on both sides -/
theorem x8_turns {u : tX8} {A : AS} (h : R8 u.2.1 A) (hi : Inv A) {d : Nat} (hd : d < 12) (hw : wayA A d ≠ 99) : ∃ s', f_X8_turns u (nI d) = some (u.1, s', u.2.2) ∧ R8 s' (turnA A d) ∧ (∀ k, 7 ≤ k → s' k = u.2.1 k) := by
  have hr : -12 < wayA A d ∧ wayA A d < 12 := by
    rcases wy_range (okA A) (aW A) d with c | c
    · exact absurd c hw
    · exact c
  obtain ⟨h1, h2, h3, h4, h5, h6, h7⟩ := h
  have hh : R8 u.2.1 A := ⟨h1, h2, h3, h4, h5, h6, h7⟩
  have e1 : (6 : Int32) < zI (wayA A d) ↔ 6 < wayA A d := by
    rw [l6]
    exact zI_lt (by omega) (by omega) (by omega) (by omega)
  have e2 : (-5 : Int32) ≤ zI (wayA A d) ↔ -5 ≤ wayA A d := by
    rw [show (-5 : Int32) = zI (-5) by decide +kernel]
    exact zI_le (by omega) (by omega) (by omega) (by omega)
  have e3 : (if (0 : Int32) ≤ zI (wayA A d) then some (0 : Int32) else some (-zI (wayA A d))) = some (nI (-(wayA A d)).toNat) := by
    by_cases c : 0 ≤ wayA A d
    · rw [if_pos (show (0 : Int32) ≤ _ from (zI_le (a := 0) (by omega) (by omega) (by omega) (by omega)).mpr c), show (-(wayA A d)).toNat = 0 by omega]
      rfl
    · rw [if_neg (show ¬ (0 : Int32) ≤ _ from fun e => c ((zI_le (a := 0) (by omega) (by omega) (by omega) (by omega)).mp e)), nI_zI, zI_neg]
      congr 2
      omega
  have key : ∀ c : Int32, c = (if 6 < wayA A d ∨ wayA A d ≤ -6 then u.2.1 6 + 1 else u.2.1 6) → R8 (upd (upd (upd (upd u.2.1 4 (u.2.1 4 + nI (wayA A d).natAbs)) 5 (u.2.1 5 + nI (-(wayA A d)).toNat)) 6 c) 3 (nI d)) (turnA A d) ∧ (∀ k, 7 ≤ k → (upd (upd (upd (upd u.2.1 4 (u.2.1 4 + nI (wayA A d).natAbs)) 5 (u.2.1 5 + nI (-(wayA A d)).toNat)) 6 c) 3 (nI d)) k = u.2.1 k) := by
    intro c hc
    have hz : ∀ k, k ≠ 3 → k ≠ 4 → k ≠ 5 → k ≠ 6 → (upd (upd (upd (upd u.2.1 4 (u.2.1 4 + nI (wayA A d).natAbs)) 5 (u.2.1 5 + nI (-(wayA A d)).toNat)) 6 c) 3 (nI d)) k = u.2.1 k := by
      intro k a b e f
      rw [upd_n a, upd_n f, upd_n e, upd_n b]
    refine ⟨⟨fun k x hx => ?_, ?_, ?_, fun d hd => ?_, ⟨?_, ?_, ?_⟩, ?_, ?_⟩, fun k hk => hz k (by omega) (by omega) (by omega) (by omega)⟩
    · rw [hz _ (by omega) (by omega) (by omega) (by omega), hz _ (by omega) (by omega) (by omega) (by omega), hz _ (by omega) (by omega) (by omega) (by omega)]
      exact h1 k x hx
    · rw [hz _ (by omega) (by omega) (by omega) (by omega)]; exact h2
    · rw [hz _ (by omega) (by omega) (by omega) (by omega)]; exact h3
    · rw [hz _ (by omega) (by omega) (by omega) (by omega)]; exact h4 d hd
    · rw [hz _ (by omega) (by omega) (by omega) (by omega)]; exact h5.1
    · rw [hz _ (by omega) (by omega) (by omega) (by omega)]; exact h5.2.1
    · rw [hz _ (by omega) (by omega) (by omega) (by omega)]; exact h5.2.2
    · exact upd_s
    · rw [hz 7 (by omega) (by omega) (by omega) (by omega), upd_n (show 4 ≠ 3 by omega), upd_n (show 4 ≠ 6 by omega), upd_n (show 4 ≠ 5 by omega), upd_s, upd_n (show 5 ≠ 3 by omega), upd_n (show 5 ≠ 6 by omega), upd_s, upd_n (show 6 ≠ 3 by omega), upd_s]
      show _ = cnt (aC A) (wayA A d)
      rw [show aC A = (u.2.1 4, u.2.1 5, u.2.1 6, u.2.1 7) from h7.symm, hc]
      rfl
  unfold f_X8_turns
  rw [x8_way hh hi hd, Option.bind_some, q4, Option.bind_some, x8_size (by omega) (by omega), qs4, Option.bind_some, q5, Option.bind_some, e3, Option.bind_some, qs5, Option.bind_some, q6, Option.bind_some, qs6, qs6, upd_n (show 5 ≠ 4 by omega), upd_n (show 6 ≠ 5 by omega), upd_n (show 6 ≠ 4 by omega)]
  by_cases c1 : 6 < wayA A d
  · rw [if_pos (e1.mpr c1), Option.bind_some, qs3, Option.bind_some]
    exact ⟨_, rfl, key _ (by rw [if_pos (Or.inl c1)])⟩
  · rw [if_neg (fun e => c1 (e1.mp e))]
    by_cases c2 : -5 ≤ wayA A d
    · rw [if_pos (e2.mpr c2), Option.bind_some, add0, qs3, Option.bind_some]
      exact ⟨_, rfl, key _ (by rw [if_neg (by omega)])⟩
    · rw [if_neg (fun e => c2 (e2.mp e)), Option.bind_some, qs3, Option.bind_some]
      exact ⟨_, rfl, key _ (by rw [if_pos (by omega)])⟩
theorem x8_goes {u : tX8} {N k0 : Nat} (h9 : u.2.1 9 = nI (N + 1)) (hN : N < 40) (hk : k0 ≤ N) : ∃ s', f_X8_goes u (nI k0) = some (u.1, s', u.2.2) ∧ (∀ j, j < 22 → j ≠ 9 → s' j = u.2.1 j) ∧ s' 9 = nI N ∧ (∀ j, 22 ≤ j → j < 22 + 3 * N → s' j = if 22 + 3 * k0 ≤ j then u.2.1 (j + 3) else u.2.1 j) := by
  unfold f_X8_goes
  rw [q9, Option.bind_some, h9, nI_pred, qs9, Option.bind_some, pos3]
  obtain ⟨e, h1, h2⟩ := lp_run b_X8_goes_18 (22 + 3 * N) (fun i s => s.1 = nI i ∧ 22 + 3 * k0 ≤ i ∧ ∀ j, s.2 j = if j = 9 then nI N else if 22 + 3 * k0 ≤ j ∧ j < i then u.2.1 (j + 3) else u.2.1 j) (fun e => ∀ j, e j = if j = 9 then nI N else if 22 + 3 * k0 ≤ j ∧ j < 22 + 3 * N then u.2.1 (j + 3) else u.2.1 j) (fun i s hi hs => by
    obtain ⟨s1, s2⟩ := s
    obtain ⟨a1, a2, a3⟩ := hs
    dsimp only at a1 a3
    subst a1
    unfold b_X8_goes_18
    dsimp only
    rw [q9, Option.bind_some, a3 9, if_pos rfl, pos3]
    rcases Nat.lt_or_ge i (22 + 3 * N) with h5 | h5
    · right
      refine ⟨h5, ?_⟩
      rw [if_neg (nI_ge h5 (by omega)), show (3 : Int32) = nI 3 from rfl, nI_add, aget_n (by omega) (by omega), Option.bind_some, aset_n (by omega) (by omega), Option.bind_some, nI_1]
      refine ⟨_, rfl, rfl, by omega, fun j => ?_⟩
      dsimp only
      rw [upd_if]
      by_cases c : j = i
      · subst c
        rw [if_pos rfl, a3 (j + 3), if_neg (by omega), if_neg (by omega), if_neg (by omega), if_pos ⟨a2, by omega⟩]
      · rw [if_neg c, a3 j]
        by_cases c9 : j = 9
        · rw [if_pos c9, if_pos c9]
        rw [if_neg c9, if_neg c9]
        by_cases c2 : 22 + 3 * k0 ≤ j ∧ j < i
        · rw [if_pos c2, if_pos ⟨c2.1, by omega⟩]
        · rw [if_neg c2, if_neg (by omega)]
    · left
      have : i = 22 + 3 * N := by omega
      subst this
      rw [if_pos (nI_le (Nat.le_refl _) (by omega))]
      exact ⟨_, rfl, a3⟩) 5000 (22 + 3 * k0) (nI (22 + 3 * k0), upd u.2.1 9 (nI N)) (by omega) (by omega) ⟨rfl, Nat.le_refl _, fun j => by
        show upd u.2.1 9 (nI N) j = _
        rw [upd_if]
        by_cases c : j = 9
        · rw [if_pos c, if_pos c]
        · rw [if_neg c, if_neg c, if_neg (by omega)]⟩
  rw [h1, Option.bind_some]
  obtain ⟨e', h3, h4⟩ := lp_run b_X8_goes_56 3 (fun i s => s.1 = nI i ∧ ∀ j, j < 22 + 3 * N → s.2 j = e j) (fun e' => ∀ j, j < 22 + 3 * N → e' j = e j) (fun i s hi hs => by
    obtain ⟨s1, s2⟩ := s
    obtain ⟨a1, a3⟩ := hs
    dsimp only at a1 a3
    subst a1
    unfold b_X8_goes_56
    dsimp only
    rcases Nat.lt_or_ge i 3 with h5 | h5
    · right
      refine ⟨h5, ?_⟩
      rw [if_neg (show ¬ (3 : Int32) ≤ nI i from nI_ge (b := 3) h5 (by omega)), q9, Option.bind_some, a3 9 (by omega), h2 9, if_pos rfl, pos3, nI_add, aset_n (by omega) (by omega), Option.bind_some, nI_1]
      refine ⟨_, rfl, rfl, fun j hj => ?_⟩
      dsimp only
      rw [upd_n (by omega)]
      exact a3 j hj
    · left
      have : i = 3 := by omega
      subst this
      rw [if_pos (show (3 : Int32) ≤ nI 3 by decide)]
      exact ⟨_, rfl, a3⟩) 5000 0 (0, e) (by omega) (by omega) ⟨rfl, fun j _ => rfl⟩
  rw [h3, Option.bind_some]
  refine ⟨e', rfl, fun j hj h9 => ?_, ?_, fun j hj1 hj2 => ?_⟩
  · rw [h4 j (by omega), h2 j, if_neg h9, if_neg (by omega)]
  · rw [h4 9 (by omega), h2 9, if_pos rfl]
  · rw [h4 j hj2, h2 j, if_neg (by omega)]
    by_cases c : 22 + 3 * k0 ≤ j
    · rw [if_pos ⟨c, hj2⟩, if_pos c]
    · rw [if_neg (by omega), if_neg c]
theorem R8_erase {s s' : zF} {A : AS} {k0 N : Nat} (h : R8 s A) (hN : (aL A).length = N + 1) (hk : k0 ≤ N) (g1 : ∀ j, j < 22 → j ≠ 9 → s' j = s j) (g2 : s' 9 = nI N) (g3 : ∀ j, 22 ≤ j → j < 22 + 3 * N → s' j = if 22 + 3 * k0 ≤ j then s (j + 3) else s j) : R8 s' ((aL A).eraseIdx k0, A.2) := by
  obtain ⟨h1, h2, h3, h4, h5, h6, h7⟩ := h
  have hle : ((aL A).eraseIdx k0).length = N := by
    rw [List.length_eraseIdx_of_lt (by omega), hN]
    rfl
  refine ⟨fun k x hx => ?_, ?_, ?_, fun d hd => ?_, ⟨?_, ?_, ?_⟩, ?_, ?_⟩
  · have hx' : ((aL A).eraseIdx k0)[k]? = some x := hx
    have hkN : k < N := by
      have := (List.getElem?_eq_some_iff.mp hx').1
      omega
    rw [g3 _ (by omega) (by omega), g3 _ (by omega) (by omega), g3 _ (by omega) (by omega)]
    rw [List.getElem?_eraseIdx] at hx'
    by_cases c : k < k0
    · rw [if_pos c] at hx'
      rw [if_neg (by omega), if_neg (by omega), if_neg (by omega)]
      exact h1 k x hx'
    · rw [if_neg c] at hx'
      rw [if_pos (by omega), if_pos (by omega), if_pos (by omega)]
      exact h1 (k + 1) x hx'
  · show s' 9 = nI ((aL A).eraseIdx k0).length
    rw [hle, g2]
  · rw [g1 _ (by omega) (by omega)]; exact h3
  · rw [g1 _ (by omega) (by omega)]; exact h4 d hd
  · rw [g1 _ (by omega) (by omega)]; exact h5.1
  · rw [g1 _ (by omega) (by omega)]; exact h5.2.1
  · rw [g1 _ (by omega) (by omega)]; exact h5.2.2
  · rw [g1 _ (by omega) (by omega)]; exact h6
  · rw [g1 _ (by omega) (by omega), g1 _ (by omega) (by omega), g1 _ (by omega) (by omega), g1 _ (by omega) (by omega)]; exact h7
theorem x8_picks {u : tX8} {A : AS} (h : R8 u.2.1 A) (hi : Inv A) {n : Int32} {x : It} (hx : fd (aL A) n = some x) (hw : wayA A x.2.2 ≠ 99) : ∃ s', f_X8_picks u n = some (nI (wayA A x.2.2).natAbs, (u.1, s', u.2.2)) ∧ R8 s' (takeA A n) := by
  cases e : ix (aL A) n with
  | none => rw [fd_no e] at hx; cases hx
  | some k =>
    obtain ⟨y, hy, h1, _, hm⟩ := fd_of e
    rw [hx] at h1
    cases h1
    have hlt := ix_lt e
    have hl := hi.1.1
    obtain ⟨N, hN⟩ : ∃ N, (aL A).length = N + 1 := ⟨(aL A).length - 1, by omega⟩
    have hd := (hi.1.wt hm).2.2
    obtain ⟨s1, h2, h3, h3b⟩ := x8_turns h hi hd hw
    obtain ⟨s2, h4, g1, g2, g3⟩ := x8_goes (u := (u.1, s1, u.2.2)) (N := N) (k0 := k) (by rw [← hN]; exact h3.2.1) (by omega) (by omega)
    have h6 := R8_erase (A := turnA A x.2.2) h3 hN (by omega) g1 g2 g3
    unfold f_X8_picks
    rw [x8_steps h hi hx, Option.bind_some, x8_place_of h hl, Option.bind_some]
    unfold sl
    rw [e]
    dsimp only
    rw [x8_of2 h (by omega) hy, Option.bind_some, h2, Option.bind_some, h4, Option.bind_some, q7, Option.bind_some, qs7, Option.bind_some]
    refine ⟨_, rfl, ?_⟩
    unfold takeA
    rw [hx]
    dsimp only
    rw [rm_erase hi.1.2.2 e]
    obtain ⟨a1, a2, a3, a4, a5, a6, a7⟩ := h6
    refine ⟨fun j z hz => ?_, ?_, ?_, fun d hd => ?_, ⟨?_, ?_, ?_⟩, ?_, ?_⟩
    · rw [upd_n (by omega), upd_n (by omega), upd_n (by omega)]
      exact a1 j z hz
    · rw [upd_n (by omega)]; exact a2
    · rw [upd_n (by omega)]; exact a3
    · rw [upd_n (by omega)]; exact a4 d hd
    · rw [upd_n (by omega)]; exact a5.1
    · rw [upd_n (by omega)]; exact a5.2.1
    · rw [upd_n (by omega)]; exact a5.2.2
    · rw [upd_n (by omega)]; exact a6
    · rw [upd_n (by omega), upd_n (by omega), upd_n (by omega), upd_s]
      show _ = cpk (cnt (aC A) (wayA A x.2.2))
      rw [show cnt (aC A) (wayA A x.2.2) = (s2 4, s2 5, s2 6, s2 7) from a7.symm]
      rfl
theorem reason0 {A : AS} {n : Int32} (h : reasonA A n = 0) : ∃ x, fd (aL A) n = some x ∧ aJ A x.2.2 = false ∧ wayA A x.2.2 ≠ 99 := by
  unfold reasonA at h
  cases e : fd (aL A) n with
  | none => rw [e] at h; cases h
  | some x =>
    rw [e] at h
    dsimp only at h
    refine ⟨x, rfl, ?_, ?_⟩
    · cases c : aJ A x.2.2 with
      | false => rfl
      | true => rw [if_pos c] at h; cases h
    · intro c
      rw [if_pos c] at h
      split at h <;> cases h
theorem reason_lt (A : AS) (n : Int32) : reasonA A n < 4 := by
  unfold reasonA
  split
  · omega
  · split
    · omega
    · split <;> omega
/-- a row of items is picked, up to the first that is refused -/
def pickRow : AS → List Int32 → Nat × AS
  | A, [] => (0, A)
  | A, n :: ns => if reasonA A n = 0 then ((pickRow (takeA A n) ns).1 + 1, (pickRow (takeA A n) ns).2) else (0, A)
theorem pickRow_Inv : ∀ {ns : List Int32} {A : AS}, Inv A → Inv (pickRow A ns).2 := by
  intro ns
  induction ns with
  | nil => intro A h; exact h
  | cons n ns ih =>
    intro A h
    unfold pickRow
    split
    · exact ih (h.take n)
    · exact h
theorem pickRow_le : ∀ {ns : List Int32} {A : AS}, (pickRow A ns).1 ≤ ns.length := by
  intro ns
  induction ns with
  | nil => intro A; exact Nat.le_refl 0
  | cons n ns ih =>
    intro A
    unfold pickRow
    split
    · exact Nat.succ_le_succ ih
    · exact Nat.zero_le _
theorem pickRow_yes {A : AS} {n : Int32} {ns : List Int32} (h : reasonA A n = 0) : pickRow A (n :: ns) = ((pickRow (takeA A n) ns).1 + 1, (pickRow (takeA A n) ns).2) := by
  show (if reasonA A n = 0 then ((pickRow (takeA A n) ns).1 + 1, (pickRow (takeA A n) ns).2) else (0, A)) = _
  rw [if_pos h]
theorem pickRow_no {A : AS} {n : Int32} {ns : List Int32} (h : reasonA A n ≠ 0) : pickRow A (n :: ns) = (0, A) := by
  show (if reasonA A n = 0 then ((pickRow (takeA A n) ns).1 + 1, (pickRow (takeA A n) ns).2) else (0, A)) = _
  rw [if_neg h]
theorem x5_row {u : tX6} {A : AS} (h : R6 u A) (hi : Inv A) {f : zF} {ns : List Int32} (hl : ns.length ≤ 6) (hf : ∀ k x, ns[k]? = some x → f k = x) : ∃ u', f_X5_pickInRow u f (nI ns.length) = some (nI (pickRow A ns).1, u') ∧ R6 u' (pickRow A ns).2 := by
  unfold f_X5_pickInRow
  obtain ⟨e, h1, h2⟩ := lp_run (b_X5_pickInRow_3 f (nI ns.length)) ns.length (fun k s => s.1 = nI k ∧ ∃ A', R6 s.2 A' ∧ Inv A' ∧ pickRow A ns = (k + (pickRow A' (ns.drop k)).1, (pickRow A' (ns.drop k)).2)) (fun e => e.1 = nI (pickRow A ns).1 ∧ R6 e.2 (pickRow A ns).2) (fun k s hk hs => by
    obtain ⟨s1, s2⟩ := s
    obtain ⟨a1, A', a2, a3, a4⟩ := hs
    dsimp only at a1 a2
    subst a1
    unfold b_X5_pickInRow_3
    dsimp only
    rcases Nat.lt_or_ge k ns.length with h5 | h5
    · have hx := List.getElem?_eq_getElem h5
      rw [if_neg (nI_ge h5 (by omega)), at_n (by omega) (by omega), hf k _ hx, x6_reason a2 a3, Option.bind_some]
      rw [List.drop_eq_getElem_cons h5] at a4
      by_cases c : reasonA A' ns[k] = 0
      · right
        refine ⟨h5, ?_⟩
        obtain ⟨x, b1, _, b2⟩ := reason0 c
        obtain ⟨u', b3, b4⟩ := x6_take a2 a3 b1 b2
        rw [c, if_pos (show nI 0 = 0 from rfl), b3, Option.bind_some, nI_1]
        refine ⟨_, rfl, rfl, _, b4, a3.take _, ?_⟩
        rw [a4, pickRow_yes c]
        dsimp only
        rw [Nat.add_assoc, Nat.add_comm 1]
      · left
        rw [if_neg (nz (by omega) (by have := reason_lt A' ns[k]; omega))]
        rw [pickRow_no c] at a4
        refine ⟨_, rfl, ?_, ?_⟩
        · rw [a4]; rfl
        · rw [a4]; exact a2
    · left
      have : k = ns.length := by omega
      subst this
      rw [if_pos (nI_le (Nat.le_refl _) (by omega))]
      rw [List.drop_length] at a4
      refine ⟨_, rfl, ?_, ?_⟩
      · rw [a4]; rfl
      · rw [a4]; exact a2) 5000 0 (0, u) (by omega) (by omega) ⟨rfl, A, h, hi, by rw [List.drop_zero, Nat.zero_add]⟩
  rw [h1]
  obtain ⟨e1, e2⟩ := e
  obtain ⟨b1, b2⟩ := h2
  dsimp only at b1 b2
  subst b1
  exact ⟨e2, rfl, b2⟩
abbrev mB (v : tX8) : zF := v.2.2.2.2.2.2.2.2.2.1
abbrev mN (v : tX8) : Int32 := v.2.2.2.2.2.2.2.2.2.2.1
abbrev mO (v : tX8) : zF := v.2.2.2.2.2.2.2.2.2.2.2.1
abbrev mBO (v : tX8) : zF := v.2.2.2.2.2.2.2.2.2.2.2.2.1
theorem x8_rowO {u : tX8} {A : AS} (h : R8 u.2.1 A) (hi : Inv A) {ns : List Int32} (hl : ns.length ≤ 6) (hn : mN u = nI ns.length) (hf : ∀ k x, ns[k]? = some x → ∃ j, j < 6 ∧ mO u k = nI j ∧ mB u j = x) : ∃ s', f_X8_picksBy_order u = some (nI (pickRow A ns).1, (u.1, s', u.2.2)) ∧ R8 s' (pickRow A ns).2 := by
  unfold f_X8_picksBy_order
  obtain ⟨e, h1, h2⟩ := lp_run b_X8_picksBy_order_2 ns.length (fun k s => s.1 = nI k ∧ ∃ s' A', s.2 = (u.1, s', u.2.2) ∧ R8 s' A' ∧ Inv A' ∧ pickRow A ns = (k + (pickRow A' (ns.drop k)).1, (pickRow A' (ns.drop k)).2)) (fun e => e.1 = nI (pickRow A ns).1 ∧ ∃ s', e.2 = (u.1, s', u.2.2) ∧ R8 s' (pickRow A ns).2) (fun k s hk hs => by
    obtain ⟨s1, s2⟩ := s
    obtain ⟨a1, s', A', a0, a2, a3, a4⟩ := hs
    dsimp only at a1 a0
    subst a1 a0
    unfold b_X8_picksBy_order_2
    dsimp only
    rw [show u.2.2.2.2.2.2.2.2.2.2.1 = nI ns.length from hn]
    rcases Nat.lt_or_ge k ns.length with h5 | h5
    · have hx := List.getElem?_eq_getElem h5
      obtain ⟨j, j1, j2, j3⟩ := hf k _ hx
      rw [if_neg (nI_ge h5 (by omega)), aget_n (by omega) (by omega), Option.bind_some, Option.bind_some, show u.2.2.2.2.2.2.2.2.2.2.2.1 k = nI j from j2, aget_n j1 (by omega), Option.bind_some, Option.bind_some, show u.2.2.2.2.2.2.2.2.2.1 j = ns[k] from j3, x8_reason (u := (u.1, s', u.2.2)) a2 a3, Option.bind_some]
      rw [List.drop_eq_getElem_cons h5] at a4
      by_cases c : reasonA A' ns[k] = 0
      · right
        refine ⟨h5, ?_⟩
        obtain ⟨x, b1, _, b2⟩ := reason0 c
        obtain ⟨u', b3, b4⟩ := x8_picks (u := (u.1, s', u.2.2)) a2 a3 b1 b2
        rw [c, if_pos (show nI 0 = 0 from rfl), b3, Option.bind_some, nI_1]
        refine ⟨_, rfl, rfl, _, _, rfl, b4, a3.take _, ?_⟩
        rw [a4, pickRow_yes c]
        dsimp only
        rw [Nat.add_assoc, Nat.add_comm 1]
      · left
        rw [if_neg (nz (by omega) (by have := reason_lt A' ns[k]; omega))]
        rw [pickRow_no c] at a4
        refine ⟨_, rfl, ?_, s', rfl, ?_⟩
        · rw [a4]; rfl
        · rw [a4]; exact a2
    · left
      have : k = ns.length := by omega
      subst this
      rw [if_pos (nI_le (Nat.le_refl _) (by omega))]
      rw [List.drop_length] at a4
      refine ⟨_, rfl, ?_, s', rfl, ?_⟩
      · rw [a4]; rfl
      · rw [a4]; exact a2) 5000 0 (0, u) (by omega) (by omega) ⟨rfl, u.2.1, A, rfl, h, hi, by rw [List.drop_zero, Nat.zero_add]⟩
  rw [h1]
  obtain ⟨e1, e2⟩ := e
  obtain ⟨b1, s', b0, b2⟩ := h2
  dsimp only at b1 b0
  subst b1 b0
  exact ⟨s', rfl, b2⟩
theorem x8_rowB {u : tX8} {A : AS} (h : R8 u.2.1 A) (hi : Inv A) {ns : List Int32} (hl : ns.length ≤ 6) (hn : mN u = nI ns.length) (hf : ∀ k x, ns[k]? = some x → ∃ j, j < 6 ∧ mBO u k = nI j ∧ mB u j = x) : ∃ s', f_X8_picksBy_bestOrder u = some (nI (pickRow A ns).1, (u.1, s', u.2.2)) ∧ R8 s' (pickRow A ns).2 := by
  unfold f_X8_picksBy_bestOrder
  obtain ⟨e, h1, h2⟩ := lp_run b_X8_picksBy_bestOrder_2 ns.length (fun k s => s.1 = nI k ∧ ∃ s' A', s.2 = (u.1, s', u.2.2) ∧ R8 s' A' ∧ Inv A' ∧ pickRow A ns = (k + (pickRow A' (ns.drop k)).1, (pickRow A' (ns.drop k)).2)) (fun e => e.1 = nI (pickRow A ns).1 ∧ ∃ s', e.2 = (u.1, s', u.2.2) ∧ R8 s' (pickRow A ns).2) (fun k s hk hs => by
    obtain ⟨s1, s2⟩ := s
    obtain ⟨a1, s', A', a0, a2, a3, a4⟩ := hs
    dsimp only at a1 a0
    subst a1 a0
    unfold b_X8_picksBy_bestOrder_2
    dsimp only
    rw [show u.2.2.2.2.2.2.2.2.2.2.1 = nI ns.length from hn]
    rcases Nat.lt_or_ge k ns.length with h5 | h5
    · have hx := List.getElem?_eq_getElem h5
      obtain ⟨j, j1, j2, j3⟩ := hf k _ hx
      rw [if_neg (nI_ge h5 (by omega)), aget_n (by omega) (by omega), Option.bind_some, Option.bind_some, show u.2.2.2.2.2.2.2.2.2.2.2.2.1 k = nI j from j2, aget_n j1 (by omega), Option.bind_some, Option.bind_some, show u.2.2.2.2.2.2.2.2.2.1 j = ns[k] from j3, x8_reason (u := (u.1, s', u.2.2)) a2 a3, Option.bind_some]
      rw [List.drop_eq_getElem_cons h5] at a4
      by_cases c : reasonA A' ns[k] = 0
      · right
        refine ⟨h5, ?_⟩
        obtain ⟨x, b1, _, b2⟩ := reason0 c
        obtain ⟨u', b3, b4⟩ := x8_picks (u := (u.1, s', u.2.2)) a2 a3 b1 b2
        rw [c, if_pos (show nI 0 = 0 from rfl), b3, Option.bind_some, nI_1]
        refine ⟨_, rfl, rfl, _, _, rfl, b4, a3.take _, ?_⟩
        rw [a4, pickRow_yes c]
        dsimp only
        rw [Nat.add_assoc, Nat.add_comm 1]
      · left
        rw [if_neg (nz (by omega) (by have := reason_lt A' ns[k]; omega))]
        rw [pickRow_no c] at a4
        refine ⟨_, rfl, ?_, s', rfl, ?_⟩
        · rw [a4]; rfl
        · rw [a4]; exact a2
    · left
      have : k = ns.length := by omega
      subst this
      rw [if_pos (nI_le (Nat.le_refl _) (by omega))]
      rw [List.drop_length] at a4
      refine ⟨_, rfl, ?_, s', rfl, ?_⟩
      · rw [a4]; rfl
      · rw [a4]; exact a2) 5000 0 (0, u) (by omega) (by omega) ⟨rfl, u.2.1, A, rfl, h, hi, by rw [List.drop_zero, Nat.zero_add]⟩
  rw [h1]
  obtain ⟨e1, e2⟩ := e
  obtain ⟨b1, s', b0, b2⟩ := h2
  dsimp only at b1 b0
  subst b1 b0
  exact ⟨s', rfl, b2⟩
