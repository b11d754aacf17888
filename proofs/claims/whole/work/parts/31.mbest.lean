/-! the reference's best order -/
def cpl (src : zF) (N : Nat) (b : Int32) (s : Int32 × zF) : Option ((Int32 × zF) ⊕ zF) := if b ≤ s.1 then some (.inr s.2) else (aget src N s.1).bind fun r => (aset s.2 N s.1 r).bind fun r' => some (.inl ((s.1 + 1), r'))
theorem cpl_run {src dst : zF} {N n : Nat} (hn : n ≤ N) (hN : N ≤ 1000) {b : Int32} (hb : b = nI n) : lp 5000 (cpl src N b) (0, dst) = some (cpy n src dst) := by
  subst hb
  have hst : ∀ k, k < n → cpl src N (nI n) ((fun k => (nI k, cpy k src dst)) k) = some (.inl ((fun k => (nI k, cpy k src dst)) (k + 1))) := by
    intro k hk
    unfold cpl
    dsimp only
    rw [if_neg (nI_ge hk (by omega)), aget_n (by omega) (by omega), Option.bind_some, aset_n (by omega) (by omega), Option.bind_some, nI_1]
    have : upd (cpy k src dst) k (src k) = cpy (k + 1) src dst := by
      funext j
      rw [upd_if]
      unfold cpy
      by_cases c : j = k
      · subst c
        rw [if_pos rfl, if_pos (Nat.lt_succ_self j)]
      · rw [if_neg c]
        by_cases c2 : j < k
        · rw [if_pos c2, if_pos (by omega)]
        · rw [if_neg c2, if_neg (by omega)]
    rw [this]
  have hen : cpl src N (nI n) ((fun k => (nI k, cpy k src dst)) n) = some (.inr (cpy n src dst)) := by
    unfold cpl
    dsimp only
    rw [if_pos (nI_le (Nat.le_refl _) (by omega))]
  exact lp_st _ n _ _ hst hen (by omega) (show (0, dst) = (nI 0, cpy 0 src dst) from rfl)
def idf (n : Nat) (dst : zF) : zF := fun k => if k < n then nI k else dst k
def idl (b : Int32) (s : Int32 × zF) : Option ((Int32 × zF) ⊕ zF) := if b ≤ s.1 then some (.inr s.2) else (aset s.2 6 s.1 s.1).bind fun r => some (.inl ((s.1 + 1), r))
theorem idl_run {dst : zF} {n : Nat} (hn : n ≤ 6) {b : Int32} (hb : b = nI n) : lp 5000 (idl b) (0, dst) = some (idf n dst) := by
  subst hb
  have hst : ∀ k, k < n → idl (nI n) ((fun k => (nI k, idf k dst)) k) = some (.inl ((fun k => (nI k, idf k dst)) (k + 1))) := by
    intro k hk
    unfold idl
    dsimp only
    rw [if_neg (nI_ge hk (by omega)), aset_n (by omega) (by omega), Option.bind_some, nI_1]
    have : upd (idf k dst) k (nI k) = idf (k + 1) dst := by
      funext j
      rw [upd_if]
      unfold idf
      by_cases c : j = k
      · subst c
        rw [if_pos rfl, if_pos (Nat.lt_succ_self j)]
      · rw [if_neg c]
        by_cases c2 : j < k
        · rw [if_pos c2, if_pos (by omega)]
        · rw [if_neg c2, if_neg (by omega)]
    rw [this]
  have hen : idl (nI n) ((fun k => (nI k, idf k dst)) n) = some (.inr (idf n dst)) := by
    unfold idl
    dsimp only
    rw [if_pos (nI_le (Nat.le_refl _) (by omega))]
  exact lp_st _ n _ _ hst hen (by omega) (show (0, dst) = (nI 0, idf 0 dst) from rfl)
theorem idf_Od {n : Nat} {dst : zF} : Od (idf n dst) (List.range n) := by
  intro k hk
  rw [List.length_range] at hk
  unfold idf
  rw [if_pos hk, List.getD_eq_getElem?_getD, List.getElem?_range hk]
  rfl
theorem cpy_Od {n : Nat} {o dst : zF} {l : List Nat} (hl : l.length = n) (h : Od o l) : Od (cpy n o dst) l := by
  intro k hk
  rw [cpy_at (by omega)]
  exact h k hk
def lI (x : Bl) : Int32 := match x with
  | none => -1
  | some y => nI y.1
def selO (n : Nat) (x : Bl) : List Nat := match x with
  | none => List.range n
  | some y => y.2
theorem blk_take (A : AS) (b : List Int32) (O : List (List Nat)) {k : Nat} {l : List Nat} (h : O[k]? = some l) : blk A b (O.take (k + 1)) = cmb (blk A b (O.take k)) (one A b l) := by
  obtain ⟨hk, rfl⟩ := List.getElem?_eq_some_iff.mp h
  rw [List.take_succ_eq_append_getElem hk, blk_app]
  show cmb _ (cmb (one A b O[k]) none) = _
  rw [cmb_none]
theorem one_le {A : AS} {b : List Int32} {o : List Nat} {x : Nat × List Nat} (h : one A b o = some x) : x.1 ≤ 11 * o.length := by
  unfold one at h
  cases e : tl A (o.map (gb b)) with
  | none => rw [e] at h; cases h
  | some t =>
    rw [e] at h
    cases h
    have := tl_le _ _ _ e
    rw [List.length_map] at this
    exact this
/-- the state's steps behind a row that is picked -/
theorem row_steps {s : zF} {A : AS} (h : R8 s A) : s 4 = (aC A).1 := congrArg Prod.fst h.2.2.2.2.2.2
theorem x8_loop {u : tX8} {A : AS} (hi : Inv A) {b : List Int32} {n : Nat} (h0 : 0 < n) (hn : n ≤ 6) (hst : R8 u.2.2.2.2.2.2.2.2.2.2.2.2.2.2.1 A) (hN : mN u = nI n) (hb : ∀ k, k < n → mB u k = gb b k) {s0 o0 b0 : zF} (hs0 : ∀ j, j < 142 → s0 j = u.2.2.2.2.2.2.2.2.2.2.2.2.2.2.1 j) (ho0 : Od o0 (List.range n)) (hb0 : Od b0 (List.range n)) :
    ∃ e, lp 5000 b_X8_laysBestOrder_58 (-1, true, (u.1, s0, u.2.2.1, u.2.2.2.1, u.2.2.2.2.1, u.2.2.2.2.2.1, u.2.2.2.2.2.2.1, u.2.2.2.2.2.2.2.1, u.2.2.2.2.2.2.2.2.1, u.2.2.2.2.2.2.2.2.2.1, u.2.2.2.2.2.2.2.2.2.2.1, o0, b0, u.2.2.2.2.2.2.2.2.2.2.2.2.2.1, u.2.2.2.2.2.2.2.2.2.2.2.2.2.2.1, u.2.2.2.2.2.2.2.2.2.2.2.2.2.2.2)) = some e ∧ ∃ s o bb, e = (u.1, s, u.2.2.1, u.2.2.2.1, u.2.2.2.2.1, u.2.2.2.2.2.1, u.2.2.2.2.2.2.1, u.2.2.2.2.2.2.2.1, u.2.2.2.2.2.2.2.2.1, u.2.2.2.2.2.2.2.2.2.1, u.2.2.2.2.2.2.2.2.2.2.1, o, bb, u.2.2.2.2.2.2.2.2.2.2.2.2.2.1, u.2.2.2.2.2.2.2.2.2.2.2.2.2.2.1, u.2.2.2.2.2.2.2.2.2.2.2.2.2.2.2) ∧ (∀ j, j < 142 → s j = u.2.2.2.2.2.2.2.2.2.2.2.2.2.2.1 j) ∧ Od bb (selO n (best A b n)) := by
  have hO0 := prm_first n (by omega)
  have hOl := prm_count n (by omega)
  have hOf := prm_facts n (by omega)
  refine lp_run b_X8_laysBestOrder_58 (prm n (List.range n)).length (fun k z => ∃ s o bb, z = (lI (blk A b ((prm n (List.range n)).take k)), decide (k < (prm n (List.range n)).length), (u.1, s, u.2.2.1, u.2.2.2.1, u.2.2.2.2.1, u.2.2.2.2.2.1, u.2.2.2.2.2.2.1, u.2.2.2.2.2.2.2.1, u.2.2.2.2.2.2.2.2.1, u.2.2.2.2.2.2.2.2.2.1, u.2.2.2.2.2.2.2.2.2.2.1, o, bb, u.2.2.2.2.2.2.2.2.2.2.2.2.2.1, u.2.2.2.2.2.2.2.2.2.2.2.2.2.2.1, u.2.2.2.2.2.2.2.2.2.2.2.2.2.2.2)) ∧ (∀ j, j < 142 → s j = u.2.2.2.2.2.2.2.2.2.2.2.2.2.2.1 j) ∧ Od bb (selO n (blk A b ((prm n (List.range n)).take k))) ∧ (∀ l, (prm n (List.range n))[k]? = some l → Od o l)) _ (fun k z hk hz => ?_) 5000 0 _ (by omega) (by omega) ⟨s0, o0, b0, by
    have h1 : 0 < (prm n (List.range n)).length := (List.getElem?_eq_some_iff.mp hO0).1
    rw [decide_eq_true h1]
    rfl, hs0, hb0, fun l hl => by
    rw [hO0] at hl
    cases hl
    exact ho0⟩
  obtain ⟨s, o, bb, rfl, g1, g2, g3⟩ := hz
  unfold b_X8_laysBestOrder_58
  dsimp only
  rcases Nat.lt_or_ge k (prm n (List.range n)).length with h5 | h5
  · right
    refine ⟨h5, ?_⟩
    have hx := List.getElem?_eq_getElem h5
    generalize hl : (prm n (List.range n))[k] = l at hx
    have hlm : l ∈ prm n (List.range n) := List.mem_of_getElem? hx
    obtain ⟨f1, f2⟩ := hOf l hlm
    have f6 : lt6 l := lt6_of (fun x hx => Nat.lt_of_lt_of_le (f2 x hx) hn)
    have hol := g3 l hx
    have hbl := blk_take A b _ hx
    have hRs : R8 s A := hst.congr hi.1.1 g1
    obtain ⟨s', hp, hR'⟩ := x8_rowO (u := (u.1, s, u.2.2.1, u.2.2.2.1, u.2.2.2.2.1, u.2.2.2.2.2.1, u.2.2.2.2.2.2.1, u.2.2.2.2.2.2.2.1, u.2.2.2.2.2.2.2.2.1, u.2.2.2.2.2.2.2.2.2.1, u.2.2.2.2.2.2.2.2.2.2.1, o, bb, u.2.2.2.2.2.2.2.2.2.2.2.2.2.1, u.2.2.2.2.2.2.2.2.2.2.2.2.2.2.1, u.2.2.2.2.2.2.2.2.2.2.2.2.2.2.2)) hRs hi (ns := l.map (gb b)) (by rw [List.length_map]; omega) (by rw [List.length_map, f1]; exact hN) (fun j x hj => by
      rw [List.getElem?_map] at hj
      cases e : l[j]? with
      | none => rw [e] at hj; cases hj
      | some y =>
        rw [e] at hj
        cases hj
        have hy := f2 y (List.mem_of_getElem? e)
        refine ⟨y, by omega, ?_, hb y hy⟩
        have := hol j (List.getElem?_eq_some_iff.mp e).1
        rw [List.getD_eq_getElem?_getD, e] at this
        exact this)
    replace hp : f_X8_picksBy_order (u.1, s, u.2.2.1, u.2.2.2.1, u.2.2.2.2.1, u.2.2.2.2.2.1, u.2.2.2.2.2.2.1, u.2.2.2.2.2.2.2.1, u.2.2.2.2.2.2.2.2.1, u.2.2.2.2.2.2.2.2.2.1, u.2.2.2.2.2.2.2.2.2.2.1, o, bb, u.2.2.2.2.2.2.2.2.2.2.2.2.2.1, u.2.2.2.2.2.2.2.2.2.2.2.2.2.2.1, u.2.2.2.2.2.2.2.2.2.2.2.2.2.2.2) = some (nI (pickRow A (l.map (gb b))).1, (u.1, s', u.2.2.1, u.2.2.2.1, u.2.2.2.2.1, u.2.2.2.2.2.1, u.2.2.2.2.2.2.1, u.2.2.2.2.2.2.2.1, u.2.2.2.2.2.2.2.2.1, u.2.2.2.2.2.2.2.2.2.1, u.2.2.2.2.2.2.2.2.2.2.1, o, bb, u.2.2.2.2.2.2.2.2.2.2.2.2.2.1, u.2.2.2.2.2.2.2.2.2.2.2.2.2.2.1, u.2.2.2.2.2.2.2.2.2.2.2.2.2.2.2)) := hp
    have fin : ∀ (s2 bb2 : zF) (least2 : Int32), (∀ j, j < 142 → s2 j = u.2.2.2.2.2.2.2.2.2.2.2.2.2.2.1 j) → Od bb2 (selO n (blk A b ((prm n (List.range n)).take (k + 1)))) → least2 = lI (blk A b ((prm n (List.range n)).take (k + 1))) → ∃ e, f_X8_hasNextOrder (u.1, s2, u.2.2.1, u.2.2.2.1, u.2.2.2.2.1, u.2.2.2.2.2.1, u.2.2.2.2.2.2.1, u.2.2.2.2.2.2.2.1, u.2.2.2.2.2.2.2.2.1, u.2.2.2.2.2.2.2.2.2.1, u.2.2.2.2.2.2.2.2.2.2.1, o, bb2, u.2.2.2.2.2.2.2.2.2.2.2.2.2.1, u.2.2.2.2.2.2.2.2.2.2.2.2.2.2.1, u.2.2.2.2.2.2.2.2.2.2.2.2.2.2.2) = some e ∧ ∃ s o bb, (least2, e.1, e.2) = (lI (blk A b ((prm n (List.range n)).take (k + 1))), decide (k + 1 < (prm n (List.range n)).length), (u.1, s, u.2.2.1, u.2.2.2.1, u.2.2.2.2.1, u.2.2.2.2.2.1, u.2.2.2.2.2.2.1, u.2.2.2.2.2.2.2.1, u.2.2.2.2.2.2.2.2.1, u.2.2.2.2.2.2.2.2.2.1, u.2.2.2.2.2.2.2.2.2.2.1, o, bb, u.2.2.2.2.2.2.2.2.2.2.2.2.2.1, u.2.2.2.2.2.2.2.2.2.2.2.2.2.2.1, u.2.2.2.2.2.2.2.2.2.2.2.2.2.2.2)) ∧ (∀ j, j < 142 → s j = u.2.2.2.2.2.2.2.2.2.2.2.2.2.2.1 j) ∧ Od bb (selO n (blk A b ((prm n (List.range n)).take (k + 1)))) ∧ (∀ l, (prm n (List.range n))[k + 1]? = some l → Od o l) := by
      intro s2 bb2 least2 c1 c2 c3
      obtain ⟨e, e1, e2⟩ := x8_nextO (u := (u.1, s2, u.2.2.1, u.2.2.2.1, u.2.2.2.2.1, u.2.2.2.2.2.1, u.2.2.2.2.2.2.1, u.2.2.2.2.2.2.2.1, u.2.2.2.2.2.2.2.2.1, u.2.2.2.2.2.2.2.2.2.1, u.2.2.2.2.2.2.2.2.2.2.1, o, bb2, u.2.2.2.2.2.2.2.2.2.2.2.2.2.1, u.2.2.2.2.2.2.2.2.2.2.2.2.2.2.1, u.2.2.2.2.2.2.2.2.2.2.2.2.2.2.2)) (l := l) (by omega) (by omega) f6 (by rw [f1]; exact hN) hol
      refine ⟨e, e1, ?_⟩
      rw [prm_next (by omega) h0 hx] at e2
      cases e3 : (prm n (List.range n))[k + 1]? with
      | none =>
        rw [e3] at e2
        have : ¬ k + 1 < (prm n (List.range n)).length := fun h => by
          rw [List.getElem?_eq_getElem h] at e3
          cases e3
        refine ⟨s2, o, bb2, ?_, c1, c2, fun l hl => by cases hl⟩
        rw [e2, c3, decide_eq_false this]
      | some m =>
        rw [e3] at e2
        obtain ⟨o', e4, e5⟩ := e2
        refine ⟨s2, o', bb2, ?_, c1, c2, fun l hl => by cases hl; exact e5⟩
        rw [e4, c3, decide_eq_true (List.getElem?_eq_some_iff.mp e3).1]
        rfl
    have hrow := tl_row (l.map (gb b)) A
    rw [List.length_map, f1] at hrow
    have hple := pickRow_le (ns := l.map (gb b)) (A := A)
    rw [List.length_map, f1] at hple
    rw [if_pos (decide_eq_true h5), hp, Option.bind_some]
    dsimp only
    have hcopy : ∀ j, j < 142 → cpy 142 u.2.2.2.2.2.2.2.2.2.2.2.2.2.2.1 s' j = u.2.2.2.2.2.2.2.2.2.2.2.2.2.2.1 j := fun j hj => cpy_at hj
    have hg : ∀ f : Option Int32, True := fun _ => trivial
    cases ht : tl A (l.map (gb b)) with
    | none =>
      have hone : one A b l = none := by
        unfold one
        rw [ht]
        rfl
      rw [hone, cmb_none] at hbl
      have h7 := hrow.1 ht
      rw [if_neg (fun e => by have := (nI_eq (by omega) (by omega)).mp (e.trans hN); omega), q4, Option.bind_some, q4, Option.bind_some]
      rw [show b_X8_laysBestOrder_101 (nI (pickRow A (l.map (gb b))).1, (u.1, s', u.2.2.1, u.2.2.2.1, u.2.2.2.2.1, u.2.2.2.2.2.1, u.2.2.2.2.2.2.1, u.2.2.2.2.2.2.2.1, u.2.2.2.2.2.2.2.2.1, u.2.2.2.2.2.2.2.2.2.1, u.2.2.2.2.2.2.2.2.2.2.1, o, bb, u.2.2.2.2.2.2.2.2.2.2.2.2.2.1, u.2.2.2.2.2.2.2.2.2.2.2.2.2.2.1, u.2.2.2.2.2.2.2.2.2.2.2.2.2.2.2)) = cpl u.2.2.2.2.2.2.2.2.2.2.2.2.2.2.1 142 142 from rfl, cpl_run (Nat.le_refl 142) (by omega) (show (142 : Int32) = nI 142 from rfl), Option.bind_some, if_pos rfl]
      obtain ⟨e, e1, e2⟩ := fin (cpy 142 u.2.2.2.2.2.2.2.2.2.2.2.2.2.2.1 s') bb (lI (blk A b ((prm n (List.range n)).take k))) hcopy (by rw [hbl]; exact g2) (by rw [hbl])
      rw [e1, Option.bind_some]
      exact ⟨_, rfl, e2⟩
    | some t =>
      have hone : one A b l = some (t, l) := by
        unfold one
        rw [ht]
        rfl
      have ht2 := tl_le _ _ _ ht
      rw [List.length_map] at ht2
      obtain ⟨h7, h8⟩ := hrow.2 t ht
      have hst4 : s' 4 - u.2.2.2.2.2.2.2.2.2.2.2.2.2.2.1 4 = nI t := by
        rw [row_steps hR', row_steps hst, h8, Int32.add_comm, Int32.add_sub_cancel]
      rw [if_pos (by rw [h7]; exact hN.symm), q4, Option.bind_some, q4, Option.bind_some, hst4]
      rw [show b_X8_laysBestOrder_101_2 (nI (pickRow A (l.map (gb b))).1, (u.1, s', u.2.2.1, u.2.2.2.1, u.2.2.2.2.1, u.2.2.2.2.2.1, u.2.2.2.2.2.2.1, u.2.2.2.2.2.2.2.1, u.2.2.2.2.2.2.2.2.1, u.2.2.2.2.2.2.2.2.2.1, u.2.2.2.2.2.2.2.2.2.2.1, o, bb, u.2.2.2.2.2.2.2.2.2.2.2.2.2.1, u.2.2.2.2.2.2.2.2.2.2.2.2.2.2.1, u.2.2.2.2.2.2.2.2.2.2.2.2.2.2.2)) = cpl u.2.2.2.2.2.2.2.2.2.2.2.2.2.2.1 142 142 from rfl, cpl_run (Nat.le_refl 142) (by omega) (show (142 : Int32) = nI 142 from rfl), Option.bind_some, if_neg (show ¬ (1 : Int32) = 0 by decide)]
      rw [hone] at hbl
      cases hq : blk A b ((prm n (List.range n)).take k) with
      | none =>
        rw [hq] at hbl
        rw [if_pos (show lI none = -1 from rfl)]
        rw [show b_X8_laysBestOrder_150_3 (nI (pickRow A (l.map (gb b))).1, (u.1, s', u.2.2.1, u.2.2.2.1, u.2.2.2.2.1, u.2.2.2.2.2.1, u.2.2.2.2.2.2.1, u.2.2.2.2.2.2.2.1, u.2.2.2.2.2.2.2.2.1, u.2.2.2.2.2.2.2.2.2.1, u.2.2.2.2.2.2.2.2.2.2.1, o, bb, u.2.2.2.2.2.2.2.2.2.2.2.2.2.1, u.2.2.2.2.2.2.2.2.2.2.2.2.2.2.1, u.2.2.2.2.2.2.2.2.2.2.2.2.2.2.2)) = cpl o 6 u.2.2.2.2.2.2.2.2.2.2.1 from rfl, cpl_run hn (by omega) hN, Option.bind_some]
        obtain ⟨e, e1, e2⟩ := fin (cpy 142 u.2.2.2.2.2.2.2.2.2.2.2.2.2.2.1 s') (cpy n o bb) (nI t) hcopy (by rw [hbl]; exact cpy_Od f1 hol) (by rw [hbl]; rfl)
        rw [e1, Option.bind_some]
        exact ⟨_, rfl, e2⟩
      | some y =>
        rw [hq] at hbl g2
        have hy : y.1 ≤ 66 := by
          have := blk_le A b 6 _ y (fun o ho => by
            have := (hOf o (List.mem_of_mem_take ho)).1
            omega) hq
          omega
        have hcm : cmb (some y) (some (t, l)) = if t < y.1 then some (t, l) else some y := rfl
        rw [if_neg (show ¬ lI (some y) = -1 from nI_nm1 (by omega))]
        by_cases c : y.1 ≤ t
        · rw [if_pos (show lI (some y) ≤ nI t from nI_le c (by omega))]
          rw [hcm, if_neg (by omega)] at hbl
          obtain ⟨e, e1, e2⟩ := fin (cpy 142 u.2.2.2.2.2.2.2.2.2.2.2.2.2.2.1 s') bb (lI (some y)) hcopy (by rw [hbl]; exact g2) (by rw [hbl])
          rw [e1, Option.bind_some]
          exact ⟨_, rfl, e2⟩
        · rw [if_neg (show ¬ lI (some y) ≤ nI t from nI_ge (by omega) (by omega))]
          rw [hcm, if_pos (by omega)] at hbl
          rw [show b_X8_laysBestOrder_150_4 (nI (pickRow A (l.map (gb b))).1, (u.1, s', u.2.2.1, u.2.2.2.1, u.2.2.2.2.1, u.2.2.2.2.2.1, u.2.2.2.2.2.2.1, u.2.2.2.2.2.2.2.1, u.2.2.2.2.2.2.2.2.1, u.2.2.2.2.2.2.2.2.2.1, u.2.2.2.2.2.2.2.2.2.2.1, o, bb, u.2.2.2.2.2.2.2.2.2.2.2.2.2.1, u.2.2.2.2.2.2.2.2.2.2.2.2.2.2.1, u.2.2.2.2.2.2.2.2.2.2.2.2.2.2.2)) = cpl o 6 u.2.2.2.2.2.2.2.2.2.2.1 from rfl, cpl_run hn (by omega) hN, Option.bind_some]
          obtain ⟨e, e1, e2⟩ := fin (cpy 142 u.2.2.2.2.2.2.2.2.2.2.2.2.2.2.1 s') (cpy n o bb) (nI t) hcopy (by rw [hbl]; exact cpy_Od f1 hol) (by rw [hbl]; rfl)
          rw [e1, Option.bind_some]
          exact ⟨_, rfl, e2⟩
  · left
    have hk2 : k = (prm n (List.range n)).length := by omega
    rw [hk2, List.take_length] at g2
    rw [if_neg (by simp; omega)]
    exact ⟨_, rfl, s, o, bb, rfl, g1, g2⟩
theorem x8_lays {u : tX8} {A : AS} (h : R8 u.2.1 A) (hi : Inv A) {b : List Int32} {n : Nat} (h0 : 0 < n) (hn : n ≤ 6) (hN : mN u = nI n) (hb : ∀ k, k < n → mB u k = gb b k) :
    ∃ s o bb st, f_X8_laysBestOrder u = some (u.1, s, u.2.2.1, u.2.2.2.1, u.2.2.2.2.1, u.2.2.2.2.2.1, u.2.2.2.2.2.2.1, u.2.2.2.2.2.2.2.1, u.2.2.2.2.2.2.2.2.1, u.2.2.2.2.2.2.2.2.2.1, u.2.2.2.2.2.2.2.2.2.2.1, o, bb, u.2.2.2.2.2.2.2.2.2.2.2.2.2.1, st, u.2.2.2.2.2.2.2.2.2.2.2.2.2.2.2) ∧ R8 s A ∧ Od bb (selO n (best A b n)) := by
  unfold f_X8_laysBestOrder f_X8_firstOrder
  rw [show b_X8_laysBestOrder_4 u = cpl u.2.1 142 142 from rfl, cpl_run (Nat.le_refl 142) (by omega) (show (142 : Int32) = nI 142 from rfl), Option.bind_some]
  dsimp only
  have h1 : R8 (cpy 142 u.2.1 u.2.2.2.2.2.2.2.2.2.2.2.2.2.2.1) A := h.congr hi.1.1 (fun j hj => cpy_at hj)
  rw [show b_X8_firstOrder_2 (u.1, u.2.1, u.2.2.1, u.2.2.2.1, u.2.2.2.2.1, u.2.2.2.2.2.1, u.2.2.2.2.2.2.1, u.2.2.2.2.2.2.2.1, u.2.2.2.2.2.2.2.2.1, u.2.2.2.2.2.2.2.2.2.1, u.2.2.2.2.2.2.2.2.2.2.1, u.2.2.2.2.2.2.2.2.2.2.2.1, u.2.2.2.2.2.2.2.2.2.2.2.2.1, u.2.2.2.2.2.2.2.2.2.2.2.2.2.1, (cpy 142 u.2.1 u.2.2.2.2.2.2.2.2.2.2.2.2.2.2.1), u.2.2.2.2.2.2.2.2.2.2.2.2.2.2.2) = idl u.2.2.2.2.2.2.2.2.2.2.1 from rfl, idl_run hn hN, Option.bind_some, Option.bind_some]
  rw [show b_X8_laysBestOrder_35 (u.1, u.2.1, u.2.2.1, u.2.2.2.1, u.2.2.2.2.1, u.2.2.2.2.2.1, u.2.2.2.2.2.2.1, u.2.2.2.2.2.2.2.1, u.2.2.2.2.2.2.2.2.1, u.2.2.2.2.2.2.2.2.2.1, u.2.2.2.2.2.2.2.2.2.2.1, (idf n u.2.2.2.2.2.2.2.2.2.2.2.1), u.2.2.2.2.2.2.2.2.2.2.2.2.1, u.2.2.2.2.2.2.2.2.2.2.2.2.2.1, (cpy 142 u.2.1 u.2.2.2.2.2.2.2.2.2.2.2.2.2.2.1), u.2.2.2.2.2.2.2.2.2.2.2.2.2.2.2) = idl u.2.2.2.2.2.2.2.2.2.2.1 from rfl]
  dsimp only
  rw [idl_run hn hN, Option.bind_some]
  obtain ⟨e, e1, s, o, bb, e2, e3, e4⟩ := x8_loop (u := (u.1, u.2.1, u.2.2.1, u.2.2.2.1, u.2.2.2.2.1, u.2.2.2.2.2.1, u.2.2.2.2.2.2.1, u.2.2.2.2.2.2.2.1, u.2.2.2.2.2.2.2.2.1, u.2.2.2.2.2.2.2.2.2.1, u.2.2.2.2.2.2.2.2.2.2.1, u.2.2.2.2.2.2.2.2.2.2.2.1, u.2.2.2.2.2.2.2.2.2.2.2.2.1, u.2.2.2.2.2.2.2.2.2.2.2.2.2.1, (cpy 142 u.2.1 u.2.2.2.2.2.2.2.2.2.2.2.2.2.2.1), u.2.2.2.2.2.2.2.2.2.2.2.2.2.2.2)) hi h0 hn h1 hN hb (s0 := u.2.1) (o0 := idf n u.2.2.2.2.2.2.2.2.2.2.2.1) (b0 := idf n u.2.2.2.2.2.2.2.2.2.2.2.2.1) (fun j hj => (cpy_at hj).symm) idf_Od idf_Od
  refine ⟨s, o, bb, cpy 142 u.2.1 u.2.2.2.2.2.2.2.2.2.2.2.2.2.2.1, ?_, h1.congr hi.1.1 e3, e4⟩
  rw [show lp 5000 b_X8_laysBestOrder_58 (-1, true, (u.1, u.2.1, u.2.2.1, u.2.2.2.1, u.2.2.2.2.1, u.2.2.2.2.2.1, u.2.2.2.2.2.2.1, u.2.2.2.2.2.2.2.1, u.2.2.2.2.2.2.2.2.1, u.2.2.2.2.2.2.2.2.2.1, u.2.2.2.2.2.2.2.2.2.2.1, (idf n u.2.2.2.2.2.2.2.2.2.2.2.1), (idf n u.2.2.2.2.2.2.2.2.2.2.2.2.1), u.2.2.2.2.2.2.2.2.2.2.2.2.2.1, (cpy 142 u.2.1 u.2.2.2.2.2.2.2.2.2.2.2.2.2.2.1), u.2.2.2.2.2.2.2.2.2.2.2.2.2.2.2)) = some e from e1, Option.bind_some, e2]
