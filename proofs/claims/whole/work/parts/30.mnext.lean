/-! the reference's next order, on lists and on its row -/
def fr (l : List Nat) : Nat → Option Nat
  | 0 => none
  | i + 1 => if l.getD (i + 1) 0 < l.getD i 0 then fr l i else some i
def wt (l : List Nat) (a : Nat) : Nat → Nat
  | 0 => 0
  | i + 1 => if l.getD (i + 1) 0 < a then wt l a i else i + 1
def sw (l : List Nat) (i j : Nat) : List Nat := (l.set i (l.getD j 0)).set j (l.getD i 0)
def rv (i n : Nat) : Nat → List Nat → Nat → List Nat
  | 0, l, _ => l
  | f + 1, l, k => if i + k < n - k then rv i n f (sw l (i + k) (n - k)) (k + 1) else l
def nxt (l : List Nat) : Option (List Nat) := match fr l (l.length - 1) with
  | none => none
  | some i => some (rv i l.length 6 (sw l i (wt l (l.getD i 0) (l.length - 1))) 1)
def ords : Nat → List Nat → List (List Nat)
  | 0, _ => []
  | f + 1, l => l :: (match nxt l with
    | none => []
    | some m => ords f m)
theorem ords_prm : ∀ n, n < 7 → 0 < n → ords 721 (List.range n) = prm n (List.range n) := by decide +kernel
theorem prm_count : ∀ n, n < 7 → (prm n (List.range n)).length ≤ 720 := by decide +kernel
theorem ords_step : ∀ (f : Nat) (l : List Nat) (k : Nat) (o : List Nat), (ords f l)[k]? = some o → k + 1 < f → nxt o = (ords f l)[k + 1]? := by
  intro f
  induction f with
  | zero => intro l k o _ h; exact absurd h (Nat.not_lt_zero _)
  | succ f ih =>
    intro l k o h hk
    cases k with
    | zero =>
      have h1 : l = o := Option.some.inj h
      subst h1
      show nxt l = (match nxt l with | none => [] | some m => ords f m)[0]?
      cases e : nxt l with
      | none => rfl
      | some m =>
        obtain ⟨g, rfl⟩ : ∃ g, f = g + 1 := ⟨f - 1, by omega⟩
        rfl
    | succ k =>
      have h1 : (match nxt l with | none => [] | some m => ords f m)[k]? = some o := h
      show nxt o = (match nxt l with | none => [] | some m => ords f m)[k + 1]?
      cases e : nxt l with
      | none => rw [e] at h1; cases h1
      | some m =>
        rw [e] at h1
        exact ih m k o h1 (by omega)
theorem prm_next {n : Nat} (hn : n < 7) (h0 : 0 < n) {k : Nat} {o : List Nat} (h : (prm n (List.range n))[k]? = some o) : nxt o = (prm n (List.range n))[k + 1]? := by
  have h1 := (List.getElem?_eq_some_iff.mp h).1
  have h2 := prm_count n hn
  rw [← ords_prm n hn h0] at h ⊢
  exact ords_step 721 _ k o h (by omega)
theorem prm_first : ∀ n, n < 7 → (prm n (List.range n))[0]? = some (List.range n) := by decide +kernel
def Od (o : zF) (l : List Nat) : Prop := ∀ k, k < l.length → o k = nI (l.getD k 0)
def lt6 (l : List Nat) : Prop := ∀ k, l.getD k 0 < 6
theorem lt6_of {l : List Nat} (h : ∀ x ∈ l, x < 6) : lt6 l := by
  intro k
  rw [List.getD_eq_getElem?_getD]
  cases e : l[k]? with
  | none => exact (by decide : 0 < 6)
  | some x => exact h x (List.mem_of_getElem? e)
theorem sw_len (l : List Nat) (i j : Nat) : (sw l i j).length = l.length := by
  unfold sw
  rw [List.length_set, List.length_set]
theorem getD_set (l : List Nat) (i k x : Nat) : (l.set i x).getD k 0 = if k = i ∧ i < l.length then x else l.getD k 0 := by
  rw [List.getD_eq_getElem?_getD, List.getD_eq_getElem?_getD, List.getElem?_set]
  by_cases c : i = k
  · subst c
    rw [if_pos rfl]
    by_cases c2 : i < l.length
    · rw [if_pos c2, if_pos ⟨rfl, c2⟩]
      rfl
    · rw [if_neg c2, if_neg (fun e => c2 e.2), List.getElem?_eq_none (by omega)]
  · rw [if_neg c, if_neg (fun e => c e.1.symm)]
theorem sw_lt6 {l : List Nat} (h : lt6 l) (i j : Nat) : lt6 (sw l i j) := by
  intro k
  unfold sw
  rw [getD_set, getD_set]
  split
  · exact h i
  · split
    · exact h j
    · exact h k
theorem sw_Od {o : zF} {l : List Nat} (h : Od o l) {i j : Nat} (hi : i < l.length) (hj : j < l.length) : Od (upd (upd o i (o j)) j (o i)) (sw l i j) := by
  intro k hk
  rw [sw_len] at hk
  unfold sw
  rw [getD_set, getD_set, List.length_set, upd_if, upd_if]
  by_cases c1 : k = j
  · rw [if_pos c1, if_pos ⟨c1, hj⟩]
    exact h i hi
  · rw [if_neg c1]
    by_cases c2 : k = i
    · rw [if_pos c2, if_neg (fun e => c1 e.1), if_pos ⟨c2, hi⟩]
      exact h j hj
    · rw [if_neg c2, if_neg (fun e => c1 e.1), if_neg (fun e => c2 e.1)]
      exact h k hk
theorem fr_some {l : List Nat} : ∀ {m i : Nat}, fr l m = some i → i < m ∧ ¬ l.getD (i + 1) 0 < l.getD i 0 := by
  intro m
  induction m with
  | zero => intro i h; cases h
  | succ m ih =>
    intro i h
    unfold fr at h
    by_cases c : l.getD (m + 1) 0 < l.getD m 0
    · rw [if_pos c] at h
      have := ih h
      exact ⟨by omega, this.2⟩
    · rw [if_neg c] at h
      cases h
      exact ⟨by omega, c⟩
theorem wt_le (l : List Nat) (a : Nat) : ∀ m, wt l a m ≤ m := by
  intro m
  induction m with
  | zero => exact Nat.le_refl 0
  | succ m ih =>
    unfold wt
    split
    · omega
    · exact Nat.le_refl _
def wO (u : tX8) (o : zF) : tX8 := (u.1, u.2.1, u.2.2.1, u.2.2.2.1, u.2.2.2.2.1, u.2.2.2.2.2.1, u.2.2.2.2.2.2.1, u.2.2.2.2.2.2.2.1, u.2.2.2.2.2.2.2.2.1, u.2.2.2.2.2.2.2.2.2.1, u.2.2.2.2.2.2.2.2.2.2.1, o, u.2.2.2.2.2.2.2.2.2.2.2.2)
theorem x8_swaps (u : tX8) {i j : Nat} (hi : i < 6) (hj : j < 6) : f_X8_swaps u (nI i) (nI j) = some (wO u (upd (upd (mO u) i (mO u j)) j (mO u i))) := by
  unfold f_X8_swaps
  rw [aget_n hi (by omega), aget_n hj (by omega), Option.bind_some, Option.bind_some, aset_n hi (by omega), Option.bind_some, aset_n hj (by omega), Option.bind_some]
  rfl
def sI (m : Nat) : Int32 := zI ((m : Int) - 1)
theorem sI_s (i : Nat) : sI (i + 1) = nI i := by
  unfold sI
  rw [nI_zI]
  congr 1
  omega
theorem sI_p (i : Nat) : nI i + -1 = sI i := by
  unfold sI
  rw [nI_zI, show (-1 : Int32) = zI (-1) by decide +kernel, zI_add]
  congr 1
theorem x8_fr {u : tX8} {l : List Nat} (hl : l.length ≤ 6) (h6 : lt6 l) (ho : Od (mO u) l) : ∀ m, m < l.length → lp 5000 (b_X8_hasNextOrder_7 u) (sI m) = some (match fr l m with | none => -1 | some i => nI i) := by
  intro m hm
  obtain ⟨e, h1, h2⟩ := lp_run (b_X8_hasNextOrder_7 u) m (fun k s => s = sI (m - k) ∧ fr l m = fr l (m - k)) (fun e => e = (match fr l m with | none => -1 | some i => nI i)) (fun k s hk hs => by
    obtain ⟨rfl, hs⟩ := hs
    unfold b_X8_hasNextOrder_7
    rcases Nat.lt_or_ge k m with h5 | h5
    · obtain ⟨i, hi⟩ : ∃ i, m - k = i + 1 := ⟨m - k - 1, by omega⟩
      rw [hi] at hs ⊢
      rw [sI_s, if_neg (nI_pos (by omega)), aget_n (by omega) (by omega), nI_1, aget_n (by omega) (by omega), Option.bind_some, Option.bind_some, show u.2.2.2.2.2.2.2.2.2.2.2.1 i = nI (l.getD i 0) from ho i (by omega), show u.2.2.2.2.2.2.2.2.2.2.2.1 (i + 1) = nI (l.getD (i + 1) 0) from ho (i + 1) (by omega)]
      have g1 := h6 i
      have g2 := h6 (i + 1)
      have hs2 : fr l m = if l.getD (i + 1) 0 < l.getD i 0 then fr l i else some i := hs
      by_cases c : l.getD (i + 1) 0 < l.getD i 0
      · right
        rw [if_pos c] at hs2
        rw [if_neg (nI_ge c (by omega)), sI_p]
        exact ⟨h5, _, rfl, by rw [show m - (k + 1) = i by omega], by rw [show m - (k + 1) = i by omega]; exact hs2⟩
      · left
        rw [if_neg c] at hs2
        rw [if_pos (nI_le (by omega) (by omega)), hs2]
        exact ⟨_, rfl, rfl⟩
    · left
      have : m - k = 0 := by omega
      rw [this] at hs ⊢
      rw [if_pos (show sI 0 < 0 by decide +kernel), hs]
      exact ⟨_, rfl, by show sI 0 = -1; decide +kernel⟩) 5000 0 (sI m) (by omega) (by omega) ⟨rfl, rfl⟩
  rw [h1, h2]
theorem x8_wt {u : tX8} {l : List Nat} (hl : l.length ≤ 6) (h6 : lt6 l) (ho : Od (mO u) l) {i m : Nat} (him : i < m) (hm : m < l.length) (hc : ¬ l.getD (i + 1) 0 < l.getD i 0) : lp 5000 (b_X8_hasNextOrder_47 u (nI i)) (nI m) = some (nI (wt l (l.getD i 0) m)) := by
  obtain ⟨e, h1, h2⟩ := lp_run (b_X8_hasNextOrder_47 u (nI i)) m (fun k s => s = nI (m - k) ∧ i < m - k ∧ wt l (l.getD i 0) m = wt l (l.getD i 0) (m - k)) (fun e => e = nI (wt l (l.getD i 0) m)) (fun k s hk hs => by
    obtain ⟨rfl, hs1, hs⟩ := hs
    obtain ⟨j, hj⟩ : ∃ j, m - k = j + 1 := ⟨m - k - 1, by omega⟩
    rw [hj] at hs hs1 ⊢
    unfold b_X8_hasNextOrder_47
    rw [aget_n (by omega) (by omega), aget_n (by omega) (by omega), Option.bind_some, Option.bind_some, show u.2.2.2.2.2.2.2.2.2.2.2.1 i = nI (l.getD i 0) from ho i (by omega), show u.2.2.2.2.2.2.2.2.2.2.2.1 (j + 1) = nI (l.getD (j + 1) 0) from ho (j + 1) (by omega)]
    have g1 := h6 i
    have g2 := h6 (j + 1)
    have hs2 : wt l (l.getD i 0) m = if l.getD (j + 1) 0 < l.getD i 0 then wt l (l.getD i 0) j else j + 1 := hs
    by_cases c : l.getD (j + 1) 0 < l.getD i 0
    · right
      rw [if_pos c] at hs2
      have hij : i ≠ j := fun e => hc (by rw [e] at c ⊢; exact c)
      rw [if_neg (nI_ge c (by omega)), pk_m1]
      exact ⟨by omega, _, rfl, by rw [show m - (k + 1) = j by omega], by omega, by rw [show m - (k + 1) = j by omega]; exact hs2⟩
    · left
      rw [if_neg c] at hs2
      rw [if_pos (nI_le (by omega) (by omega)), hs2]
      exact ⟨_, rfl, rfl⟩) 5000 0 (nI m) (by omega) (by omega) ⟨rfl, him, rfl⟩
  rw [h1, h2]
theorem x8_rv {u : tX8} {n i : Nat} (hn : n ≤ 6) (hi : i < n) (hN : mN u = nI n) {l : List Nat} (hl : l.length = n) {o : zF} (ho : Od o l) : ∃ o', lp 5000 (b_X8_hasNextOrder_76 (nI i)) (1, wO u o) = some (wO u o') ∧ Od o' (rv i n 6 l 1) ∧ (rv i n 6 l 1).length = n := by
  obtain ⟨e, h1, o', h2, h3, h4⟩ := lp_run (b_X8_hasNextOrder_76 (nI i)) 7 (fun k s => s.1 = nI k ∧ 1 ≤ k ∧ ∃ o' l', s.2 = wO u o' ∧ Od o' l' ∧ l'.length = n ∧ rv i n 6 l 1 = rv i n (7 - k) l' k) (fun e => ∃ o', e = wO u o' ∧ Od o' (rv i n 6 l 1) ∧ (rv i n 6 l 1).length = n) (fun k s hk hs => by
    obtain ⟨s1, s2⟩ := s
    obtain ⟨a1, a2, o', l', a3, a4, a5, a6⟩ := hs
    dsimp only at a1 a3
    subst a1 a3
    unfold b_X8_hasNextOrder_76
    dsimp only
    rw [show (wO u o').2.2.2.2.2.2.2.2.2.2.1 = nI n from hN, nI_add]
    rcases Nat.lt_or_ge n k with h5 | h5
    · left
      have hm : nI n - nI k = zI ((n : Int) - k) := by rw [nI_zI, nI_zI, zI_sub]
      rw [hm, nI_zI (i + k), if_pos ((zI_le (by omega) (by omega) (by omega) (by omega)).mpr (by omega))]
      refine ⟨_, rfl, o', rfl, ?_⟩
      have : rv i n 6 l 1 = l' := by
        rw [a6]
        rcases h7 : 7 - k with _ | f
        · rfl
        · show (if i + k < n - k then _ else l') = l'
          rw [if_neg (by omega)]
      rw [this]
      exact ⟨a4, a5⟩
    · obtain ⟨f, hf⟩ : ∃ f, 7 - k = f + 1 := ⟨6 - k, by omega⟩
      rw [pk_sub h5]
      rw [hf] at a6
      have a7 : rv i n 6 l 1 = if i + k < n - k then rv i n f (sw l' (i + k) (n - k)) (k + 1) else l' := a6
      by_cases c : i + k < n - k
      · right
        rw [if_pos c] at a7
        rw [if_neg (nI_ge c (by omega)), x8_swaps _ (by omega) (by omega), Option.bind_some, nI_1]
        exact ⟨by omega, _, rfl, rfl, by omega, _, _, rfl, sw_Od a4 (by omega) (by omega), by rw [sw_len, a5], by rw [a7, show 7 - (k + 1) = f by omega]⟩
      · left
        rw [if_neg c] at a7
        rw [if_pos (nI_le (by omega) (by omega)), a7]
        exact ⟨_, rfl, o', rfl, a4, a5⟩) 5000 1 (1, wO u o) (by omega) (by omega) ⟨rfl, Nat.le_refl 1, o, l, rfl, ho, hl, rfl⟩
  rw [h1, h2]
  exact ⟨o', rfl, h3, h4⟩
theorem x8_nextO {u : tX8} {l : List Nat} (h0 : 0 < l.length) (hl : l.length ≤ 6) (h6 : lt6 l) (hN : mN u = nI l.length) (ho : Od (mO u) l) : ∃ e, f_X8_hasNextOrder u = some e ∧ (match nxt l with | none => e = (false, u) | some m => ∃ o', e = (true, wO u o') ∧ Od o' m) := by
  unfold f_X8_hasNextOrder nxt
  have h1 : u.2.2.2.2.2.2.2.2.2.2.1 - 2 = sI (l.length - 1) := by
    rw [show u.2.2.2.2.2.2.2.2.2.2.1 = nI l.length from hN, nI_zI, show (2 : Int32) = zI 2 from rfl, zI_sub]
    unfold sI
    congr 1
    omega
  rw [h1, x8_fr hl h6 ho _ (by omega), Option.bind_some]
  cases e : fr l (l.length - 1) with
  | none =>
    exact ⟨_, if_neg (by decide), rfl⟩
  | some i =>
    obtain ⟨h2, h3⟩ := fr_some e
    have h4 : u.2.2.2.2.2.2.2.2.2.2.1 - 1 = nI (l.length - 1) := by
      rw [show u.2.2.2.2.2.2.2.2.2.2.1 = nI l.length from hN, show (1 : Int32) = nI 1 from rfl, pk_sub (by omega)]
    have h5 := wt_le l (l.getD i 0) (l.length - 1)
    dsimp only
    rw [if_pos (nI_pos' (by omega)), h4, x8_wt hl h6 ho h2 (by omega) h3, Option.bind_some, x8_swaps _ (by omega) (by omega), Option.bind_some]
    obtain ⟨o', h7, h8, _⟩ := x8_rv (u := u) hl (i := i) (by omega) hN (l := sw l i (wt l (l.getD i 0) (l.length - 1))) (sw_len _ _ _) (sw_Od ho (by omega) (by omega))
    rw [h7, Option.bind_some]
    exact ⟨_, rfl, o', rfl, h8⟩
