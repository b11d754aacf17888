/-! the class's search, whole -/
def TB (u : tX4) (A : AS) (b : List Int32) (n : Nat) (dk : Nat → Nat) (S0 : Nat) : Prop := ∀ S l, S0 ≤ S → S < 2 ^ n → l < n → S.testBit l = true → u.2.2.2.2.1 (6 * S + l) = val (VV A b n S (dk l)) ∧ u.2.2.2.2.2.1 (6 * S + l) = nk (VV A b n S (dk l))
theorem or_gt {S k : Nat} (h : S.testBit k = false) : S + 1 ≤ S ||| 2 ^ k := by
  have h1 : S ≤ S ||| 2 ^ k := Nat.left_le_or
  have h2 : S ≠ S ||| 2 ^ k := by
    intro e
    have := or_bit S k k
    rw [← e, h, decide_eq_true rfl] at this
    cases this
  omega
theorem blk_mem (A : AS) (b : List Int32) : ∀ os x, blk A b os = some x → x.2 ∈ os ∧ tl A (x.2.map (gb b)) = some x.1 := by
  intro os
  induction os with
  | nil => intro x h; cases h
  | cons o os ih =>
    intro x h
    rcases cmb_cases (one A b o) (blk A b os) with c | c
    · have h1 : one A b o = some x := c.symm.trans h
      unfold one at h1
      cases e : tl A (o.map (gb b)) with
      | none => rw [e] at h1; cases h1
      | some t =>
        rw [e] at h1
        cases h1
        exact ⟨List.mem_cons_self, e⟩
    · obtain ⟨h1, h2⟩ := ih x (c.symm.trans h)
      exact ⟨List.mem_cons_of_mem _ h1, h2⟩
theorem prm_facts : ∀ n, n < 7 → ∀ o ∈ prm n (List.range n), o.length = n ∧ ∀ x ∈ o, x < n := by decide +kernel
theorem VV_uncons {A : AS} {b : List Int32} {n : Nat} {dk : Nat → Nat} (h : Bt A b n dk) {S w t : Nat} {o : List Nat} (hv : VV A b n S w = some (t, o)) (hr : remS n S ≠ []) : ∃ k o', o = k :: o' ∧ k < n ∧ S.testBit k = false ∧ ∃ t', VV A b n (S ||| 2 ^ k) (dk k) = some (t', o') := by
  rw [VV_step h S w hr] at hv
  obtain ⟨k, h1, h2⟩ := fb_mem _ _ _ hv
  obtain ⟨h3, h4⟩ := remS_mem.mp h1
  unfold gV at h2
  by_cases c : wayA (sA A b n S w) (dk k) = 99
  · rw [if_pos c] at h2; cases h2
  · rw [if_neg c] at h2
    cases e : VV A b n (S ||| 2 ^ k) (dk k) with
    | none => rw [e] at h2; cases h2
    | some x =>
      rw [e] at h2
      have h5 : ((wayA (sA A b n S w) (dk k)).natAbs + x.1, k :: x.2) = (t, o) := Option.some.inj h2
      have h6 : k :: x.2 = o := congrArg Prod.snd h5
      exact ⟨k, x.2, h6.symm, h3, h4, x.1, e⟩
theorem x4_inner {u : tX4} {A : AS} (hi : Inv A) {b : List Int32} {n : Nat} {dk wk : Nat → Nat} (hn : n ≤ 6) (hs : Hs u A b n dk wk) {S : Nat} (hS : S < 2 ^ n) (hbal : u.2.2.2.2.2.2.2 = nI (bs (okA (sA A b n S 0)) 12)) (ht : TB u A b n dk (S + 1)) (s26 : Int32 × tX4) (h26 : s26.1 = nI S) :
    ∃ e, lp 5000 (b_X4_findOrder_41 s26) (0, u) = some e ∧ (Hs e A b n dk wk ∧ TB e A b n dk S) := by
  have h64 : 2 ^ n ≤ 2 ^ 6 := Nat.pow_le_pow_right (by omega) hn
  refine lp_run (b_X4_findOrder_41 s26) n (fun l s => s.1 = nI l ∧ Hs s.2 A b n dk wk ∧ s.2.2.2.2.2.2.2.2 = nI (bs (okA (sA A b n S 0)) 12) ∧ TB s.2 A b n dk (S + 1) ∧ ∀ j, j < l → S.testBit j = true → s.2.2.2.2.2.1 (6 * S + j) = val (VV A b n S (dk j)) ∧ s.2.2.2.2.2.2.1 (6 * S + j) = nk (VV A b n S (dk j))) _ (fun l s hl hs' => ?_) 5000 0 (0, u) (by omega) (by omega) ⟨rfl, hs, hbal, ht, fun j hj => absurd hj (Nat.not_lt_zero _)⟩
  obtain ⟨s1, s2⟩ := s
  obtain ⟨a1, a2, a3, a4, a5⟩ := hs'
  dsimp only at a1 a2 a3 a4 a5
  subst a1
  unfold b_X4_findOrder_41
  dsimp only
  rw [a2.1, h26]
  rcases Nat.lt_or_ge l n with h5 | h5
  · right
    refine ⟨h5, ?_⟩
    rw [if_neg (nI_ge h5 (by omega)), isIn6 S (by omega) l (by omega)]
    by_cases c : S.testBit l = true
    · rw [if_pos c, at_n (by omega) (by omega), (a2.2.1 l h5).1, x4_next hi hn a2 hS (by omega) (a2.dk hi h5).1 a3 (fun k hk hb => (a4 (S ||| 2 ^ k) k (or_gt hb) (Nat.or_lt_two_pow hS (Nat.pow_lt_pow_right (by omega) hk)) hk (by rw [or_bit, decide_eq_true rfl, Bool.or_true])).1), Option.bind_some, nI_1]
      refine ⟨_, rfl, rfl, ⟨a2.1, a2.2.1, a2.2.2⟩, a3, fun S' l' h1 h2 h3 h4 => ?_, fun j hj hb => ?_⟩
      · dsimp only
        rw [upd_n (by omega), upd_n (by omega)]
        exact a4 S' l' h1 h2 h3 h4
      · dsimp only
        by_cases c2 : j = l
        · subst c2
          rw [upd_s, upd_s]
          exact ⟨rfl, rfl⟩
        · rw [upd_n (by omega), upd_n (by omega)]
          exact a5 j (by omega) hb
    · rw [if_neg c, nI_1]
      refine ⟨_, rfl, rfl, a2, a3, a4, fun j hj hb => ?_⟩
      by_cases c2 : j = l
      · subst c2
        exact absurd hb c
      · exact a5 j (by omega) hb
  · left
    have : l = n := by omega
    subst this
    rw [if_pos (nI_le (Nat.le_refl _) (by omega))]
    refine ⟨_, rfl, a2, fun S' l' h1 h2 h3 h4 => ?_⟩
    by_cases c2 : S' = S
    · subst c2
      exact a5 l' h3 h4
    · exact a4 S' l' (by omega) h2 h3 h4
theorem x4_outer {u : tX4} {v : tX6} {A : AS} (h : R6 v A) (hi : Inv A) {b : List Int32} {n : Nat} {dk wk : Nat → Nat} (hn : n ≤ 6) (hs : Hs u A b n dk wk) :
    ∃ e, lp 5000 (b_X4_findOrder_26 v) (nI (2 ^ n - 1), u) = some e ∧ (Hs e A b n dk wk ∧ TB e A b n dk 1) := by
  have h64 : 2 ^ n ≤ 2 ^ 6 := Nat.pow_le_pow_right (by omega) hn
  have h0 := Nat.two_pow_pos n
  refine lp_run (b_X4_findOrder_26 v) (2 ^ n - 1) (fun m s => s.1 = nI (2 ^ n - 1 - m) ∧ Hs s.2 A b n dk wk ∧ TB s.2 A b n dk (2 ^ n - m)) _ (fun m s hm hs' => ?_) 5000 0 (nI (2 ^ n - 1), u) (by omega) (by omega) ⟨rfl, hs, fun S l h1 h2 _ _ => by omega⟩
  obtain ⟨s1, s2⟩ := s
  obtain ⟨a1, a2, a3⟩ := hs'
  dsimp only at a1 a2 a3
  subst a1
  unfold b_X4_findOrder_26
  dsimp only
  rcases Nat.lt_or_ge m (2 ^ n - 1) with h5 | h5
  · right
    refine ⟨h5, ?_⟩
    obtain ⟨z, hz⟩ := x4_out h hi hn a2 (S := 2 ^ n - 1 - m) (by omega) 0
    rw [if_neg (show ¬ nI (2 ^ n - 1 - m) ≤ (0 : Int32) from nI_nle (by omega) (by omega)), hz, Option.bind_some]
    obtain ⟨e, h6, h7, h8⟩ := x4_inner (u := (s2.1, z, s2.2.2.1, s2.2.2.2.1, s2.2.2.2.2.1, s2.2.2.2.2.2.1, s2.2.2.2.2.2.2.1, nI (bs (okA (sA A b n (2 ^ n - 1 - m) 0)) 12))) hi hn ⟨a2.1, a2.2.1, a2.2.2⟩ (S := 2 ^ n - 1 - m) (by omega) rfl (by
      rw [show 2 ^ n - 1 - m + 1 = 2 ^ n - m by omega]
      exact a3) (nI (2 ^ n - 1 - m), s2) rfl
    rw [h6, Option.bind_some]
    refine ⟨_, rfl, ?_, h7, ?_⟩
    · show nI (2 ^ n - 1 - m) + -1 = _
      obtain ⟨q, hq⟩ : ∃ q, 2 ^ n - 1 - m = q + 1 := ⟨2 ^ n - 1 - m - 1, by omega⟩
      rw [hq, pk_m1]
      congr 1
      omega
    · rw [show 2 ^ n - (m + 1) = 2 ^ n - 1 - m by omega]
      exact h8
  · left
    have hm2 : 2 ^ n - 1 - m = 0 := by omega
    rw [hm2, if_pos (show nI 0 ≤ (0 : Int32) by decide)]
    refine ⟨_, rfl, a2, ?_⟩
    have : 2 ^ n - m = 1 := by omega
    rw [this] at a3
    exact a3
theorem x4_follow {u : tX4} {A : AS} {b : List Int32} {n : Nat} {dk wk : Nat → Nat} (hn : n ≤ 6) (hs : Hs u A b n dk wk) (ht : TB u A b n dk 1) {f : zF} (hf : ∀ k, k < n → f k = gb b k) {W t : Nat} {o : List Nat} (hv : VV A b n 0 W = some (t, o)) (h0 : u.2.2.2.2.2.1 0 = nk (VV A b n 0 W)) :
    ∃ z, f_X4_followOrder u f = some (z, u.2) ∧ ∀ j, j < n → z j = gb b (o.getD j 0) := by
  have h64 : 2 ^ n ≤ 2 ^ 6 := Nat.pow_le_pow_right (by omega) hn
  have h00 := Nat.two_pow_pos n
  obtain ⟨e, h1, h2⟩ := lp_run (b_X4_followOrder_7 u f) n (fun k s => ∃ S l w t', s.1 = nI S ∧ s.2.1 = nI l ∧ s.2.2.1 = nI k ∧ S < 2 ^ n ∧ l < 6 ∧ u.2.2.2.2.2.1 (6 * S + l) = nk (VV A b n S w) ∧ VV A b n S w = some (t', o.drop k) ∧ (remS n S).length = n - k ∧ ∀ j, j < k → s.2.2.2 j = gb b (o.getD j 0)) (fun e => ∀ j, j < n → e j = gb b (o.getD j 0)) (fun k s hk hs' => by
    obtain ⟨s1, s2, s3, s4⟩ := s
    obtain ⟨S, l, w, t', a1, a2, a3, a4, a5, a6, a7, a8, a9⟩ := hs'
    dsimp only at a1 a2 a3 a9
    subst a1 a2 a3
    unfold b_X4_followOrder_7
    dsimp only
    rw [hs.1]
    rcases Nat.lt_or_ge k n with h5 | h5
    · right
      refine ⟨h5, ?_⟩
      obtain ⟨i, o', b1, b2, b3, t2, b4⟩ := VV_uncons hs.2.2.1 a7 (fun e => by rw [e] at a8; simp at a8; omega)
      have hnk : nk (VV A b n S w) = nI i := by
        rw [a7, b1]
        rfl
      have hor : S ||| 2 ^ i < 2 ^ n := Nat.or_lt_two_pow a4 (Nat.pow_lt_pow_right (by omega) b2)
      rw [if_neg (nI_ge h5 (by omega)), x4_idx, at_n (by omega) (by omega), a6, hnk, at_n (by omega) (by omega), hf i b2, wr_n (by omega) (by omega), Option.bind_some, n1shl i (by omega), nI_or (by omega) (Nat.pow_lt_pow_right (by omega) (by omega)), nI_1]
      refine ⟨_, rfl, S ||| 2 ^ i, i, dk i, t2, rfl, rfl, rfl, hor, by omega, ?_, ?_, ?_, fun j hj => ?_⟩
      · exact (ht (S ||| 2 ^ i) i (Nat.le_trans (Nat.le_add_left 1 S) (or_gt b3)) hor b2 (by rw [or_bit, decide_eq_true rfl, Bool.or_true])).2
      · rw [b4]
        have : o.drop (k + 1) = (o.drop k).drop 1 := by rw [List.drop_drop]
        rw [this, b1]
        rfl
      · have := remS_len b2 b3
        omega
      · dsimp only
        by_cases c : j = k
        · subst c
          rw [upd_s]
          congr 1
          have hd := congrArg (fun (z : List Nat) => z.getD 0 0) b1
          simp only [List.getD_eq_getElem?_getD, List.getElem?_drop, Nat.add_zero] at hd ⊢
          rw [hd]
          rfl
        · rw [upd_n c]
          exact a9 j (by omega)
    · left
      have : k = n := by omega
      subst this
      rw [if_pos (nI_le (Nat.le_refl _) (by omega))]
      exact ⟨_, rfl, a9⟩) 5000 0 (0, 0, 0, u.1) (by omega) (by omega) ⟨0, 0, W, t, rfl, rfl, rfl, h00, by omega, h0, hv, by
        have : remS n 0 = List.range n := List.filter_eq_self.mpr (fun x _ => by simp)
        rw [this, List.length_range, Nat.sub_zero], fun j hj => absurd hj (Nat.not_lt_zero _)⟩
  unfold f_X4_followOrder
  rw [h1, Option.bind_some]
  exact ⟨e, rfl, h2⟩
/-- an item that is refused whatever was picked -/
theorem tl_dead {n : Int32} : ∀ (ns : List Int32) (A : AS), n ∈ ns → (fd (aL A) n = none ∨ ∃ x, fd (aL A) n = some x ∧ aJ A x.2.2 = true) → tl A ns = none := by
  intro ns
  induction ns with
  | nil => intro A h; cases h
  | cons m ns ih =>
    intro A h hd
    unfold tl
    by_cases c : reasonA A m = 0
    · rw [if_pos c]
      obtain ⟨x, x1, x2, _⟩ := reason0 c
      have hmn : m ≠ n := by
        intro e
        subst e
        rcases hd with hd | ⟨y, y1, y2⟩
        · rw [hd] at x1; cases x1
        · rw [y1] at x1; cases x1; rw [y2] at x2; cases x2
      have hk : fd (rm (aL A) m) n = fd (aL A) n := fd_keep _ (fun y hy => decide_eq_true (fun e => hmn (e.symm.trans hy)))
      rw [ih (takeA A m) (by
        rcases List.mem_cons.mp h with e | e
        · exact absurd e.symm hmn
        · exact e) (by
        have e1 : aL (takeA A m) = rm (aL A) m := by
          unfold takeA
          rw [x1]
        have e2 : aJ (takeA A m) = aJ A := by
          unfold takeA
          rw [x1]
        rw [e1, e2, hk]
        exact hd)]
      rfl
    · rw [if_neg c]
theorem prm_all : ∀ n, n < 7 → ∀ o ∈ prm n (List.range n), ∀ k, k < n → k ∈ o := by decide +kernel
theorem blk_none {A : AS} {b : List Int32} : ∀ {os : List (List Nat)}, (∀ o, o ∈ os → tl A (o.map (gb b)) = none) → blk A b os = none := by
  intro os
  induction os with
  | nil => intro _; rfl
  | cons o os ih =>
    intro h
    show cmb (one A b o) (blk A b os) = none
    rw [ih (fun o' ho => h o' (List.mem_cons_of_mem _ ho))]
    unfold one
    rw [h o List.mem_cons_self]
    rfl
/-- the first of the shortest orders of a batch of n items -/
def best (A : AS) (b : List Int32) (n : Nat) : Bl := blk A b (prm n (List.range n))
theorem VV_best {A : AS} {b : List Int32} {n : Nat} : VV A b n 0 (aW A) = best A b n := by
  have h1 : remS n 0 = List.range n := List.filter_eq_self.mpr (fun x _ => by simp)
  unfold VV best
  rw [h1, List.length_range]
  refine blk_of ?_ b _
  unfold sA nc
  dsimp only
  rw [List.filter_eq_self.mpr (fun x _ => (pP_iff b 0 x n).mpr (fun j _ hb => by rw [Nat.zero_testBit] at hb; cases hb))]
theorem x4_find {u : tX4} {v : tX6} {A : AS} (h : R6 v A) (hi : Inv A) {f : zF} {b : List Int32} {n : Nat} (hn : n ≤ 6) (hf : ∀ k, k < n → f k = gb b k) (hd : ∀ i j, i < n → j < n → gb b i = gb b j → i = j) :
    ∃ e, f_X4_findOrder u v f (nI n) = some e ∧ (match best A b n with | none => e.1 = false | some x => e.1 = true ∧ ∀ j, j < n → e.2.1 j = gb b (x.2.getD j 0)) := by
  have h64 : 2 ^ n ≤ 2 ^ 6 := Nat.pow_le_pow_right (by omega) hn
  have h0 := Nat.two_pow_pos n
  unfold f_X4_findOrder
  obtain ⟨e, h1, h2⟩ := x4_read (u := (u.1, u.2.1, u.2.2.1, u.2.2.2.1, u.2.2.2.2.1, u.2.2.2.2.2.1, nI n, u.2.2.2.2.2.2.2)) h hi hn rfl hf
  rw [h1, Option.bind_some]
  rcases h2 with ⟨e1, dr, wt, e2, e3⟩ | ⟨e1, k, k1, k2⟩
  · rw [e1, if_pos rfl, e2]
    dsimp only
    rw [n1shl n (by omega), show (1 : Int32) = nI 1 from rfl, pk_sub (by omega)]
    have hch : ∃ g : Nat → It, ∀ k, k < n → fd (aL A) (gb b k) = some (g k) ∧ aJ A (g k).2.2 = false ∧ dr k = nI (g k).2.2 ∧ wt k = nI (g k).2.1 :=
      ⟨fun k => (fd (aL A) (gb b k)).getD (0, 0, 0), fun k hk => by
        obtain ⟨x, x1, x2⟩ := e3 k hk
        have x3 : (fun k => (fd (aL A) (gb b k)).getD (0, 0, 0)) k = x := by
          dsimp only
          rw [x1]
          rfl
        rw [x3]
        exact ⟨x1, x2⟩⟩
    obtain ⟨g, hg⟩ := hch
    have hs : Hs (u.1, u.2.1, dr, wt, u.2.2.2.2.1, u.2.2.2.2.2.1, nI n, u.2.2.2.2.2.2.2) A b n (fun k => (g k).2.2) (fun k => (g k).2.1) :=
      ⟨rfl, fun k hk => (hg k hk).2.2, ⟨hd, fun k hk => ⟨g k, (hg k hk).1, rfl, (hg k hk).2.1⟩⟩, fun k hk => ⟨g k, (hg k hk).1, rfl, rfl⟩⟩
    obtain ⟨z, h3, h4, h5⟩ := x4_outer h hi hn hs
    obtain ⟨z6, h6⟩ := x4_out h hi hn h4 (S := 0) (by omega) (aW A)
    have hW := hi.2.2.2.2.2.2.2
    rw [h3, Option.bind_some, show (0 : Int32) = nI 0 from rfl, h6, Option.bind_some, h.2.2.2.2.1, x4_next (u := (z.1, z6, z.2.2.1, z.2.2.2.1, z.2.2.2.2.1, z.2.2.2.2.2.1, z.2.2.2.2.2.2.1, nI (bs (okA (sA A b n 0 (aW A))) 12))) hi hn ⟨h4.1, h4.2.1, h4.2.2⟩ (S := 0) (l := 0) h0 (by omega) hW rfl (fun k hk hb => (h5 (0 ||| 2 ^ k) k (or_gt hb) (Nat.or_lt_two_pow h0 (Nat.pow_lt_pow_right (by omega) hk)) hk (by rw [or_bit, decide_eq_true rfl, Bool.or_true])).1), Option.bind_some]
    dsimp only
    rw [at_n (by omega) (by omega), upd_s, VV_best]
    cases hb : best A b n with
    | none =>
      rw [if_pos (show val none = (1000000 : Int32) from rfl)]
      exact ⟨_, rfl, rfl⟩
    | some x =>
      have hx := VV_le hn (VV_best.trans hb)
      rw [if_neg (show ¬ val (some x) = (1000000 : Int32) from fun e => by
        have := (nI_eq (b := 1000000) (by omega) (by omega)).mp e
        omega)]
      obtain ⟨z8, h8, h9⟩ := x4_follow (u := (z.1, z6, z.2.2.1, z.2.2.2.1, upd z.2.2.2.2.1 (6 * 0 + 0) (val (some x)), upd z.2.2.2.2.2.1 (6 * 0 + 0) (nk (some x)), z.2.2.2.2.2.2.1, nI (bs (okA (sA A b n 0 (aW A))) 12))) hn ⟨h4.1, h4.2.1, h4.2.2⟩ (fun S l a1 a2 a3 a4 => by
        dsimp only
        rw [upd_n (by omega), upd_n (by omega)]
        exact h5 S l a1 a2 a3 a4) hf (VV_best.trans hb) (by
        dsimp only
        rw [upd_s, VV_best, hb])
      rw [h8, Option.bind_some]
      exact ⟨_, rfl, rfl, h9⟩
  · have hnone : best A b n = none := blk_none (fun o ho => tl_dead (n := gb b k) _ _ (List.mem_map.mpr ⟨k, prm_all n (by omega) o ho k k1, rfl⟩) k2)
    rw [e1, if_neg (by decide), hnone]
    exact ⟨_, rfl, rfl⟩
