/-! the class's search for the order with the fewest steps -/
theorem isIn6 : ∀ S, S < 64 → ∀ k, k < 6 → f_X7_isIn (nI S) (nI k) = S.testBit k := by decide +kernel
theorem remS_full : ∀ n, n < 7 → ∀ S, S < 64 → S < 2 ^ n → (remS n S = [] ↔ S = 2 ^ n - 1) := by decide +kernel
def val (x : Bl) : Int32 := match x with
  | none => nI 1000000
  | some y => nI y.1
def nk (x : Bl) : Int32 := match x with
  | some (_, k :: _) => nI k
  | _ => 0
theorem x4_idx (S l : Nat) : f_X4_indexOf (nI S) (nI l) = nI (6 * S + l) := by
  unfold f_X4_indexOf
  rw [show (6 : Int32) = nI 6 from rfl, pk_mul, nI_add, Nat.mul_comm]
theorem jam_f {b : Bool} (h : ¬ b = true) : b = false := by
  cases b with
  | false => rfl
  | true => exact absurd rfl h
/-- all items of the batch are there, none is jammed; or one isn't -/
theorem x4_read {u : tX4} {v : tX6} {A : AS} (h : R6 v A) (hi : Inv A) {f : zF} {b : List Int32} {n : Nat} (hn : n ≤ 6) (hc : u.2.2.2.2.2.2.1 = nI n) (hf : ∀ k, k < n → f k = gb b k) :
    ∃ e, f_X4_readItems u v f = some e ∧ ((e.1 = true ∧ ∃ dr wt, e.2 = (u.1, u.2.1, dr, wt, u.2.2.2.2) ∧ ∀ k, k < n → ∃ x, fd (aL A) (gb b k) = some x ∧ aJ A x.2.2 = false ∧ dr k = nI x.2.2 ∧ wt k = nI x.2.1) ∨ (e.1 = false ∧ ∃ k, k < n ∧ (fd (aL A) (gb b k) = none ∨ ∃ x, fd (aL A) (gb b k) = some x ∧ aJ A x.2.2 = true))) := by
  unfold f_X4_readItems
  refine lp_run (b_X4_readItems_2 u v f) n (fun k s => s.1 = nI k ∧ ∀ j, j < k → ∃ x, fd (aL A) (gb b j) = some x ∧ aJ A x.2.2 = false ∧ s.2.1 j = nI x.2.2 ∧ s.2.2 j = nI x.2.1) _ (fun k s hk hs => ?_) 5000 0 (0, u.2.2.1, u.2.2.2.1) (by omega) (by omega) ⟨rfl, fun j hj => absurd hj (Nat.not_lt_zero _)⟩
  obtain ⟨s1, s2, s3⟩ := s
  obtain ⟨a1, a2⟩ := hs
  dsimp only at a1 a2
  subst a1
  unfold b_X4_readItems_2
  rw [hc]
  dsimp only
  have hl := hi.1.1
  rcases Nat.lt_or_ge k n with h5 | h5
  · rw [if_neg (nI_ge h5 (by omega)), at_n (by omega) (by omega), hf k h5, x3_slot h.2.1 hl, Option.bind_some]
    unfold sl
    cases e : ix (aL A) (gb b k) with
    | none =>
      left
      exact ⟨_, if_pos rfl, Or.inr ⟨rfl, k, h5, Or.inl (fd_no e)⟩⟩
    | some i =>
      obtain ⟨x, hx, h1, _, hm⟩ := fd_of e
      have hik := ix_lt e
      dsimp only
      rw [if_neg (nI_nm1 (by omega)), at_n (by omega) (by omega), (h.2.1.1 i x hx).2.2, x6_jam h (hi.1.wt hm).2.2]
      by_cases cj : aJ A x.2.2 = true
      · left
        rw [if_pos cj]
        exact ⟨_, rfl, Or.inr ⟨rfl, k, h5, Or.inr ⟨x, h1, cj⟩⟩⟩
      · right
        refine ⟨h5, ?_⟩
        rw [if_neg cj, at_n (by omega) (by omega), (h.2.1.1 i x hx).2.1, wr_n (by omega) (by omega), wr_n (by omega) (by omega), Option.bind_some, Option.bind_some, nI_1]
        refine ⟨_, rfl, rfl, fun j hj => ?_⟩
        dsimp only
        by_cases c : j = k
        · subst c
          rw [upd_s, upd_s]
          exact ⟨x, h1, jam_f cj, rfl, rfl⟩
        · rw [upd_n c, upd_n c]
          exact a2 j (by omega)
  · left
    have : k = n := by omega
    subst this
    rw [if_pos (nI_le (Nat.le_refl _) (by omega))]
    refine ⟨_, rfl, Or.inl ⟨rfl, s2, s3, ?_, a2⟩⟩
    show (u.1, u.2.1, s2, s3, u.2.2.2.2.1, u.2.2.2.2.2.1, nI k, u.2.2.2.2.2.2.2) = _
    rw [← hc]
theorem fd_keep {L : List It} {n : Int32} (p : It → Bool) (h : ∀ x, x.1 = n → p x = true) : fd (L.filter p) n = fd L n := by
  unfold fd
  rw [List.find?_filter]
  congr 1
  funext x
  by_cases c : x.1 = n
  · rw [h x c]
    simp
  · rw [decide_eq_false c]
    simp
theorem rm_sums {L : List It} (hp : L.Pairwise (fun x y => x.1 ≠ y.1)) {n : Int32} {x : It} (hx : fd L n = some x) : (∀ d, ld (rm L n) d = ld L d - (if x.2.2 = d then (x.2.1 : Int) else 0)) ∧ (∀ w, tilt (rm L n) w = tilt L w - (x.2.1 : Int) * side x.2.2 w) := by
  cases e : ix L n with
  | none => rw [fd_no e] at hx; cases hx
  | some k =>
    obtain ⟨y, hy, h1, _, _⟩ := fd_of e
    rw [hx] at h1
    cases h1
    rw [rm_erase hp e]
    exact ⟨fun d => ld_erase hy d, fun w => tilt_erase hy w⟩
theorem pP_yes {b : List Int32} {S m : Nat} (L : List It) (h : S.testBit m = true) : L.filter (pP b S (m + 1)) = rm (L.filter (pP b S m)) (gb b m) := by
  unfold rm
  rw [List.filter_filter]
  congr 1
  funext x
  show (pP b S m x && !(S.testBit m && decide (x.1 = gb b m))) = _
  rw [h]
  by_cases c : x.1 = gb b m
  · rw [decide_eq_true c, decide_eq_false (fun e => e c)]
    simp
  · rw [decide_eq_false c, decide_eq_true c]
    simp
theorem pP_no {b : List Int32} {S m : Nat} (L : List It) (h : ¬ S.testBit m = true) : L.filter (pP b S (m + 1)) = L.filter (pP b S m) := by
  congr 1
  funext x
  show (pP b S m x && !(S.testBit m && decide (x.1 = gb b m))) = _
  rw [jam_f h]
  simp
/-- what the search holds of the batch -/
def Hs (u : tX4) (A : AS) (b : List Int32) (n : Nat) (dk wk : Nat → Nat) : Prop := u.2.2.2.2.2.2.1 = nI n ∧ (∀ k, k < n → u.2.2.1 k = nI (dk k) ∧ u.2.2.2.1 k = nI (wk k)) ∧ Bt A b n dk ∧ (∀ k, k < n → ∃ x, fd (aL A) (gb b k) = some x ∧ x.2.2 = dk k ∧ x.2.1 = wk k)
theorem Hs.dk {u : tX4} {A : AS} {b : List Int32} {n : Nat} {dk wk : Nat → Nat} (h : Hs u A b n dk wk) (hi : Inv A) {k : Nat} (hk : k < n) : dk k < 12 ∧ wk k ≤ 20 := by
  obtain ⟨x, h1, h2, h3⟩ := h.2.2.2 k hk
  have := hi.1.wt (fd_mem h1).1
  omega
theorem cpy_at {n : Nat} {f g : zF} {k : Nat} (h : k < n) : cpy n f g k = f k := by
  unfold cpy
  rw [if_pos h]
theorem x0_copy {u v : tX0} {D T : Nat → Int} (h : Bal v D T) : ∃ u', f_X0_copyFrom u v = some u' ∧ Bal u' D T := by
  unfold f_X0_copyFrom f_X7_copyRow
  rw [Option.bind_some, Option.bind_some]
  refine ⟨_, rfl, fun d hd => ?_, fun w hw => ?_⟩
  · show cpy 12 v.1 u.1 d = _
    rw [cpy_at hd]
    exact h.1 d hd
  · show cpy 12 v.2 u.2 w = _
    rw [cpy_at hw]
    exact h.2 w hw
theorem x4_out {u : tX4} {v : tX6} {A : AS} (h : R6 v A) (hi : Inv A) {b : List Int32} {n : Nat} {dk wk : Nat → Nat} (hn : n ≤ 6) (hs : Hs u A b n dk wk) {S : Nat} (hS : S < 64) (w : Nat) :
    ∃ z, f_X4_takeOut u v (nI S) = some (u.1, z, u.2.2.1, u.2.2.2.1, u.2.2.2.2.1, u.2.2.2.2.2.1, u.2.2.2.2.2.2.1, nI (bs (okA (sA A b n S w)) 12)) := by
  obtain ⟨z0, h0, hb0⟩ := x0_copy (u := u.2.1) h.1
  obtain ⟨e, h1, h2⟩ := lp_run (b_X4_takeOut_13 u (nI S)) n (fun k s => s.1 = nI k ∧ Bal s.2 (ld ((aL A).filter (pP b S k))) (tilt ((aL A).filter (pP b S k)))) (fun e => Bal e (ld ((aL A).filter (pP b S n))) (tilt ((aL A).filter (pP b S n)))) (fun k s hk hs' => by
    obtain ⟨s1, s2⟩ := s
    obtain ⟨a1, a2⟩ := hs'
    dsimp only at a1 a2
    subst a1
    unfold b_X4_takeOut_13
    rw [hs.1]
    dsimp only
    rcases Nat.lt_or_ge k n with h5 | h5
    · right
      refine ⟨h5, ?_⟩
      have hb := hs.dk hi h5
      obtain ⟨x, x1, x2, x3⟩ := hs.2.2.2 k h5
      rw [if_neg (nI_ge h5 (by omega)), isIn6 S hS k (by omega), at_n (by omega) (by omega), at_n (by omega) (by omega), (hs.2.1 k h5).1, (hs.2.1 k h5).2, nI_1]
      by_cases c : S.testBit k = true
      · obtain ⟨u5, h6, hb6⟩ := x0_add a2 hb.1 (-(wk k : Int))
        rw [if_pos c, nI_zI (wk k), zI_neg, h6, Option.bind_some]
        refine ⟨_, rfl, rfl, ?_⟩
        rw [pP_yes _ c]
        have hfd : fd ((aL A).filter (pP b S k)) (gb b k) = some x := by
          rw [fd_keep _ (fun y hy => (pP_iff b S y k).mpr (fun j hj _ e => by
            have := hs.2.2.1.1 k j h5 (by omega) (hy.symm.trans e)
            omega))]
          exact x1
        obtain ⟨r1, r2⟩ := rm_sums (hi.1.2.2.filter _) hfd
        refine hb6.congr (fun d hd => ?_) (fun j hj => ?_)
        · rw [r1, x2, x3]
          by_cases c2 : d = dk k
          · rw [if_pos c2, if_pos c2.symm]
            omega
          · rw [if_neg c2, if_neg (fun e => c2 e.symm)]
            omega
        · rw [r2, x2, x3]
          rw [Int.neg_mul]
          omega
      · rw [if_neg c]
        refine ⟨_, rfl, rfl, ?_⟩
        rw [pP_no _ c]
        exact a2
    · left
      have : k = n := by omega
      subst this
      rw [if_pos (nI_le (Nat.le_refl _) (by omega))]
      exact ⟨_, rfl, a2⟩) 5000 0 (0, z0) (by omega) (by omega) ⟨rfl, by
        have : (aL A).filter (pP b S 0) = aL A := List.filter_eq_self.mpr (fun _ _ => rfl)
        show Bal z0 _ _
        rw [this]
        exact hb0⟩
  have hT : Tb (tilt ((aL A).filter (pP b S n))) := (hi.1.filter _).Tb
  unfold f_X4_takeOut
  rw [h0, Option.bind_some, h1, Option.bind_some, show (0 : Int32) = nI 0 from rfl, at_n (by omega) (by omega), h.2.2.2.1.1, x0_bal h2 hT (by have := hi.2.2.2.1; omega), Option.bind_some]
  exact ⟨e, rfl⟩
theorem gV_le {A : AS} {b : List Int32} {n : Nat} {dk : Nat → Nat} {S w k : Nat} (hn : n ≤ 6) {y : Nat × List Nat} (h : gV A b n dk S w k = some y) : y.1 ≤ 77 := by
  unfold gV at h
  by_cases c : wayA (sA A b n S w) (dk k) = 99
  · rw [if_pos c] at h; cases h
  · rw [if_neg c] at h
    have := wy_range (okA (sA A b n S w)) (aW (sA A b n S w)) (dk k)
    cases e : VV A b n (S ||| 2 ^ k) (dk k) with
    | none => rw [e] at h; cases h
    | some x =>
      rw [e] at h
      have h2 := VV_le hn e
      have h3 : ((wayA (sA A b n S w) (dk k)).natAbs + x.1, k :: x.2) = y := Option.some.inj h
      rw [← h3]
      unfold wayA at c ⊢
      dsimp only
      omega
theorem fb_le {A : AS} {b : List Int32} {n : Nat} {dk : Nat → Nat} {S w : Nat} (hn : n ≤ 6) {l : List Nat} {y : Nat × List Nat} (h : fb (gV A b n dk S w) l = some y) : y.1 ≤ 77 := by
  obtain ⟨k, _, hk⟩ := fb_mem _ _ _ h
  exact gV_le hn hk
theorem remS_succ (k S : Nat) : remS (k + 1) S = if S.testBit k = true then remS k S else remS k S ++ [k] := by
  unfold remS
  rw [List.range_succ, List.filter_append]
  by_cases c : S.testBit k = true
  · rw [if_pos c]
    simp [c]
  · rw [if_neg c]
    simp [jam_f c]
theorem x4_next {u : tX4} {A : AS} (hi : Inv A) {b : List Int32} {n : Nat} {dk wk : Nat → Nat} (hn : n ≤ 6) (hs : Hs u A b n dk wk) {S l w : Nat} (hS : S < 2 ^ n) (hl : l < 6) (hw : w < 12) (hbal : u.2.2.2.2.2.2.2 = nI (bs (okA (sA A b n S w)) 12)) (ht : ∀ k, k < n → S.testBit k = false → u.2.2.2.2.1 (6 * (S ||| 2 ^ k) + k) = val (VV A b n (S ||| 2 ^ k) (dk k))) :
    f_X4_weighNext u (nI S) (nI l) (nI w) = some (u.1, u.2.1, u.2.2.1, u.2.2.2.1, upd u.2.2.2.2.1 (6 * S + l) (val (VV A b n S w)), upd u.2.2.2.2.2.1 (6 * S + l) (nk (VV A b n S w)), u.2.2.2.2.2.2.1, u.2.2.2.2.2.2.2) := by
  have h64 : 2 ^ n ≤ 2 ^ 6 := Nat.pow_le_pow_right (by omega) hn
  have hfull := remS_full n (by omega) S (by omega) hS
  have h0 := Nat.two_pow_pos n
  unfold f_X4_weighNext
  rw [hs.1, n1shl n (by omega), show (1 : Int32) = nI 1 from rfl, pk_sub (by omega), x4_idx]
  by_cases cf : remS n S = []
  · rw [if_pos (show nI S = nI (2 ^ n - 1) by rw [hfull.mp cf]), Option.bind_some]
    have hst : ∀ k, k < n → b_X4_weighNext_26 u (nI S) (nI w) ((fun k => ((0 : Int32), (0 : Int32), nI k)) k) = some (.inl ((fun k => ((0 : Int32), (0 : Int32), nI k)) (k + 1))) := by
      intro k hk
      have hb : S.testBit k = true := by
        cases c : S.testBit k with
        | true => rfl
        | false =>
          have : k ∈ remS n S := remS_mem.mpr ⟨hk, c⟩
          rw [cf] at this
          cases this
      unfold b_X4_weighNext_26
      dsimp only
      rw [hs.1, if_neg (nI_ge hk (by omega)), isIn6 S (by omega) k (by omega), if_pos hb, if_pos (by decide), nI_1]
    have hen : b_X4_weighNext_26 u (nI S) (nI w) ((fun k => ((0 : Int32), (0 : Int32), nI k)) n) = some (.inr (0, 0)) := by
      unfold b_X4_weighNext_26
      dsimp only
      rw [hs.1, if_pos (nI_le (Nat.le_refl _) (by omega))]
    rw [lp_st (s := (0, 0, 0)) _ _ _ _ hst hen (by omega) rfl, Option.bind_some, wr_n (by omega) (by omega), wr_n (by omega) (by omega), VV_full w cf]
    rfl
  · rw [if_neg (fun e => cf (hfull.mpr ((nI_eq (by omega) (by omega)).mp e))), Option.bind_some]
    have hst : ∀ k, k < n → b_X4_weighNext_26 u (nI S) (nI w) ((fun k => (val (fb (gV A b n dk S w) (remS k S)), nk (fb (gV A b n dk S w) (remS k S)), nI k)) k) = some (.inl ((fun k => (val (fb (gV A b n dk S w) (remS k S)), nk (fb (gV A b n dk S w) (remS k S)), nI k)) (k + 1))) := by
      intro k hk
      unfold b_X4_weighNext_26
      dsimp only
      have hle : val (fb (gV A b n dk S w) (remS k S)) ≤ 1000000 := by
        cases e : fb (gV A b n dk S w) (remS k S) with
        | none => exact nI_le (b := 1000000) (Nat.le_refl _) (by omega)
        | some y => exact nI_le (b := 1000000) (by have := fb_le hn e; omega) (by omega)
      rw [hs.1, if_neg (nI_ge hk (by omega)), isIn6 S (by omega) k (by omega), remS_succ, nI_1]
      by_cases c : S.testBit k = true
      · rw [if_pos c, if_pos hle, if_pos c]
      · rw [if_neg c, if_neg c]
        have hd := (hs.dk hi hk).1
        unfold f_X4_stepsBy
        rw [at_n (by omega) (by omega), (hs.2.1 k hk).1, hbal, x7_way rfl hw hd, Option.bind_some]
        have hg : fb (gV A b n dk S w) (remS k S ++ [k]) = cmb (fb (gV A b n dk S w) (remS k S)) (gV A b n dk S w k) := by
          rw [fb_app]
          show cmb _ (cmb (gV A b n dk S w k) none) = _
          rw [cmb_none]
        rw [hg]
        have h99 := zI_99 (okA (sA A b n S w)) w (dk k)
        have hr := wy_range (okA (sA A b n S w)) w (dk k)
        by_cases c9 : wy (okA (sA A b n S w)) w (dk k) = 99
        · rw [if_pos (h99.mpr c9), Option.bind_some, if_pos hle]
          have : gV A b n dk S w k = none := by
            unfold gV
            exact if_pos c9
          rw [this, cmb_none]
        · have hgv : gV A b n dk S w k = lift (wy (okA (sA A b n S w)) w (dk k)).natAbs k (VV A b n (S ||| 2 ^ k) (dk k)) := by
            unfold gV
            exact if_neg c9
          have hor : S ||| 2 ^ k < 2 ^ n := Nat.or_lt_two_pow hS (Nat.pow_lt_pow_right (by omega) hk)
          rw [if_neg (fun e => c9 (h99.mp e)), zI_abs (by omega) (by omega), n1shl k (by omega), nI_or (by omega) (Nat.pow_lt_pow_right (by omega) (by omega)), x4_idx, at_n (by omega) (by omega), ht k hk (jam_f c), hgv, Option.bind_some]
          cases e : VV A b n (S ||| 2 ^ k) (dk k) with
          | none =>
            show (if _ ≤ nI _ + nI 1000000 then _ else _) = _
            rw [nI_add, if_pos ?_]
            · show _ = some (Sum.inl (val (cmb _ none), nk (cmb _ none), _))
              rw [cmb_none]
            · cases e2 : fb (gV A b n dk S w) (remS k S) with
              | none => exact nI_le (by omega) (by omega)
              | some y => exact nI_le (by have := fb_le hn e2; omega) (by omega)
          | some x =>
            have hx := VV_le hn e
            show (if _ ≤ nI _ + nI x.1 then _ else _) = _
            rw [nI_add]
            show _ = some (Sum.inl (val (cmb _ (some (_ + x.1, k :: x.2))), nk (cmb _ (some (_ + x.1, k :: x.2))), _))
            cases e2 : fb (gV A b n dk S w) (remS k S) with
            | none =>
              rw [if_neg (show ¬ val none ≤ nI _ from nI_ge (b := 1000000) (by omega) (by omega)), show val (some x) = nI x.1 from rfl, nI_add]
              rfl
            | some y =>
              have hy := fb_le hn e2
              by_cases c3 : y.1 ≤ (wy (okA (sA A b n S w)) w (dk k)).natAbs + x.1
              · rw [if_pos (show val (some y) ≤ nI _ from nI_le c3 (by omega))]
                show _ = some (Sum.inl (val (if _ < y.1 then _ else some y), nk (if _ < y.1 then _ else some y), _))
                rw [if_neg (by omega)]
              · rw [if_neg (show ¬ val (some y) ≤ nI _ from nI_ge (by omega) (by omega))]
                show _ = some (Sum.inl (val (if _ < y.1 then _ else some y), nk (if _ < y.1 then _ else some y), _))
                rw [if_pos (by omega), show val (some x) = nI x.1 from rfl, nI_add]
                rfl
    have hen : b_X4_weighNext_26 u (nI S) (nI w) ((fun k => (val (fb (gV A b n dk S w) (remS k S)), nk (fb (gV A b n dk S w) (remS k S)), nI k)) n) = some (.inr (val (VV A b n S w), nk (VV A b n S w))) := by
      unfold b_X4_weighNext_26
      dsimp only
      rw [hs.1, if_pos (nI_le (Nat.le_refl _) (by omega)), VV_step hs.2.2.1 S w cf]
    rw [lp_st (s := (1000000, 0, 0)) _ _ _ _ hst hen (by omega) rfl, Option.bind_some, wr_n (by omega) (by omega), wr_n (by omega) (by omega)]
    rfl
