/-! the class's state: items come, go and move -/
def rm (L : List It) (n : Int32) : List It := L.filter (fun x => decide (x.1 ≠ n))
theorem rm_erase {n : Int32} : ∀ {L : List It} {k : Nat}, L.Pairwise (fun x y => x.1 ≠ y.1) → ix L n = some k → rm L n = L.eraseIdx k := by
  intro L
  induction L with
  | nil => intro k _ h; cases h
  | cons x L ih =>
    intro k hp h
    have hp' := List.pairwise_cons.mp hp
    have h2 : (if decide (x.1 = n) then some 0 else (ix L n).map (· + 1)) = some k := by
      rw [← h]
      unfold ix
      rw [List.findIdx?_cons]
    by_cases c : x.1 = n
    · rw [decide_eq_true c, if_pos rfl] at h2
      cases h2
      unfold rm
      rw [List.filter_cons_of_neg (by simpa using c), List.eraseIdx_cons_zero]
      exact List.filter_eq_self.mpr (fun y hy => by
        have := hp'.1 y hy
        rw [c] at this
        exact decide_eq_true (fun e => this e.symm))
    · rw [decide_eq_false c, if_neg (by decide)] at h2
      cases e : ix L n with
      | none => rw [e] at h2; cases h2
      | some j =>
        rw [e] at h2
        cases h2
        rw [List.eraseIdx_cons_succ, ← ih hp'.2 e]
        unfold rm
        rw [List.filter_cons_of_pos (by simpa using c)]
theorem rm_none {n : Int32} {L : List It} (h : ix L n = none) : rm L n = L :=
  List.filter_eq_self.mpr (fun y hy => decide_eq_true (ix_none.mp h y hy))
theorem sm_filter (f : It → Int) (p : It → Bool) : ∀ {L : List It}, (∀ x ∈ L, 0 ≤ f x) → sm f (L.filter p) ≤ sm f L := by
  intro L
  induction L with
  | nil => intro _; exact Int.le_refl _
  | cons x L ih =>
    intro h
    have h1 := h x (List.mem_cons_self)
    have h2 := ih (fun y hy => h y (List.mem_cons_of_mem _ hy))
    rw [List.filter_cons, sm_cons]
    split
    · rw [sm_cons]; omega
    · omega
theorem ld_filter (p : It → Bool) (L : List It) (d : Nat) : ld (L.filter p) d ≤ ld L d := sm_filter _ p (fun x _ => by split <;> omega)
theorem Wf.filter {L : List It} {G : Nat} (h : Wf L G) (p : It → Bool) : Wf (L.filter p) G :=
  ⟨Nat.le_trans (List.length_filter_le _ _) h.1, fun x hx => h.2.1 x (List.mem_filter.mp hx).1, h.2.2.filter p⟩
def cpk (C : Int32 × Int32 × Int32 × Int32) : Int32 × Int32 × Int32 × Int32 := (C.1, C.2.1, C.2.2.1, C.2.2.2 + 1)
def takeA (A : AS) (n : Int32) : AS := match fd (aL A) n with
  | none => A
  | some x => (rm (aL A) n, aJ A, A.2.2.1, x.2.2, cpk (cnt (aC A) (wayA A x.2.2)), aG A)
theorem fd_mem {L : List It} {n : Int32} {x : It} (h : fd L n = some x) : x ∈ L ∧ x.1 = n :=
  ⟨List.mem_of_find?_eq_some h, by simpa using List.find?_some h⟩
theorem Inv.take {A : AS} (h : Inv A) (n : Int32) : Inv (takeA A n) := by
  unfold takeA
  cases e : fd (aL A) n with
  | none => exact h
  | some x =>
    obtain ⟨h1, h2, h3, h4, h5, h6, h7, h8⟩ := h
    exact ⟨h1.filter _, h2, fun d hd => Int.le_trans (ld_filter _ _ _) (h3 d hd), h4, h5, h6, h7, (h1.wt (fd_mem e).1).2.2⟩
theorem x3_remove {u : tX3} {L : List It} {G : Nat} (h : R3 u L G) (hl : L.length ≤ 40) {n : Int32} {k0 : Nat} (hk : ix L n = some k0) : ∃ u', f_X3_remove u n = some u' ∧ R3 u' (L.eraseIdx k0) G := by
  have hlt := ix_lt hk
  obtain ⟨N, hN⟩ : ∃ N, L.length = N + 1 := ⟨L.length - 1, by omega⟩
  have hsz : u.2.2.2.1 - 1 = nI N := by rw [h.2.1, hN, nI_pred]
  obtain ⟨e, h1, h2⟩ := lp_run (b_X3_remove_24 u) N (fun k s => s.1 = nI k ∧ k0 ≤ k ∧ (∀ j, s.2.1 j = if k0 ≤ j ∧ j < k then u.1 (j + 1) else u.1 j) ∧ (∀ j, s.2.2.1 j = if k0 ≤ j ∧ j < k then u.2.1 (j + 1) else u.2.1 j) ∧ (∀ j, s.2.2.2 j = if k0 ≤ j ∧ j < k then u.2.2.1 (j + 1) else u.2.2.1 j))
    (fun e => (∀ j, e.1 j = if k0 ≤ j ∧ j < N then u.1 (j + 1) else u.1 j) ∧ (∀ j, e.2.1 j = if k0 ≤ j ∧ j < N then u.2.1 (j + 1) else u.2.1 j) ∧ (∀ j, e.2.2 j = if k0 ≤ j ∧ j < N then u.2.2.1 (j + 1) else u.2.2.1 j)) (fun k s hkN hs => by
    obtain ⟨s1, s2, s3, s4⟩ := s
    obtain ⟨e1, e2, e3, e4, e5⟩ := hs
    dsimp only at e1 e3 e4 e5
    subst e1
    unfold b_X3_remove_24
    rw [hsz]
    dsimp only
    rcases Nat.lt_or_ge k N with h5 | h5
    · right
      refine ⟨h5, ?_⟩
      rw [if_neg (nI_ge h5 (by omega)), nI_1, at_n (by omega) (by omega), at_n (by omega) (by omega), at_n (by omega) (by omega), wr_n (by omega) (by omega), wr_n (by omega) (by omega), wr_n (by omega) (by omega)]
      have key : ∀ (f s : zF), (∀ j, s j = if k0 ≤ j ∧ j < k then f (j + 1) else f j) → ∀ j, upd s k (s (k + 1)) j = if k0 ≤ j ∧ j < k + 1 then f (j + 1) else f j := by
        intro f s hf j
        rw [upd_if]
        by_cases c : j = k
        · subst c
          rw [if_pos rfl, hf (j + 1), if_neg (by omega), if_pos ⟨e2, by omega⟩]
        · rw [if_neg c, hf j]
          by_cases c2 : k0 ≤ j ∧ j < k
          · rw [if_pos c2, if_pos ⟨c2.1, by omega⟩]
          · rw [if_neg c2, if_neg (by omega)]
      exact ⟨_, rfl, rfl, by omega, key _ _ e3, key _ _ e4, key _ _ e5⟩
    · left
      have : k = N := by omega
      subst this
      rw [if_pos (nI_le (Nat.le_refl _) (by omega))]
      exact ⟨_, rfl, e3, e4, e5⟩) 5000 k0 (nI k0, u.1, u.2.1, u.2.2.1) (by omega) (by omega) ⟨rfl, Nat.le_refl _, fun j => by rw [if_neg (by omega)], fun j => by rw [if_neg (by omega)], fun j => by rw [if_neg (by omega)]⟩
  unfold f_X3_remove
  rw [x3_slot h hl, Option.bind_some]
  unfold sl
  rw [hk]
  dsimp only
  rw [if_neg (nI_nm1 (by omega)), h1, Option.bind_some, hsz]
  refine ⟨_, rfl, fun j x hx => ?_, ?_, h.2.2⟩
  · dsimp only
    have hj : j < N := by
      have := (List.getElem?_eq_some_iff.mp hx).1
      rw [List.length_eraseIdx_of_lt hlt] at this
      omega
    rw [h2.1 j, h2.2.1 j, h2.2.2 j]
    rw [List.getElem?_eraseIdx] at hx
    by_cases c : j < k0
    · rw [if_pos c] at hx
      rw [if_neg (by omega), if_neg (by omega), if_neg (by omega)]
      exact h.1 j x hx
    · rw [if_neg c] at hx
      rw [if_pos ⟨by omega, hj⟩, if_pos ⟨by omega, hj⟩, if_pos ⟨by omega, hj⟩]
      exact h.1 (j + 1) x hx
  · show nI N = _
    rw [List.length_eraseIdx_of_lt hlt, hN]
    rfl
theorem get_of {L : List It} {k : Nat} {x : It} (h : L[k]? = some x) : ∃ hk : k < L.length, L[k] = x := by
  obtain ⟨hk, e⟩ := List.getElem?_eq_some_iff.mp h
  exact ⟨hk, e⟩
theorem ld_erase {L : List It} {k : Nat} {x : It} (h : L[k]? = some x) (d : Nat) : ld (L.eraseIdx k) d = ld L d - (if x.2.2 = d then (x.2.1 : Int) else 0) := by
  obtain ⟨hk, rfl⟩ := get_of h
  exact sm_erase _ hk
theorem tilt_erase {L : List It} {k : Nat} {x : It} (h : L[k]? = some x) (w : Nat) : tilt (L.eraseIdx k) w = tilt L w - (x.2.1 : Int) * side x.2.2 w := by
  obtain ⟨hk, rfl⟩ := get_of h
  exact sm_erase _ hk
theorem x6_take {u : tX6} {A : AS} (h : R6 u A) (hi : Inv A) {n : Int32} {x : It} (hx : fd (aL A) n = some x) (hw : wayA A x.2.2 ≠ 99) : ∃ u', f_X6_takeItem u n = some (nI (wayA A x.2.2).natAbs, u') ∧ R6 u' (takeA A n) := by
  cases e : ix (aL A) n with
  | none => rw [fd_no e] at hx; cases hx
  | some k =>
    obtain ⟨y, hy, h1, _, hm⟩ := fd_of e
    rw [hx] at h1
    cases h1
    have hd := (hi.1.wt hm).2.2
    have hwr : -12 < wayA A x.2.2 ∧ wayA A x.2.2 < 12 := by
      rcases wy_range (okA A) (aW A) x.2.2 with c | c
      · exact absurd c hw
      · exact c
    have hg := x6_go h (d := x.2.2) hwr
    obtain ⟨u5, h5, hb5⟩ := x0_add hg.1 hd (-(x.2.1 : Int))
    obtain ⟨u6, h6, hr6⟩ := x3_remove hg.2.1 hi.1.1 e
    unfold f_X6_takeItem takeA
    rw [hx]
    dsimp only
    rw [x3_drawer h.2.1 hi.1.1 e hy, Option.bind_some, x6_way h hi hd, Option.bind_some, Option.bind_some, x3_weight hg.2.1 hi.1.1 e hy, Option.bind_some, nI_zI x.2.1, zI_neg, h5, Option.bind_some, h6, Option.bind_some, zI_abs (by omega) (by omega)]
    refine ⟨_, rfl, ?_, ?_, hg.2.2.1, hg.2.2.2.1, hg.2.2.2.2.1, ?_⟩
    · dsimp only
      rw [rm_erase hi.1.2.2 e]
      refine hb5.congr (fun d hd => ?_) (fun w hw => ?_)
      · rw [ld_erase hy]
        by_cases c : d = x.2.2
        · rw [if_pos c, if_pos c.symm]
          show ld (aL A) d + _ = _
          omega
        · rw [if_neg c, if_neg (fun e => c e.symm)]
          show ld (aL A) d = _
          omega
      · rw [tilt_erase hy]
        rw [Int.neg_mul]
        show tilt (aL A) w + _ = _
        omega
    · dsimp only
      rw [rm_erase hi.1.2.2 e]
      exact hr6
    · have h9 := hg.2.2.2.2.2
      generalize f_X6_goTo u (nI x.2.2) (zI (wayA A x.2.2)) = v at h9 ⊢
      obtain ⟨v1, v2, v3, v4, v5, v6, v7, v8, v9⟩ := v
      dsimp only at h9 ⊢
      show (v6, v7, v8, v9 + 1) = cpk (cnt (aC A) (wayA A x.2.2))
      unfold cpk
      rw [show cnt (aC A) (wayA A x.2.2) = (v6, v7, v8, v9) from h9.symm]
theorem x6_space {u : tX6} {A : AS} (h : R6 u A) {d : Nat} (hd : d < 12) : f_X6_spaceIn u (nI d) = zI ((aCap A : Int) - ld (aL A) d) := by
  unfold f_X6_spaceIn
  rw [show (1 : Int32) = nI 1 from rfl, at_n (by omega) (by omega), at_n hd (by omega), h.2.2.2.1.2.1, h.1.1 d hd, nI_zI, zI_sub]
def canAdd (A : AS) (d w : Nat) : Bool := decide ((aL A).length < 40 ∧ aG A < 1000 ∧ ld (aL A) d + w ≤ aCap A ∧ (tilt (aL A) (aW A) + (w : Int) * side d (aW A)).natAbs ≤ aLim A)
theorem x6_mayAdd {u : tX6} {A : AS} (h : R6 u A) (hi : Inv A) {d w : Nat} (hd : d < 12) (hw : w ≤ 20) : f_X6_mayAdd u (nI d) (nI w) = canAdd A d w := by
  obtain ⟨h1, h2, h3, h4, h5, h6, h7, h8⟩ := hi
  have a1 := h1.1
  have a2 := ld_nn (aL A) d
  have a3 := h3 d hd
  have a4 := h1.Tb (aW A)
  have a5 := side_mul w d (aW A)
  unfold f_X6_mayAdd canAdd
  rw [h.2.1.2.1, h.2.1.2.2, x6_space h hd, show (0 : Int32) = nI 0 from rfl, at_n (by omega) (by omega), h.2.2.2.1.1, h.2.2.2.2.1, x0_imbW h.1 h1.Tb h8 hd w (by omega)]
  have e1 : ((40 : Int32) ≤ nI (aL A).length) ↔ 40 ≤ (aL A).length := nI_leI (a := 40) (by omega) (by omega)
  have e2 : ((1000 : Int32) ≤ nI (aG A)) ↔ 1000 ≤ aG A := nI_leI (a := 1000) (by omega) (by omega)
  have e3 : (zI ((aCap A : Int) - ld (aL A) d) < nI w) ↔ ((aCap A : Int) - ld (aL A) d < w) := by
    rw [nI_zI w]
    exact zI_lt (by omega) (by omega) (by omega) (by omega)
  have e4 : (nI (aLim A) < nI (tilt (aL A) (aW A) + (w : Int) * side d (aW A)).natAbs) ↔ (aLim A < (tilt (aL A) (aW A) + (w : Int) * side d (aW A)).natAbs) := nI_ltI (by omega) (by omega)
  by_cases c1 : 40 ≤ (aL A).length
  · rw [if_pos (e1.mpr c1), decide_eq_false (by omega)]
  · rw [if_neg (fun e => c1 (e1.mp e))]
    by_cases c2 : 1000 ≤ aG A
    · rw [if_pos (e2.mpr c2), decide_eq_false (by omega)]
    · rw [if_neg (fun e => c2 (e2.mp e))]
      by_cases c3 : (aCap A : Int) - ld (aL A) d < w
      · rw [if_pos (e3.mpr c3), decide_eq_false (by omega)]
      · rw [if_neg (fun e => c3 (e3.mp e))]
        by_cases c4 : aLim A < (tilt (aL A) (aW A) + (w : Int) * side d (aW A)).natAbs
        · rw [if_pos (e4.mpr c4), decide_eq_false (by omega)]
        · rw [if_neg (fun e => c4 (e4.mp e)), decide_eq_true (by omega)]
def putA (A : AS) (d w : Nat) : AS := (aL A ++ [(nI (aG A), w, d)], aJ A, A.2.2.1, aW A, aC A, aG A + 1)
theorem x6_add {u : tX6} {A : AS} (h : R6 u A) {d w : Nat} (hd : d < 12) (hl : (aL A).length < 40) : ∃ u', f_X6_addItem u (nI d) (nI w) = some (nI (aG A), u') ∧ R6 u' (putA A d w) := by
  obtain ⟨u5, h5, hb5⟩ := x0_add h.1 hd (w : Int)
  unfold f_X6_addItem f_X3_add
  obtain ⟨hb, h3, hj, hs, hw1, hc⟩ := h
  rw [nI_zI w, h5, ← nI_zI w, Option.bind_some, h3.2.1, wr_n hl (by omega), wr_n hl (by omega), wr_n hl (by omega), h3.2.2]
  refine ⟨_, rfl, ?_, ?_, hj, hs, hw1, hc⟩
  · refine hb5.congr (fun j hj => ?_) (fun j hj => ?_)
    · show (if j = d then ld (aL A) j + w else ld (aL A) j) = ld (aL A ++ [(nI (aG A), w, d)]) j
      unfold ld
      rw [sm_app, sm_cons, sm_nil]
      by_cases c : j = d
      · subst c
        rw [if_pos rfl, if_pos rfl]
        show _ + (w : Int) = _ + ((w : Int) + 0)
        omega
      · rw [if_neg c, if_neg (fun e => c e.symm)]
        omega
    · show tilt (aL A) j + w * side d j = tilt (aL A ++ [(nI (aG A), w, d)]) j
      unfold tilt
      rw [sm_app, sm_cons, sm_nil, Int.add_zero]
  · refine ⟨fun k x hx => ?_, ?_, nI_1 _⟩
    · dsimp only
      rcases Nat.lt_trichotomy k (aL A).length with c | c | c
      · rw [upd_n (by omega), upd_n (by omega), upd_n (by omega)]
        refine h3.1 k x ?_
        rw [← hx]
        exact (List.getElem?_append_left c).symm
      · subst c
        rw [upd_s, upd_s, upd_s]
        have : (aL A ++ [(nI (aG A), w, d)])[(aL A).length]? = some x := hx
        rw [List.getElem?_append_right (Nat.le_refl _), Nat.sub_self] at this
        cases this
        exact ⟨rfl, rfl, rfl⟩
      · have : (aL A ++ [(nI (aG A), w, d)])[k]? = some x := hx
        rw [List.getElem?_eq_none (by rw [List.length_append, List.length_singleton]; omega)] at this
        cases this
    · show nI (aL A).length + 1 = nI (aL A ++ [(nI (aG A), w, d)]).length
      rw [List.length_append, List.length_singleton, nI_1]
def canMove (A : AS) (x : It) (d : Nat) : Bool := decide (aJ A x.2.2 = false ∧ aJ A d = false ∧ (if x.2.2 = d then 0 else (x.2.1 : Int)) + ld (aL A) d ≤ aCap A ∧ (tilt (aL A) (aW A) + (x.2.1 : Int) * (side d (aW A) - side x.2.2 (aW A))).natAbs ≤ aLim A)
theorem x6_mayMove {u : tX6} {A : AS} (h : R6 u A) (hi : Inv A) {n : Int32} {k : Nat} {x : It} (hk : ix (aL A) n = some k) (hx : (aL A)[k]? = some x) {d : Nat} (hd : d < 12) : f_X6_mayRelocate u n (nI d) = some (canMove A x d) := by
  have hm : x ∈ aL A := List.mem_of_getElem? hx
  obtain ⟨h1, h2, h3, h4, h5, h6, h7, h8⟩ := hi
  have hw := h1.wt hm
  have a2 := ld_nn (aL A) d
  have a3 := h3 d hd
  have a4 := h1.Tb (aW A)
  have a5 := side_mul x.2.1 d (aW A)
  have a6 := side_mul x.2.1 x.2.2 (aW A)
  have a7 := Int.mul_sub (x.2.1 : Int) (side d (aW A)) (side x.2.2 (aW A))
  unfold f_X6_mayRelocate canMove
  rw [x3_drawer h.2.1 h1.1 hk hx, Option.bind_some, x3_weight h.2.1 h1.1 hk hx, Option.bind_some, x6_jam h hw.2.2, x6_jam h hd, x6_space h hd, show (0 : Int32) = nI 0 from rfl, at_n (by omega) (by omega), h.2.2.2.1.1, h.2.2.2.2.1, x0_imbM h.1 h1.Tb h8 hw.2.2 hd x.2.1 (by omega)]
  have e1 : (if nI x.2.2 = nI d then some (nI 0) else some (nI x.2.1)) = some (zI (if x.2.2 = d then 0 else (x.2.1 : Int))) := by
    by_cases c : x.2.2 = d
    · rw [if_pos (by rw [c]), if_pos c]
      rfl
    · rw [if_neg (fun e => c ((nI_eq (by omega) (by omega)).mp e)), if_neg c, nI_zI]
  rw [e1, Option.bind_some]
  generalize hmore : (if x.2.2 = d then 0 else (x.2.1 : Int)) = more
  have hmb : 0 ≤ more ∧ more ≤ 20 := by
    rw [← hmore]
    split <;> omega
  have e3 : (zI ((aCap A : Int) - ld (aL A) d) < zI more) ↔ ((aCap A : Int) - ld (aL A) d < more) := zI_lt (by omega) (by omega) (by omega) (by omega)
  have e4 : (nI (aLim A) < nI (tilt (aL A) (aW A) + (x.2.1 : Int) * (side d (aW A) - side x.2.2 (aW A))).natAbs) ↔ (aLim A < (tilt (aL A) (aW A) + (x.2.1 : Int) * (side d (aW A) - side x.2.2 (aW A))).natAbs) := nI_ltI (by omega) (by omega)
  cases j1 : aJ A x.2.2 with
  | true => rw [if_pos rfl, decide_eq_false (fun z => by cases z.1)]
  | false =>
    rw [if_neg (by decide)]
    cases j2 : aJ A d with
    | true => rw [if_pos rfl, decide_eq_false (fun z => by cases z.2.1)]
    | false =>
      rw [if_neg (by decide)]
      by_cases c3 : (aCap A : Int) - ld (aL A) d < more
      · rw [if_pos (e3.mpr c3), decide_eq_false (fun z => by have := z.2.2.1; omega)]
      · rw [if_neg (fun e => c3 (e3.mp e))]
        by_cases c4 : aLim A < (tilt (aL A) (aW A) + (x.2.1 : Int) * (side d (aW A) - side x.2.2 (aW A))).natAbs
        · rw [if_pos (e4.mpr c4), decide_eq_false (fun z => by have := z.2.2.2; omega)]
        · rw [if_neg (fun e => c4 (e4.mp e)), decide_eq_true ⟨rfl, rfl, by omega, by omega⟩]
def moveA (A : AS) (k : Nat) (x : It) (d : Nat) : AS := ((aL A).set k (x.1, x.2.1, d), aJ A, A.2.2.1, aW A, aC A, aG A)
theorem ld_set {L : List It} {k : Nat} {x : It} (h : L[k]? = some x) (y : It) (d : Nat) : ld (L.set k y) d = ld L d - (if x.2.2 = d then (x.2.1 : Int) else 0) + (if y.2.2 = d then (y.2.1 : Int) else 0) := by
  obtain ⟨hk, rfl⟩ := get_of h
  exact sm_set _ hk y
theorem tilt_set {L : List It} {k : Nat} {x : It} (h : L[k]? = some x) (y : It) (w : Nat) : tilt (L.set k y) w = tilt L w - (x.2.1 : Int) * side x.2.2 w + (y.2.1 : Int) * side y.2.2 w := by
  obtain ⟨hk, rfl⟩ := get_of h
  exact sm_set _ hk y
theorem x6_move {u : tX6} {A : AS} (h : R6 u A) (hi : Inv A) {n : Int32} {k : Nat} {x : It} (hk : ix (aL A) n = some k) (hx : (aL A)[k]? = some x) {d : Nat} (hd : d < 12) : ∃ u', f_X6_relocateItem u n (nI d) = some (nI x.2.2, u') ∧ R6 u' (moveA A k x d) := by
  have hm : x ∈ aL A := List.mem_of_getElem? hx
  have hw := hi.1.wt hm
  have hlt := ix_lt hk
  have hl := hi.1.1
  obtain ⟨u5, h5, hb5⟩ := x0_add h.1 hw.2.2 (-(x.2.1 : Int))
  obtain ⟨u6, h6, hb6⟩ := x0_add hb5 hd (x.2.1 : Int)
  unfold f_X6_relocateItem
  rw [x3_drawer h.2.1 hl hk hx, Option.bind_some, x3_weight h.2.1 hl hk hx, Option.bind_some, nI_zI x.2.1, zI_neg, h5, Option.bind_some, h6, Option.bind_some, x3_slot h.2.1 hl, Option.bind_some]
  unfold sl
  rw [hk]
  dsimp only
  rw [wr_n (by omega) (by omega), Option.bind_some]
  obtain ⟨hb, h3, hj, hs, hw1, hc⟩ := h
  refine ⟨_, rfl, ?_, ⟨fun j y hy => ?_, ?_, h3.2.2⟩, hj, hs, hw1, hc⟩
  · refine hb6.congr (fun j hj => ?_) (fun j hj => ?_)
    · show _ = ld ((aL A).set k (x.1, x.2.1, d)) j
      rw [ld_set hx]
      dsimp only
      by_cases c : j = d <;> by_cases c2 : j = x.2.2
      · rw [if_pos c, if_pos c2, if_pos c2.symm, if_pos c.symm]
        omega
      · rw [if_pos c, if_neg c2, if_neg (fun e => c2 e.symm), if_pos c.symm]
        omega
      · rw [if_neg c, if_pos c2, if_pos c2.symm, if_neg (fun e => c e.symm)]
        omega
      · rw [if_neg c, if_neg c2, if_neg (fun e => c2 e.symm), if_neg (fun e => c e.symm)]
        omega
    · show _ = tilt ((aL A).set k (x.1, x.2.1, d)) j
      rw [tilt_set hx]
      dsimp only
      rw [Int.neg_mul]
      omega
  · replace hy : ((aL A).set k (x.1, x.2.1, d))[j]? = some y := hy
    rw [List.getElem?_set] at hy
    dsimp only
    by_cases c : k = j
    · subst c
      rw [if_pos rfl, if_pos hlt] at hy
      cases hy
      have := h3.1 k x hx
      rw [upd_s]
      exact ⟨this.1, this.2.1, rfl⟩
    · rw [if_neg c] at hy
      rw [upd_n (fun e => c e.symm)]
      exact h3.1 j y hy
  · show u.2.1.2.2.2.1 = nI ((aL A).set k (x.1, x.2.1, d)).length
    rw [List.length_set]
    exact h3.2.1
