/-! the picture of a state, and the class's state that shows it -/
abbrev AS : Type := List It × (Nat → Bool) × (Nat × Nat × Nat) × Nat × (Int32 × Int32 × Int32 × Int32) × Nat
abbrev aL (A : AS) : List It := A.1
abbrev aJ (A : AS) : Nat → Bool := A.2.1
abbrev aLim (A : AS) : Nat := A.2.2.1.1
abbrev aCap (A : AS) : Nat := A.2.2.1.2.1
abbrev aRule (A : AS) : Nat := A.2.2.1.2.2
abbrev aW (A : AS) : Nat := A.2.2.2.1
abbrev aC (A : AS) : Int32 × Int32 × Int32 × Int32 := A.2.2.2.2.1
abbrev aG (A : AS) : Nat := A.2.2.2.2.2
def Wf (L : List It) (G : Nat) : Prop := L.length ≤ 40 ∧ (∀ x ∈ L, 1 ≤ x.2.1 ∧ x.2.1 ≤ 20 ∧ x.2.2 < 12 ∧ ∃ j, j < G ∧ x.1 = nI j) ∧ L.Pairwise (fun x y => x.1 ≠ y.1)
def Inv (A : AS) : Prop := Wf (aL A) (aG A) ∧ aG A ≤ 1000 ∧ (∀ d, d < 12 → ld (aL A) d ≤ aCap A) ∧ aLim A ≤ 300 ∧ 10 ≤ aCap A ∧ aCap A ≤ 100 ∧ aRule A ≤ 2 ∧ aW A < 12
def R3 (u : tX3) (L : List It) (G : Nat) : Prop := (∀ k x, L[k]? = some x → u.1 k = x.1 ∧ u.2.1 k = nI x.2.1 ∧ u.2.2.1 k = nI x.2.2) ∧ u.2.2.2.1 = nI L.length ∧ u.2.2.2.2 = nI G
def bI (b : Bool) : Int32 := if b = true then 1 else 0
def R6 (u : tX6) (A : AS) : Prop := Bal u.1 (ld (aL A)) (tilt (aL A)) ∧ R3 u.2.1 (aL A) (aG A) ∧ (∀ d, d < 12 → u.2.2.1 d = bI (aJ A d)) ∧ (u.2.2.2.1 0 = nI (aLim A) ∧ u.2.2.2.1 1 = nI (aCap A) ∧ u.2.2.2.1 2 = nI (aRule A)) ∧ u.2.2.2.2.1 = nI (aW A) ∧ u.2.2.2.2.2 = aC A
theorem Wf.wt {L : List It} {G : Nat} (h : Wf L G) {x : It} (hx : x ∈ L) : 1 ≤ x.2.1 ∧ x.2.1 ≤ 20 ∧ x.2.2 < 12 := ⟨(h.2.1 x hx).1, (h.2.1 x hx).2.1, (h.2.1 x hx).2.2.1⟩
theorem tilt_Tb {L : List It} (hl : L.length ≤ 40) (hw : ∀ x ∈ L, x.2.1 ≤ 20) : Tb (tilt L) := by
  intro w
  have h := sm_bound (fun x => (x.2.1 : Int) * side x.2.2 w) 20 (L := L) (fun x hx => by
    have h1 := hw x hx
    have h2 := side_mul x.2.1 x.2.2 w
    omega)
  unfold tilt
  omega
theorem Wf.Tb {L : List It} {G : Nat} (h : Wf L G) : Tb (tilt L) := tilt_Tb h.1 (fun _ hx => (h.wt hx).2.1)
theorem ld_nn (L : List It) (d : Nat) : 0 ≤ ld L d := sm_nonneg _ (fun x _ => by split <;> omega)
theorem ld_le {L : List It} (hl : L.length ≤ 40) (hw : ∀ x ∈ L, x.2.1 ≤ 20) (d : Nat) : ld L d ≤ 800 := by
  have h := sm_bound (fun x => if x.2.2 = d then (x.2.1 : Int) else 0) 20 (L := L) (fun x hx => by
    have h1 := hw x hx
    split <;> omega)
  unfold ld
  omega
theorem Wf.ldle {L : List It} {G : Nat} (h : Wf L G) (d : Nat) : ld L d ≤ 800 := ld_le h.1 (fun _ hx => (h.wt hx).2.1) d
/-- where the item of a number is -/
def ix (L : List It) (n : Int32) : Option Nat := L.findIdx? (fun x => decide (x.1 = n))
def fd (L : List It) (n : Int32) : Option It := L.find? (fun x => decide (x.1 = n))
def sl (L : List It) (n : Int32) : Int32 := match ix L n with
  | some k => nI k
  | none => -1
theorem ix_some {L : List It} {n : Int32} {k : Nat} : ix L n = some k ↔ ∃ h : k < L.length, L[k].1 = n ∧ ∀ j (hj : j < k), L[j].1 ≠ n := by
  unfold ix
  rw [List.findIdx?_eq_some_iff_getElem]
  constructor
  · rintro ⟨h, h1, h2⟩
    exact ⟨h, of_decide_eq_true h1, fun j hj => by simpa using h2 j hj⟩
  · rintro ⟨h, h1, h2⟩
    exact ⟨h, decide_eq_true h1, fun j hj => by simpa using h2 j hj⟩
theorem ix_none {L : List It} {n : Int32} : ix L n = none ↔ ∀ x ∈ L, x.1 ≠ n := by
  unfold ix
  rw [List.findIdx?_eq_none_iff]
  constructor
  · intro h x hx
    simpa using h x hx
  · intro h x hx
    simpa using h x hx
theorem fd_ix (L : List It) (n : Int32) : fd L n = (ix L n).bind fun k => L[k]? := by
  unfold fd ix
  exact List.find?_eq_bind_findIdx?_getElem?
theorem fd_of {L : List It} {n : Int32} {k : Nat} (h : ix L n = some k) : ∃ x, L[k]? = some x ∧ fd L n = some x ∧ x.1 = n ∧ x ∈ L := by
  obtain ⟨h1, h2, _⟩ := ix_some.mp h
  refine ⟨L[k], List.getElem?_eq_getElem h1, ?_, h2, List.getElem_mem h1⟩
  rw [fd_ix, h, Option.bind_some, List.getElem?_eq_getElem h1]
theorem fd_no {L : List It} {n : Int32} (h : ix L n = none) : fd L n = none := by
  rw [fd_ix, h, Option.bind_none]
theorem ix_lt {L : List It} {n : Int32} {k : Nat} (h : ix L n = some k) : k < L.length := (ix_some.mp h).1
theorem nI_nm1 {k : Nat} (h : k < 2 ^ 31) : ¬ nI k = -1 := by
  intro e
  exact nI_pos h (by rw [e]; decide)
theorem x3_slot {u : tX3} {L : List It} {G : Nat} (h : R3 u L G) (hl : L.length ≤ 40) (n : Int32) : f_X3_slotOf u n = some (sl L n) := by
  unfold f_X3_slotOf
  obtain ⟨e, h1, h2⟩ := lp_run (b_X3_slotOf_2 u n) L.length (fun k s => s = nI k ∧ ∀ j (hj : j < L.length), j < k → L[j].1 ≠ n) (fun e => e = sl L n) (fun k s hk hs => by
    obtain ⟨rfl, hs⟩ := hs
    unfold b_X3_slotOf_2
    rw [h.2.1]
    rcases Nat.lt_or_ge k L.length with h5 | h5
    · rw [if_neg (nI_ge h5 (by omega)), if_neg (g40 (by omega)), aget_n (by omega) (by omega), Option.bind_some, (h.1 k _ (List.getElem?_eq_getElem h5)).1]
      by_cases h6 : L[k].1 = n
      · left
        rw [if_pos h6]
        refine ⟨_, rfl, ?_⟩
        unfold sl
        rw [ix_some.mpr ⟨h5, h6, fun j hj => hs j (by omega) hj⟩]
      · right
        rw [if_neg h6, nI_1]
        refine ⟨h5, _, rfl, rfl, fun j hj hjk => ?_⟩
        by_cases h7 : j = k
        · subst h7; exact h6
        · exact hs j hj (by omega)
    · left
      rw [if_pos (nI_le h5 (by omega))]
      refine ⟨_, rfl, ?_⟩
      unfold sl
      rw [ix_none.mpr (fun x hx => by
        obtain ⟨j, hj, rfl⟩ := List.getElem_of_mem hx
        exact hs j hj (by omega))]) 5000 0 0 (Nat.zero_le _) (by omega) ⟨rfl, fun j _ hj => absurd hj (Nat.not_lt_zero _)⟩
  rw [h1, h2]
theorem x3_has {u : tX3} {L : List It} {G : Nat} (h : R3 u L G) (hl : L.length ≤ 40) (n : Int32) : f_X3_has u n = some (ix L n).isSome := by
  unfold f_X3_has
  rw [x3_slot h hl, Option.bind_some]
  unfold sl
  cases e : ix L n with
  | none => exact if_pos rfl
  | some k => exact if_neg (nI_nm1 (by have := ix_lt e; omega))
theorem x3_weight {u : tX3} {L : List It} {G : Nat} (h : R3 u L G) (hl : L.length ≤ 40) {n : Int32} {k : Nat} {x : It} (hk : ix L n = some k) (hx : L[k]? = some x) : f_X3_weightOf u n = some (nI x.2.1) := by
  have := ix_lt hk
  unfold f_X3_weightOf
  rw [x3_slot h hl, Option.bind_some]
  unfold sl
  rw [hk]
  dsimp only
  rw [at_n (by omega) (by omega), (h.1 k x hx).2.1]
theorem x3_drawer {u : tX3} {L : List It} {G : Nat} (h : R3 u L G) (hl : L.length ≤ 40) {n : Int32} {k : Nat} {x : It} (hk : ix L n = some k) (hx : L[k]? = some x) : f_X3_drawerOf u n = some (nI x.2.2) := by
  have := ix_lt hk
  unfold f_X3_drawerOf
  rw [x3_slot h hl, Option.bind_some]
  unfold sl
  rw [hk]
  dsimp only
  rw [at_n (by omega) (by omega), (h.1 k x hx).2.2]
def propA (L : List It) (n : Int32) (what : Nat) : Int32 := match fd L n with
  | none => -1
  | some x => if what = 0 then nI x.2.1 else nI x.2.2
theorem x3_prop {u : tX3} {L : List It} {G : Nat} (h : R3 u L G) (hl : L.length ≤ 40) (n : Int32) {what : Nat} (hw : what < 2 ^ 31) : f_X3_propertyOf u n (nI what) = some (propA L n what) := by
  unfold f_X3_propertyOf propA
  rw [x3_has h hl, Option.bind_some]
  cases e : ix L n with
  | none =>
    rw [fd_no e]
    exact if_neg (by decide)
  | some k =>
    obtain ⟨x, hx, h1, _, _⟩ := fd_of e
    rw [h1, Option.isSome_some, if_pos rfl]
    dsimp only
    by_cases h0 : what = 0
    · subst h0
      rw [if_pos (show nI 0 = 0 from rfl), if_pos rfl, x3_weight h hl e hx]
      rfl
    · rw [if_neg (nI_ne0 (by omega) hw), if_neg h0, x3_drawer h hl e hx]
      rfl
def cn (L : List It) (d : Nat) : Int := sm (fun x => if x.2.2 = d then 1 else 0) L
theorem x3_lie {u : tX3} {L : List It} {G : Nat} (h : R3 u L G) (hw : Wf L G) {d : Nat} (hd : d < 12) : f_X3_lieIn u (nI d) = some (zI (cn L d)) := by
  have hl := hw.1
  unfold f_X3_lieIn
  have hst : ∀ k, k < L.length → (b_X3_lieIn_4 u (nI d)) ((fun k => (zI (cn (L.take k) d), nI k)) k) = some (.inl ((fun k => (zI (cn (L.take k) d), nI k)) (k + 1))) := by
    intro k hk
    unfold b_X3_lieIn_4
    dsimp only
    have h2 := hw.wt (List.getElem_mem hk)
    rw [h.2.1, if_neg (nI_ge hk (by omega)), at_n (by omega) (by omega), (h.1 k _ (List.getElem?_eq_getElem hk)).2.2, cn, cn, sm_take _ hk, nI_1]
    by_cases h3 : L[k].2.2 = d
    · rw [if_pos (by rw [h3]), if_pos h3, show (1 : Int32) = zI 1 from rfl, zI_add]
    · rw [if_neg (fun e => h3 ((nI_eq (by omega) (by omega)).mp e)), if_neg h3, Int.add_zero]
  have hen : (b_X3_lieIn_4 u (nI d)) ((fun k => (zI (cn (L.take k) d), nI k)) (L.length)) = some (.inr (zI (cn L d))) := by
    unfold b_X3_lieIn_4
    dsimp only
    rw [h.2.1, if_pos (nI_le (Nat.le_refl _) (by omega)), List.take_length]
  rw [lp_st (s := (0, 0)) (b_X3_lieIn_4 u (nI d)) L.length (fun k => (zI (cn (L.take k) d), nI k)) (zI (cn L d)) hst hen (by omega) rfl]
  rfl
def okA (A : AS) (w : Nat) : Bool := decide ((tilt (aL A) w).natAbs ≤ aLim A)
def wayA (A : AS) (d : Nat) : Int := wy (okA A) (aW A) d
theorem wy_range (ok : Nat → Bool) (w d : Nat) : wy ok w d = 99 ∨ (-12 < wy ok w d ∧ wy ok w d < 12) := by
  unfold wy
  have := pl_lt d w
  split
  · omega
  · split
    · omega
    · split <;> omega
theorem x6_way {u : tX6} {A : AS} (h : R6 u A) (hi : Inv A) {d : Nat} (hd : d < 12) : f_X6_wayTo u (nI d) = some (zI (wayA A d)) := by
  unfold f_X6_wayTo
  obtain ⟨hb, h3, hj, hs, hw, hc⟩ := h
  rw [show (0 : Int32) = nI 0 from rfl, at_n (by omega) (by omega), hs.1, x0_bal hb hi.1.Tb (by have := hi.2.2.2.1; omega), Option.bind_some, hw]
  rw [x7_way rfl hi.2.2.2.2.2.2.2 hd, Option.bind_some]
  rfl
theorem x6_jam {u : tX6} {A : AS} (h : R6 u A) {d : Nat} (hd : d < 12) : f_X6_isJammed u (nI d) = aJ A d := by
  unfold f_X6_isJammed
  rw [at_n hd (by omega), h.2.2.1 d hd]
  unfold bI
  cases aJ A d <;> decide
def reasonA (A : AS) (n : Int32) : Nat := match fd (aL A) n with
  | none => 1
  | some x => if aJ A x.2.2 = true then 2 else if wayA A x.2.2 = 99 then 3 else 0
theorem zI_99 (ok : Nat → Bool) (w d : Nat) : zI (wy ok w d) = 99 ↔ wy ok w d = 99 := by
  have := wy_range ok w d
  exact zI_eq (b := 99) (by omega) (by omega) (by omega) (by omega)
theorem way_99 (A : AS) (d : Nat) : zI (wayA A d) = 99 ↔ wayA A d = 99 := zI_99 _ _ _
theorem x6_reason {u : tX6} {A : AS} (h : R6 u A) (hi : Inv A) (n : Int32) : f_X6_reasonAgainst u n = some (nI (reasonA A n)) := by
  unfold f_X6_reasonAgainst reasonA
  rw [x3_has h.2.1 hi.1.1, Option.bind_some]
  cases e : ix (aL A) n with
  | none =>
    rw [fd_no e]
    exact if_neg (by decide)
  | some k =>
    obtain ⟨x, hx, h1, _, hm⟩ := fd_of e
    have hd := (hi.1.wt hm).2.2
    rw [h1, Option.isSome_some, if_pos rfl, x3_drawer h.2.1 hi.1.1 e hx, Option.bind_some, x6_jam h hd]
    dsimp only
    by_cases h2 : aJ A x.2.2 = true
    · rw [if_pos h2, if_pos h2]
      rfl
    · rw [if_neg h2, if_neg h2, x6_way h hi hd, Option.bind_some]
      by_cases h4 : wayA A x.2.2 = 99
      · rw [if_pos ((way_99 _ _).mpr h4), if_pos h4]
        rfl
      · rw [if_neg (fun e => h4 ((way_99 _ _).mp e)), if_neg h4]
        rfl
/-- a turn: what is counted -/
def cnt (C : Int32 × Int32 × Int32 × Int32) (w : Int) : Int32 × Int32 × Int32 × Int32 := (C.1 + nI w.natAbs, C.2.1 + nI (-w).toNat, if 6 < w ∨ w ≤ -6 then C.2.2.1 + 1 else C.2.2.1, C.2.2.2)
def turnA (A : AS) (d : Nat) : AS := (aL A, aJ A, A.2.2.1, d, cnt (aC A) (wayA A d), aG A)
theorem go_max : ∀ k : Nat, k < 23 → i_max 0 (-(zI ((k : Int) - 11))) = nI (-((k : Int) - 11)).toNat := by decide +kernel
theorem go_max' {w : Int} (h : -12 < w ∧ w < 12) : i_max 0 (-(zI w)) = nI (-w).toNat := by
  have := go_max (w + 11).toNat (by omega)
  rwa [show (((w + 11).toNat : Nat) : Int) - 11 = w by omega] at this
theorem l6 : (6 : Int32) = zI 6 := by decide +kernel
theorem lm6 : (-6 : Int32) = zI (-6) := by decide +kernel
theorem x6_go {u : tX6} {A : AS} (h : R6 u A) {d : Nat} {w : Int} (hw : -12 < w ∧ w < 12) : R6 (f_X6_goTo u (nI d) (zI w)) (aL A, aJ A, A.2.2.1, d, cnt (aC A) w, aG A) := by
  obtain ⟨hb, h3, hj, hs, hw1, hc⟩ := h
  obtain ⟨u1, u2, u3, u4, u5, u6, u7, u8, u9⟩ := u
  have hc2 : (u6, u7, u8, u9) = aC A := hc
  have e1 : (6 : Int32) < zI w ↔ 6 < w := by
    rw [l6]
    exact zI_lt (by omega) (by omega) (by omega) (by omega)
  have e2 : (-6 : Int32) < zI w ↔ -6 < w := by
    rw [lm6]
    exact zI_lt (by omega) (by omega) (by omega) (by omega)
  unfold f_X6_goTo
  dsimp only
  rw [zI_abs (by omega) (by omega), go_max' hw]
  have hx : cnt (aC A) w = (u6 + nI w.natAbs, u7 + nI (-w).toNat, if 6 < w ∨ w ≤ -6 then u8 + 1 else u8, u9) := by
    rw [← hc2]
    rfl
  rw [hx]
  by_cases c1 : 6 < w
  · rw [if_pos (e1.mpr c1), if_pos (Or.inl c1)]
    exact ⟨hb, h3, hj, hs, rfl, rfl⟩
  · rw [if_neg (fun e => c1 (e1.mp e))]
    by_cases c2 : -6 < w
    · rw [if_pos (e2.mpr c2), if_neg (by omega)]
      exact ⟨hb, h3, hj, hs, rfl, rfl⟩
    · rw [if_neg (fun e => c2 (e2.mp e)), if_pos (by omega)]
      exact ⟨hb, h3, hj, hs, rfl, rfl⟩
