/-! the reference's row of ints that shows the picture -/
def R8 (s : zF) (A : AS) : Prop := (∀ k x, (aL A)[k]? = some x → s (22 + 3 * k) = x.1 ∧ s (22 + 3 * k + 1) = nI x.2.1 ∧ s (22 + 3 * k + 2) = nI x.2.2) ∧ s 9 = nI (aL A).length ∧ s 8 = nI (aG A) ∧ (∀ d, d < 12 → s (10 + d) = bI (aJ A d)) ∧ (s 0 = nI (aLim A) ∧ s 1 = nI (aCap A) ∧ s 2 = nI (aRule A)) ∧ s 3 = nI (aW A) ∧ (s 4, s 5, s 6, s 7) = aC A
theorem R8.congr {s s' : zF} {A : AS} (h : R8 s A) (hl : (aL A).length ≤ 40) (he : ∀ k, k < 142 → s' k = s k) : R8 s' A := by
  obtain ⟨h1, h2, h3, h4, h5, h6, h7⟩ := h
  refine ⟨fun k x hx => ?_, ?_, ?_, fun d hd => ?_, ⟨?_, ?_, ?_⟩, ?_, ?_⟩
  · have hk := (List.getElem?_eq_some_iff.mp hx).1
    rw [he _ (by omega), he _ (by omega), he _ (by omega)]
    exact h1 k x hx
  · rw [he _ (by omega)]; exact h2
  · rw [he _ (by omega)]; exact h3
  · rw [he _ (by omega)]; exact h4 d hd
  · rw [he _ (by omega)]; exact h5.1
  · rw [he _ (by omega)]; exact h5.2.1
  · rw [he _ (by omega)]; exact h5.2.2
  · rw [he _ (by omega)]; exact h6
  · rw [he _ (by omega), he _ (by omega), he _ (by omega), he _ (by omega)]; exact h7
theorem q0 (s : zF) : aget s 142 0 = some (s 0) := aget_n (k := 0) (by omega) (by omega)
theorem q1 (s : zF) : aget s 142 1 = some (s 1) := aget_n (k := 1) (by omega) (by omega)
theorem q3 (s : zF) : aget s 142 3 = some (s 3) := aget_n (k := 3) (by omega) (by omega)
theorem q4 (s : zF) : aget s 142 4 = some (s 4) := aget_n (k := 4) (by omega) (by omega)
theorem q5 (s : zF) : aget s 142 5 = some (s 5) := aget_n (k := 5) (by omega) (by omega)
theorem q6 (s : zF) : aget s 142 6 = some (s 6) := aget_n (k := 6) (by omega) (by omega)
theorem q7 (s : zF) : aget s 142 7 = some (s 7) := aget_n (k := 7) (by omega) (by omega)
theorem q8 (s : zF) : aget s 142 8 = some (s 8) := aget_n (k := 8) (by omega) (by omega)
theorem q9 (s : zF) : aget s 142 9 = some (s 9) := aget_n (k := 9) (by omega) (by omega)
theorem qs3 (s : zF) (x : Int32) : aset s 142 3 x = some (upd s 3 x) := aset_n (k := 3) (by omega) (by omega)
theorem qs4 (s : zF) (x : Int32) : aset s 142 4 x = some (upd s 4 x) := aset_n (k := 4) (by omega) (by omega)
theorem qs5 (s : zF) (x : Int32) : aset s 142 5 x = some (upd s 5 x) := aset_n (k := 5) (by omega) (by omega)
theorem qs6 (s : zF) (x : Int32) : aset s 142 6 x = some (upd s 6 x) := aset_n (k := 6) (by omega) (by omega)
theorem qs7 (s : zF) (x : Int32) : aset s 142 7 x = some (upd s 7 x) := aset_n (k := 7) (by omega) (by omega)
theorem qs8 (s : zF) (x : Int32) : aset s 142 8 x = some (upd s 8 x) := aset_n (k := 8) (by omega) (by omega)
theorem qs9 (s : zF) (x : Int32) : aset s 142 9 x = some (upd s 9 x) := aset_n (k := 9) (by omega) (by omega)
theorem pos3 (k : Nat) : (22 : Int32) + 3 * nI k = nI (22 + 3 * k) := by
  rw [show (3 : Int32) = nI 3 from rfl, pk_mul, show (22 : Int32) = nI 22 from rfl, nI_add]
theorem pos10 (k : Nat) : (10 : Int32) + nI k = nI (10 + k) := nI_add 10 k
theorem x8_of (u : tX8) {k j : Nat} (hk : k < 40) (hj : j < 3) : f_X8_of u (nI k) (nI j) = some (u.2.1 (22 + 3 * k + j)) := by
  unfold f_X8_of
  rw [pos3, nI_add, aget_n (by omega) (by omega)]
  rfl
theorem x8_of0 {u : tX8} {A : AS} (h : R8 u.2.1 A) {k : Nat} {x : It} (hk : k < 40) (hx : (aL A)[k]? = some x) : f_X8_of u (nI k) 0 = some x.1 := by
  rw [show (0 : Int32) = nI 0 from rfl, x8_of u hk (by omega), Nat.add_zero, (h.1 k x hx).1]
theorem x8_of1 {u : tX8} {A : AS} (h : R8 u.2.1 A) {k : Nat} {x : It} (hk : k < 40) (hx : (aL A)[k]? = some x) : f_X8_of u (nI k) 1 = some (nI x.2.1) := by
  rw [show (1 : Int32) = nI 1 from rfl, x8_of u hk (by omega), (h.1 k x hx).2.1]
theorem x8_of2 {u : tX8} {A : AS} (h : R8 u.2.1 A) {k : Nat} {x : It} (hk : k < 40) (hx : (aL A)[k]? = some x) : f_X8_of u (nI k) 2 = some (nI x.2.2) := by
  rw [show (2 : Int32) = nI 2 from rfl, x8_of u hk (by omega), (h.1 k x hx).2.2]
theorem add0 (x : Int32) : x + 0 = x := Int32.add_zero x
theorem x8_load {u : tX8} {A : AS} {G : Nat} (h : R8 u.2.1 A) (hw : Wf (aL A) G) {d : Nat} (hd : d < 12) : f_X8_loadOf u (nI d) = some (zI (ld (aL A) d)) := by
  have hl := hw.1
  unfold f_X8_loadOf
  have hst : ∀ k, k < (aL A).length → b_X8_loadOf_4 u (nI d) ((fun k => (zI (ld ((aL A).take k) d), nI k)) k) = some (.inl ((fun k => (zI (ld ((aL A).take k) d), nI k)) (k + 1))) := by
    intro k hk
    have hx := List.getElem?_eq_getElem hk
    have h2 := hw.wt (List.getElem_mem hk)
    unfold b_X8_loadOf_4
    dsimp only
    rw [q9, Option.bind_some, h.2.1, if_neg (nI_ge hk (by omega)), x8_of2 h (by omega) hx, Option.bind_some, nI_1, ld, ld, sm_take _ hk]
    by_cases h3 : (aL A)[k].2.2 = d
    · rw [if_pos (by rw [h3]), if_pos h3, x8_of1 h (by omega) hx, Option.bind_some, nI_zI ((aL A)[k].2.1), zI_add]
    · rw [if_neg (fun e => h3 ((nI_eq (by omega) (by omega)).mp e)), if_neg h3, Int.add_zero, add0]
  have hen : b_X8_loadOf_4 u (nI d) ((fun k => (zI (ld ((aL A).take k) d), nI k)) (aL A).length) = some (.inr (zI (ld (aL A) d))) := by
    unfold b_X8_loadOf_4
    dsimp only
    rw [q9, Option.bind_some, h.2.1, if_pos (nI_le (Nat.le_refl _) (by omega)), List.take_length]
  rw [lp_st (s := (0, 0)) _ _ _ _ hst hen (by omega) rfl]
  rfl
theorem x8_items {u : tX8} {A : AS} (h : R8 u.2.1 A) (hw : Wf (aL A) (aG A)) {d : Nat} (hd : d < 12) : f_X8_itemsOf u (nI d) = some (zI (cn (aL A) d)) := by
  have hl := hw.1
  unfold f_X8_itemsOf
  have hst : ∀ k, k < (aL A).length → b_X8_itemsOf_4 u (nI d) ((fun k => (zI (cn ((aL A).take k) d), nI k)) k) = some (.inl ((fun k => (zI (cn ((aL A).take k) d), nI k)) (k + 1))) := by
    intro k hk
    have hx := List.getElem?_eq_getElem hk
    have h2 := hw.wt (List.getElem_mem hk)
    unfold b_X8_itemsOf_4
    dsimp only
    rw [q9, Option.bind_some, h.2.1, if_neg (nI_ge hk (by omega)), x8_of2 h (by omega) hx, Option.bind_some, nI_1, cn, cn, sm_take _ hk]
    by_cases h3 : (aL A)[k].2.2 = d
    · rw [if_pos (by rw [h3]), if_pos h3, show (1 : Int32) = zI 1 from rfl, zI_add]
    · rw [if_neg (fun e => h3 ((nI_eq (by omega) (by omega)).mp e)), if_neg h3, Int.add_zero, add0]
  have hen : b_X8_itemsOf_4 u (nI d) ((fun k => (zI (cn ((aL A).take k) d), nI k)) (aL A).length) = some (.inr (zI (cn (aL A) d))) := by
    unfold b_X8_itemsOf_4
    dsimp only
    rw [q9, Option.bind_some, h.2.1, if_pos (nI_le (Nat.le_refl _) (by omega)), List.take_length]
  rw [lp_st (s := (0, 0)) _ _ _ _ hst hen (by omega) rfl]
  rfl
theorem i6 {k : Nat} (hk : k < 2 ^ 31) : ((6 : Int32) ≤ nI k) ↔ 6 ≤ k := nI_leI (a := 6) (by omega) hk
theorem i6e {k : Nat} (hk : k < 2 ^ 31) : (nI k = (6 : Int32)) ↔ k = 6 := nI_eq (b := 6) hk (by omega)
theorem i0e {k : Nat} (hk : k < 2 ^ 31) : (nI k = (0 : Int32)) ↔ k = 0 := nI_eq (b := 0) hk (by omega)
theorem x8_imb {u : tX8} {A : AS} {G : Nat} (h : R8 u.2.1 A) (hw : Wf (aL A) G) {w : Nat} (hd : w < 12) : f_X8_imbalance u (nI w) = some (nI (tilt (aL A) w).natAbs) := by
  have hl := hw.1
  unfold f_X8_imbalance
  have hst : ∀ k, k < (aL A).length → b_X8_imbalance_4 u (nI w) ((fun k => (zI (tilt ((aL A).take k) w), nI k)) k) = some (.inl ((fun k => (zI (tilt ((aL A).take k) w), nI k)) (k + 1))) := by
    intro k hk
    have hx := List.getElem?_eq_getElem hk
    have h2 := hw.wt (List.getElem_mem hk)
    have hp := pl_lt (aL A)[k].2.2 w
    unfold b_X8_imbalance_4
    dsimp only
    rw [q9, Option.bind_some, h.2.1, if_neg (nI_ge hk (by omega)), x8_of2 h (by omega) hx, Option.bind_some, nI_1, tilt, tilt, sm_take _ hk, x8_place _ h2.2.2 _ hd]
    unfold side
    by_cases c0 : pl (aL A)[k].2.2 w = 0
    · rw [if_pos ((i0e (by omega)).mpr c0), if_pos c0, Int.mul_zero, Int.add_zero, add0]
    · rw [if_neg (fun e => c0 ((i0e (by omega)).mp e)), if_neg c0]
      by_cases c6 : pl (aL A)[k].2.2 w = 6
      · rw [if_pos ((i6e (by omega)).mpr c6), if_pos c6, Int.mul_zero, Int.add_zero, add0]
      · rw [if_neg (fun e => c6 ((i6e (by omega)).mp e)), if_neg c6]
        by_cases c7 : 6 ≤ pl (aL A)[k].2.2 w
        · rw [if_pos ((i6 (by omega)).mpr c7), if_pos c7, x8_of1 h (by omega) hx, Option.bind_some, nI_zI ((aL A)[k].2.1), zI_neg, zI_add, Int.mul_neg, Int.mul_one]
        · rw [if_neg (fun e => c7 ((i6 (by omega)).mp e)), if_neg c7, x8_of1 h (by omega) hx, Option.bind_some, nI_zI ((aL A)[k].2.1), zI_add, Int.mul_one]
  have hen : b_X8_imbalance_4 u (nI w) ((fun k => (zI (tilt ((aL A).take k) w), nI k)) (aL A).length) = some (.inr (zI (tilt (aL A) w))) := by
    unfold b_X8_imbalance_4
    dsimp only
    rw [q9, Option.bind_some, h.2.1, if_pos (nI_le (Nat.le_refl _) (by omega)), List.take_length]
  rw [lp_st (s := (0, 0)) _ _ _ _ hst hen (by omega) rfl, Option.bind_some]
  have hb := hw.Tb w
  by_cases c : 0 ≤ tilt (aL A) w
  · rw [if_pos (show (0 : Int32) ≤ _ from (zI_le (a := 0) (by omega) (by omega) (by omega) (by omega)).mpr c), nI_zI]
    congr 2
    omega
  · rw [if_neg (show ¬ (0 : Int32) ≤ _ from fun e => c ((zI_le (a := 0) (by omega) (by omega) (by omega) (by omega)).mp e)), nI_zI, zI_neg]
    congr 2
    omega
def gA (L : List It) : Nat := mx (fun w => (tilt L w).natAbs) 12
theorem x8_great {u : tX8} {A : AS} (h : R8 u.2.1 A) (hw : Wf (aL A) (aG A)) : f_X8_greatest u = some (nI (gA (aL A))) := by
  have hb : ∀ k, mx (fun w => (tilt (aL A) w).natAbs) k < 200000 := fun k => mx_lt (by omega) (fun j _ => by have := hw.Tb j; omega)
  unfold f_X8_greatest
  have hst : ∀ k, k < 12 → b_X8_greatest_4 u ((fun k => (nI (mx (fun w => (tilt (aL A) w).natAbs) k), nI k)) k) = some (.inl ((fun k => (nI (mx (fun w => (tilt (aL A) w).natAbs) k), nI k)) (k + 1))) := by
    intro k hk
    have h1 := hb k
    have h2 := hw.Tb k
    unfold b_X8_greatest_4
    dsimp only
    rw [if_neg (g12 hk), x8_imb h hw hk, Option.bind_some, Option.bind_some, nI_1]
    show _ = some (Sum.inl (nI (max (mx (fun w => (tilt (aL A) w).natAbs) k) (tilt (aL A) k).natAbs), _))
    by_cases c : (tilt (aL A) k).natAbs ≤ mx (fun w => (tilt (aL A) w).natAbs) k
    · rw [if_pos ((nI_leI (by omega) (by omega)).mpr c), Nat.max_eq_left c]
    · rw [if_neg (fun e => c ((nI_leI (by omega) (by omega)).mp e)), Nat.max_eq_right (by omega)]
  have hen : b_X8_greatest_4 u ((fun k => (nI (mx (fun w => (tilt (aL A) w).natAbs) k), nI k)) 12) = some (.inr (nI (gA (aL A)))) := by
    unfold b_X8_greatest_4
    dsimp only
    rw [if_pos e12]
    rfl
  rw [lp_st (s := (0, 0)) _ _ _ _ hst hen (by omega) rfl]
  rfl
theorem x8_place_of {u : tX8} {A : AS} (h : R8 u.2.1 A) (hl : (aL A).length ≤ 40) (n : Int32) : f_X8_placeOfItem u n = some (sl (aL A) n) := by
  unfold f_X8_placeOfItem
  obtain ⟨e, h1, h2⟩ := lp_run (b_X8_placeOfItem_2 u n) (aL A).length (fun k s => s = nI k ∧ ∀ j (hj : j < (aL A).length), j < k → (aL A)[j].1 ≠ n) (fun e => e = sl (aL A) n) (fun k s hk hs => by
    obtain ⟨rfl, hs⟩ := hs
    unfold b_X8_placeOfItem_2
    rw [q9, Option.bind_some, h.2.1]
    rcases Nat.lt_or_ge k (aL A).length with h5 | h5
    · rw [if_neg (nI_ge h5 (by omega)), x8_of0 h (by omega) (List.getElem?_eq_getElem h5), Option.bind_some]
      by_cases h6 : (aL A)[k].1 = n
      · left
        rw [if_pos h6]
        refine ⟨_, rfl, ?_⟩
        unfold sl
        rw [ix_some.mpr ⟨h5, h6, fun j hj => hs j (by omega) hj⟩]
      · right
        rw [if_neg h6, nI_1]
        refine ⟨h5, _, rfl, rfl, fun j hj hjk => ?_⟩
        by_cases h7 : j = k
        · subst h7; exact h6
        · exact hs j hj (by omega)
    · left
      rw [if_pos (nI_le h5 (by omega))]
      refine ⟨_, rfl, ?_⟩
      unfold sl
      rw [ix_none.mpr (fun x hx => by
        obtain ⟨j, hj, rfl⟩ := List.getElem_of_mem hx
        exact hs j hj (by omega))]) 5000 0 0 (Nat.zero_le _) (by omega) ⟨rfl, fun j _ hj => absurd hj (Nat.not_lt_zero _)⟩
  rw [h1, h2]
/-- open, by steps of b drawers -/
def opn (ok : Nat → Bool) (w b : Nat) : Nat → Bool
  | 0 => true
  | n + 1 => opn ok w b n && ok ((w + (n + 1) * b) % 12)
theorem opn_up (ok : Nat → Bool) (w : Nat) : ∀ n, opn ok w 1 n = up_ok ok w n := by
  intro n
  induction n with
  | zero => rfl
  | succ n ih =>
    show (opn ok w 1 n && ok ((w + (n + 1) * 1) % 12)) = _
    unfold up_ok at ih ⊢
    rw [ih, List.range_succ, List.all_append, Nat.mul_one]
    simp
theorem opn_dn (ok : Nat → Bool) (w : Nat) : ∀ n, opn ok w 11 n = dn_ok ok w n := by
  intro n
  induction n with
  | zero => rfl
  | succ n ih =>
    show (opn ok w 11 n && ok ((w + (n + 1) * 11) % 12)) = _
    unfold dn_ok at ih ⊢
    rw [ih, List.range_succ, List.all_append]
    simp
theorem rem12 {a : Nat} (ha : a < 2 ^ 31) : i_rem (nI a) 12 = nI (a % 12) := by
  unfold i_rem
  exact pk_rem (d := 12) ha (by omega) (by omega)
theorem x8_open {u : tX8} {A : AS} (h : R8 u.2.1 A) (hi : Inv A) {n b : Nat} (hn : n ≤ 12) (hb : b < 12) : f_X8_isOpen u (nI n) (nI b) = some (opn (okA A) (aW A) b n) := by
  obtain ⟨hw, i2, i3, i4, i5, i6, i7, i8⟩ := hi
  unfold f_X8_isOpen
  have hst : ∀ k, k < n → b_X8_isOpen_5 u (nI n) (nI b) ((fun k => (opn (okA A) (aW A) b k, nI (k + 1))) k) = some (.inl ((fun k => (opn (okA A) (aW A) b k, nI (k + 1))) (k + 1))) := by
    intro k hk
    unfold b_X8_isOpen_5
    dsimp only
    rw [if_neg (nI_nlt (by omega) (by omega)), nI_1]
    show _ = some (Sum.inl (opn (okA A) (aW A) b k && okA A ((aW A + (k + 1) * b) % 12), _))
    have hkb : (k + 1) * b ≤ 12 * 12 := Nat.mul_le_mul (by omega) (by omega)
    have ht := hw.Tb ((aW A + (k + 1) * b) % 12)
    by_cases c : opn (okA A) (aW A) b k = true
    · rw [if_pos c, q3, Option.bind_some, h.2.2.2.2.2.1, pk_mul, nI_add, rem12 (by omega), x8_imb h hw (Nat.mod_lt _ (by omega)), Option.bind_some, q0, Option.bind_some, h.2.2.2.2.1.1, c, Bool.true_and]
      unfold okA
      by_cases c2 : (tilt (aL A) ((aW A + (k + 1) * b) % 12)).natAbs ≤ aLim A
      · rw [if_neg (nI_nlt c2 (by omega)), decide_eq_true c2]
      · rw [if_pos (nI_lt (by omega) (by omega)), decide_eq_false c2]
    · rw [if_neg c]
      rw [Bool.not_eq_true] at c
      rw [c, Bool.false_and]
  have hen : b_X8_isOpen_5 u (nI n) (nI b) ((fun k => (opn (okA A) (aW A) b k, nI (k + 1))) n) = some (.inr (opn (okA A) (aW A) b n)) := by
    unfold b_X8_isOpen_5
    dsimp only
    rw [if_pos (nI_lt (by omega) (by omega))]
  rw [lp_st (s := (true, 1)) _ _ _ _ hst hen (by omega) rfl]
  rfl
theorem x8_way {u : tX8} {A : AS} (h : R8 u.2.1 A) (hi : Inv A) {d : Nat} (hd : d < 12) : f_X8_wayTo u (nI d) = some (zI (wayA A d)) := by
  have hp := pl_lt d (aW A)
  unfold f_X8_wayTo
  rw [q3, Option.bind_some, h.2.2.2.2.2.1, x8_place d hd _ hi.2.2.2.2.2.2.2]
  generalize hu : pl d (aW A) = n at hp
  by_cases c0 : n = 0
  · have hv : wayA A d = 0 := by
      unfold wayA wy
      rw [if_pos (hu.trans c0)]
    rw [hv, c0, if_pos (show nI 0 = 0 from rfl)]
    rfl
  rw [if_neg (nz (by omega) (by omega)), show (1 : Int32) = nI 1 from rfl, show (11 : Int32) = nI 11 from rfl, show (12 : Int32) = nI 12 from rfl, pk_sub (by omega), x8_open h hi (by omega) (by omega), x8_open h hi (by omega) (by omega), Option.bind_some, Option.bind_some, opn_up, opn_dn, nI_zI n, nI_zI (12 - n), zI_neg]
  have k3 : (zI n ≤ (6 : Int32)) ↔ n ≤ 6 := by
    rw [← nI_zI]
    exact nI_leI (b := 6) (by omega) (by omega)
  have e1 : -((12 - n : Nat) : Int) = (n : Int) - 12 := by omega
  rw [e1]
  cases c1 : up_ok (okA A) (aW A) n with
  | true =>
    cases c2 : dn_ok (okA A) (aW A) (12 - n) with
    | true =>
      by_cases c3 : n ≤ 6
      · have hv : wayA A d = n := by
          unfold wayA wy
          rw [hu, if_neg c0, if_pos ⟨c1, Or.inl c3⟩]
        rw [hv, if_pos rfl, if_pos rfl, if_pos (k3.mpr c3)]
      · have hv : wayA A d = (n : Int) - 12 := by
          unfold wayA wy
          rw [hu, if_neg c0, if_neg (fun x => by rcases x.2 with y | y
                                                 · exact c3 y
                                                 · rw [c2] at y
                                                   cases y), if_pos c2]
        rw [hv, if_pos rfl, if_pos rfl, if_neg (fun x => c3 (k3.mp x)), if_pos rfl]
    | false =>
      have hv : wayA A d = n := by
        unfold wayA wy
        rw [hu, if_neg c0, if_pos ⟨c1, Or.inr c2⟩]
      by_cases c3 : n ≤ 6
      · rw [hv, if_pos rfl, if_pos rfl, if_pos (k3.mpr c3)]
      · rw [hv, if_pos rfl, if_pos rfl, if_neg (fun x => c3 (k3.mp x)), if_neg (show ¬ (false = true) by decide)]
  | false =>
    cases c2 : dn_ok (okA A) (aW A) (12 - n) with
    | true =>
      have hv : wayA A d = (n : Int) - 12 := by
        unfold wayA wy
        rw [hu, if_neg c0, if_neg (fun x => by rw [c1] at x; cases x.1), if_pos c2]
      rw [hv, if_neg (show ¬ (false = true) by decide), if_pos rfl, if_neg (show ¬ (false = true) by decide)]
    | false =>
      have hv : wayA A d = 99 := by
        unfold wayA wy
        rw [hu, if_neg c0, if_neg (fun x => by rw [c1] at x; cases x.1), if_neg (fun x => by rw [c2] at x; cases x)]
      rw [hv, if_neg (show ¬ (false = true) by decide), if_neg (show ¬ (false = true) by decide)]
      rfl
theorem x8_reason {u : tX8} {A : AS} (h : R8 u.2.1 A) (hi : Inv A) (n : Int32) : f_X8_reason u n = some (nI (reasonA A n)) := by
  unfold f_X8_reason reasonA
  rw [x8_place_of h hi.1.1, Option.bind_some]
  unfold sl
  cases e : ix (aL A) n with
  | none =>
    rw [fd_no e]
    exact if_pos rfl
  | some k =>
    obtain ⟨x, hx, h1, _, hm⟩ := fd_of e
    have hk := ix_lt e
    have hl := hi.1.1
    have hd := (hi.1.wt hm).2.2
    rw [h1]
    dsimp only
    rw [if_neg (nI_nm1 (by omega)), x8_of2 h (by omega) hx, Option.bind_some, pos10, aget_n (by omega) (by omega), Option.bind_some, Option.bind_some, h.2.2.2.1 _ hd]
    cases j : aJ A x.2.2 with
    | true =>
      rw [if_pos (show bI true = 1 from rfl), if_pos rfl]
      rfl
    | false =>
      rw [if_neg (show ¬ bI false = 1 by decide), if_neg (by decide), x8_way h hi hd, Option.bind_some]
      by_cases h4 : wayA A x.2.2 = 99
      · rw [if_pos ((way_99 _ _).mpr h4), if_pos h4]
        rfl
      · rw [if_neg (fun e => h4 ((way_99 _ _).mp e)), if_neg h4]
        rfl
theorem x8_size {w : Int} (h1 : -100 < w) (h2 : w < 100) : f_X8_size (zI w) = nI w.natAbs := by
  unfold f_X8_size
  by_cases c : 0 ≤ w
  · rw [if_pos (show (0 : Int32) ≤ _ from (zI_le (a := 0) (by omega) (by omega) (by omega) (by omega)).mpr c), nI_zI]
    congr 1
    omega
  · rw [if_neg (show ¬ (0 : Int32) ≤ _ from fun e => c ((zI_le (a := 0) (by omega) (by omega) (by omega) (by omega)).mp e)), nI_zI, zI_neg]
    congr 1
    omega
theorem way_b (A : AS) (d : Nat) : -100 < wayA A d ∧ wayA A d < 100 := by
  have := wy_range (okA A) (aW A) d
  unfold wayA
  omega
theorem x8_steps {u : tX8} {A : AS} (h : R8 u.2.1 A) (hi : Inv A) {n : Int32} {x : It} (hx : fd (aL A) n = some x) : f_X8_stepsTo u n = some (nI (wayA A x.2.2).natAbs) := by
  cases e : ix (aL A) n with
  | none => rw [fd_no e] at hx; cases hx
  | some k =>
    obtain ⟨y, hy, h1, _, hm⟩ := fd_of e
    rw [hx] at h1
    cases h1
    have hk := ix_lt e
    have hl := hi.1.1
    unfold f_X8_stepsTo
    rw [x8_place_of h hl, Option.bind_some]
    unfold sl
    rw [e]
    dsimp only
    rw [x8_of2 h (by omega) hy, Option.bind_some, x8_way h hi (hi.1.wt hm).2.2, Option.bind_some, x8_size (way_b _ _).1 (way_b _ _).2]
