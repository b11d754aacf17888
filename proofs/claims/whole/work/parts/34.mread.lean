/-! the reference's reader -/
def Mt (u : tX8) (t : List Nat) : Prop := (∀ k x, t[k]? = some x → u.2.2.2.2.2.1 k = nI x) ∧ u.2.2.2.2.2.2.1 = nI t.length
def sg (t : List Nat) (p : Nat) : Nat := t.getD p 0
def dgt (c : Nat) : Bool := decide (48 ≤ c ∧ c ≤ 57)
theorem sg_lt {t : List Nat} (hc : ∀ x ∈ t, x < 1000) (p : Nat) : sg t p < 1000 := by
  unfold sg
  rw [List.getD_eq_getElem?_getD]
  cases e : t[p]? with
  | none => exact (by decide : 0 < 1000)
  | some x => exact hc x (List.mem_of_getElem? e)
theorem sg_drop {t : List Nat} {p : Nat} (h : p < t.length) : t.drop p = sg t p :: t.drop (p + 1) := by
  rw [List.drop_eq_getElem_cons h]
  unfold sg
  rw [List.getD_eq_getElem?_getD, List.getElem?_eq_getElem h]
  rfl
theorem sg_end {t : List Nat} {p : Nat} (h : t.length ≤ p) : sg t p = 0 := by
  unfold sg
  rw [List.getD_eq_getElem?_getD, List.getElem?_eq_none h]
  rfl
theorem x8_sign {u : tX8} {t : List Nat} (h : Mt u t) (hl : t.length ≤ 60) {p : Nat} (hp : u.2.2.2.2.2.2.2.1 = nI p) (hp2 : p ≤ 100) : f_X8_sign u = some (nI (sg t p)) := by
  unfold f_X8_sign
  rw [h.2, hp]
  rcases Nat.lt_or_ge p t.length with c | c
  · have hx := List.getElem?_eq_getElem c
    rw [if_neg (nI_ge c (by omega)), aget_n (by omega) (by omega), h.1 p _ hx]
    unfold sg
    rw [List.getD_eq_getElem?_getD, hx]
    rfl
  · rw [if_pos (nI_le c (by omega)), sg_end c]
    rfl
theorem x8_in {a b c : Nat} (ha : a < 2 ^ 31) (hb : b < 2 ^ 31) (hc : c < 2 ^ 31) : f_X8_in (nI a) (nI b) (nI c) = decide (b ≤ a ∧ a ≤ c) := by
  unfold f_X8_in
  by_cases c1 : a < b
  · rw [if_pos (nI_lt c1 hb), decide_eq_false (by omega)]
  · rw [if_neg (nI_nlt (by omega) ha)]
    by_cases c2 : c < a
    · rw [if_pos (nI_lt c2 ha), decide_eq_false (by omega)]
    · rw [if_neg (nI_nlt (by omega) hc), decide_eq_true (by omega)]
theorem x8_dig {a : Nat} (ha : a < 1000) : f_X8_in (nI a) 48 57 = dgt a := x8_in (b := 48) (c := 57) (by omega) (by omega) (by omega)
def Rb (f : zF) (m : Int32) (L : List Nat) : Prop := (∀ k x, L[k]? = some x → f k = nI x) ∧ m = nI L.length
theorem x8_told {u : tX8} {L : List Nat} (h : Rb u.2.2.2.2.2.2.2.2.2.1 u.2.2.2.2.2.2.2.2.2.2.1 L) (hl : L.length ≤ 6) (hb : ∀ x ∈ L, x < 1000) {m : Nat} (hm : m < 2 ^ 31) : f_X8_isTold u (nI m) = some (decide (m ∈ L)) := by
  unfold f_X8_isTold
  have hst : ∀ k, k < L.length → b_X8_isTold_4 u (nI m) ((fun k => (decide (m ∈ L.take k), nI k)) k) = some (.inl ((fun k => (decide (m ∈ L.take k), nI k)) (k + 1))) := by
    intro k hk
    have hx := List.getElem?_eq_getElem hk
    have hxb := hb _ (List.getElem_mem hk)
    show b_X8_isTold_4 u (nI m) (decide (m ∈ L.take k), nI k) = some (.inl (decide (m ∈ L.take (k + 1)), nI (k + 1)))
    rw [List.take_succ_eq_append_getElem hk]
    by_cases c : m ∈ L.take k
    · rw [decide_eq_true c, decide_eq_true (List.mem_append.mpr (Or.inl c))]
      unfold b_X8_isTold_4
      dsimp only
      rw [h.2, if_neg (nI_ge hk (by omega)), if_pos rfl, nI_1]
    · rw [decide_eq_false c]
      unfold b_X8_isTold_4
      dsimp only
      rw [h.2, if_neg (nI_ge hk (by omega)), if_neg (by decide), aget_n (by omega) (by omega), Option.bind_some, h.1 k _ hx, nI_1]
      by_cases c2 : L[k] = m
      · rw [if_pos (by rw [c2]), decide_eq_true (List.mem_append.mpr (Or.inr (by rw [c2]; exact List.mem_singleton.mpr rfl)))]
      · rw [if_neg (fun e => c2 ((nI_eq (by omega) hm).mp e)), decide_eq_false (fun e => by
          rcases List.mem_append.mp e with e | e
          · exact c e
          · exact c2 (List.mem_singleton.mp e).symm)]
  have hen : b_X8_isTold_4 u (nI m) ((fun k => (decide (m ∈ L.take k), nI k)) L.length) = some (.inr (decide (m ∈ L))) := by
    unfold b_X8_isTold_4
    dsimp only
    rw [h.2, if_pos (nI_le (Nat.le_refl _) (by omega)), List.take_length]
  rw [lp_st (s := (false, 0)) _ _ _ _ hst hen (by omega) rfl]
  rfl
theorem lp_end {σ ε : Type} {f : σ → Option (σ ⊕ ε)} {s : σ} {e : ε} (h : f s = some (.inr e)) : lp 5000 f s = some e := by
  show lp (4999 + 1) f s = some e
  unfold lp
  rw [h]
theorem run_nil (s : TS) : run s [] = (0, some s) := rfl
theorem run_no {s : TS} {c : Nat} {l : List Nat} (h : stp s c = none) : run s (c :: l) = (0, none) := by
  unfold run
  rw [h]
theorem run_yes {s s' : TS} {c : Nat} {l : List Nat} (h : stp s c = some s') : run s (c :: l) = ((run s' l).1 + 1, (run s' l).2) := by
  show (match stp s c with | none => ((0 : Nat), (none : Option TS)) | some s' => ((run s' l).1 + 1, (run s' l).2)) = _
  rw [h]
theorem cg_iff {n d : Nat} : cg n d = true ↔ n ≠ 0 ∧ d < 3 := decide_eq_true_iff
/-- a number is read up to where it ends -/
def Nst (t : List Nat) (L : List Nat) (p0 n d p : Nat) : Prop := d ≤ 3 ∧ 0 < d ∧ n < 10 ^ d ∧ p0 < p ∧ p ≤ t.length ∧ (((cg n d = true ∨ ¬ n ∈ L) ∧ (run (L, 0, 0) (t.drop p0)).1 = (p - p0) + (run (L, n, d) (t.drop p)).1 ∧ (run (L, 0, 0) (t.drop p0)).2 = (run (L, n, d) (t.drop p)).2) ∨ (cg n d = false ∧ n ∈ L ∧ (run (L, 0, 0) (t.drop p0)).1 = p - 1 - p0 ∧ (run (L, 0, 0) (t.drop p0)).2 = none))
theorem x8_digits {u : tX8} {t : List Nat} (h : Mt u t) (hl : t.length ≤ 60) (hc : ∀ x ∈ t, x < 1000) {L : List Nat} {p0 n1 : Nat} {r1 : Int32} (hr : f_X8_in r1 48 57 = true) (hi : Nst t L p0 n1 1 (p0 + 1)) : ∃ e, lp 5000 (b_X8_readsNumber_46 u r1) (nI n1, 1, nI (p0 + 1)) = some e ∧ ∃ n d p, e = (nI n, nI d, nI p) ∧ Nst t L p0 n d p ∧ (cg n d = false ∨ dgt (sg t p) = false) := by
  refine lp_run (b_X8_readsNumber_46 u r1) 3 (fun k z => ∃ n d p, z = (nI n, nI d, nI p) ∧ d = k + 1 ∧ Nst t L p0 n d p) _ (fun k z hk hz => ?_) 5000 0 (nI n1, 1, nI (p0 + 1)) (by omega) (by omega) ⟨n1, 1, p0 + 1, rfl, rfl, hi⟩
  obtain ⟨n, d, p, rfl, hd, hN⟩ := hz
  obtain ⟨h1, h2, h3, h4, h5, h6⟩ := id hN
  have hn : n < 1000 := Nat.lt_of_lt_of_le h3 (Nat.pow_le_pow_right (n := 10) (by omega) h1)
  unfold b_X8_readsNumber_46
  dsimp only
  rw [hr, if_pos rfl]
  have e0 : (nI n ≤ (0 : Int32)) ↔ n = 0 := by
    rw [show (0 : Int32) = nI 0 from rfl, nI_leI (by omega) (by omega)]
    omega
  have e3 : ((3 : Int32) ≤ nI d) ↔ 3 ≤ d := nI_leI (a := 3) (by omega) (by omega)
  have stop : cg n d = false → (∃ e : Int32 × Int32 × Int32, ((some (Sum.inr (nI n, nI d, nI p)) : Option ((Int32 × Int32 × Int32) ⊕ (Int32 × Int32 × Int32)))) = some (.inr e) ∧ ∃ n d p, e = (nI n, nI d, nI p) ∧ Nst t L p0 n d p ∧ (cg n d = false ∨ dgt (sg t p) = false)) := fun hcg => ⟨_, rfl, n, d, p, rfl, hN, Or.inl hcg⟩
  by_cases c0 : n = 0
  · left
    rw [if_pos (e0.mpr c0)]
    exact stop (by
      cases q : cg n d with
      | false => rfl
      | true => exact absurd c0 (cg_iff.mp q).1)
  · rw [if_neg (fun e => c0 (e0.mp e))]
    by_cases c3 : 3 ≤ d
    · left
      rw [if_pos (e3.mpr c3)]
      exact stop (by
        cases q : cg n d with
        | false => rfl
        | true => have := (cg_iff.mp q).2; omega)
    · have hcg : cg n d = true := cg_iff.mpr ⟨c0, by omega⟩
      rw [if_neg (fun e => c3 (e3.mp e)), x8_sign (u := (u.1, u.2.1, u.2.2.1, u.2.2.2.1, u.2.2.2.2.1, u.2.2.2.2.2.1, u.2.2.2.2.2.2.1, (nI p), true, u.2.2.2.2.2.2.2.2.2.1, u.2.2.2.2.2.2.2.2.2.2.1, u.2.2.2.2.2.2.2.2.2.2.2.1, u.2.2.2.2.2.2.2.2.2.2.2.2.1, u.2.2.2.2.2.2.2.2.2.2.2.2.2.1, u.2.2.2.2.2.2.2.2.2.2.2.2.2.2.1, u.2.2.2.2.2.2.2.2.2.2.2.2.2.2.2)) h hl rfl (by omega), Option.bind_some, x8_dig (sg_lt hc p), Option.bind_some]
      by_cases c4 : dgt (sg t p) = true
      · right
        have c5 := of_decide_eq_true c4
        have hpl : p < t.length := by
          rcases Nat.lt_or_ge p t.length with c | c
          · exact c
          · rw [sg_end c] at c5
            omega
        have e6 : (10 : Int32) * nI n + nI (sg t p) - 48 = nI (10 * n + (sg t p - 48)) := by
          rw [show (10 : Int32) = nI 10 from rfl, pk_mul, nI_add, show (48 : Int32) = nI 48 from rfl, pk_sub (by omega)]
          congr 1
          omega
        rw [if_pos c4, e6, nI_1, nI_1]
        refine ⟨by omega, _, rfl, _, _, _, rfl, by omega, by omega, by omega, ?_, by omega, by omega, ?_⟩
        · rw [Nat.pow_succ]
          omega
        · rcases h6 with ⟨g1, g2, g3⟩ | ⟨g1, g2, g3, g4⟩
          · have hs0 : stp (L, n, d) (sg t p) = if cg (10 * n + (sg t p - 48)) (d + 1) = true ∨ ¬ (10 * n + (sg t p - 48)) ∈ L then some (L, 10 * n + (sg t p - 48), d + 1) else none := by
              unfold stp
              rw [if_neg (by omega), if_pos c5, if_neg (fun e => by have := e.2; rw [hcg] at this; cases this)]
            rw [sg_drop hpl] at g2 g3
            by_cases k1 : cg (10 * n + (sg t p - 48)) (d + 1) = true ∨ ¬ (10 * n + (sg t p - 48)) ∈ L
            · left
              rw [if_pos k1] at hs0
              rw [run_yes hs0] at g2 g3
              refine ⟨k1, ?_, g3⟩
              rw [g2]
              dsimp only
              omega
            · right
              rw [if_neg k1] at hs0
              rw [run_no hs0] at g2 g3
              refine ⟨?_, ?_, ?_, g3⟩
              · cases q : cg (10 * n + (sg t p - 48)) (d + 1) with
                | false => rfl
                | true => exact absurd (Or.inl q) k1
              · exact Classical.byContradiction fun q => k1 (Or.inr q)
              · rw [g2]
                dsimp only
                omega
          · rw [g1] at hcg
            cases hcg
      · left
        rw [if_neg c4]
        exact ⟨_, rfl, n, d, p, rfl, hN, Or.inr (jam_f c4)⟩
theorem stp0 {L : List Nat} {c : Nat} (h : dgt c = false) : stp (L, 0, 0) c = none := by
  have h2 : ¬ (48 ≤ c ∧ c ≤ 57) := of_decide_eq_false h
  unfold stp
  rw [if_neg h2]
  by_cases c1 : c = 44
  · rw [if_pos c1]
    by_cases c2 : 5 ≤ (L, (0 : Nat), (0 : Nat)).1.length
    · rw [if_pos c2]
    · rw [if_neg c2, if_pos (Or.inl rfl)]
  · rw [if_neg c1]
theorem stp_end {L : List Nat} {n d c : Nat} (hd : 0 < d) (h : cg n d = false ∨ dgt c = false) (hc : c ≠ 44) : stp (L, n, d) c = none := by
  unfold stp
  rw [if_neg hc]
  by_cases c2 : 48 ≤ c ∧ c ≤ 57
  · rw [if_pos c2]
    rcases h with h | h
    · rw [if_pos ⟨hd, h⟩]
    · exact absurd c2 (of_decide_eq_false h)
  · rw [if_neg c2]
theorem stp_told {L : List Nat} {n d c : Nat} (hd : 0 < d) (h : cg n d = false ∨ dgt c = false) (hn : n ∈ L) : stp (L, n, d) c = none := by
  by_cases c1 : c = 44
  · unfold stp
    rw [if_pos c1]
    by_cases c2 : 5 ≤ (L, n, d).1.length
    · rw [if_pos c2]
    · rw [if_neg c2, if_pos (Or.inr hn)]
  · exact stp_end hd h c1
def Bad (t L : List Nat) (p0 : Nat) (at' : Int32) (w : Bool) : Prop := w = false ∧ at' = nI (p0 + (run (L, 0, 0) (t.drop p0)).1) ∧ fin (run (L, 0, 0) (t.drop p0)).2 = none
def Good (t L : List Nat) (p0 : Nat) (at' : Int32) (w : Bool) (f : zF) (m : Int32) : Prop := w = true ∧ ∃ n d p, at' = nI p ∧ p0 < p ∧ p ≤ t.length ∧ 0 < d ∧ n < 1000 ∧ ¬ n ∈ L ∧ (cg n d = false ∨ dgt (sg t p) = false) ∧ (run (L, 0, 0) (t.drop p0)).1 = (p - p0) + (run (L, n, d) (t.drop p)).1 ∧ (run (L, 0, 0) (t.drop p0)).2 = (run (L, n, d) (t.drop p)).2 ∧ Rb f m (L ++ [n])
theorem x8_number {u : tX8} {t : List Nat} (h : Mt u t) (hl : t.length ≤ 60) (hc : ∀ x ∈ t, x < 1000) {L : List Nat} (hL : L.length ≤ 5) (hb : ∀ x ∈ L, x < 1000) (hR : Rb u.2.2.2.2.2.2.2.2.2.1 u.2.2.2.2.2.2.2.2.2.2.1 L) {p0 : Nat} (hp : u.2.2.2.2.2.2.2.1 = nI p0) (hp2 : p0 ≤ t.length) : ∃ a w f m, f_X8_readsNumber u = some (u.1, u.2.1, u.2.2.1, u.2.2.2.1, u.2.2.2.2.1, u.2.2.2.2.2.1, u.2.2.2.2.2.2.1, a, w, f, m, u.2.2.2.2.2.2.2.2.2.2.2.1, u.2.2.2.2.2.2.2.2.2.2.2.2.1, u.2.2.2.2.2.2.2.2.2.2.2.2.2.1, u.2.2.2.2.2.2.2.2.2.2.2.2.2.2.1, u.2.2.2.2.2.2.2.2.2.2.2.2.2.2.2) ∧ (Bad t L p0 a w ∨ Good t L p0 a w f m) := by
  have hsl := sg_lt hc p0
  unfold f_X8_readsNumber
  rw [x8_sign h hl hp (by omega), Option.bind_some, x8_dig hsl, x8_sign (u := (u.1, u.2.1, u.2.2.1, u.2.2.2.1, u.2.2.2.2.1, u.2.2.2.2.2.1, u.2.2.2.2.2.2.1, u.2.2.2.2.2.2.2.1, (dgt (sg t p0)), u.2.2.2.2.2.2.2.2.2.1, u.2.2.2.2.2.2.2.2.2.2.1, u.2.2.2.2.2.2.2.2.2.2.2.1, u.2.2.2.2.2.2.2.2.2.2.2.2.1, u.2.2.2.2.2.2.2.2.2.2.2.2.2.1, u.2.2.2.2.2.2.2.2.2.2.2.2.2.2.1, u.2.2.2.2.2.2.2.2.2.2.2.2.2.2.2)) h hl hp (by omega), Option.bind_some, hp]
  by_cases cd : dgt (sg t p0) = true
  · have c5 := of_decide_eq_true cd
    have hpl : p0 < t.length := by
      rcases Nat.lt_or_ge p0 t.length with c | c
      · exact c
      · rw [sg_end c] at c5
        omega
    have hs0 : stp (L, 0, 0) (sg t p0) = if cg (10 * 0 + (sg t p0 - 48)) (0 + 1) = true ∨ ¬ (10 * 0 + (sg t p0 - 48)) ∈ L then some (L, 10 * 0 + (sg t p0 - 48), 0 + 1) else none := by
      unfold stp
      rw [if_neg (by omega), if_pos c5, if_neg (fun e => by have := e.1; exact absurd this (Nat.lt_irrefl 0))]
    rw [show 10 * 0 + (sg t p0 - 48) = sg t p0 - 48 by omega] at hs0
    have hi : Nst t L p0 (sg t p0 - 48) 1 (p0 + 1) := by
      refine ⟨by omega, by omega, by omega, by omega, by omega, ?_⟩
      rw [sg_drop hpl]
      by_cases k1 : cg (sg t p0 - 48) (0 + 1) = true ∨ ¬ (sg t p0 - 48) ∈ L
      · left
        rw [if_pos k1] at hs0
        rw [run_yes hs0]
        refine ⟨k1, ?_, rfl⟩
        dsimp only
        rw [Nat.add_sub_cancel_left]
        exact Nat.add_comm _ _
      · right
        rw [if_neg k1] at hs0
        rw [run_no hs0]
        refine ⟨?_, ?_, ?_, rfl⟩
        · cases q : cg (sg t p0 - 48) 1 with
          | false => rfl
          | true => exact absurd (Or.inl q) k1
        · exact Classical.byContradiction fun q => k1 (Or.inr q)
        · dsimp only
          omega
    rw [if_pos cd, Option.bind_some, nI_1, show (48 : Int32) = nI 48 from rfl, pk_sub c5.1]
    obtain ⟨e, e1, n, d, p, e2, hN, e3⟩ := x8_digits h hl hc (r1 := nI (sg t p0)) ((x8_dig hsl).trans cd) hi
    obtain ⟨h1, h2, h3, h4, h5, h6⟩ := hN
    have hn : n < 1000 := Nat.lt_of_lt_of_le h3 (Nat.pow_le_pow_right (n := 10) (by omega) h1)
    rw [e1, Option.bind_some, e2, if_pos cd]
    dsimp only
    rw [x8_told (u := (u.1, u.2.1, u.2.2.1, u.2.2.2.1, u.2.2.2.2.1, u.2.2.2.2.2.1, u.2.2.2.2.2.2.1, (nI p), (dgt (sg t p0)), u.2.2.2.2.2.2.2.2.2.1, u.2.2.2.2.2.2.2.2.2.2.1, u.2.2.2.2.2.2.2.2.2.2.2.1, u.2.2.2.2.2.2.2.2.2.2.2.2.1, u.2.2.2.2.2.2.2.2.2.2.2.2.2.1, u.2.2.2.2.2.2.2.2.2.2.2.2.2.2.1, u.2.2.2.2.2.2.2.2.2.2.2.2.2.2.2)) hR (by omega) hb (by omega), Option.bind_some]
    by_cases ct : n ∈ L
    · rw [decide_eq_true ct, if_pos rfl]
      have bad : ∀ q : Nat, q = p0 + (run (L, 0, 0) (t.drop p0)).1 → fin (run (L, 0, 0) (t.drop p0)).2 = none → ∃ a w f m, some (u.1, u.2.1, u.2.2.1, u.2.2.2.1, u.2.2.2.2.1, u.2.2.2.2.2.1, u.2.2.2.2.2.2.1, (nI q), false, u.2.2.2.2.2.2.2.2.2.1, u.2.2.2.2.2.2.2.2.2.2.1, u.2.2.2.2.2.2.2.2.2.2.2.1, u.2.2.2.2.2.2.2.2.2.2.2.2.1, u.2.2.2.2.2.2.2.2.2.2.2.2.2.1, u.2.2.2.2.2.2.2.2.2.2.2.2.2.2.1, u.2.2.2.2.2.2.2.2.2.2.2.2.2.2.2) = some (u.1, u.2.1, u.2.2.1, u.2.2.2.1, u.2.2.2.2.1, u.2.2.2.2.2.1, u.2.2.2.2.2.2.1, a, w, f, m, u.2.2.2.2.2.2.2.2.2.2.2.1, u.2.2.2.2.2.2.2.2.2.2.2.2.1, u.2.2.2.2.2.2.2.2.2.2.2.2.2.1, u.2.2.2.2.2.2.2.2.2.2.2.2.2.2.1, u.2.2.2.2.2.2.2.2.2.2.2.2.2.2.2) ∧ (Bad t L p0 a w ∨ Good t L p0 a w f m) := fun q q1 q2 => ⟨_, _, _, _, rfl, Or.inl ⟨rfl, by rw [q1], q2⟩⟩
      rcases h6 with ⟨g1, g2, g3⟩ | ⟨g1, g2, g3, g4⟩
      · have hcg : cg n d = true := by
          rcases g1 with g1 | g1
          · exact g1
          · exact absurd ct g1
        obtain ⟨k1, k2⟩ := cg_iff.mp hcg
        rw [if_neg (fun e => k1 ((i0e (by omega)).mp e)), if_neg (show ¬ nI d = (3 : Int32) from fun e => by
          have := (nI_eq (b := 3) (by omega) (by omega)).mp e
          omega), Int32.sub_zero]
        have hdr : (run (L, n, d) (t.drop p)).1 = 0 ∧ fin (run (L, n, d) (t.drop p)).2 = none := by
          rcases Nat.lt_or_ge p t.length with c | c
          · rw [sg_drop c, run_no (stp_told h2 e3 ct)]
            exact ⟨rfl, rfl⟩
          · rw [List.drop_eq_nil_of_le c, run_nil]
            exact ⟨rfl, if_pos (Or.inr ct)⟩
        refine bad p (by omega) ?_
        rw [g3]
        exact hdr.2
      · have hlast : (if nI n = (0 : Int32) then some (u.1, u.2.1, u.2.2.1, u.2.2.2.1, u.2.2.2.2.1, u.2.2.2.2.2.1, u.2.2.2.2.2.2.1, (nI p - 1), false, u.2.2.2.2.2.2.2.2.2.1, u.2.2.2.2.2.2.2.2.2.2.1, u.2.2.2.2.2.2.2.2.2.2.2.1, u.2.2.2.2.2.2.2.2.2.2.2.2.1, u.2.2.2.2.2.2.2.2.2.2.2.2.2.1, u.2.2.2.2.2.2.2.2.2.2.2.2.2.2.1, u.2.2.2.2.2.2.2.2.2.2.2.2.2.2.2) else if nI d = (3 : Int32) then some (u.1, u.2.1, u.2.2.1, u.2.2.2.1, u.2.2.2.2.1, u.2.2.2.2.2.1, u.2.2.2.2.2.2.1, (nI p - 1), false, u.2.2.2.2.2.2.2.2.2.1, u.2.2.2.2.2.2.2.2.2.2.1, u.2.2.2.2.2.2.2.2.2.2.2.1, u.2.2.2.2.2.2.2.2.2.2.2.2.1, u.2.2.2.2.2.2.2.2.2.2.2.2.2.1, u.2.2.2.2.2.2.2.2.2.2.2.2.2.2.1, u.2.2.2.2.2.2.2.2.2.2.2.2.2.2.2) else some (u.1, u.2.1, u.2.2.1, u.2.2.2.1, u.2.2.2.2.1, u.2.2.2.2.2.1, u.2.2.2.2.2.2.1, (nI p - 0), false, u.2.2.2.2.2.2.2.2.2.1, u.2.2.2.2.2.2.2.2.2.2.1, u.2.2.2.2.2.2.2.2.2.2.2.1, u.2.2.2.2.2.2.2.2.2.2.2.2.1, u.2.2.2.2.2.2.2.2.2.2.2.2.2.1, u.2.2.2.2.2.2.2.2.2.2.2.2.2.2.1, u.2.2.2.2.2.2.2.2.2.2.2.2.2.2.2)) = some (u.1, u.2.1, u.2.2.1, u.2.2.2.1, u.2.2.2.2.1, u.2.2.2.2.2.1, u.2.2.2.2.2.2.1, (nI (p - 1)), false, u.2.2.2.2.2.2.2.2.2.1, u.2.2.2.2.2.2.2.2.2.2.1, u.2.2.2.2.2.2.2.2.2.2.2.1, u.2.2.2.2.2.2.2.2.2.2.2.2.1, u.2.2.2.2.2.2.2.2.2.2.2.2.2.1, u.2.2.2.2.2.2.2.2.2.2.2.2.2.2.1, u.2.2.2.2.2.2.2.2.2.2.2.2.2.2.2) := by
          rw [show (1 : Int32) = nI 1 from rfl, pk_sub (by omega)]
          by_cases k1 : n = 0
          · rw [if_pos ((i0e (by omega)).mpr k1)]
          · have k3 : d = 3 := by
              have : ¬ (n ≠ 0 ∧ d < 3) := of_decide_eq_false g1
              omega
            rw [if_neg (fun e => k1 ((i0e (by omega)).mp e)), if_pos (by rw [k3]; rfl)]
        rw [hlast]
        refine bad (p - 1) (by omega) ?_
        rw [g4]
        rfl
    · rw [decide_eq_false ct, if_neg (show ¬ (false = true) by decide), if_pos cd]
      rcases h6 with ⟨g1, g2, g3⟩ | ⟨g1, g2, g3, g4⟩
      · rw [show u.2.2.2.2.2.2.2.2.2.2.1 = nI L.length from hR.2, aset_n (by omega) (by omega), Option.bind_some, nI_1]
        refine ⟨_, _, _, _, rfl, Or.inr ⟨cd, n, d, p, rfl, h4, h5, h2, hn, ct, e3, g2, g3, fun k x hx => ?_, ?_⟩⟩
        · rcases Nat.lt_trichotomy k L.length with c | c | c
          · rw [upd_n (by omega)]
            refine hR.1 k x ?_
            rw [← hx]
            exact (List.getElem?_append_left c).symm
          · subst c
            rw [upd_s]
            rw [List.getElem?_append_right (Nat.le_refl _), Nat.sub_self] at hx
            cases hx
            rfl
          · rw [List.getElem?_eq_none (by rw [List.length_append, List.length_singleton]; omega)] at hx
            cases hx
        · rw [List.length_append, List.length_singleton]
      · exact absurd g2 ct
  · have cf := jam_f cd
    rw [if_neg cd, Option.bind_some]
    have hend : b_X8_readsNumber_46 u (nI (sg t p0)) (nI (sg t p0) - 48, 1, nI p0 + 0) = some (.inr (nI (sg t p0) - 48, 1, nI p0 + 0)) := by
      unfold b_X8_readsNumber_46
      rw [x8_dig hsl, if_neg cd]
    rw [lp_end hend, Option.bind_some, if_neg cd, if_neg cd, add0]
    refine ⟨_, _, _, _, rfl, Or.inl ⟨cf, ?_, ?_⟩⟩
    · rcases Nat.lt_or_ge p0 t.length with c | c
      · rw [sg_drop c, run_no (stp0 cf)]
        rfl
      · rw [List.drop_eq_nil_of_le c]
        rfl
    · rcases Nat.lt_or_ge p0 t.length with c | c
      · rw [sg_drop c, run_no (stp0 cf)]
        rfl
      · rw [List.drop_eq_nil_of_le c]
        rfl
theorem x8_reads {u : tX8} {t : List Nat} (h : Mt u t) (hl : t.length ≤ 60) (hc : ∀ x ∈ t, x < 1000) : ∃ a w f m, f_X8_readsAll u = some (u.1, u.2.1, u.2.2.1, u.2.2.2.1, u.2.2.2.2.1, u.2.2.2.2.2.1, u.2.2.2.2.2.2.1, a, w, f, m, u.2.2.2.2.2.2.2.2.2.2.2.1, u.2.2.2.2.2.2.2.2.2.2.2.2.1, u.2.2.2.2.2.2.2.2.2.2.2.2.2.1, u.2.2.2.2.2.2.2.2.2.2.2.2.2.2.1, u.2.2.2.2.2.2.2.2.2.2.2.2.2.2.2) ∧ a = nI (er t) ∧ (match bt t with | none => w = false | some b => w = true ∧ Rb f m b) := by
  have hrl := run_le t ([], 0, 0)
  obtain ⟨a, w, f, m, h1, h2⟩ := x8_number (u := (u.1, u.2.1, u.2.2.1, u.2.2.2.1, u.2.2.2.2.1, u.2.2.2.2.2.1, u.2.2.2.2.2.2.1, 0, u.2.2.2.2.2.2.2.2.1, u.2.2.2.2.2.2.2.2.2.1, 0, u.2.2.2.2.2.2.2.2.2.2.2.1, u.2.2.2.2.2.2.2.2.2.2.2.2.1, u.2.2.2.2.2.2.2.2.2.2.2.2.2.1, u.2.2.2.2.2.2.2.2.2.2.2.2.2.2.1, u.2.2.2.2.2.2.2.2.2.2.2.2.2.2.2)) h hl hc (L := []) (by simp) (fun x hx => by cases hx) ⟨fun k x hx => (by cases hx), rfl⟩ (p0 := 0) rfl (Nat.zero_le _)
  unfold f_X8_readsAll
  replace h1 : f_X8_readsNumber (u.1, u.2.1, u.2.2.1, u.2.2.2.1, u.2.2.2.2.1, u.2.2.2.2.2.1, u.2.2.2.2.2.2.1, 0, u.2.2.2.2.2.2.2.2.1, u.2.2.2.2.2.2.2.2.2.1, 0, u.2.2.2.2.2.2.2.2.2.2.2.1, u.2.2.2.2.2.2.2.2.2.2.2.2.1, u.2.2.2.2.2.2.2.2.2.2.2.2.2.1, u.2.2.2.2.2.2.2.2.2.2.2.2.2.2.1, u.2.2.2.2.2.2.2.2.2.2.2.2.2.2.2) = some (u.1, u.2.1, u.2.2.1, u.2.2.2.1, u.2.2.2.2.1, u.2.2.2.2.2.1, u.2.2.2.2.2.2.1, a, w, f, m, u.2.2.2.2.2.2.2.2.2.2.2.1, u.2.2.2.2.2.2.2.2.2.2.2.2.1, u.2.2.2.2.2.2.2.2.2.2.2.2.2.1, u.2.2.2.2.2.2.2.2.2.2.2.2.2.2.1, u.2.2.2.2.2.2.2.2.2.2.2.2.2.2.2) := h1
  rw [h1, Option.bind_some]
  obtain ⟨e, e1, a', w', f', m', e2, e3, e4⟩ := lp_run b_X8_readsAll_14 (t.length + 1) (fun k z => ∃ a w f m, z = (u.1, u.2.1, u.2.2.1, u.2.2.2.1, u.2.2.2.2.1, u.2.2.2.2.2.1, u.2.2.2.2.2.2.1, a, w, f, m, u.2.2.2.2.2.2.2.2.2.2.2.1, u.2.2.2.2.2.2.2.2.2.2.2.2.1, u.2.2.2.2.2.2.2.2.2.2.2.2.2.1, u.2.2.2.2.2.2.2.2.2.2.2.2.2.2.1, u.2.2.2.2.2.2.2.2.2.2.2.2.2.2.2) ∧ ((w = false ∧ a = nI (er t) ∧ bt t = none) ∨ (w = true ∧ ∃ L n d p, L.length ≤ 5 ∧ (∀ x ∈ L, x < 1000) ∧ a = nI p ∧ k ≤ p ∧ p ≤ t.length ∧ 0 < d ∧ n < 1000 ∧ ¬ n ∈ L ∧ (cg n d = false ∨ dgt (sg t p) = false) ∧ er t = p + (run (L, n, d) (t.drop p)).1 ∧ (run ([], 0, 0) t).2 = (run (L, n, d) (t.drop p)).2 ∧ Rb f m (L ++ [n])))) (fun e => ∃ a w f m, e = (u.1, u.2.1, u.2.2.1, u.2.2.2.1, u.2.2.2.2.1, u.2.2.2.2.2.1, u.2.2.2.2.2.2.1, a, w, f, m, u.2.2.2.2.2.2.2.2.2.2.2.1, u.2.2.2.2.2.2.2.2.2.2.2.2.1, u.2.2.2.2.2.2.2.2.2.2.2.2.2.1, u.2.2.2.2.2.2.2.2.2.2.2.2.2.2.1, u.2.2.2.2.2.2.2.2.2.2.2.2.2.2.2) ∧ a = nI (er t) ∧ (match bt t with | none => w = false | some b => w = true ∧ Rb f m b)) (fun k z hk hz => by
    obtain ⟨a, w, f, m, rfl, hz⟩ := hz
    unfold b_X8_readsAll_14
    dsimp only
    rcases hz with ⟨z1, z2, z3⟩ | ⟨z1, L, n, d, p, z2, z3, z4, z5, z6, z7, z8, z9, z10, z11, z12, z13⟩
    · left
      rw [if_neg (by rw [z1]; decide)]
      refine ⟨_, rfl, a, w, f, m, rfl, z2, ?_⟩
      rw [z3]
      exact z1
    · subst z1 z4
      rw [if_pos rfl]
      rcases Nat.lt_or_ge p t.length with c | c
      · right
        refine ⟨by omega, ?_⟩
        rw [if_neg (show ¬ u.2.2.2.2.2.2.1 ≤ nI p by rw [h.2]; exact nI_ge c (by omega)), x8_sign (u := (u.1, u.2.1, u.2.2.1, u.2.2.2.1, u.2.2.2.2.1, u.2.2.2.2.2.1, u.2.2.2.2.2.2.1, (nI p), true, f, m, u.2.2.2.2.2.2.2.2.2.2.2.1, u.2.2.2.2.2.2.2.2.2.2.2.2.1, u.2.2.2.2.2.2.2.2.2.2.2.2.2.1, u.2.2.2.2.2.2.2.2.2.2.2.2.2.2.1, u.2.2.2.2.2.2.2.2.2.2.2.2.2.2.2)) h hl rfl (by omega), Option.bind_some]
        have hsl := sg_lt hc p
        have e44 : (nI (sg t p) = (44 : Int32)) ↔ sg t p = 44 := nI_eq (b := 44) (by omega) (by omega)
        have fin0 : stp (L, n, d) (sg t p) = none → ∃ s' : tX8, (some (Sum.inl (u.1, u.2.1, u.2.2.1, u.2.2.2.1, u.2.2.2.2.1, u.2.2.2.2.2.1, u.2.2.2.2.2.2.1, (nI p + 0), false, f, m, u.2.2.2.2.2.2.2.2.2.2.2.1, u.2.2.2.2.2.2.2.2.2.2.2.2.1, u.2.2.2.2.2.2.2.2.2.2.2.2.2.1, u.2.2.2.2.2.2.2.2.2.2.2.2.2.2.1, u.2.2.2.2.2.2.2.2.2.2.2.2.2.2.2)) : Option (tX8 ⊕ tX8)) = some (.inl s') ∧ ∃ a w f m, s' = (u.1, u.2.1, u.2.2.1, u.2.2.2.1, u.2.2.2.2.1, u.2.2.2.2.2.1, u.2.2.2.2.2.2.1, a, w, f, m, u.2.2.2.2.2.2.2.2.2.2.2.1, u.2.2.2.2.2.2.2.2.2.2.2.2.1, u.2.2.2.2.2.2.2.2.2.2.2.2.2.1, u.2.2.2.2.2.2.2.2.2.2.2.2.2.2.1, u.2.2.2.2.2.2.2.2.2.2.2.2.2.2.2) ∧ ((w = false ∧ a = nI (er t) ∧ bt t = none) ∨ (w = true ∧ ∃ L n d p, L.length ≤ 5 ∧ (∀ x ∈ L, x < 1000) ∧ a = nI p ∧ k + 1 ≤ p ∧ p ≤ t.length ∧ 0 < d ∧ n < 1000 ∧ ¬ n ∈ L ∧ (cg n d = false ∨ dgt (sg t p) = false) ∧ er t = p + (run (L, n, d) (t.drop p)).1 ∧ (run ([], 0, 0) t).2 = (run (L, n, d) (t.drop p)).2 ∧ Rb f m (L ++ [n]))) := by
          intro hs
          refine ⟨_, rfl, _, _, _, _, rfl, Or.inl ⟨rfl, ?_, ?_⟩⟩
          · rw [add0, z11, sg_drop c, run_no hs]
            rfl
          · unfold bt
            rw [z12, sg_drop c, run_no hs]
            rfl
        by_cases c44 : sg t p = 44
        · rw [if_pos (e44.mpr c44)]
          have hm : m = nI (L.length + 1) := by
            rw [z13.2, List.length_append, List.length_singleton]
          have e6 : ((6 : Int32) ≤ m) ↔ 6 ≤ L.length + 1 := by
            rw [hm]
            exact nI_leI (a := 6) (by omega) (by omega)
          by_cases c6 : 6 ≤ L.length + 1
          · rw [if_pos (e6.mpr c6), if_neg (show ¬ (false = true) by decide), if_neg (show ¬ (false = true) by decide)]
            exact fin0 (by
              unfold stp
              rw [if_pos c44, if_pos (by dsimp only; omega)])
          · rw [if_neg (fun e => c6 (e6.mp e)), if_pos rfl, if_pos rfl, nI_1]
            have hs : stp (L, n, d) (sg t p) = some (L ++ [n], 0, 0) := by
              unfold stp
              rw [if_pos c44, if_neg (by dsimp only; omega), if_neg (fun e => by
                rcases e with e | e
                · dsimp only at e; omega
                · exact z9 e)]
            have hll : (L ++ [n]).length ≤ 5 := by
              rw [List.length_append, List.length_singleton]
              omega
            have hlb : ∀ x ∈ L ++ [n], x < 1000 := fun x hx => by
              rcases List.mem_append.mp hx with y | y
              · exact z3 x y
              · rw [List.mem_singleton.mp y]; exact z8
            obtain ⟨a, w, f', m', q1, q2⟩ := x8_number (u := (u.1, u.2.1, u.2.2.1, u.2.2.2.1, u.2.2.2.2.1, u.2.2.2.2.2.1, u.2.2.2.2.2.2.1, (nI (p + 1)), true, f, m, u.2.2.2.2.2.2.2.2.2.2.2.1, u.2.2.2.2.2.2.2.2.2.2.2.2.1, u.2.2.2.2.2.2.2.2.2.2.2.2.2.1, u.2.2.2.2.2.2.2.2.2.2.2.2.2.2.1, u.2.2.2.2.2.2.2.2.2.2.2.2.2.2.2)) h hl hc hll hlb z13 (p0 := p + 1) rfl (by omega)
            replace q1 : f_X8_readsNumber (u.1, u.2.1, u.2.2.1, u.2.2.2.1, u.2.2.2.2.1, u.2.2.2.2.2.1, u.2.2.2.2.2.2.1, (nI (p + 1)), true, f, m, u.2.2.2.2.2.2.2.2.2.2.2.1, u.2.2.2.2.2.2.2.2.2.2.2.2.1, u.2.2.2.2.2.2.2.2.2.2.2.2.2.1, u.2.2.2.2.2.2.2.2.2.2.2.2.2.2.1, u.2.2.2.2.2.2.2.2.2.2.2.2.2.2.2) = some (u.1, u.2.1, u.2.2.1, u.2.2.2.1, u.2.2.2.2.1, u.2.2.2.2.2.1, u.2.2.2.2.2.2.1, a, w, f', m', u.2.2.2.2.2.2.2.2.2.2.2.1, u.2.2.2.2.2.2.2.2.2.2.2.2.1, u.2.2.2.2.2.2.2.2.2.2.2.2.2.1, u.2.2.2.2.2.2.2.2.2.2.2.2.2.2.1, u.2.2.2.2.2.2.2.2.2.2.2.2.2.2.2) := q1
            rw [q1, Option.bind_some]
            rw [sg_drop c, run_yes hs] at z11 z12
            dsimp only at z11 z12
            refine ⟨_, rfl, a, w, f', m', rfl, ?_⟩
            rcases q2 with ⟨b1, b2, b3⟩ | ⟨b1, n2, d2, p2, b2, b3, b4, b5, b6, b7, b8, b9, b10, b11⟩
            · left
              refine ⟨b1, ?_, ?_⟩
              · rw [b2, z11]
                congr 1
                omega
              · unfold bt
                rw [z12]
                exact b3
            · right
              refine ⟨b1, L ++ [n], n2, d2, p2, hll, hlb, b2, by omega, b4, b5, b6, b7, b8, ?_, ?_, b11⟩
              · rw [z11, b9]
                omega
              · rw [z12, b10]
        · rw [if_neg (fun e => c44 (e44.mp e)), if_neg (show ¬ (false = true) by decide), if_neg (show ¬ (false = true) by decide)]
          exact fin0 (stp_end z7 z10 c44)
      · left
        have hp : p = t.length := by omega
        subst hp
        rw [if_pos (show u.2.2.2.2.2.2.1 ≤ nI t.length by rw [h.2]; exact nI_le (Nat.le_refl _) (by omega))]
        rw [List.drop_length, run_nil] at z11 z12
        refine ⟨_, rfl, _, _, _, _, rfl, by rw [z11]; rfl, ?_⟩
        have : bt t = some (L ++ [n]) := by
          unfold bt
          rw [z12]
          exact if_neg (fun e => by
            rcases e with e | e
            · dsimp only at e; omega
            · exact z9 e)
        rw [this]
        exact ⟨rfl, z13⟩) 5000 0 (u.1, u.2.1, u.2.2.1, u.2.2.2.1, u.2.2.2.2.1, u.2.2.2.2.2.1, u.2.2.2.2.2.2.1, a, w, f, m, u.2.2.2.2.2.2.2.2.2.2.2.1, u.2.2.2.2.2.2.2.2.2.2.2.2.1, u.2.2.2.2.2.2.2.2.2.2.2.2.2.1, u.2.2.2.2.2.2.2.2.2.2.2.2.2.2.1, u.2.2.2.2.2.2.2.2.2.2.2.2.2.2.2) (by omega) (by omega) ⟨a, w, f, m, rfl, by
      rcases h2 with ⟨b1, b2, b3⟩ | ⟨b1, n2, d2, p2, b2, b3, b4, b5, b6, b7, b8, b9, b10, b11⟩
      · left
        rw [List.drop_zero] at b2 b3
        exact ⟨b1, by rw [b2, Nat.zero_add]; rfl, b3⟩
      · right
        rw [List.drop_zero] at b9 b10
        exact ⟨b1, [], n2, d2, p2, by simp, fun x hx => (by cases hx), b2, Nat.zero_le _, b4, b5, b6, b7, b8, b9.trans (by rw [Nat.sub_zero]), b10, b11⟩⟩
  rw [e1, Option.bind_some, e2]
  exact ⟨a', w', f', m', rfl, e3, e4⟩
