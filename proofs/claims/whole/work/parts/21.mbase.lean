/-! THE MATHEMATICS: both sides are tied to one picture. First: small ints as integers, loops, sums. -/
def zI (a : Int) : Int32 := Int32.ofInt a
theorem nI_zI (n : Nat) : nI n = zI n := Int32.ofInt_eq_ofNat.symm
theorem zI_add (a b : Int) : zI a + zI b = zI (a + b) := (Int32.ofInt_add a b).symm
theorem zI_sub (a b : Int) : zI a - zI b = zI (a - b) := (Int32.ofInt_sub a b).symm
theorem zI_mul (a b : Int) : zI a * zI b = zI (a * b) := (Int32.ofInt_mul a b).symm
theorem zI_neg (a : Int) : - zI a = zI (-a) := (Int32.ofInt_neg a).symm
theorem zI_toInt {a : Int} (h1 : -2147483648 ≤ a) (h2 : a < 2147483648) : (zI a).toInt = a := Int32.toInt_ofInt_of_le h1 h2
theorem zI_le {a b : Int} (h1 : -2147483648 ≤ a) (h2 : a < 2147483648) (h3 : -2147483648 ≤ b) (h4 : b < 2147483648) : zI a ≤ zI b ↔ a ≤ b := by
  rw [Int32.le_iff_toInt_le, zI_toInt h1 h2, zI_toInt h3 h4]
theorem zI_lt {a b : Int} (h1 : -2147483648 ≤ a) (h2 : a < 2147483648) (h3 : -2147483648 ≤ b) (h4 : b < 2147483648) : zI a < zI b ↔ a < b := by
  rw [Int32.lt_iff_toInt_lt, zI_toInt h1 h2, zI_toInt h3 h4]
theorem zI_eq {a b : Int} (h1 : -2147483648 ≤ a) (h2 : a < 2147483648) (h3 : -2147483648 ≤ b) (h4 : b < 2147483648) : zI a = zI b ↔ a = b := by
  constructor
  · intro h
    have h5 := congrArg Int32.toInt h
    rwa [zI_toInt h1 h2, zI_toInt h3 h4] at h5
  · intro h
    rw [h]
theorem zI_abs {a : Int} (h1 : -2147483647 ≤ a) (h2 : a < 2147483648) : i_abs (zI a) = nI a.natAbs := by
  unfold i_abs
  rw [nI_zI, show (0 : Int32) = zI 0 from rfl]
  by_cases h : 0 ≤ a
  · rw [if_pos ((zI_le (a := 0) (by omega) (by omega) (by omega) h2).mpr h)]
    congr 1
    omega
  · rw [if_neg (fun x => h ((zI_le (a := 0) (by omega) (by omega) (by omega) h2).mp x))]
    rw [zI_sub]
    congr 1
    omega
theorem nI_max {a b : Nat} (ha : a < 2 ^ 31) (hb : b < 2 ^ 31) : i_max (nI a) (nI b) = nI (max a b) := by
  unfold i_max
  by_cases h : a < b
  · rw [if_pos ((nI_ltI ha hb).mpr h), Nat.max_eq_right (Nat.le_of_lt h)]
  · rw [if_neg (fun x => h ((nI_ltI ha hb).mp x)), Nat.max_eq_left (by omega)]
theorem nI_min {a b : Nat} (ha : a < 2 ^ 31) (hb : b < 2 ^ 31) : i_min (nI a) (nI b) = nI (min a b) := by
  unfold i_min
  by_cases h : b < a
  · rw [if_pos ((nI_ltI hb ha).mpr h), Nat.min_eq_right (Nat.le_of_lt h)]
  · rw [if_neg (fun x => h ((nI_ltI hb ha).mp x)), Nat.min_eq_left (by omega)]
/-- a loop's run: a state for each count, or an end -/
theorem lp_run {σ ε : Type} (f : σ → Option (σ ⊕ ε)) (n : Nat) (I : Nat → σ → Prop) (Q : ε → Prop)
    (hs : ∀ k s, k ≤ n → I k s → (∃ e, f s = some (.inr e) ∧ Q e) ∨ (k < n ∧ ∃ s', f s = some (.inl s') ∧ I (k + 1) s')) :
    ∀ (N k : Nat) (s : σ), k ≤ n → n - k < N → I k s → ∃ e, lp N f s = some e ∧ Q e := by
  intro N
  induction N with
  | zero => intro k s h1 h2 h3; exact absurd h2 (Nat.not_lt_zero _)
  | succ N ih =>
    intro k s h1 h2 h3
    rcases hs k s h1 h3 with ⟨e, h4, h5⟩ | ⟨h4, s', h5, h6⟩
    · refine ⟨e, ?_, h5⟩
      unfold lp
      rw [h4]
    · obtain ⟨e, h7, h8⟩ := ih (k + 1) s' h4 (by omega) h6
      refine ⟨e, ?_, h8⟩
      unfold lp
      rw [h5]
      exact h7
/-- a loop whose states are told outright -/
theorem lp_st {σ ε : Type} (f : σ → Option (σ ⊕ ε)) (n : Nat) (st : Nat → σ) (e : ε) (hs : ∀ k, k < n → f (st k) = some (.inl (st (k + 1)))) (he : f (st n) = some (.inr e)) (hn : n < 5000) {s : σ} (h0 : s = st 0) : lp 5000 f s = some e := by
  subst h0
  obtain ⟨e', h1, h2⟩ := lp_run f n (fun k s => s = st k) (fun x => x = e) (fun k s hk h => by
    subst h
    rcases Nat.lt_or_ge k n with h | h
    · exact Or.inr ⟨h, _, hs k h, rfl⟩
    · have hk' : k = n := by omega
      subst hk'
      exact Or.inl ⟨e, he, rfl⟩) 5000 0 (st 0) (Nat.zero_le _) (by omega) rfl
  rw [h1, h2]
theorem aget_n {f : Nat → Int32} {n k : Nat} (h : k < n) (hn : n < 2 ^ 31) : aget f n (nI k) = some (f k) := by
  unfold aget
  rw [if_neg (nI_in h hn), nI_clamp (by omega)]
theorem aset_n {f : Nat → Int32} {n k : Nat} {x : Int32} (h : k < n) (hn : n < 2 ^ 31) : aset f n (nI k) x = some (upd f k x) := by
  unfold aset
  rw [if_neg (nI_in h hn), nI_clamp (by omega)]
theorem at_n {n k : Nat} {f : zF} (h : k < n) (hn : n < 2 ^ 31) : f_X7_at n f (nI k) = f k := by
  unfold f_X7_at
  rw [if_neg (nI_pos (by omega)), if_neg (nI_ge h hn), nI_clamp (by omega)]
theorem at_m1 {n : Nat} {f : zF} : f_X7_at n f (-1) = 0 := by
  unfold f_X7_at
  rw [if_pos (by decide)]
theorem wr_n {n k : Nat} {f : zF} {x : Int32} (h : k < n) (hn : n < 2 ^ 31) : f_X7_write n f (nI k) x = upd f k x := by
  unfold f_X7_write
  rw [if_neg (nI_pos (by omega)), if_neg (nI_ge h hn), nI_clamp (by omega)]
theorem wr_m1 {n : Nat} {f : zF} {x : Int32} : f_X7_write n f (-1) x = f := by
  unfold f_X7_write
  rw [if_pos (by decide)]
theorem upd_s {f : Nat → Int32} {k : Nat} {x : Int32} : upd f k x k = x := by
  unfold upd
  rw [if_pos rfl]
theorem upd_n {f : Nat → Int32} {k j : Nat} {x : Int32} (h : j ≠ k) : upd f k x j = f j := by
  unfold upd
  rw [if_neg h]
theorem upd_if {f : Nat → Int32} {k j : Nat} {x : Int32} : upd f k x j = if j = k then x else f j := rfl
theorem n12 : (12 : Int32) = nI 12 := rfl
theorem n6 : (6 : Int32) = nI 6 := rfl
theorem n0 : (0 : Int32) = nI 0 := rfl
theorem n1 : (1 : Int32) = nI 1 := rfl
/-- an item: its number, its weight, its drawer -/
abbrev It : Type := Int32 × Nat × Nat
def sm (f : It → Int) (L : List It) : Int := (L.map f).sum
theorem sm_nil (f : It → Int) : sm f [] = 0 := rfl
theorem sm_cons (f : It → Int) (x : It) (L : List It) : sm f (x :: L) = f x + sm f L := rfl
theorem sm_app (f : It → Int) (L M : List It) : sm f (L ++ M) = sm f L + sm f M := by
  induction L with
  | nil => simp [sm]
  | cons x L ih => rw [List.cons_append, sm_cons, ih, sm_cons]; omega
theorem sm_take (f : It → Int) {L : List It} {k : Nat} (h : k < L.length) : sm f (L.take (k + 1)) = sm f (L.take k) + f L[k] := by
  rw [List.take_succ_eq_append_getElem h, sm_app, sm_cons, sm_nil]
  omega
theorem sm_erase (f : It → Int) : ∀ {L : List It} {k : Nat} (h : k < L.length), sm f (L.eraseIdx k) = sm f L - f L[k] := by
  intro L
  induction L with
  | nil => intro k h; exact absurd h (Nat.not_lt_zero _)
  | cons x L ih =>
    intro k h
    cases k with
    | zero => simp only [List.eraseIdx_cons_zero, sm_cons, List.getElem_cons_zero]; omega
    | succ k =>
      have h2 := ih (Nat.lt_of_succ_lt_succ h)
      simp only [List.eraseIdx_cons_succ, sm_cons, List.getElem_cons_succ, h2]
      omega
theorem sm_set (f : It → Int) : ∀ {L : List It} {k : Nat} (h : k < L.length) (y : It), sm f (L.set k y) = sm f L - f L[k] + f y := by
  intro L
  induction L with
  | nil => intro k h; exact absurd h (Nat.not_lt_zero _)
  | cons x L ih =>
    intro k h y
    cases k with
    | zero => simp only [List.set_cons_zero, sm_cons, List.getElem_cons_zero]; omega
    | succ k =>
      have h2 := ih (Nat.lt_of_succ_lt_succ h) y
      simp only [List.set_cons_succ, sm_cons, List.getElem_cons_succ, h2]
      omega
theorem sm_bound (f : It → Int) (c : Int) : ∀ {L : List It}, (∀ x ∈ L, -c ≤ f x ∧ f x ≤ c) → -(c * L.length) ≤ sm f L ∧ sm f L ≤ c * L.length := by
  intro L
  induction L with
  | nil => intro _; simp [sm]
  | cons x L ih =>
    intro h
    have h1 := h x (List.mem_cons_self)
    have h2 := ih (fun y hy => h y (List.mem_cons_of_mem _ hy))
    rw [sm_cons, List.length_cons]
    have h3 : c * ((L.length + 1 : Nat) : Int) = c * L.length + c := by
      rw [Int.natCast_add, Int.mul_add]
      simp
    omega
theorem sm_nonneg (f : It → Int) : ∀ {L : List It}, (∀ x ∈ L, 0 ≤ f x) → 0 ≤ sm f L := by
  intro L
  induction L with
  | nil => intro _; simp [sm]
  | cons x L ih =>
    intro h
    have h1 := h x (List.mem_cons_self)
    have h2 := ih (fun y hy => h y (List.mem_cons_of_mem _ hy))
    rw [sm_cons]
    omega
/-- the place of a drawer, its side -/
def pl (d w : Nat) : Nat := (d + 12 - w) % 12
def side (d w : Nat) : Int := if pl d w = 0 then 0 else if pl d w = 6 then 0 else if 6 ≤ pl d w then -1 else 1
def ld (L : List It) (d : Nat) : Int := sm (fun x => if x.2.2 = d then (x.2.1 : Int) else 0) L
def tilt (L : List It) (w : Nat) : Int := sm (fun x => (x.2.1 : Int) * side x.2.2 w) L
def mx (f : Nat → Nat) : Nat → Nat
  | 0 => 0
  | n + 1 => max (mx f n) (f n)
theorem mx_lt {f : Nat → Nat} {c : Nat} (h0 : 0 < c) : ∀ {n : Nat}, (∀ k, k < n → f k < c) → mx f n < c := by
  intro n
  induction n with
  | zero => intro _; exact h0
  | succ n ih =>
    intro h
    have h1 := ih (fun k hk => h k (by omega))
    have h2 := h n (by omega)
    show max (mx f n) (f n) < c
    omega
theorem mx_congr {f g : Nat → Nat} : ∀ {n : Nat}, (∀ k, k < n → f k = g k) → mx f n = mx g n := by
  intro n
  induction n with
  | zero => intro _; rfl
  | succ n ih =>
    intro h
    show max (mx f n) (f n) = max (mx g n) (g n)
    rw [ih (fun k hk => h k (by omega)), h n (by omega)]
theorem mx_ge {f : Nat → Nat} : ∀ {n k : Nat}, k < n → f k ≤ mx f n := by
  intro n
  induction n with
  | zero => intro k h; exact absurd h (Nat.not_lt_zero _)
  | succ n ih =>
    intro k h
    show f k ≤ max (mx f n) (f n)
    rcases Nat.lt_or_ge k n with h1 | h1
    · have := ih h1
      omega
    · have : k = n := by omega
      subst this
      omega
theorem mx_le {f : Nat → Nat} {c : Nat} : ∀ {n : Nat}, (∀ k, k < n → f k ≤ c) → mx f n ≤ c := by
  intro n h
  have := mx_lt (f := f) (c := c + 1) (by omega) (n := n) (fun k hk => by have := h k hk; omega)
  omega
theorem side_bound (d w : Nat) : -1 ≤ side d w ∧ side d w ≤ 1 := by
  unfold side
  split
  · omega
  · split
    · omega
    · split <;> omega
theorem x7_place : ∀ d, d < 12 → ∀ w, w < 12 → f_X7_placeOf (nI d) (nI w) = nI (pl d w) := by decide +kernel
theorem x8_place : ∀ d, d < 12 → ∀ w, w < 12 → f_X8_placeOf (nI d) (nI w) = nI (pl d w) := by decide +kernel
theorem x0_side : ∀ d, d < 12 → ∀ w, w < 12 → f_X0_sideOf (nI d) (nI w) = zI (side d w) := by decide +kernel
theorem pl_lt (d w : Nat) : pl d w < 12 := Nat.mod_lt _ (by decide)
theorem g12 {k : Nat} (h : k < 12) : ¬ (12 : Int32) ≤ nI k := nI_ge (b := 12) h (by omega)
theorem e12 : (12 : Int32) ≤ nI 12 := by decide
theorem g40 {k : Nat} (h : k < 40) : ¬ (40 : Int32) ≤ nI k := nI_ge (b := 40) h (by omega)
theorem nz {k : Nat} (h0 : 0 < k) (h : k < 2 ^ 31) : ¬ nI k = (0 : Int32) := nI_ne0 h0 h
