/-! the class: loads and tilts -/
def Bal (u : tX0) (D T : Nat → Int) : Prop := (∀ d, d < 12 → u.1 d = zI (D d)) ∧ (∀ w, w < 12 → u.2 w = zI (T w))
theorem Bal.congr {u : tX0} {D T D' T' : Nat → Int} (h : Bal u D T) (h1 : ∀ d, d < 12 → D d = D' d) (h2 : ∀ d, d < 12 → T d = T' d) : Bal u D' T' :=
  ⟨fun d hd => by rw [h.1 d hd, h1 d hd], fun d hd => by rw [h.2 d hd, h2 d hd]⟩
theorem x0_add {u : tX0} {D T : Nat → Int} (h : Bal u D T) {d : Nat} (hd : d < 12) (x : Int) : ∃ u', f_X0_addLoad u (nI d) (zI x) = some u' ∧ Bal u' (fun j => if j = d then D j + x else D j) (fun j => T j + x * side d j) := by
  obtain ⟨e, h1, h2⟩ := lp_run (b_X0_addLoad_20 (nI d) (zI x)) 12 (fun k s => s.1 = nI k ∧ ∀ j, j < 12 → s.2 j = if j < k then zI (T j + x * side d j) else zI (T j)) (fun e => ∀ j, j < 12 → e j = zI (T j + x * side d j)) (fun k s hk hs => by
    obtain ⟨s1, s2⟩ := s
    obtain ⟨h3, h4⟩ := hs
    replace h3 : s1 = nI k := h3
    subst h3
    unfold b_X0_addLoad_20
    dsimp only at h4 ⊢
    rcases Nat.lt_or_ge k 12 with h5 | h5
    · right
      refine ⟨h5, ?_⟩
      rw [if_neg (g12 h5), x0_side d hd k h5, at_n h5 (by omega), wr_n h5 (by omega), h4 k h5, if_neg (Nat.lt_irrefl k), zI_mul, zI_add]
      refine ⟨_, rfl, nI_1 k, fun j hj => ?_⟩
      dsimp only
      rw [upd_if]
      by_cases h6 : j = k
      · subst h6
        rw [if_pos rfl, if_pos (Nat.lt_succ_self j)]
      · rw [if_neg h6, h4 j hj]
        by_cases h7 : j < k
        · rw [if_pos h7, if_pos (by omega)]
        · rw [if_neg h7, if_neg (by omega)]
    · left
      have : k = 12 := by omega
      subst this
      rw [if_pos e12]
      exact ⟨_, rfl, fun j hj => by rw [h4 j hj, if_pos hj]⟩) 5000 0 (0, u.2) (by omega) (by omega) ⟨rfl, fun j hj => by rw [h.2 j hj]; rfl⟩
  unfold f_X0_addLoad
  rw [at_n hd (by omega), wr_n hd (by omega), h.1 d hd, zI_add]
  refine ⟨(upd u.1 d (zI (D d + x)), e), by rw [Option.bind_some, h1]; rfl, fun j hj => ?_, h2⟩
  show upd u.1 d (zI (D d + x)) j = _
  rw [upd_if]
  dsimp only
  by_cases h6 : j = d
  · subst h6
    rw [if_pos rfl, if_pos rfl]
  · rw [if_neg h6, if_neg h6, h.1 j hj]
def Tb (T : Nat → Int) : Prop := ∀ w, -100000 ≤ T w ∧ T w ≤ 100000
theorem x0_imb {u : tX0} {D T : Nat → Int} (h : Bal u D T) (hT : Tb T) {w : Nat} (hw : w < 12) : f_X0_imbalanceAt u (nI w) = nI (T w).natAbs := by
  unfold f_X0_imbalanceAt
  have := hT w
  rw [at_n hw (by omega), h.2 w hw, zI_abs (by omega) (by omega)]
theorem side_mul (x : Nat) (d w : Nat) : -(x : Int) ≤ (x : Int) * side d w ∧ (x : Int) * side d w ≤ x := by
  unfold side
  split
  · rw [Int.mul_zero]; omega
  · split
    · rw [Int.mul_zero]; omega
    · split
      · rw [Int.mul_neg, Int.mul_one]; omega
      · rw [Int.mul_one]; omega
theorem x0_imbW {u : tX0} {D T : Nat → Int} (h : Bal u D T) (hT : Tb T) {w d : Nat} (hw : w < 12) (hd : d < 12) (x : Nat) (hx : x < 1000) : f_X0_imbalanceWith u (nI w) (nI d) (nI x) = nI (T w + x * side d w).natAbs := by
  unfold f_X0_imbalanceWith
  have h1 := hT w
  have h2 := side_mul x d w
  rw [at_n hw (by omega), h.2 w hw, x0_side d hd w hw, nI_zI x, zI_mul, zI_add, zI_abs (by omega) (by omega)]
theorem x0_imbM {u : tX0} {D T : Nat → Int} (h : Bal u D T) (hT : Tb T) {w d e : Nat} (hw : w < 12) (hd : d < 12) (he : e < 12) (x : Nat) (hx : x < 1000) : f_X0_imbalanceMoved u (nI w) (nI d) (nI e) (nI x) = nI (T w + x * (side e w - side d w)).natAbs := by
  unfold f_X0_imbalanceMoved
  have h1 := hT w
  have h2 := side_mul x d w
  have h3 := side_mul x e w
  rw [at_n hw (by omega), h.2 w hw, x0_side d hd w hw, x0_side e he w hw, nI_zI x, zI_sub, zI_mul, zI_add, zI_abs (by rw [Int.mul_sub]; omega) (by rw [Int.mul_sub]; omega)]
def gw (T : Nat → Int) (d x : Nat) : Nat := mx (fun w => (T w + (x : Int) * side d w).natAbs) 12
theorem x0_great {u : tX0} {D T : Nat → Int} (h : Bal u D T) (hT : Tb T) {d : Nat} (hd : d < 12) (x : Nat) (hx : x < 1000) : f_X0_greatestWith u (nI d) (nI x) = some (nI (gw T d x)) := by
  unfold f_X0_greatestWith
  have hb : ∀ w, (T w + (x : Int) * side d w).natAbs < 200000 := fun w => by
    have h1 := hT w
    have h2 := side_mul x d w
    omega
  have hst : ∀ k, k < 12 → (b_X0_greatestWith_5 u (nI d) (nI x)) ((fun k => (nI (mx (fun w => (T w + (x : Int) * side d w).natAbs) k), nI k)) k) = some (.inl ((fun k => (nI (mx (fun w => (T w + (x : Int) * side d w).natAbs) k), nI k)) (k + 1))) := by
    intro k hk
    unfold b_X0_greatestWith_5
    dsimp only
    rw [if_neg (g12 hk), x0_imbW h hT hk hd x hx, nI_max (Nat.lt_trans (mx_lt (c := 200000) (by omega) (fun k _ => hb k)) (by omega)) (Nat.lt_trans (hb k) (by omega)), nI_1]
    rfl
  have hen : (b_X0_greatestWith_5 u (nI d) (nI x)) ((fun k => (nI (mx (fun w => (T w + (x : Int) * side d w).natAbs) k), nI k)) (12)) = some (.inr (nI (gw T d x))) := by
    unfold b_X0_greatestWith_5
    dsimp only
    rw [if_pos e12]
    rfl
  rw [lp_st (s := (0, 0)) (b_X0_greatestWith_5 u (nI d) (nI x)) 12 (fun k => (nI (mx (fun w => (T w + (x : Int) * side d w).natAbs) k), nI k)) (nI (gw T d x)) hst hen (by omega) rfl]
  rfl
/-- the bits of a set of drawers -/
def bs (ok : Nat → Bool) : Nat → Nat
  | 0 => 0
  | n + 1 => bs ok n ||| (if ok n then 2 ^ n else 0)
theorem bs_bit (ok : Nat → Bool) : ∀ n j, (bs ok n).testBit j = (decide (j < n) && ok j) := by
  intro n
  induction n with
  | zero => intro j; simp [bs]
  | succ n ih =>
    intro j
    show (bs ok n ||| (if ok n then 2 ^ n else 0)).testBit j = _
    rw [Nat.testBit_or, ih]
    by_cases h : ok n = true
    · rw [if_pos h, Nat.testBit_two_pow]
      by_cases h1 : j = n
      · subst h1
        simp [h]
      · have h3 : decide (n = j) = false := by simp; omega
        rw [h3, Bool.or_false]
        congr 1
        rw [decide_eq_decide]
        omega
    · have h2 : ok n = false := by simpa using h
      rw [if_neg h, Nat.zero_testBit, Bool.or_false]
      by_cases h1 : j = n
      · subst h1
        rw [h2, Bool.and_false, Bool.and_false]
      · congr 1
        rw [decide_eq_decide]
        omega
theorem bs_lt (ok : Nat → Bool) : ∀ n, bs ok n < 2 ^ n := by
  intro n
  induction n with
  | zero => exact Nat.one_pos
  | succ n ih =>
    refine Nat.or_lt_two_pow (Nat.lt_trans ih (by rw [Nat.pow_succ]; have := Nat.two_pow_pos n; omega)) ?_
    have h0 := Nat.two_pow_pos n
    rw [Nat.pow_succ]
    split <;> omega
theorem nI_or {a b : Nat} (ha : a < 2 ^ 31) (hb : b < 2 ^ 31) : nI a ||| nI b = nI (a ||| b) := by
  refine Int32.toBitVec_inj.mp (BitVec.eq_of_toNat_eq ?_)
  have h1 : a ||| b < 2 ^ 31 := Nat.or_lt_two_pow ha hb
  show ((nI a).toBitVec ||| (nI b).toBitVec).toNat = _
  rw [BitVec.toNat_or, pk_tn (by omega), pk_tn (by omega), pk_tn (by omega)]
theorem nI_and {a b : Nat} (ha : a < 2 ^ 31) (hb : b < 2 ^ 31) : nI a &&& nI b = nI (a &&& b) := by
  refine Int32.toBitVec_inj.mp (BitVec.eq_of_toNat_eq ?_)
  have h1 : a &&& b < 2 ^ 31 := Nat.and_lt_two_pow a hb
  show ((nI a).toBitVec &&& (nI b).toBitVec).toNat = _
  rw [BitVec.toNat_and, pk_tn (by omega), pk_tn (by omega), pk_tn (by omega)]
theorem n1shl : ∀ k, k < 31 → (1 : Int32) <<< (nI k &&& 31) = nI (2 ^ k) := by decide +kernel
theorem shamt : ∀ k, k < 31 → ((nI k &&& 31).toBitVec.smod 32).toNat = k := by decide +kernel
theorem x0_bal {u : tX0} {D T : Nat → Int} (h : Bal u D T) (hT : Tb T) {lim : Nat} (hl : lim < 1000) : f_X0_balancedSet u (nI lim) = some (nI (bs (fun w => decide ((T w).natAbs ≤ lim)) 12)) := by
  unfold f_X0_balancedSet
  have hst : ∀ k, k < 12 → (b_X0_balancedSet_4 u (nI lim)) ((fun k => (nI (bs (fun w => decide ((T w).natAbs ≤ lim)) k), nI k)) k) = some (.inl ((fun k => (nI (bs (fun w => decide ((T w).natAbs ≤ lim)) k), nI k)) (k + 1))) := by
    intro k hk
    unfold b_X0_balancedSet_4
    dsimp only
    have h1 := hT k
    rw [if_neg (g12 hk), aget_n hk (by omega), h.2 k hk, Option.bind_some, Option.bind_some, nI_zI lim, zI_neg]
    have e1 : (zI (lim : Nat) < zI (T k)) ↔ ((lim : Int) < T k) := zI_lt (by omega) (by omega) (by omega) (by omega)
    have e2 : (zI (lim : Nat) < zI (-(T k))) ↔ ((lim : Int) < -(T k)) := zI_lt (by omega) (by omega) (by omega) (by omega)
    by_cases c : (T k).natAbs ≤ lim
    · rw [if_neg (fun x => by have := e1.mp x; omega), if_neg (fun x => by have := e2.mp x; omega), n1shl k (by omega), nI_or (Nat.lt_trans (bs_lt _ k) (Nat.pow_lt_pow_right (by omega) (by omega))) (Nat.pow_lt_pow_right (by omega) (by omega)), nI_1]
      show _ = some (Sum.inl (nI (bs _ k ||| _), _))
      rw [if_pos (by simpa using c)]
    · have e3 : bs (fun w => decide ((T w).natAbs ≤ lim)) (k + 1) = bs (fun w => decide ((T w).natAbs ≤ lim)) k := by
        show _ ||| _ = _
        rw [if_neg (by simpa using c), Nat.or_zero]
      by_cases c1 : (lim : Int) < T k
      · rw [if_pos (e1.mpr c1), e3, nI_1]
      · rw [if_neg (fun x => c1 (e1.mp x)), if_pos (e2.mpr (by omega)), e3, nI_1]
  have hen : (b_X0_balancedSet_4 u (nI lim)) ((fun k => (nI (bs (fun w => decide ((T w).natAbs ≤ lim)) k), nI k)) (12)) = some (.inr (nI (bs (fun w => decide ((T w).natAbs ≤ lim)) 12))) := by
    unfold b_X0_balancedSet_4
    dsimp only
    rw [if_pos e12]
  rw [lp_st (s := (0, 0)) (b_X0_balancedSet_4 u (nI lim)) 12 (fun k => (nI (bs (fun w => decide ((T w).natAbs ≤ lim)) k), nI k)) (nI (bs (fun w => decide ((T w).natAbs ≤ lim)) 12)) hst hen (by omega) rfl]
  rfl
/-- the way: up, or below 0 down; 99: refused -/
def up_ok (ok : Nat → Bool) (w : Nat) (n : Nat) : Bool := (List.range n).all fun k => ok ((w + (k + 1)) % 12)
def dn_ok (ok : Nat → Bool) (w : Nat) (n : Nat) : Bool := (List.range n).all fun k => ok ((w + (k + 1) * 11) % 12)
def wy (ok : Nat → Bool) (w d : Nat) : Int :=
  if pl d w = 0 then 0 else
  if up_ok ok w (pl d w) = true ∧ (pl d w ≤ 6 ∨ dn_ok ok w (12 - pl d w) = false) then (pl d w : Int) else
  if dn_ok ok w (12 - pl d w) = true then (pl d w : Int) - 12 else 99
theorem up_iff (ok : Nat → Bool) (w n : Nat) : up_ok ok w n = true ↔ ∀ i, 1 ≤ i → i ≤ n → ok ((w + i) % 12) = true := by
  unfold up_ok
  rw [List.all_eq_true]
  constructor
  · intro h i h1 h2
    have := h (i - 1) (List.mem_range.mpr (by omega))
    rwa [show i - 1 + 1 = i by omega] at this
  · intro h k hk
    exact h (k + 1) (by omega) (by have := List.mem_range.mp hk; omega)
theorem dn_iff (ok : Nat → Bool) (w n : Nat) (hn : n ≤ 12) : dn_ok ok w n = true ↔ ∀ i, 12 - n ≤ i → i ≤ 11 → ok ((w + i) % 12) = true := by
  unfold dn_ok
  rw [List.all_eq_true]
  constructor
  · intro h i h1 h2
    have := h (11 - i) (List.mem_range.mpr (by omega))
    rwa [show (w + (11 - i + 1) * 11) % 12 = (w + i) % 12 by omega] at this
  · intro h k hk
    have := h (11 - k) (by have := List.mem_range.mp hk; omega) (by omega)
    have hk2 := List.mem_range.mp hk
    rwa [show (w + (11 - k)) % 12 = (w + (k + 1) * 11) % 12 by omega] at this
theorem mask_and (x m : Nat) : x &&& m = m ↔ ∀ i, m.testBit i = true → x.testBit i = true := by
  constructor
  · intro h i hi
    have := congrArg (fun y => Nat.testBit y i) h
    simp only [Nat.testBit_and, hi, Bool.and_true] at this
    exact this
  · intro h
    refine Nat.eq_of_testBit_eq fun i => ?_
    rw [Nat.testBit_and]
    cases hm : m.testBit i with
    | false => rw [Bool.and_false]
    | true => rw [h i hm]; rfl
theorem byp {B w : Nat} (hB : B < 4096) (hw : w < 12) {i : Nat} (h1 : 1 ≤ i) (h2 : i ≤ 11) : (B / 2 ^ w ||| B * 2 ^ (12 - w)).testBit i = B.testBit ((w + i) % 12) := by
  rw [Nat.testBit_or, Nat.testBit_div_two_pow, Nat.testBit_mul_two_pow]
  have hz : ∀ j, 12 ≤ j → B.testBit j = false := fun j hj => Nat.testBit_lt_two_pow (Nat.lt_of_lt_of_le hB (Nat.pow_le_pow_right (n := 2) (i := 12) (by omega) hj))
  rcases Nat.lt_or_ge (w + i) 12 with h | h
  · rw [Nat.mod_eq_of_lt h, decide_eq_false (by omega), Bool.false_and, Bool.or_false, Nat.add_comm]
  · rw [hz (i + w) (by omega), Bool.false_or, decide_eq_true (by omega), Bool.true_and]
    congr 1
    omega
theorem mup : ∀ u, u < 12 → ((2 : Int32) <<< (nI u &&& 31)) - 2 = nI (2 ^ (u + 1) - 2) := by decide +kernel
theorem mdn : ∀ u, u < 12 → (4096 : Int32) - ((1 : Int32) <<< (nI u &&& 31)) = nI (4096 - 2 ^ u) := by decide +kernel
theorem mupb : ∀ u, u < 12 → ∀ i, i < 13 → (2 ^ (u + 1) - 2).testBit i = decide (1 ≤ i ∧ i ≤ u) := by decide +kernel
theorem mdnb : ∀ u, u < 12 → ∀ i, i < 13 → (4096 - 2 ^ u).testBit i = decide (u ≤ i ∧ i ≤ 11) := by decide +kernel
theorem m12 : ∀ w, w < 12 → (12 : Int32) - nI w = nI (12 - w) := by decide +kernel
theorem pl6 : ∀ u, u < 12 → nI u - 12 = zI ((u : Int) - 12) := by decide +kernel
theorem x7_way {ok : Nat → Bool} {B w d : Nat} (hB : B = bs ok 12) (hw : w < 12) (hd : d < 12) : f_X7_wayOver (nI B) (nI w) (nI d) = some (zI (wy ok w d)) := by
  have hB1 : B < 4096 := by rw [hB]; exact bs_lt ok 12
  have hBb : ∀ i, i < 12 → B.testBit i = ok i := fun i hi => by rw [hB, bs_bit, decide_eq_true hi, Bool.true_and]
  have hp := pl_lt d w
  unfold f_X7_wayOver
  rw [x7_place d hd w hw]
  generalize hu : pl d w = u at hp
  by_cases h0 : u = 0
  · have hv : wy ok w d = 0 := by
      unfold wy
      rw [if_pos (hu.trans h0)]
    rw [hv, h0, if_pos (show nI 0 = 0 from rfl)]
    rfl
  rw [if_neg (nz (by omega) (by omega)), mup u hp, mdn u hp, m12 w hw, pk_shrN (by omega) _ w (shamt w (by omega)), pk_shlN _ (12 - w) (shamt (12 - w) (by omega)) ?hsz]
  case hsz =>
    have : 2 ^ (12 - w) ≤ 2 ^ 12 := Nat.pow_le_pow_right (by omega) (by omega)
    have : B * 2 ^ (12 - w) ≤ 4096 * 4096 := Nat.mul_le_mul (by omega) this
    omega
  have hs1 : B / 2 ^ w < 2 ^ 31 := Nat.lt_of_le_of_lt (Nat.div_le_self _ _) (by omega)
  have hs2 : B * 2 ^ (12 - w) < 2 ^ 31 := by
    have : 2 ^ (12 - w) ≤ 2 ^ 12 := Nat.pow_le_pow_right (by omega) (by omega)
    have : B * 2 ^ (12 - w) ≤ 4096 * 4096 := Nat.mul_le_mul (by omega) this
    omega
  have hs3 : B / 2 ^ w ||| B * 2 ^ (12 - w) < 2 ^ 31 := Nat.or_lt_two_pow hs1 hs2
  have hm1 : 2 ^ (u + 1) - 2 < 2 ^ 31 := by
    have : 2 ^ (u + 1) ≤ 2 ^ 12 := Nat.pow_le_pow_right (by omega) (by omega)
    omega
  have hu0 := Nat.two_pow_pos u
  have hm2 : 4096 - 2 ^ u < 2 ^ 31 := by omega
  rw [nI_or hs1 hs2, nI_and hs3 hm1, nI_and hs3 hm2]
  have k1 : (nI ((B / 2 ^ w ||| B * 2 ^ (12 - w)) &&& (2 ^ (u + 1) - 2)) = nI (2 ^ (u + 1) - 2)) ↔ up_ok ok w u = true := by
    rw [nI_eq (Nat.and_lt_two_pow _ hm1) hm1, mask_and, up_iff]
    constructor
    · intro h i h1 h2
      have h3 := h i (by rw [mupb u hp i (by omega)]; simp; omega)
      rw [byp hB1 hw h1 (by omega), hBb _ (Nat.mod_lt _ (by omega))] at h3
      exact h3
    · intro h i hi
      rcases Nat.lt_or_ge i 13 with h4 | h4
      · rw [mupb u hp i h4] at hi
        have h5 := of_decide_eq_true hi
        rw [byp hB1 hw h5.1 (by omega), hBb _ (Nat.mod_lt _ (by omega))]
        exact h i h5.1 h5.2
      · rw [Nat.testBit_lt_two_pow (Nat.lt_of_lt_of_le (show 2 ^ (u + 1) - 2 < 2 ^ 13 from Nat.lt_of_lt_of_le (Nat.sub_lt (Nat.two_pow_pos _) (by omega)) (Nat.pow_le_pow_right (by omega) (by omega))) (Nat.pow_le_pow_right (by omega) h4))] at hi
        cases hi
  have k2 : (nI ((B / 2 ^ w ||| B * 2 ^ (12 - w)) &&& (4096 - 2 ^ u)) = nI (4096 - 2 ^ u)) ↔ dn_ok ok w (12 - u) = true := by
    rw [nI_eq (Nat.and_lt_two_pow _ hm2) hm2, mask_and, dn_iff ok w (12 - u) (by omega), show 12 - (12 - u) = u by omega]
    constructor
    · intro h i h1 h2
      have h3 := h i (by rw [mdnb u hp i (by omega)]; simp; omega)
      rw [byp hB1 hw (by omega) h2, hBb _ (Nat.mod_lt _ (by omega))] at h3
      exact h3
    · intro h i hi
      rcases Nat.lt_or_ge i 13 with h4 | h4
      · rw [mdnb u hp i h4] at hi
        have h5 := of_decide_eq_true hi
        rw [byp hB1 hw (by omega) h5.2, hBb _ (Nat.mod_lt _ (by omega))]
        exact h i h5.1 h5.2
      · rw [Nat.testBit_lt_two_pow (Nat.lt_of_lt_of_le (show 4096 - 2 ^ u < 2 ^ 13 by omega) (Nat.pow_le_pow_right (by omega) h4))] at hi
        cases hi
  have k3 : (nI u ≤ (6 : Int32)) ↔ u ≤ 6 := nI_leI (b := 6) (by omega) (by omega)
  have k4 := pl6 u hp
  rw [k4]
  by_cases c1 : up_ok ok w u = true
  · rw [if_pos (k1.mpr c1), Option.bind_some]
    by_cases c2 : dn_ok ok w (12 - u) = true
    · rw [if_pos (k2.mpr c2), Option.bind_some]
      by_cases c3 : u ≤ 6
      · have hv : wy ok w d = u := by
          unfold wy
          rw [hu, if_neg h0, if_pos ⟨c1, Or.inl c3⟩]
        rw [hv, if_pos rfl, if_pos (k3.mpr c3), nI_zI]
      · have hv : wy ok w d = (u : Int) - 12 := by
          unfold wy
          rw [hu, if_neg h0, if_neg (fun x => by rcases x.2 with y | y
                                                 · exact c3 y
                                                 · rw [c2] at y
                                                   cases y), if_pos c2]
        rw [hv, if_pos rfl, if_neg (fun x => c3 (k3.mp x)), if_pos rfl, if_pos rfl]
    · rw [if_neg (fun x => c2 (k2.mp x)), Option.bind_some]
      have hv : wy ok w d = u := by
        unfold wy
        rw [hu, if_neg h0, if_pos ⟨c1, Or.inr (by simpa using c2)⟩]
      rw [hv, ← nI_zI]
      by_cases c3 : u ≤ 6
      · rw [if_pos rfl, if_pos (k3.mpr c3)]
      · rw [if_pos rfl, if_neg (fun x => c3 (k3.mp x)), if_neg (show ¬ (false = true) by decide)]
  · rw [if_neg (fun x => c1 (k1.mp x)), Option.bind_some]
    by_cases c2 : dn_ok ok w (12 - u) = true
    · have hv : wy ok w d = (u : Int) - 12 := by
        unfold wy
        rw [hu, if_neg h0, if_neg (fun x => c1 x.1), if_pos c2]
      rw [hv, if_pos (k2.mpr c2), Option.bind_some, if_neg (show ¬ (false = true) by decide), if_pos rfl]
    · have hv : wy ok w d = 99 := by
        unfold wy
        rw [hu, if_neg h0, if_neg (fun x => c1 x.1), if_neg c2]
      rw [hv, if_neg (fun x => c2 (k2.mp x)), Option.bind_some, if_neg (show ¬ (false = true) by decide), if_neg (show ¬ (false = true) by decide)]
      rfl
