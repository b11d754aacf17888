/-! doubles: shares of small numbers, and their bits -/
theorem lp_more {σ ε : Type} (f : σ → Option (σ ⊕ ε)) (m : Nat) : ∀ (n : Nat) (s : σ) (e : ε), lp n f s = some e → lp (n + m) f s = some e := by
  intro n
  induction n with
  | zero => intro s e h; cases h
  | succ n ih =>
    intro s e h
    rw [Nat.succ_add]
    unfold lp at h ⊢
    cases q : f s with
    | none => rw [q] at h; cases h
    | some x =>
      rw [q] at h
      cases x with
      | inl s' => exact ih s' e h
      | inr e' => exact h
def dq (a b : Nat) : UInt64 := FP.ddiv (FP.i2d (nI a)) (FP.i2d (nI b))
def bits10 (p0 : UInt64) : Option Int64 :=
  if 0 < (Op.cmpValue (FP.dcmp p0 FP.dconst0) CmpOp.g) then
  (lp 10 b_X7_bitsOf_13 (p0, 0)).bind fun z1 =>
  (dnn (FP.dsub z1.1 FP.dconst1)).bind fun r3 =>
  (dnn (FP.dmul r3 4841369599423283200)).bind fun r4 =>
  some (((Int32.toInt64 (1023 - z1.2)) <<< (Int32.toInt64 52 &&& 63)) + (FP.d2l r4))
  else
  some 0
theorem bits10_of {x : UInt64} {r : Int64} (h : bits10 x = some r) : f_X7_bitsOf x = some r := by
  unfold bits10 at h
  unfold f_X7_bitsOf
  by_cases c : 0 < (Op.cmpValue (FP.dcmp x FP.dconst0) CmpOp.g)
  · rw [if_pos c] at h ⊢
    cases q : lp 10 b_X7_bitsOf_13 (x, 0) with
    | none => rw [q] at h; cases h
    | some z =>
      rw [q] at h
      rw [show lp 5000 b_X7_bitsOf_13 (x, 0) = some z from lp_more _ 4990 10 _ _ q]
      exact h
  · rw [if_neg c] at h ⊢
    exact h
def okd (x : UInt64) : Bool := (dnn x == some x) && (bits10 x == some (UInt64.toInt64 x)) && (f_Jxe99ae_doubleToLongBits_ccdee x == UInt64.toInt64 x)
theorem okd1 : okd FP.dconst1 = true := by decide +kernel
theorem okd_0 : ∀ k, k < 10 → ∀ a, a < 2 + k → okd (dq a (1 + k)) = true := by decide +kernel
theorem okd_1 : ∀ k, k < 10 → ∀ a, a < 12 + k → okd (dq a (11 + k)) = true := by decide +kernel
theorem okd_2 : ∀ k, k < 10 → ∀ a, a < 22 + k → okd (dq a (21 + k)) = true := by decide +kernel
theorem okd_3 : ∀ k, k < 10 → ∀ a, a < 32 + k → okd (dq a (31 + k)) = true := by decide +kernel
theorem okd_4 : ∀ k, k < 10 → ∀ a, a < 42 + k → okd (dq a (41 + k)) = true := by decide +kernel
theorem okd_5 : ∀ k, k < 10 → ∀ a, a < 52 + k → okd (dq a (51 + k)) = true := by decide +kernel
theorem okd_6 : ∀ k, k < 10 → ∀ a, a < 62 + k → okd (dq a (61 + k)) = true := by decide +kernel
theorem okd_7 : ∀ k, k < 10 → ∀ a, a < 72 + k → okd (dq a (71 + k)) = true := by decide +kernel
theorem okd_8 : ∀ k, k < 10 → ∀ a, a < 82 + k → okd (dq a (81 + k)) = true := by decide +kernel
theorem okd_9 : ∀ k, k < 10 → ∀ a, a < 92 + k → okd (dq a (91 + k)) = true := by decide +kernel
theorem okd_all {a b : Nat} (h0 : 0 < b) (hab : a ≤ b) (hb : b ≤ 100) : okd (dq a b) = true := by
  by_cases c0 : b < 11
  · have := okd_0 (b - 1) (by omega) a (by omega)
    rwa [show 1 + (b - 1) = b by omega] at this
  by_cases c1 : b < 21
  · have := okd_1 (b - 11) (by omega) a (by omega)
    rwa [show 11 + (b - 11) = b by omega] at this
  by_cases c2 : b < 31
  · have := okd_2 (b - 21) (by omega) a (by omega)
    rwa [show 21 + (b - 21) = b by omega] at this
  by_cases c3 : b < 41
  · have := okd_3 (b - 31) (by omega) a (by omega)
    rwa [show 31 + (b - 31) = b by omega] at this
  by_cases c4 : b < 51
  · have := okd_4 (b - 41) (by omega) a (by omega)
    rwa [show 41 + (b - 41) = b by omega] at this
  by_cases c5 : b < 61
  · have := okd_5 (b - 51) (by omega) a (by omega)
    rwa [show 51 + (b - 51) = b by omega] at this
  by_cases c6 : b < 71
  · have := okd_6 (b - 61) (by omega) a (by omega)
    rwa [show 61 + (b - 61) = b by omega] at this
  by_cases c7 : b < 81
  · have := okd_7 (b - 71) (by omega) a (by omega)
    rwa [show 71 + (b - 71) = b by omega] at this
  by_cases c8 : b < 91
  · have := okd_8 (b - 81) (by omega) a (by omega)
    rwa [show 81 + (b - 81) = b by omega] at this
  by_cases c9 : b < 101
  · have := okd_9 (b - 91) (by omega) a (by omega)
    rwa [show 91 + (b - 91) = b by omega] at this
  omega
theorem okd_use {x : UInt64} (h : okd x = true) : dnn x = some x ∧ f_X7_bitsOf x = some (UInt64.toInt64 x) ∧ f_Jxe99ae_doubleToLongBits_ccdee x = UInt64.toInt64 x := by
  unfold okd at h
  rw [Bool.and_eq_true, Bool.and_eq_true, beq_iff_eq, beq_iff_eq, beq_iff_eq] at h
  exact ⟨h.1.1, bits10_of h.1.2, h.2⟩
