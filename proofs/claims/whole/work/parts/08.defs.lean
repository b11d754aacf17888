/-- a row copied onto another of its length -/
def cpy (n : Nat) (f h : zF) : zF := fun k => if k < n then f k else h k
def f_X7_copyRow (n : Nat) (f1 f2 : zF) : zF := cpy n f1 f2
def f_X0_copyFrom (u : tX0) (v : tX0) : Option (tX0) :=
(some (f_X7_copyRow 12 v.1 u.1)).bind fun r1 =>
(some (f_X7_copyRow 12 v.2 u.2)).bind fun r2 =>
some (r1, r2)
def f_X3_copyFrom (u : tX3) (v : tX3) : Option (tX3) :=
(some (f_X7_copyRow 40 v.1 u.1)).bind fun r1 =>
(some (f_X7_copyRow 40 v.2.1 u.2.1)).bind fun r2 =>
(some (f_X7_copyRow 40 v.2.2.1 u.2.2.1)).bind fun r3 =>
some (r1, r2, r3, v.2.2.2.1, v.2.2.2.2)
def f_X6_copyFrom (u : tX6) (v : tX6) : Option (tX6) :=
(f_X0_copyFrom u.1 v.1).bind fun r1 =>
(f_X3_copyFrom u.2.1 v.2.1).bind fun r2 =>
(some (f_X7_copyRow 12 v.2.2.1 u.2.2.1)).bind fun r3 =>
(some (f_X7_copyRow 3 v.2.2.2.1 u.2.2.2.1)).bind fun r4 =>
some (r1, r2, r3, r4, v.2.2.2.2.1, v.2.2.2.2.2.1, v.2.2.2.2.2.2.1, v.2.2.2.2.2.2.2.1, v.2.2.2.2.2.2.2.2)
/-- which saved state: its place in the row -/
def f_X2_stateAt (u : tX2) (p0 : Int32) : Option Nat :=
if (i_rem (u.2.1 + p0) 6) < 0 then
none
else
if 6 ≤ (i_rem (u.2.1 + p0) 6) then
none
else
some (i_rem (u.2.1 + p0) 6).toNatClampNeg
theorem stateAt_lt {u : tX2} {p0 : Int32} {r : Nat} (h : f_X2_stateAt u p0 = some r) : r < 6 := by
  unfold f_X2_stateAt at h
  split at h
  · cases h
  · split at h
    · cases h
    · cases h
      rename_i h1 h2
      obtain ⟨j, hj, e⟩ := nI_of h1
      rw [e] at h2 ⊢
      rw [nI_clamp hj]
      exact Nat.not_le.mp fun h => h2 (nI_le h hj)
def f_X2_keep (u : tX2) (v : tX6) : Option (tX2) :=
(if u.2.2 = 6 then
some ((i_rem (u.2.1 + 1) 6), (u.2.2 - 1))
else
some (u.2.1, u.2.2)).bind fun j1 =>
(f_X2_stateAt (u.1, j1.1, j1.2) j1.2).bind fun r2 =>
(f_X6_copyFrom (u.1 r2) v).bind fun r3 =>
some ((zup u.1 r2 r3), j1.1, (j1.2 + 1))
def f_X2_restoreTo (u : tX2) (v : tX6) : Option (tX2 × tX6) :=
(f_X2_stateAt (u.1, u.2.1, (u.2.2 - 1)) (u.2.2 - 1)).bind fun r1 =>
(f_X6_copyFrom v (u.1 r1)).bind fun r2 =>
some ((u.1, u.2.1, (u.2.2 - 1)), r2)
def f_X4_indexOf (p0 : Int32) (p1 : Int32) : Int32 :=
((p0 * 6) + p1)
def f_X4_stepsBy (u : tX4) (p0 : Int32) (p1 : Int32) (p2 : Int32) : Option (Int32) :=
(f_X7_wayOver u.2.2.2.2.2.2.2 p2 (f_X7_at 6 u.2.2.1 p1)).bind fun r1 =>
if r1 = 99 then
some 1000000
else
some ((i_abs r1) + (f_X7_at 384 u.2.2.2.2.1 (f_X4_indexOf (p0 ||| ((1 : Int32) <<< (p1 &&& 31))) p1)))
def b_X4_weighNext_26 (u : tX4) (p0 : Int32) (p2 : Int32) (s26 : Int32 × Int32 × Int32) : Option ((Int32 × Int32 × Int32) ⊕ (Int32 × Int32)) :=
if u.2.2.2.2.2.2.1 ≤ s26.2.2 then
some (.inr (s26.1, s26.2.1))
else
if (f_X7_isIn p0 s26.2.2) = true then
if s26.1 ≤ 1000000 then
some (.inl (s26.1, s26.2.1, (s26.2.2 + 1)))
else
some (.inl (1000000, s26.2.2, (s26.2.2 + 1)))
else
(f_X4_stepsBy u p0 s26.2.2 p2).bind fun r3 =>
if s26.1 ≤ r3 then
some (.inl (s26.1, s26.2.1, (s26.2.2 + 1)))
else
some (.inl (r3, s26.2.2, (s26.2.2 + 1)))
def f_X4_weighNext (u : tX4) (p0 : Int32) (p1 : Int32) (p2 : Int32) : Option (tX4) :=
(if p0 = (((1 : Int32) <<< (u.2.2.2.2.2.2.1 &&& 31)) - 1) then
some (0 : Int32)
else
some (1000000 : Int32)).bind fun j1 =>
(lp 5000 (b_X4_weighNext_26 u p0 p2) (j1, 0, 0)).bind fun z2 =>
(some (f_X7_write 384 u.2.2.2.2.1 (f_X4_indexOf p0 p1) z2.1)).bind fun r4 =>
(some (f_X7_write 384 u.2.2.2.2.2.1 (f_X4_indexOf p0 p1) z2.2)).bind fun r5 =>
some (u.1, u.2.1, u.2.2.1, u.2.2.2.1, r4, r5, u.2.2.2.2.2.2.1, u.2.2.2.2.2.2.2)
def b_X4_takeOut_13 (u : tX4) (p1 : Int32) (s13 : Int32 × tX0) : Option ((Int32 × tX0) ⊕ (tX0)) :=
if u.2.2.2.2.2.2.1 ≤ s13.1 then
some (.inr s13.2)
else
if (f_X7_isIn p1 s13.1) = true then
(f_X0_addLoad s13.2 (f_X7_at 6 u.2.2.1 s13.1) (-(f_X7_at 6 u.2.2.2.1 s13.1))).bind fun r3 =>
some (.inl ((s13.1 + 1), r3))
else
some (.inl ((s13.1 + 1), s13.2))
def f_X4_takeOut (u : tX4) (v : tX6) (p1 : Int32) : Option (tX4) :=
(f_X0_copyFrom u.2.1 v.1).bind fun r1 =>
(lp 5000 (b_X4_takeOut_13 u p1) (0, r1)).bind fun z2 =>
(f_X0_balancedSet z2 (f_X7_at 3 v.2.2.2.1 0)).bind fun r4 =>
some (u.1, z2, u.2.2.1, u.2.2.2.1, u.2.2.2.2.1, u.2.2.2.2.2.1, u.2.2.2.2.2.2.1, r4)
def b_X4_readItems_2 (u : tX4) (v : tX6) (f1 : zF) (s2 : Int32 × zF × zF) : Option ((Int32 × zF × zF) ⊕ (Bool × tX4)) :=
if u.2.2.2.2.2.2.1 ≤ s2.1 then
some (.inr (true, (u.1, u.2.1, s2.2.1, s2.2.2, u.2.2.2.2.1, u.2.2.2.2.2.1, u.2.2.2.2.2.2.1, u.2.2.2.2.2.2.2)))
else
(f_X3_slotOf v.2.1 (f_X7_at 6 f1 s2.1)).bind fun r1 =>
if r1 = (-1) then
some (.inr (false, (u.1, u.2.1, s2.2.1, s2.2.2, u.2.2.2.2.1, u.2.2.2.2.2.1, u.2.2.2.2.2.2.1, u.2.2.2.2.2.2.2)))
else
if (f_X6_isJammed v (f_X7_at 40 v.2.1.2.2.1 r1)) = true then
some (.inr (false, (u.1, u.2.1, s2.2.1, s2.2.2, u.2.2.2.2.1, u.2.2.2.2.2.1, u.2.2.2.2.2.2.1, u.2.2.2.2.2.2.2)))
else
(some (f_X7_write 6 s2.2.1 s2.1 (f_X7_at 40 v.2.1.2.2.1 r1))).bind fun r2 =>
(some (f_X7_write 6 s2.2.2 s2.1 (f_X7_at 40 v.2.1.2.1 r1))).bind fun r3 =>
some (.inl ((s2.1 + 1), r2, r3))
def f_X4_readItems (u : tX4) (v : tX6) (f1 : zF) : Option (Bool × tX4) :=
lp 5000 (b_X4_readItems_2 u v f1) (0, u.2.2.1, u.2.2.2.1)
def b_X4_followOrder_7 (u : tX4) (f1 : zF) (s7 : Int32 × Int32 × Int32 × zF) : Option ((Int32 × Int32 × Int32 × zF) ⊕ (zF)) :=
if u.2.2.2.2.2.2.1 ≤ s7.2.2.1 then
some (.inr s7.2.2.2)
else
(some (f_X7_write 6 s7.2.2.2 s7.2.2.1 (f_X7_at 6 f1 (f_X7_at 384 u.2.2.2.2.2.1 (f_X4_indexOf s7.1 s7.2.1))))).bind fun r2 =>
some (.inl ((s7.1 ||| ((1 : Int32) <<< ((f_X7_at 384 u.2.2.2.2.2.1 (f_X4_indexOf s7.1 s7.2.1)) &&& 31))), (f_X7_at 384 u.2.2.2.2.2.1 (f_X4_indexOf s7.1 s7.2.1)), (s7.2.2.1 + 1), r2))
def f_X4_followOrder (u : tX4) (f1 : zF) : Option (tX4) :=
(lp 5000 (b_X4_followOrder_7 u f1) (0, 0, 0, u.1)).bind fun z1 =>
some (z1, u.2.1, u.2.2.1, u.2.2.2.1, u.2.2.2.2.1, u.2.2.2.2.2.1, u.2.2.2.2.2.2.1, u.2.2.2.2.2.2.2)
def b_X4_findOrder_41 (s26 : Int32 × tX4) (s41 : Int32 × tX4) : Option ((Int32 × tX4) ⊕ (tX4)) :=
if s41.2.2.2.2.2.2.2.1 ≤ s41.1 then
some (.inr s41.2)
else
if (f_X7_isIn s26.1 s41.1) = true then
(f_X4_weighNext s41.2 s26.1 s41.1 (f_X7_at 6 s41.2.2.2.1 s41.1)).bind fun r5 =>
some (.inl ((s41.1 + 1), r5))
else
some (.inl ((s41.1 + 1), s41.2))
def b_X4_findOrder_26 (v : tX6) (s26 : Int32 × tX4) : Option ((Int32 × tX4) ⊕ (tX4)) :=
if s26.1 ≤ 0 then
some (.inr s26.2)
else
(f_X4_takeOut s26.2 v s26.1).bind fun r3 =>
(lp 5000 (b_X4_findOrder_41 s26) (0, r3)).bind fun z4 =>
some (.inl ((s26.1 + -1), z4))
def f_X4_findOrder (u : tX4) (v : tX6) (f1 : zF) (p2 : Int32) : Option (Bool × tX4) :=
(f_X4_readItems (u.1, u.2.1, u.2.2.1, u.2.2.2.1, u.2.2.2.2.1, u.2.2.2.2.2.1, p2, u.2.2.2.2.2.2.2) v f1).bind fun r1 =>
if r1.1 = true then
(lp 5000 (b_X4_findOrder_26 v) ((((1 : Int32) <<< (r1.2.2.2.2.2.2.2.1 &&& 31)) - 1), r1.2)).bind fun z2 =>
(f_X4_takeOut z2 v 0).bind fun r6 =>
(f_X4_weighNext r6 0 0 v.2.2.2.2.1).bind fun r7 =>
if (f_X7_at 384 r7.2.2.2.2.1 0) = 1000000 then
some (false, r7)
else
(f_X4_followOrder r7 f1).bind fun r8 =>
some (true, r8)
else
some (false, r1.2)
def f_X5_stepsTo (v : tX6) (p1 : Int32) : Option (Int32) :=
(f_X3_slotOf v.2.1 p1).bind fun r1 =>
if r1 = (-1) then
some 99
else
if (f_X6_isJammed v (f_X7_at 40 v.2.1.2.2.1 r1)) = true then
some 99
else
(f_X6_wayTo v (f_X7_at 40 v.2.1.2.2.1 r1)).bind fun r2 =>
some (i_abs r2)
def b_X5_pickNearest_19 (f1 : zF) (p2 : Int32) (s3 : Int32 × tX6) (s19 : Int32 × Int32 × Int32) : Option ((Int32 × Int32 × Int32) ⊕ (Int32)) :=
if p2 ≤ s19.2.2 then
some (.inr s19.1)
else
(f_X5_stepsTo s3.2 (f_X7_at 6 f1 s19.2.2)).bind fun r2 =>
if s19.2.1 ≤ r2 then
some (.inl (s19.1, s19.2.1, (s19.2.2 + 1)))
else
some (.inl ((f_X7_at 6 f1 s19.2.2), r2, (s19.2.2 + 1)))
def b_X5_pickNearest_3 (f1 : zF) (p2 : Int32) (s3 : Int32 × tX6) : Option ((Int32 × tX6) ⊕ (Int32 × tX6)) :=
if p2 ≤ s3.1 then
some (.inr (p2, s3.2))
else
(lp 5000 (b_X5_pickNearest_19 f1 p2 s3) ((-1), 99, 0)).bind fun z1 =>
if z1 = (-1) then
some (.inr (s3.1, s3.2))
else
(f_X6_takeItem s3.2 z1).bind fun r3 =>
some (.inl ((s3.1 + 1), r3.2))
def f_X5_pickNearest (v : tX6) (f1 : zF) (p2 : Int32) : Option (Int32 × tX6) :=
lp 5000 (b_X5_pickNearest_3 f1 p2) (0, v)
def b_X5_pickInRow_3 (f1 : zF) (p2 : Int32) (s3 : Int32 × tX6) : Option ((Int32 × tX6) ⊕ (Int32 × tX6)) :=
if p2 ≤ s3.1 then
some (.inr (p2, s3.2))
else
(f_X6_reasonAgainst s3.2 (f_X7_at 6 f1 s3.1)).bind fun r1 =>
if r1 = 0 then
(f_X6_takeItem s3.2 (f_X7_at 6 f1 s3.1)).bind fun r2 =>
some (.inl ((s3.1 + 1), r2.2))
else
some (.inr (s3.1, s3.2))
def f_X5_pickInRow (v : tX6) (f1 : zF) (p2 : Int32) : Option (Int32 × tX6) :=
lp 5000 (b_X5_pickInRow_3 f1 p2) (0, v)
def f_X5_pickBatch (u : tX5) (v : tX6) (f1 : zF) (p2 : Int32) (p3 : Int32) : Option (Int32 × tX5 × tX6) :=
if p3 = 1 then
(f_X5_pickNearest v f1 p2).bind fun r5 =>
some (r5.1, u, r5.2)
else
if p3 = 2 then
(f_X4_findOrder u v f1 p2).bind fun r2 =>
if r2.1 = true then
(f_X5_pickInRow v r2.2.1 p2).bind fun r4 =>
some (r4.1, r2.2, r4.2)
else
(f_X5_pickInRow v f1 p2).bind fun r3 =>
some (r3.1, r2.2, r3.2)
else
(f_X5_pickInRow v f1 p2).bind fun r1 =>
some (r1.1, u, r1.2)
def f_X7_numberOf (u : tX7) (p0 : Int32) : Option (Int32) :=
if p0 = (0 : Int32) then
some u.1.2.2.2.2.1
else
if p0 = (1 : Int32) then
some u.1.2.1.2.2.2.1
else
if p0 = (2 : Int32) then
(f_X0_wholeLoad u.1.1).bind fun r1 =>
some r1
else
if p0 = (3 : Int32) then
some (f_X0_imbalanceAt u.1.1 u.1.2.2.2.2.1)
else
if p0 = (4 : Int32) then
(f_X0_greatestWith u.1.1 0 0).bind fun r2 =>
some r2
else
if p0 = (5 : Int32) then
some u.1.2.2.2.2.2.1
else
if p0 = (6 : Int32) then
some u.1.2.2.2.2.2.2.1
else
if p0 = (7 : Int32) then
some u.1.2.2.2.2.2.2.2.1
else
if p0 = (8 : Int32) then
some u.1.2.2.2.2.2.2.2.2
else
if p0 = (9 : Int32) then
(f_X6_jammedDrawers u.1).bind fun r3 =>
some r3
else
some u.2.2.1.2.2
def f_X7_shareOfLeast (u : tX7) : Option (UInt64) :=
(f_X0_greatestLoad u.1.1).bind fun r1 =>
if 0 < r1 then
(f_X0_leastLoad u.1.1).bind fun r2 =>
(dnn (FP.ddiv (FP.i2d r2) (FP.i2d r1))).bind fun r3 =>
some r3
else
some FP.dconst1
def f_X7_tryBatch (u : tX7) (p0 : Int32) : Option (Int32 × tX7) :=
(f_X1_readBatch u.2.2.2.1).bind fun r1 =>
if r1.1 = true then
(f_X6_copyFrom u.2.1 u.1).bind fun r2 =>
(f_X5_pickBatch u.2.2.2.2 r2 r1.2.2.2.1 r1.2.2.2.2.1 p0).bind fun r3 =>
some (r3.1, (u.1, r3.2.2, u.2.2.1, r1.2, r3.2.1))
else
some ((-1), (u.1, u.2.1, u.2.2.1, r1.2, u.2.2.2.2))
def f_X7_outcomeOf (u : tX7) (p0 : Int32) (p1 : Int32) : Option (Int32) :=
if p0 = (-1) then
some (-1)
else
if p1 = (0 : Int32) then
some p0
else
if p1 = (1 : Int32) then
some (u.2.1.2.2.2.2.2.1 - u.1.2.2.2.2.2.1)
else
if p1 = (2 : Int32) then
some u.2.1.2.2.2.2.1
else
(f_X0_greatestWith u.2.1.1 0 0).bind fun r1 =>
some r1
def b_X7_hashNumbers_5 (u : tX7) (s5 : Int64 × Int32) : Option ((Int64 × Int32) ⊕ (Int64)) :=
if 11 ≤ s5.2 then
some (.inr s5.1)
else
(f_X7_numberOf u s5.2).bind fun r2 =>
some (.inl ((f_X7_chained s5.1 (Int32.toInt64 r2)), (s5.2 + 1)))
def b_X7_hashNumbers_33 (u : tX7) (s33 : Int64 × Int32) : Option ((Int64 × Int32) ⊕ (Int64)) :=
if 3 ≤ s33.2 then
some (.inr s33.1)
else
some (.inl ((f_X7_chained s33.1 (Int32.toInt64 (f_X7_at 3 u.1.2.2.2.1 s33.2))), (s33.2 + 1)))
def f_X7_hashNumbers (u : tX7) (p0 : Int64) : Option (Int64) :=
(lp 5000 (b_X7_hashNumbers_5 u) (p0, 0)).bind fun z1 =>
(lp 5000 (b_X7_hashNumbers_33 u) (z1, 0)).bind fun z3 =>
some z3
def b_X7_hashDrawers_15 (u : tX7) (s5 : Int64 × Int32) (s15 : Int64 × Int32) : Option ((Int64 × Int32) ⊕ (Int64)) :=
if 6 ≤ s15.2 then
some (.inr s15.1)
else
(f_X6_drawerProperty u.1 s5.2 s15.2).bind fun r3 =>
some (.inl ((f_X7_chained s15.1 (Int32.toInt64 r3)), (s15.2 + 1)))
def b_X7_hashDrawers_5 (u : tX7) (s5 : Int64 × Int32) : Option ((Int64 × Int32) ⊕ (Int64)) :=
if 12 ≤ s5.2 then
some (.inr s5.1)
else
(lp 5000 (b_X7_hashDrawers_15 u s5) (s5.1, 0)).bind fun z2 =>
(f_X6_wayTo u.1 s5.2).bind fun r4 =>
(f_X0_greatestWith u.1.1 s5.2 5).bind fun r5 =>
some (.inl ((f_X7_chained (f_X7_chained z2 (Int32.toInt64 r4)) (Int32.toInt64 r5)), (s5.2 + 1)))
def f_X7_hashDrawers (u : tX7) (p0 : Int64) : Option (Int64) :=
(lp 5000 (b_X7_hashDrawers_5 u) (p0, 0)).bind fun z1 =>
some z1
def b_X7_hashItems_48 (u : tX7) (s5 : Int64 × Int32) (s48 : Int64 × Int32) : Option ((Int64 × Int32) ⊕ (Int64)) :=
if 2 ≤ s48.2 then
some (.inr s48.1)
else
(f_X3_propertyOf u.1.2.1 (f_X7_at 40 u.1.2.1.1 s5.2) s48.2).bind fun r3 =>
some (.inl ((f_X7_chained s48.1 (Int32.toInt64 r3)), (s48.2 + 1)))
def b_X7_hashItems_5 (u : tX7) (s5 : Int64 × Int32) : Option ((Int64 × Int32) ⊕ (Int64)) :=
if u.1.2.1.2.2.2.1 ≤ s5.2 then
some (.inr s5.1)
else
(lp 5000 (b_X7_hashItems_48 u s5) ((f_X7_chained s5.1 (Int32.toInt64 (f_X7_at 40 u.1.2.1.1 s5.2))), 0)).bind fun z2 =>
(f_X6_reasonAgainst u.1 (f_X7_at 40 u.1.2.1.1 s5.2)).bind fun r4 =>
some (.inl ((f_X7_chained z2 (Int32.toInt64 r4)), (s5.2 + 1)))
def f_X7_hashItems (u : tX7) (p0 : Int64) : Option (Int64) :=
(lp 5000 (b_X7_hashItems_5 u) (p0, 0)).bind fun z1 =>
some z1
def b_X7_hashText_16 (u : tX7) (s16 : Int64 × Int32) : Option ((Int64 × Int32) ⊕ (Int64)) :=
if u.2.2.2.1.2.1 ≤ s16.2 then
some (.inr s16.1)
else
some (.inl ((f_X7_chained s16.1 (Int32.toInt64 (f_X7_at 60 u.2.2.2.1.1 s16.2))), (s16.2 + 1)))
def f_X7_hashText (u : tX7) (p0 : Int64) : Option (Int64) :=
(lp 5000 (b_X7_hashText_16 u) ((f_X7_chained p0 (Int32.toInt64 u.2.2.2.1.2.1)), 0)).bind fun z1 =>
some z1
def b_X7_bitsOf_13 (s13 : UInt64 × Int32) : Option ((UInt64 × Int32) ⊕ (UInt64 × Int32)) :=
if 0 ≤ (Op.cmpValue (FP.dcmp s13.1 FP.dconst1) CmpOp.g) then
some (.inr (s13.1, s13.2))
else
if 1022 ≤ s13.2 then
some (.inr (s13.1, s13.2))
else
(dnn (FP.dmul s13.1 4611686018427387904)).bind fun r2 =>
some (.inl (r2, (s13.2 + 1)))
def f_X7_bitsOf (p0 : UInt64) : Option (Int64) :=
if 0 < (Op.cmpValue (FP.dcmp p0 FP.dconst0) CmpOp.g) then
(lp 5000 b_X7_bitsOf_13 (p0, 0)).bind fun z1 =>
(dnn (FP.dsub z1.1 FP.dconst1)).bind fun r3 =>
(dnn (FP.dmul r3 4841369599423283200)).bind fun r4 =>
some (((Int32.toInt64 (1023 - z1.2)) <<< (Int32.toInt64 52 &&& 63)) + (FP.d2l r4))
else
some 0
def f_X7_clearBuffer (u : tX7) : Int32 × tX7 :=
(u.2.2.2.1.2.1, (u.1, u.2.1, u.2.2.1, (u.2.2.2.1.1, 0, u.2.2.2.1.2.2.1, u.2.2.2.1.2.2.2.1, u.2.2.2.1.2.2.2.2.1, u.2.2.2.1.2.2.2.2.2), u.2.2.2.2))
def f_X7_firstError (u : tX7) : Option (Int32 × tX7) :=
(f_X1_readSigns u.2.2.2.1).bind fun r1 =>
some (r1.1, (u.1, u.2.1, u.2.2.1, r1.2, u.2.2.2.2))
def f_X7_refusal (u : tX7) (p0 : Int32) : Option (Int32) :=
(f_X6_reasonAgainst u.1 p0).bind fun r1 =>
some r1
def f_X7_evenness (u : tX7) : Option (UInt64) :=
(f_X7_shareOfLeast u).bind fun r1 =>
some r1
def b_X7_digest_52 (r6 : Int32 × tX7) (s52 : Int64 × Int32) : Option ((Int64 × Int32) ⊕ (Int64)) :=
if 4 ≤ s52.2 then
some (.inr s52.1)
else
(f_X7_outcomeOf r6.2 r6.1 s52.2).bind fun r8 =>
some (.inl ((f_X7_chained s52.1 (Int32.toInt64 r8)), (s52.2 + 1)))
def b_X7_digest_37 (s37 : Int64 × Int32 × tX7) : Option ((Int64 × Int32 × tX7) ⊕ (Int64 × tX7)) :=
if 2 < s37.2.1 then
some (.inr (s37.1, s37.2.2))
else
(f_X7_tryBatch s37.2.2 s37.2.1).bind fun r6 =>
(lp 5000 (b_X7_digest_52 r6) (s37.1, 0)).bind fun z7 =>
some (.inl (z7, (s37.2.1 + 1), r6.2))
def f_X7_digest (u : tX7) : Option (Int64 × tX7) :=
(f_X7_hashNumbers u 2963).bind fun r1 =>
(f_X7_hashDrawers u r1).bind fun r2 =>
(f_X7_hashItems u r2).bind fun r3 =>
(f_X6_bestFor u.1 7).bind fun r4 =>
(lp 5000 b_X7_digest_37 ((f_X7_chained r3 (Int32.toInt64 r4)), 0, u)).bind fun z5 =>
(f_X7_shareOfLeast z5.2).bind fun r9 =>
(f_X7_bitsOf r9).bind fun r10 =>
(f_X7_hashText z5.2 (f_X7_chained z5.1 r10)).bind fun r11 =>
some (r11, z5.2)
