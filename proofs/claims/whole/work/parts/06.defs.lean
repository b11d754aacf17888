def f_X7_placeOf (p0 : Int32) (p1 : Int32) : Int32 :=
(i_rem ((p0 - p1) + 12) 12)
def f_X7_at (n : Nat) (f1 : zF) (p1 : Int32) : Int32 :=
if p1 < 0 then
0
else
if (nI n) ≤ p1 then
0
else
(f1 p1.toNatClampNeg)
def f_X7_write (n : Nat) (f1 : zF) (p1 : Int32) (p2 : Int32) : zF :=
if p1 < 0 then
f1
else
if (nI n) ≤ p1 then
f1
else
(upd f1 p1.toNatClampNeg p2)
def f_X7_isDrawer (p0 : Int32) : Bool :=
if p0 < 0 then
false
else
if 12 ≤ p0 then
false
else
true
def f_X7_isWeight (p0 : Int32) : Bool :=
if p0 < 1 then
false
else
if 20 < p0 then
false
else
true
def f_X7_isSetting (p0 : Int32) : Bool :=
if p0 < 0 then
false
else
if 3 ≤ p0 then
false
else
true
def f_X7_isIn (p0 : Int32) (p1 : Int32) : Bool :=
if ((p0 >>> (p1 &&& 31)) &&& 1) = 1 then
true
else
false
def f_X7_wayOver (p0 : Int32) (p1 : Int32) (p2 : Int32) : Option (Int32) :=
if (f_X7_placeOf p2 p1) = 0 then
some 0
else
(if (((p0 >>> (p1 &&& 31)) ||| (p0 <<< ((12 - p1) &&& 31))) &&& (((2 : Int32) <<< ((f_X7_placeOf p2 p1) &&& 31)) - 2)) = (((2 : Int32) <<< ((f_X7_placeOf p2 p1) &&& 31)) - 2) then
some true
else
some false).bind fun j1 =>
(if (((p0 >>> (p1 &&& 31)) ||| (p0 <<< ((12 - p1) &&& 31))) &&& (4096 - ((1 : Int32) <<< ((f_X7_placeOf p2 p1) &&& 31)))) = (4096 - ((1 : Int32) <<< ((f_X7_placeOf p2 p1) &&& 31))) then
some true
else
some false).bind fun j2 =>
if j1 = true then
if (f_X7_placeOf p2 p1) ≤ 6 then
some (f_X7_placeOf p2 p1)
else
if j2 = true then
if j2 = true then
some ((f_X7_placeOf p2 p1) - 12)
else
some 99
else
some (f_X7_placeOf p2 p1)
else
if j2 = true then
some ((f_X7_placeOf p2 p1) - 12)
else
some 99
def f_X7_chained (p0 : Int64) (p1 : Int64) : Int64 :=
((31 * p0) + p1)
def f_X0_sideOf (p0 : Int32) (p1 : Int32) : Int32 :=
if (f_X7_placeOf p0 p1) = 0 then
0
else
if (f_X7_placeOf p0 p1) = 6 then
0
else
if 6 ≤ (f_X7_placeOf p0 p1) then
(-1)
else
1
def b_X0_addLoad_20 (p0 : Int32) (p1 : Int32) (s20 : Int32 × zF) : Option ((Int32 × zF) ⊕ (zF)) :=
if 12 ≤ s20.1 then
some (.inr s20.2)
else
(some (f_X7_write 12 s20.2 s20.1 ((f_X7_at 12 s20.2 s20.1) + (p1 * (f_X0_sideOf p0 s20.1))))).bind fun r3 =>
some (.inl ((s20.1 + 1), r3))
def f_X0_addLoad (u : tX0) (p0 : Int32) (p1 : Int32) : Option (tX0) :=
(some (f_X7_write 12 u.1 p0 ((f_X7_at 12 u.1 p0) + p1))).bind fun r1 =>
(lp 5000 (b_X0_addLoad_20 p0 p1) (0, u.2)).bind fun z2 =>
some (r1, z2)
def f_X0_imbalanceAt (u : tX0) (p0 : Int32) : Int32 :=
(i_abs (f_X7_at 12 u.2 p0))
def f_X0_imbalanceWith (u : tX0) (p0 : Int32) (p1 : Int32) (p2 : Int32) : Int32 :=
(i_abs ((f_X7_at 12 u.2 p0) + (p2 * (f_X0_sideOf p1 p0))))
def f_X0_imbalanceMoved (u : tX0) (p0 : Int32) (p1 : Int32) (p2 : Int32) (p3 : Int32) : Int32 :=
(i_abs ((f_X7_at 12 u.2 p0) + (p3 * ((f_X0_sideOf p2 p0) - (f_X0_sideOf p1 p0)))))
def b_X0_greatestWith_5 (u : tX0) (p0 : Int32) (p1 : Int32) (s5 : Int32 × Int32) : Option ((Int32 × Int32) ⊕ (Int32)) :=
if 12 ≤ s5.2 then
some (.inr s5.1)
else
some (.inl ((i_max s5.1 (f_X0_imbalanceWith u s5.2 p0 p1)), (s5.2 + 1)))
def f_X0_greatestWith (u : tX0) (p0 : Int32) (p1 : Int32) : Option (Int32) :=
(lp 5000 (b_X0_greatestWith_5 u p0 p1) (0, 0)).bind fun z1 =>
some z1
def b_X0_balancedSet_4 (u : tX0) (p0 : Int32) (s4 : Int32 × Int32) : Option ((Int32 × Int32) ⊕ (Int32)) :=
if 12 ≤ s4.2 then
some (.inr s4.1)
else
(aget u.2 12 s4.2).bind fun r2 =>
if p0 < r2 then
some (.inl (s4.1, (s4.2 + 1)))
else
(aget u.2 12 s4.2).bind fun r3 =>
if p0 < (-r3) then
some (.inl (s4.1, (s4.2 + 1)))
else
some (.inl ((s4.1 ||| ((1 : Int32) <<< (s4.2 &&& 31))), (s4.2 + 1)))
def f_X0_balancedSet (u : tX0) (p0 : Int32) : Option (Int32) :=
(lp 5000 (b_X0_balancedSet_4 u p0) (0, 0)).bind fun z1 =>
some z1
def b_X0_wholeLoad_13 (u : tX0) (s13 : Int32 × Int32) : Option ((Int32 × Int32) ⊕ (Int32)) :=
if 12 ≤ s13.2 then
some (.inr s13.1)
else
(aget u.1 12 s13.2).bind fun r2 =>
some (.inl ((s13.1 + r2), (s13.2 + 1)))
def f_X0_wholeLoad (u : tX0) : Option (Int32) :=
(lp 5000 (b_X0_wholeLoad_13 u) (0, 0)).bind fun z1 =>
some z1
def b_X0_greatestLoad_13 (u : tX0) (s13 : Int32 × Int32) : Option ((Int32 × Int32) ⊕ (Int32)) :=
if 12 ≤ s13.2 then
some (.inr s13.1)
else
(aget u.1 12 s13.2).bind fun r2 =>
some (.inl ((i_max s13.1 r2), (s13.2 + 1)))
def f_X0_greatestLoad (u : tX0) : Option (Int32) :=
(lp 5000 (b_X0_greatestLoad_13 u) (0, 0)).bind fun z1 =>
some z1
def b_X0_leastLoad_20 (u : tX0) (s20 : Int32 × Int32) : Option ((Int32 × Int32) ⊕ (Int32)) :=
if 12 ≤ s20.2 then
some (.inr s20.1)
else
(aget u.1 12 s20.2).bind fun r2 =>
some (.inl ((i_min s20.1 r2), (s20.2 + 1)))
def f_X0_leastLoad (u : tX0) : Option (Int32) :=
(lp 5000 (b_X0_leastLoad_20 u) ((f_X7_at 12 u.1 0), 0)).bind fun z1 =>
some z1
def f_X1_addSign (u : tX1) (p0 : Int32) : Option (tX1) :=
(some (f_X7_write 60 u.1 u.2.1 p0)).bind fun r1 =>
some (r1, (u.2.1 + 1), u.2.2.1, u.2.2.2.1, u.2.2.2.2.1, u.2.2.2.2.2)
def b_X1_isTold_2 (u : tX1) (p0 : Int32) (s2 : Int32) : Option ((Int32) ⊕ (Bool)) :=
if u.2.2.2.1 ≤ s2 then
some (.inr false)
else
if 6 ≤ s2 then
some (.inr false)
else
(aget u.2.2.1 6 s2).bind fun r1 =>
if r1 = p0 then
some (.inr true)
else
some (.inl (s2 + 1))
def f_X1_isTold (u : tX1) (p0 : Int32) : Option (Bool) :=
lp 5000 (b_X1_isTold_2 u p0) 0
def f_X1_canGoOn (u : tX1) : Bool :=
if u.2.2.2.2.1 = 0 then
false
else
if 3 ≤ u.2.2.2.2.2 then
false
else
true
def f_X1_endNumber (u : tX1) : Option (Bool × tX1) :=
if u.2.2.2.2.2 = 0 then
some (false, u)
else
(f_X1_isTold u u.2.2.2.2.1).bind fun r1 =>
if r1 = true then
some (false, u)
else
(some (f_X7_write 6 u.2.2.1 u.2.2.2.1 u.2.2.2.2.1)).bind fun r2 =>
some (true, (u.1, u.2.1, r2, (u.2.2.2.1 + 1), 0, 0))
def f_X1_isDigitTaken (u : tX1) (p0 : Int32) : Option (Bool × tX1) :=
if u.2.2.2.2.2 ≤ 0 then
if (f_X1_canGoOn (u.1, u.2.1, u.2.2.1, u.2.2.2.1, ((u.2.2.2.2.1 * 10) + p0), (u.2.2.2.2.2 + 1))) = true then
some (true, (u.1, u.2.1, u.2.2.1, u.2.2.2.1, ((u.2.2.2.2.1 * 10) + p0), (u.2.2.2.2.2 + 1)))
else
(f_X1_isTold (u.1, u.2.1, u.2.2.1, u.2.2.2.1, ((u.2.2.2.2.1 * 10) + p0), (u.2.2.2.2.2 + 1)) ((u.2.2.2.2.1 * 10) + p0)).bind fun r1 =>
if r1 = true then
some (false, (u.1, u.2.1, u.2.2.1, u.2.2.2.1, ((u.2.2.2.2.1 * 10) + p0), (u.2.2.2.2.2 + 1)))
else
some (true, (u.1, u.2.1, u.2.2.1, u.2.2.2.1, ((u.2.2.2.2.1 * 10) + p0), (u.2.2.2.2.2 + 1)))
else
if (f_X1_canGoOn u) = true then
if (f_X1_canGoOn (u.1, u.2.1, u.2.2.1, u.2.2.2.1, ((u.2.2.2.2.1 * 10) + p0), (u.2.2.2.2.2 + 1))) = true then
some (true, (u.1, u.2.1, u.2.2.1, u.2.2.2.1, ((u.2.2.2.2.1 * 10) + p0), (u.2.2.2.2.2 + 1)))
else
(f_X1_isTold (u.1, u.2.1, u.2.2.1, u.2.2.2.1, ((u.2.2.2.2.1 * 10) + p0), (u.2.2.2.2.2 + 1)) ((u.2.2.2.2.1 * 10) + p0)).bind fun r2 =>
if r2 = true then
some (false, (u.1, u.2.1, u.2.2.1, u.2.2.2.1, ((u.2.2.2.2.1 * 10) + p0), (u.2.2.2.2.2 + 1)))
else
some (true, (u.1, u.2.1, u.2.2.1, u.2.2.2.1, ((u.2.2.2.2.1 * 10) + p0), (u.2.2.2.2.2 + 1)))
else
some (false, u)
def f_X1_isTaken (u : tX1) (p0 : Int32) : Option (Bool × tX1) :=
if p0 = 44 then
if 5 ≤ u.2.2.2.1 then
some (false, u)
else
(f_X1_endNumber u).bind fun r2 =>
if r2.1 = true then
some (true, r2.2)
else
some (false, r2.2)
else
if p0 < 48 then
some (false, u)
else
if 57 < p0 then
some (false, u)
else
(f_X1_isDigitTaken u (p0 - 48)).bind fun r1 =>
if r1.1 = true then
some (true, r1.2)
else
some (false, r1.2)
def b_X1_readSigns_17 (s17 : Int32 × tX1) : Option ((Int32 × tX1) ⊕ (Int32 × tX1)) :=
if s17.2.2.1 ≤ s17.1 then
some (.inr (s17.1, s17.2))
else
(f_X1_isTaken s17.2 (f_X7_at 60 s17.2.1 s17.1)).bind fun r2 =>
if r2.1 = true then
some (.inl ((s17.1 + 1), r2.2))
else
some (.inr (s17.1, r2.2))
def f_X1_readSigns (u : tX1) : Option (Int32 × tX1) :=
(lp 5000 b_X1_readSigns_17 (0, (u.1, u.2.1, u.2.2.1, 0, 0, 0))).bind fun z1 =>
some (z1.1, z1.2)
def f_X1_readBatch (u : tX1) : Option (Bool × tX1) :=
(f_X1_readSigns u).bind fun r1 =>
if r1.1 = r1.2.2.1 then
(f_X1_endNumber r1.2).bind fun r2 =>
if r2.1 = true then
some (true, r2.2)
else
some (false, r2.2)
else
some (false, r1.2)
def b_X3_slotOf_2 (u : tX3) (p0 : Int32) (s2 : Int32) : Option ((Int32) ⊕ (Int32)) :=
if u.2.2.2.1 ≤ s2 then
some (.inr (-1))
else
if 40 ≤ s2 then
some (.inr (-1))
else
(aget u.1 40 s2).bind fun r1 =>
if r1 = p0 then
some (.inr s2)
else
some (.inl (s2 + 1))
def f_X3_slotOf (u : tX3) (p0 : Int32) : Option (Int32) :=
lp 5000 (b_X3_slotOf_2 u p0) 0
def f_X3_has (u : tX3) (p0 : Int32) : Option (Bool) :=
(f_X3_slotOf u p0).bind fun r1 =>
if r1 = (-1) then
some false
else
some true
def f_X3_weightOf (u : tX3) (p0 : Int32) : Option (Int32) :=
(f_X3_slotOf u p0).bind fun r1 =>
some (f_X7_at 40 u.2.1 r1)
def f_X3_drawerOf (u : tX3) (p0 : Int32) : Option (Int32) :=
(f_X3_slotOf u p0).bind fun r1 =>
some (f_X7_at 40 u.2.2.1 r1)
def f_X3_propertyOf (u : tX3) (p0 : Int32) (p1 : Int32) : Option (Int32) :=
(f_X3_has u p0).bind fun r1 =>
if r1 = true then
if p1 = 0 then
(f_X3_weightOf u p0).bind fun r3 =>
some r3
else
(f_X3_drawerOf u p0).bind fun r2 =>
some r2
else
some (-1)
def b_X3_lieIn_4 (u : tX3) (p0 : Int32) (s4 : Int32 × Int32) : Option ((Int32 × Int32) ⊕ (Int32)) :=
if u.2.2.2.1 ≤ s4.2 then
some (.inr s4.1)
else
if (f_X7_at 40 u.2.2.1 s4.2) = p0 then
some (.inl ((s4.1 + 1), (s4.2 + 1)))
else
some (.inl (s4.1, (s4.2 + 1)))
def f_X3_lieIn (u : tX3) (p0 : Int32) : Option (Int32) :=
(lp 5000 (b_X3_lieIn_4 u p0) (0, 0)).bind fun z1 =>
some z1
def f_X3_add (u : tX3) (p0 : Int32) (p1 : Int32) : Option (Int32 × tX3) :=
(some (f_X7_write 40 u.1 u.2.2.2.1 u.2.2.2.2)).bind fun r1 =>
(some (f_X7_write 40 u.2.1 u.2.2.2.1 p1)).bind fun r2 =>
(some (f_X7_write 40 u.2.2.1 u.2.2.2.1 p0)).bind fun r3 =>
some (u.2.2.2.2, (r1, r2, r3, (u.2.2.2.1 + 1), (u.2.2.2.2 + 1)))
def b_X3_remove_24 (u : tX3) (s24 : Int32 × zF × zF × zF) : Option ((Int32 × zF × zF × zF) ⊕ (zF × zF × zF)) :=
if (u.2.2.2.1 - 1) ≤ s24.1 then
some (.inr (s24.2.1, s24.2.2.1, s24.2.2.2))
else
(some (f_X7_write 40 s24.2.1 s24.1 (f_X7_at 40 s24.2.1 (s24.1 + 1)))).bind fun r3 =>
(some (f_X7_write 40 s24.2.2.1 s24.1 (f_X7_at 40 s24.2.2.1 (s24.1 + 1)))).bind fun r4 =>
(some (f_X7_write 40 s24.2.2.2 s24.1 (f_X7_at 40 s24.2.2.2 (s24.1 + 1)))).bind fun r5 =>
some (.inl ((s24.1 + 1), r3, r4, r5))
def f_X3_remove (u : tX3) (p0 : Int32) : Option (tX3) :=
(f_X3_slotOf u p0).bind fun r1 =>
if r1 = (-1) then
some u
else
(lp 5000 (b_X3_remove_24 u) (r1, u.1, u.2.1, u.2.2.1)).bind fun z2 =>
some (z2.1, z2.2.1, z2.2.2, (u.2.2.2.1 - 1), u.2.2.2.2)
def f_X6_isJammed (u : tX6) (p0 : Int32) : Bool :=
if (f_X7_at 12 u.2.2.1 p0) = 1 then
true
else
false
def b_X6_jammedDrawers_13 (u : tX6) (s13 : Int32 × Int32) : Option ((Int32 × Int32) ⊕ (Int32)) :=
if 12 ≤ s13.2 then
some (.inr s13.1)
else
(aget u.2.2.1 12 s13.2).bind fun r2 =>
some (.inl ((s13.1 + r2), (s13.2 + 1)))
def f_X6_jammedDrawers (u : tX6) : Option (Int32) :=
(lp 5000 (b_X6_jammedDrawers_13 u) (0, 0)).bind fun z1 =>
some z1
def f_X6_spaceIn (u : tX6) (p0 : Int32) : Int32 :=
((f_X7_at 3 u.2.2.2.1 1) - (f_X7_at 12 u.1.1 p0))
def f_X6_drawerProperty (u : tX6) (p0 : Int32) (p1 : Int32) : Option (Int32) :=
if p1 = (0 : Int32) then
some (f_X7_at 12 u.1.1 p0)
else
if p1 = (1 : Int32) then
(f_X3_lieIn u.2.1 p0).bind fun r1 =>
some r1
else
if p1 = (2 : Int32) then
some (f_X7_placeOf p0 u.2.2.2.2.1)
else
if p1 = (3 : Int32) then
some (f_X7_at 12 u.2.2.1 p0)
else
if p1 = (4 : Int32) then
some (f_X0_imbalanceAt u.1 p0)
else
some (f_X6_spaceIn u p0)
def f_X6_mayAdd (u : tX6) (p0 : Int32) (p1 : Int32) : Bool :=
if 40 ≤ u.2.1.2.2.2.1 then
false
else
if 1000 ≤ u.2.1.2.2.2.2 then
false
else
if (f_X6_spaceIn u p0) < p1 then
false
else
if (f_X7_at 3 u.2.2.2.1 0) < (f_X0_imbalanceWith u.1 u.2.2.2.2.1 p0 p1) then
false
else
true
def f_X6_addItem (u : tX6) (p0 : Int32) (p1 : Int32) : Option (Int32 × tX6) :=
(f_X0_addLoad u.1 p0 p1).bind fun r1 =>
(f_X3_add u.2.1 p0 p1).bind fun r2 =>
some (r2.1, (r1, r2.2, u.2.2.1, u.2.2.2.1, u.2.2.2.2.1, u.2.2.2.2.2.1, u.2.2.2.2.2.2.1, u.2.2.2.2.2.2.2.1, u.2.2.2.2.2.2.2.2))
def f_X6_mayRelocate (u : tX6) (p0 : Int32) (p1 : Int32) : Option (Bool) :=
(f_X3_drawerOf u.2.1 p0).bind fun r1 =>
(f_X3_weightOf u.2.1 p0).bind fun r2 =>
(if r1 = p1 then
some (0 : Int32)
else
some r2).bind fun j3 =>
if (f_X6_isJammed u r1) = true then
some false
else
if (f_X6_isJammed u p1) = true then
some false
else
if (f_X6_spaceIn u p1) < j3 then
some false
else
if (f_X7_at 3 u.2.2.2.1 0) < (f_X0_imbalanceMoved u.1 u.2.2.2.2.1 r1 p1 r2) then
some false
else
some true
def f_X6_relocateItem (u : tX6) (p0 : Int32) (p1 : Int32) : Option (Int32 × tX6) :=
(f_X3_drawerOf u.2.1 p0).bind fun r1 =>
(f_X3_weightOf u.2.1 p0).bind fun r2 =>
(f_X0_addLoad u.1 r1 (-r2)).bind fun r3 =>
(f_X0_addLoad r3 p1 r2).bind fun r4 =>
(f_X3_slotOf u.2.1 p0).bind fun r5 =>
(some (f_X7_write 40 u.2.1.2.2.1 r5 p1)).bind fun r6 =>
some (r1, (r4, (u.2.1.1, u.2.1.2.1, r6, u.2.1.2.2.2.1, u.2.1.2.2.2.2), u.2.2.1, u.2.2.2.1, u.2.2.2.2.1, u.2.2.2.2.2.1, u.2.2.2.2.2.2.1, u.2.2.2.2.2.2.2.1, u.2.2.2.2.2.2.2.2))
def f_X6_wayTo (u : tX6) (p0 : Int32) : Option (Int32) :=
(f_X0_balancedSet u.1 (f_X7_at 3 u.2.2.2.1 0)).bind fun r1 =>
(f_X7_wayOver r1 u.2.2.2.2.1 p0).bind fun r2 =>
some r2
def f_X6_goTo (u : tX6) (p0 : Int32) (p1 : Int32) : tX6 :=
if 6 < p1 then
(u.1, u.2.1, u.2.2.1, u.2.2.2.1, p0, (u.2.2.2.2.2.1 + (i_abs p1)), (u.2.2.2.2.2.2.1 + (i_max 0 (-p1))), (u.2.2.2.2.2.2.2.1 + 1), u.2.2.2.2.2.2.2.2)
else
if (-6) < p1 then
(u.1, u.2.1, u.2.2.1, u.2.2.2.1, p0, (u.2.2.2.2.2.1 + (i_abs p1)), (u.2.2.2.2.2.2.1 + (i_max 0 (-p1))), u.2.2.2.2.2.2.2.1, u.2.2.2.2.2.2.2.2)
else
(u.1, u.2.1, u.2.2.1, u.2.2.2.1, p0, (u.2.2.2.2.2.1 + (i_abs p1)), (u.2.2.2.2.2.2.1 + (i_max 0 (-p1))), (u.2.2.2.2.2.2.2.1 + 1), u.2.2.2.2.2.2.2.2)
def f_X6_reasonAgainst (u : tX6) (p0 : Int32) : Option (Int32) :=
(f_X3_has u.2.1 p0).bind fun r1 =>
if r1 = true then
(f_X3_drawerOf u.2.1 p0).bind fun r2 =>
if (f_X6_isJammed u r2) = true then
some 2
else
(f_X6_wayTo u r2).bind fun r3 =>
if r3 = 99 then
some 3
else
some 0
else
some 1
def f_X6_takeItem (u : tX6) (p0 : Int32) : Option (Int32 × tX6) :=
(f_X3_drawerOf u.2.1 p0).bind fun r1 =>
(f_X6_wayTo u r1).bind fun r2 =>
(some (f_X6_goTo u r1 r2)).bind fun r3 =>
(f_X3_weightOf r3.2.1 p0).bind fun r4 =>
(f_X0_addLoad r3.1 r1 (-r4)).bind fun r5 =>
(f_X3_remove r3.2.1 p0).bind fun r6 =>
some ((i_abs r2), (r5, r6, r3.2.2.1, r3.2.2.2.1, r3.2.2.2.2.1, r3.2.2.2.2.2.1, r3.2.2.2.2.2.2.1, r3.2.2.2.2.2.2.2.1, (r3.2.2.2.2.2.2.2.2 + 1)))
def f_X6_isBetter (u : tX6) (p0 : Int32) (p1 : Int32) (p2 : Int32) : Option (Bool) :=
(f_X0_greatestWith u.1 p0 p2).bind fun r1 =>
(f_X0_greatestWith u.1 p1 p2).bind fun r2 =>
if r1 = r2 then
if (f_X7_at 12 u.1.1 p1) ≤ (f_X7_at 12 u.1.1 p0) then
some false
else
some true
else
if r2 ≤ r1 then
some false
else
some true
def b_X6_bestFor_4 (u : tX6) (p0 : Int32) (s4 : Int32 × Int32) : Option ((Int32 × Int32) ⊕ (Int32)) :=
if 12 ≤ s4.2 then
some (.inr s4.1)
else
if (f_X6_isJammed u s4.2) = true then
some (.inl (s4.1, (s4.2 + 1)))
else
if p0 ≤ (f_X6_spaceIn u s4.2) then
if s4.1 = (-1) then
some (.inl (s4.2, (s4.2 + 1)))
else
(f_X6_isBetter u s4.2 s4.1 p0).bind fun r2 =>
if r2 = true then
some (.inl (s4.2, (s4.2 + 1)))
else
some (.inl (s4.1, (s4.2 + 1)))
else
some (.inl (s4.1, (s4.2 + 1)))
def f_X6_bestFor (u : tX6) (p0 : Int32) : Option (Int32) :=
(lp 5000 (b_X6_bestFor_4 u p0) ((-1), 0)).bind fun z1 =>
some z1
