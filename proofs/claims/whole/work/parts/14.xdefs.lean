/-- how a call of the face ends -/
def exN : Nat → String
  | 0 => zIOB
  | 1 => zIAE
  | _ => zISE
def zo : Int32 ⊕ Nat → Option Value ⊕ String
  | .inl v => .inl (some (.int v))
  | .inr e => .inr (exN e)
def f_X7_put (u : tX7) (p0 : Int32) (p1 : Int32) : Option ((Int32 ⊕ Nat) × tX7) :=
if (f_X7_isDrawer p0) = true then
if (f_X7_isWeight p1) = true then
if (f_X6_mayAdd u.1 p0 p1) = true then
(f_X2_keep u.2.2.1 u.1).bind fun r1 =>
(f_X6_addItem u.1 p0 p1).bind fun r2 =>
some (.inl r2.1, (r2.2, u.2.1, r1, u.2.2.2.1, u.2.2.2.2))
else
some (.inr 2, u)
else
some (.inr 1, u)
else
some (.inr 0, u)
def f_X7_move (u : tX7) (p0 : Int32) (p1 : Int32) : Option ((Int32 ⊕ Nat) × tX7) :=
(f_X3_has u.1.2.1 p0).bind fun r1 =>
if r1 = true then
if (f_X7_isDrawer p1) = true then
(f_X6_mayRelocate u.1 p0 p1).bind fun r2 =>
if r2 = true then
(f_X2_keep u.2.2.1 u.1).bind fun r3 =>
(f_X6_relocateItem u.1 p0 p1).bind fun r4 =>
some (.inl r4.1, (r4.2, u.2.1, r3, u.2.2.2.1, u.2.2.2.2))
else
some (.inr 2, u)
else
some (.inr 0, u)
else
some (.inr 0, u)
def f_X7_pick (u : tX7) (p0 : Int32) : Option ((Int32 ⊕ Nat) × tX7) :=
(f_X3_has u.1.2.1 p0).bind fun r1 =>
if r1 = true then
(f_X6_reasonAgainst u.1 p0).bind fun r2 =>
if r2 = 0 then
(f_X2_keep u.2.2.1 u.1).bind fun r3 =>
(f_X6_takeItem u.1 p0).bind fun r4 =>
some (.inl r4.1, (r4.2, u.2.1, r3, u.2.2.2.1, u.2.2.2.2))
else
some (.inr 2, u)
else
some (.inr 0, u)
def f_X7_turn (u : tX7) (p0 : Int32) : Option ((Int32 ⊕ Nat) × tX7) :=
if (f_X7_isDrawer p0) = true then
(f_X6_wayTo u.1 p0).bind fun r1 =>
if r1 = 99 then
some (.inr 2, u)
else
(f_X2_keep u.2.2.1 u.1).bind fun r2 =>
(some (f_X6_goTo u.1 p0 r1)).bind fun r3 =>
some (.inl r1, (r3, u.2.1, r2, u.2.2.2.1, u.2.2.2.2))
else
some (.inr 0, u)
def f_X7_jam (u : tX7) (p0 : Int32) (p1 : Bool) : Option ((Int32 ⊕ Nat) × tX7) :=
if (f_X7_isDrawer p0) = true then
(f_X2_keep u.2.2.1 u.1).bind fun r1 =>
if p1 = true then
(some (f_X7_write 12 u.1.2.2.1 p0 1)).bind fun r3 =>
some (.inl (f_X7_at 12 u.1.2.2.1 p0), ((u.1.1, u.1.2.1, r3, u.1.2.2.2.1, u.1.2.2.2.2.1, u.1.2.2.2.2.2.1, u.1.2.2.2.2.2.2.1, u.1.2.2.2.2.2.2.2.1, u.1.2.2.2.2.2.2.2.2), u.2.1, r1, u.2.2.2.1, u.2.2.2.2))
else
(some (f_X7_write 12 u.1.2.2.1 p0 0)).bind fun r2 =>
some (.inl (f_X7_at 12 u.1.2.2.1 p0), ((u.1.1, u.1.2.1, r2, u.1.2.2.2.1, u.1.2.2.2.2.1, u.1.2.2.2.2.2.1, u.1.2.2.2.2.2.2.1, u.1.2.2.2.2.2.2.2.1, u.1.2.2.2.2.2.2.2.2), u.2.1, r1, u.2.2.2.1, u.2.2.2.2))
else
some (.inr 0, u)
def f_X7_set (u : tX7) (p0 : Int32) (p1 : Int32) : Option ((Int32 ⊕ Nat) × tX7) :=
if (f_X7_isSetting p0) = true then
if p1 < (f_X7_at 3 zLeast p0) then
some (.inr 1, u)
else
if p1 ≤ (f_X7_at 3 zGreatest p0) then
if p0 = 1 then
(f_X0_greatestLoad u.1.1).bind fun r3 =>
if r3 ≤ p1 then
(f_X2_keep u.2.2.1 u.1).bind fun r4 =>
(some (f_X7_write 3 u.1.2.2.2.1 p0 p1)).bind fun r5 =>
some (.inl (f_X7_at 3 u.1.2.2.2.1 p0), ((u.1.1, u.1.2.1, u.1.2.2.1, r5, u.1.2.2.2.2.1, u.1.2.2.2.2.2.1, u.1.2.2.2.2.2.2.1, u.1.2.2.2.2.2.2.2.1, u.1.2.2.2.2.2.2.2.2), u.2.1, r4, u.2.2.2.1, u.2.2.2.2))
else
some (.inr 2, u)
else
(f_X2_keep u.2.2.1 u.1).bind fun r1 =>
(some (f_X7_write 3 u.1.2.2.2.1 p0 p1)).bind fun r2 =>
some (.inl (f_X7_at 3 u.1.2.2.2.1 p0), ((u.1.1, u.1.2.1, u.1.2.2.1, r2, u.1.2.2.2.2.1, u.1.2.2.2.2.2.1, u.1.2.2.2.2.2.2.1, u.1.2.2.2.2.2.2.2.1, u.1.2.2.2.2.2.2.2.2), u.2.1, r1, u.2.2.2.1, u.2.2.2.2))
else
some (.inr 1, u)
else
some (.inr 0, u)
def f_X7_append (u : tX7) (p0 : Int32) : Option ((Int32 ⊕ Nat) × tX7) :=
if p0 < 33 then
some (.inr 1, u)
else
if p0 ≤ 126 then
if u.2.2.2.1.2.1 < 60 then
(f_X1_addSign u.2.2.2.1 p0).bind fun r1 =>
some (.inl r1.2.1, (u.1, u.2.1, u.2.2.1, r1, u.2.2.2.2))
else
some (.inr 2, u)
else
some (.inr 1, u)
def f_X7_pickAll (u : tX7) : Option ((Int32 ⊕ Nat) × tX7) :=
(f_X1_readBatch u.2.2.2.1).bind fun r1 =>
if r1.1 = true then
(f_X2_keep u.2.2.1 u.1).bind fun r2 =>
(f_X5_pickBatch u.2.2.2.2 u.1 r1.2.2.2.1 r1.2.2.2.2.1 (f_X7_at 3 u.1.2.2.2.1 2)).bind fun r3 =>
some (.inl r3.1, (r3.2.2, u.2.1, r2, (r1.2.1, 0, r1.2.2.2.1, r1.2.2.2.2.1, r1.2.2.2.2.2.1, r1.2.2.2.2.2.2), r3.2.1))
else
some (.inr 1, (u.1, u.2.1, u.2.2.1, r1.2, u.2.2.2.2))
def f_X7_undo (u : tX7) : Option ((Int32 ⊕ Nat) × tX7) :=
if u.2.2.1.2.2 = 0 then
some (.inr 2, u)
else
(f_X2_restoreTo u.2.2.1 u.1).bind fun r1 =>
some (.inl r1.1.2.2, (r1.2, u.2.1, r1.1, u.2.2.2.1, u.2.2.2.2))
def f_X7_drawer (u : tX7) (p0 : Int32) (p1 : Int32) : Option ((Int32 ⊕ Nat)) :=
if (f_X7_isDrawer p0) = true then
if p1 < 0 then
some (.inr 1)
else
if p1 < 6 then
(f_X6_drawerProperty u.1 p0 p1).bind fun r1 =>
some (.inl r1)
else
some (.inr 1)
else
some (.inr 0)
def f_X7_item (u : tX7) (p0 : Int32) (p1 : Int32) : Option ((Int32 ⊕ Nat)) :=
if p0 < 0 then
some (.inr 0)
else
if p0 < u.1.2.1.2.2.2.2 then
if p1 < 0 then
some (.inr 1)
else
if p1 < 2 then
(f_X3_propertyOf u.1.2.1 p0 p1).bind fun r1 =>
some (.inl r1)
else
some (.inr 1)
else
some (.inr 0)
def f_X7_count (u : tX7) (p0 : Int32) : Option ((Int32 ⊕ Nat)) :=
if p0 < 0 then
some (.inr 1)
else
if p0 < 11 then
(f_X7_numberOf u p0).bind fun r1 =>
some (.inl r1)
else
some (.inr 1)
def f_X7_setting (u : tX7) (p0 : Int32) : (Int32 ⊕ Nat) :=
if (f_X7_isSetting p0) = true then
(.inl (f_X7_at 3 u.1.2.2.2.1 p0))
else
(.inr 0)
def f_X7_way (u : tX7) (p0 : Int32) : Option ((Int32 ⊕ Nat)) :=
if (f_X7_isDrawer p0) = true then
(f_X6_wayTo u.1 p0).bind fun r1 =>
some (.inl r1)
else
some (.inr 0)
def f_X7_ifPut (u : tX7) (p0 : Int32) (p1 : Int32) : Option ((Int32 ⊕ Nat)) :=
if (f_X7_isDrawer p0) = true then
if (f_X7_isWeight p1) = true then
(f_X0_greatestWith u.1.1 p0 p1).bind fun r1 =>
some (.inl r1)
else
some (.inr 1)
else
some (.inr 0)
def f_X7_bestDrawer (u : tX7) (p0 : Int32) : Option ((Int32 ⊕ Nat)) :=
if (f_X7_isWeight p0) = true then
(f_X6_bestFor u.1 p0).bind fun r1 =>
some (.inl r1)
else
some (.inr 1)
def f_X7_ifPicked (u : tX7) (p0 : Int32) (p1 : Int32) : Option ((Int32 ⊕ Nat) × tX7) :=
if p0 < 0 then
some (.inr 1, u)
else
if p0 ≤ 2 then
if p1 < 0 then
some (.inr 1, u)
else
if p1 < 4 then
(f_X7_tryBatch u p0).bind fun r1 =>
(f_X7_outcomeOf r1.2 r1.1 p1).bind fun r2 =>
some (.inl r2, r1.2)
else
some (.inr 1, u)
else
some (.inr 1, u)
