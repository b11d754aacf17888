/-! the start: what the Statement gives is what the walk wants -/
theorem arr_known {s : State} {ty : FieldType} {A : Array Value} (h : (Cond.arrayClass ty).before A s = true) (hty : ∀ C, ty ≠ .object C) : ∃ cA : ClassId, ArrOfT s cA ty ∧ va_RA s cA ty := by
  obtain ⟨cA, kA, comp, h1, h2, h3⟩ := Cond.arrayClass_spec h
  refine ⟨cA, fun n z => ⟨fun k h => (by cases h), kA, h2, comp, h3⟩, ?_⟩
  unfold va_RA
  cases ty with
  | object C => exact absurd rfl (hty C)
  | _ => exact h1
theorem arr_over {s : State} {C : String} (h : va_AO C s) : ∃ cA : ClassId, ArrOfT s cA (.object C) ∧ va_RA s cA (.object C) := by
  obtain ⟨comp, c, k, h1, h2, h3, h4, h5⟩ := Cond.arrayOver_spec h
  exact ⟨c, fun n z => ⟨fun k h => (by cases h), k, h3, comp, h4⟩, k, comp, h3, h4, h1, h5⟩
theorem start_K {s : State} {A : Array Value} (hts : ∀ w ∈ zW, w.before A s = true) (hAO : va_AO "DrawerRing$State" s) : ∃ g : zG, va_K g.1 vwCl (ztys g) s := by
  obtain ⟨c0, i0, k0⟩ := u_known (C := RX0) (T := TX0) (N := 2) (n := 2) hts zcX0.2.1 (hts _ ziX0.1)
  obtain ⟨c1, i1, k1⟩ := u_known (C := RX1) (T := TX1) (N := 6) (n := 6) hts zcX1.2.1 (hts _ ziX1.1)
  obtain ⟨c2, i2, k2⟩ := u_known (C := RX2) (T := TX2) (N := 3) (n := 3) hts zcX2.2.1 (hts _ ziX2.1)
  obtain ⟨c3, i3, k3⟩ := u_known (C := RX3) (T := TX3) (N := 5) (n := 5) hts zcX3.2.1 (hts _ ziX3.1)
  obtain ⟨c4, i4, k4⟩ := u_known (C := RX4) (T := TX4) (N := 8) (n := 8) hts zcX4.2.1 (hts _ ziX4.1)
  obtain ⟨c5, i5, k5⟩ := u_known (C := RX5) (T := TX5) (N := 1) (n := 1) hts zcX5.2.1 (hts _ ziX5.1)
  obtain ⟨c6, i6, k6⟩ := u_known (C := RX6) (T := TX6) (N := 9) (n := 9) hts zcX6.2.1 (hts _ ziX6.1)
  obtain ⟨c7, i7, k7⟩ := u_known (C := RX7) (T := TX7) (N := 5) (n := 5) hts zcX7.2.1 (hts _ ziX7.1)
  obtain ⟨c8, i8, k8⟩ := u_known (C := RX8) (T := TX8) (N := 16) (n := 16) hts zcX8.2.1 (hts _ ziX8.1)
  obtain ⟨aI, hI1, hI2⟩ := arr_known (hts _ zac_int) (fun C h => by cases h)
  obtain ⟨aZ, hZ1, hZ2⟩ := arr_known (hts _ zac_boolean) (fun C h => by cases h)
  obtain ⟨aJ, hJ1, hJ2⟩ := arr_known (hts _ zac_long) (fun C h => by cases h)
  obtain ⟨aS, hS1, hS2⟩ := arr_over hAO
  refine ⟨((fun k => [c0, c1, c2, c3, c4, c5, c6, c7, c8].getD k c0, fun k => [i0, i1, i2, i3, i4, i5, i6, i7, i8].getD k i0), aI, aZ, aJ, aS), fun c q hq => ?_, fun k q hq => ?_⟩
  · match c, hq with
    | 0, hq => cases hq; exact k0
    | 1, hq => cases hq; exact k1
    | 2, hq => cases hq; exact k2
    | 3, hq => cases hq; exact k3
    | 4, hq => cases hq; exact k4
    | 5, hq => cases hq; exact k5
    | 6, hq => cases hq; exact k6
    | 7, hq => cases hq; exact k7
    | 8, hq => cases hq; exact k8
    | c + 9, hq => simp [vwCl] at hq
  · match k, hq with
    | 0, hq => cases hq; exact ⟨hI1, hI2⟩
    | 1, hq => cases hq; exact ⟨hZ1, hZ2⟩
    | 2, hq => cases hq; exact ⟨hJ1, hJ2⟩
    | 3, hq => cases hq; exact ⟨hS1, hS2⟩
    | k + 4, hq => simp [ztys] at hq
def rowT (n : String) : Term := .static "DrawerRing" n "[I"
theorem row_of {s : State} {args : Array Value} {n : String} {f : Nat → Int32} {A : Nat → Prop} (hl : (Cond.laysStatic "DrawerRing" n "[I").before args s = true) (hini : (Cond.initialized "DrawerRing").before args s = true) (harr : (Cond.arrayOf (rowT n) .int).before args s = true) (hlen : (Cond.eq (.length (rowT n)) (.int 3)).before args s = true) (h0 : (Cond.eq (.elem (rowT n) (.int 0)) (.int (f 0))).before args s = true) (h1 : (Cond.eq (.elem (rowT n) (.int 1)) (.int (f 1))).before args s = true) (h2 : (Cond.eq (.elem (rowT n) (.int 2)) (.int (f 2))).before args s = true) (hA : ∀ a : Nat, a < s.heap.size → ¬ A a) : zRow n f A s s.heap := by
  obtain ⟨t, e1, e2⟩ := va_Tof (tm := rowT n) (ty := .int) (N := 3) (f := fun j => .int (f j)) (A := A) (by omega) harr (va_eqt hlen) (fun j hj => by
    rcases (show j = 0 ∨ j = 1 ∨ j = 2 by omega) with rfl | rfl | rfl
    · exact va_eqt h0
    · exact va_eqt h1
    · exact va_eqt h2) hA
  exact ⟨t, va_Zref hl hini e1 hA, e2⟩
theorem first_cell {s : State} {args : Array Value} {n : String} {A : Nat → Prop} (hl : (Cond.laysStatic "DrawerRing" n "[I").before args s = true) (hini : (Cond.initialized "DrawerRing").before args s = true) (hex : (Cond.exactly (rowT n) "[I").before args s = true) (hlen : (Cond.eq (.length (rowT n)) (.int 3)).before args s = true) (h0 : (Cond.eq (.elem (rowT n) (.int 0)) (.int 60)).before args s = true) (h1 : (Cond.eq (.elem (rowT n) (.int 1)) (.int 50)).before args s = true) (h2 : (Cond.eq (.elem (rowT n) (.int 2)) (.int 0)).before args s = true) (hA : ∀ a : Nat, a < s.heap.size → ¬ A a) : ∃ (t : Nat) (cell : Cell), va_Z "DrawerRing" n "[I" (.ref t) A s s.heap ∧ s.heap[t]? = some cell ∧ s.vm.findClass "[I" = some cell.cls ∧ cell.vm ≠ .unknown ∧ (∀ k, cell.vm ≠ .statics k) ∧ cell.slots = #[.int 60, .int 50, .int 0] ∧ ¬ A t := by
  have hv := va_eqt hlen
  obtain ⟨t, cell, ht, hat, hv2⟩ := Term.length_spec hv
  obtain ⟨hcell, hkn, hst, -⟩ := State.arrayAt?_spec hat
  have hsz : cell.slots.size < 2 ^ 31 := by
    have hv' := hv
    simp only [Term.eval, ht, hat, Option.bind_eq_bind, Option.bind_some] at hv'
    by_cases hlt : cell.slots.size < 2147483648
    · exact hlt
    · simp [hlt] at hv'
  have hs3 : cell.slots.size = 3 := by
    have h4 : (3 : Int32) = cell.slots.size.toInt32 := Value.int.inj hv2
    have h5 : nI 3 = nI cell.slots.size := h4
    exact ((nI_eq (by omega) hsz).mp h5).symm
  have key : ∀ (j : Nat) (z : Int32), j < 3 → (Cond.eq (.elem (rowT n) (.int (Int32.ofNat j))) (.int z)).before args s = true → cell.slots[j]? = some (.int z) := by
    intro j z hj hh
    obtain ⟨a, i, cell2, g1, g2, g3, g4, g5⟩ := Term.elem_spec (va_eqt hh)
    cases ht.symm.trans g1
    cases hat.symm.trans g3
    have hi : i = Int32.ofNat j := by
      have e : (Term.int (Int32.ofNat j)).eval args s none [] s = some (.int (Int32.ofNat j)) := rfl
      cases g2.symm.trans e
      rfl
    have hc : i.toNatClampNeg = j := by rw [hi]; exact Int32.toNatClampNeg_ofNat_of_lt (by omega)
    rw [hc] at g5
    exact g5
  obtain ⟨a, c, cell2, k, x1, x2, x3, x4, x5, x6, -⟩ := Cond.exactly_spec hex
  cases ht.symm.trans x1
  cases hcell.symm.trans x3
  refine ⟨t, cell, va_Zref hl hini ht hA, hcell, by rw [x6]; exact x2, hkn, fun k hk => (by rw [hk] at hst; cases hst), ?_, hA t (Array.getElem?_eq_some_iff.mp hcell).1⟩
  refine Array.ext_getElem? (fun j => ?_)
  rcases Nat.lt_or_ge j 3 with hj | hj
  · rcases (show j = 0 ∨ j = 1 ∨ j = 2 by omega) with rfl | rfl | rfl
    · exact key 0 60 (by omega) h0
    · exact key 1 50 (by omega) h1
    · exact key 2 0 (by omega) h2
  · rw [Array.getElem?_eq_none (by omega), Array.getElem?_eq_none (by simpa using hj)]
abbrev fl1 : List Cond := flatC (Jvm.Cond.and given_1 narrow_1)
theorem fl_ex : Cond.exactly (rowT "FIRST_VALUES") "[I" ∈ lw_tbl ∨ Cond.exactly (rowT "FIRST_VALUES") "[I" ∈ fl1 := by decide +kernel
theorem fl_F : Cond.arrayOf (rowT "FIRST_VALUES") .int ∈ fl1 ∧ Cond.eq (.length (rowT "FIRST_VALUES")) (.int 3) ∈ fl1 ∧ Cond.eq (.elem (rowT "FIRST_VALUES") (.int 0)) (.int 60) ∈ fl1 ∧ Cond.eq (.elem (rowT "FIRST_VALUES") (.int 1)) (.int 50) ∈ fl1 ∧ Cond.eq (.elem (rowT "FIRST_VALUES") (.int 2)) (.int 0) ∈ fl1 := by decide +kernel
theorem fl_L : Cond.arrayOf (rowT "LEAST_VALUES") .int ∈ fl1 ∧ Cond.eq (.length (rowT "LEAST_VALUES")) (.int 3) ∈ fl1 ∧ Cond.eq (.elem (rowT "LEAST_VALUES") (.int 0)) (.int 0) ∈ fl1 ∧ Cond.eq (.elem (rowT "LEAST_VALUES") (.int 1)) (.int 10) ∈ fl1 ∧ Cond.eq (.elem (rowT "LEAST_VALUES") (.int 2)) (.int 0) ∈ fl1 := by decide +kernel
theorem fl_G : Cond.arrayOf (rowT "GREATEST_VALUES") .int ∈ fl1 ∧ Cond.eq (.length (rowT "GREATEST_VALUES")) (.int 3) ∈ fl1 ∧ Cond.eq (.elem (rowT "GREATEST_VALUES") (.int 0)) (.int 300) ∈ fl1 ∧ Cond.eq (.elem (rowT "GREATEST_VALUES") (.int 1)) (.int 100) ∈ fl1 ∧ Cond.eq (.elem (rowT "GREATEST_VALUES") (.int 2)) (.int 2) ∈ fl1 := by decide +kernel
theorem fl_ref : Cond.isRef (.static Bundle.tN "UNASSIGNED_STACK" Bundle.steD) ∈ fl1 ∧ Cond.isRef (.static Bundle.tN "SUPPRESSED_SENTINEL" Bundle.listD) ∈ fl1 := by decide +kernel
theorem fl_nc : ∀ q ∈ zNcs, Cond.not (.castable q.1 q.2) ∈ fl1 := by decide +kernel
theorem fl_str : ∀ q ∈ zXs, Cond.exactly (.string "DrawerRing" q.1) "java/lang/String" ∈ fl1 := by decide +kernel
theorem tb_str : ∀ q ∈ zXs, Cond.stringRef "DrawerRing" q.1 q.2 ∈ lw_tbl := by decide +kernel
theorem tb_lay : Cond.laysStatic "DrawerRing" "FIRST_VALUES" "[I" ∈ lw_tbl ∧ Cond.laysStatic "DrawerRing" "LEAST_VALUES" "[I" ∈ lw_tbl ∧ Cond.laysStatic "DrawerRing" "GREATEST_VALUES" "[I" ∈ lw_tbl ∧ Cond.laysStatic Bundle.tN "UNASSIGNED_STACK" Bundle.steD ∈ lw_tbl ∧ Cond.laysStatic Bundle.tN "SUPPRESSED_SENTINEL" Bundle.listD ∈ lw_tbl ∧ Cond.initialized "DrawerRing" ∈ lw_tbl ∧ Cond.initialized Bundle.tN ∈ lw_tbl := by decide +kernel
theorem tb_over : Cond.arrayOver (.object "DrawerRing$State") ∈ lw_tbl ∨ Cond.arrayOver (.object "DrawerRing$State") ∈ fl1 := by decide +kernel
theorem start_AO {s : State} {args : Array Value} (hts : ∀ w ∈ lw_tbl, w.before args s = true) (hfl : ∀ w ∈ fl1, w.before args s = true) : va_AO "DrawerRing$State" s := by
  refine va_AO.of (A := args) ?_
  rcases tb_over with h | h
  · exact hts _ h
  · exact hfl _ h
theorem start_Ex {s : State} {args : Array Value} {A : Nat → Prop} (hts : ∀ w ∈ lw_tbl, w.before args s = true) (hfl : ∀ w ∈ fl1, w.before args s = true) (hA : ∀ a : Nat, a < s.heap.size → ¬ A a) : zEx A s s.heap := by
  obtain ⟨l1, l2, l3, l4, l5, l6, l7⟩ := tb_lay
  obtain ⟨a1, a2, a3, a4, a5⟩ := fl_F
  obtain ⟨b1, b2, b3, b4, b5⟩ := fl_L
  obtain ⟨c1, c2, c3, c4, c5⟩ := fl_G
  refine ⟨vx_Zqof (hts _ l4) (hts _ l7) (hfl _ fl_ref.1) hA, vx_Zqof (hts _ l5) (hts _ l7) (hfl _ fl_ref.2) hA, fun q hq => ?_, fun w hw => ?_, fun q hq => va_Nc.of (hfl _ (fl_nc q hq)), ?_, ?_, ?_⟩
  · obtain ⟨a, c, cell, k, x1, -⟩ := Cond.exactly_spec (hfl _ (fl_str q hq))
    exact ⟨a, vk_R.of (hts _ (tb_str q hq)) x1⟩
  · exact va_Nw.of (zDw_tab (List.mem_filter.mp hw).2) (hts _ (List.mem_filter.mp hw).1)
  · exact row_of (f := zLeast) (hts _ l2) (hts _ l6) (hfl _ b1) (hfl _ b2) (hfl _ b3) (hfl _ b4) (hfl _ b5) hA
  · exact row_of (f := zGreatest) (hts _ l3) (hts _ l6) (hfl _ c1) (hfl _ c2) (hfl _ c3) (hfl _ c4) (hfl _ c5) hA
  · exact row_of (f := zFirst) (hts _ l1) (hts _ l6) (hfl _ a1) (hfl _ a2) (hfl _ a3) (hfl _ a4) (hfl _ a5) hA
theorem start_E0 {s : State} {args : Array Value} {A : Nat → Prop} (hts : ∀ w ∈ lw_tbl, w.before args s = true) (hfl : ∀ w ∈ fl1, w.before args s = true) (hA : ∀ a : Nat, a < s.heap.size → ¬ A a) : zE0 A s s.heap := by
  obtain ⟨l1, l2, l3, l4, l5, l6, l7⟩ := tb_lay
  obtain ⟨a1, a2, a3, a4, a5⟩ := fl_F
  have hex : (Cond.exactly (rowT "FIRST_VALUES") "[I").before args s = true := by
    rcases fl_ex with h | h
    · exact hts _ h
    · exact hfl _ h
  exact ⟨start_AO hts hfl, first_cell (hts _ l1) (hts _ l6) hex (hfl _ a2) (hfl _ a3) (hfl _ a4) (hfl _ a5) hA⟩
/-- the relation at the start -/
def A0 : AS := ([], fun _ => false, (60, 50, 0), 0, (0, 0, 0, 0), 0)
theorem RR_start : RR zX7v zX8v := by
  refine ⟨A0, [], [], ⟨⟨⟨fun d _ => rfl, fun w _ => rfl⟩, ⟨fun k x hx => (by cases hx), rfl, rfl⟩, fun d _ => rfl, ⟨rfl, rfl, rfl⟩, rfl, rfl⟩, ?_, ?_⟩, ⟨⟨rfl, 0, by omega, rfl, fun j B hB => (by cases hB)⟩, ⟨rfl, fun j B hB => (by cases hB)⟩, Nat.zero_le _, fun B hB => (by cases hB)⟩, ⟨fun k x hx => (by cases hx), rfl⟩, ⟨fun k x hx => (by cases hx), rfl⟩, Nat.zero_le _, fun x hx => (by cases hx)⟩
  · refine ⟨fun k x hx => (by cases hx), rfl, rfl, fun d hd => ?_, ⟨rfl, rfl, rfl⟩, rfl, rfl⟩
    have e0 : (0 : Int32).toNatClampNeg = 0 := by decide
    have e1 : (1 : Int32).toNatClampNeg = 1 := by decide
    show upd (upd (fun _ => 0) (0 : Int32).toNatClampNeg 60) (1 : Int32).toNatClampNeg 50 (10 + d) = bI false
    rw [e0, e1, upd_n (by omega), upd_n (by omega)]
    rfl
  · exact ⟨⟨Nat.zero_le _, fun x hx => (by cases hx), List.Pairwise.nil⟩, Nat.zero_le _, fun d _ => (by show (0 : Int) ≤ 50; decide), by decide, by decide, by decide, by decide, by decide⟩
