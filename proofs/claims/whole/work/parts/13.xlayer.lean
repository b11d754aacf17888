/-! THE X LAYER: methods that throw. E: what goes from caller to callee beside the world. -/
abbrev zE : Type := (Nat → Prop) → State → Heap → Prop
def zSt (E : zE) : Prop := (∀ (A : Nat → Prop) (u U : State) (H H1 : Heap), u.WarmedH U.vm → E A u H → (∀ a : Nat, a < H.size → ¬ A a → H1[a]? = H[a]?) → E A U H1) ∧ (∀ (A B : Nat → Prop) (U : State) (H : Heap), E A U H → (∀ q, B q → A q) → E B U H)
def zPcE (g : zG) (b : Bool) (E : zE) (args : List Value) (w : va_W) (sz : Nat) : Array Value → State → Prop := fun a U => zPc g b args w sz a U ∧ E (zA b w sz) U U.heap
theorem zblindE {g : zG} {b : Bool} {E : zE} (hE : zSt E) {args : List Value} {w : va_W} {sz : Nat} : FrameBlind (zPcE g b E args w sz) := by
  intro a U f mk h
  exact ⟨zblind a U f mk h.1, hE.1 _ U (U.calling f mk a) U.heap U.heap (State.WarmedH.refl U) h.2 (fun _ _ _ => rfl)⟩
def zQx (g : zG) (b : Bool) (w w1 : va_W) (o : Option Value ⊕ String) (sz : Nat) : Array Value → State → Outcome → State → Prop := fun a st oc t => ∃ rv, o = .inl rv ∧ zQc g b w w1 rv sz a st oc t
def zXx (g : zG) (b : Bool) (w w1 : va_W) (o : Option Value ⊕ String) (sz : Nat) : String → State → State → Prop := fun Ex st t => o = .inr Ex ∧ va_P g.1 vwCl w1 t.heap ∧ (b = true → va_D (zA b w sz) w1) ∧ va_F (zA b w sz) st t
/-- A CONTRACT OF A METHOD THAT MAY THROW: o is what it returns, or the class of what it throws -/
def CtrX (l : Launch) (g : zG) (b : Bool) (E : zE) (y : MethodName) (cc : ByteArray) (nL : Nat) (ret : Option FieldType) (fr lo mc ms : Nat) (args : List Value) (w w1 : List va_W) (o : Option Value ⊕ String) : Prop :=
  ∀ sz : Nat, vx_Met l y (zws y cc nL ret) ({ frames := fr, cells := mc, slots := ms, locals := lo }) (zPcE g b E args w.flatten sz) (zQx g b w.flatten w1.flatten o sz) (zXx g b w.flatten w1.flatten o sz) mc ms (zA b w.flatten sz)
def zThr (b : Bool) (g : zG) (X : zX) (mc ms : Nat) (w1 : List va_W) (Ex : String) : Prop :=
  ∀ (f : JFrame) (H : Heap) (locs : List Loc), va_P g.1 vwCl w1.flatten H → (b = true → va_D (xA X) w1.flatten) → va_S (xA X) (xs X).heap H locs →
    W (xp X) (xl X) (xe X) (xR X) (xs X) (xm X) (xa X) (xb X) (xme X) (xc X) H locs 0 0 (vx_MQ (xb X) (fun _ _ _ _ => False) (fun E1 _ t => E1 = Ex ∧ H.size ≤ t.heap.size ∧ ∀ q : Nat, q < H.size → t.heap[q]? = H[q]?) (xa X) (xs X) mc ms (xA X)) f → zWp X H locs 0 0 f
set_option maxHeartbeats 4000000 in
theorem ctrx_of {l : Launch} {g : zG} {b : Bool} {E : zE} {own name desc : String} {cc : ByteArray} {nL : Nat} {ret : Option FieldType} {fr lo mc ms : Nat} {args : List Value} {w w1 : List va_W} {o : Option Value ⊕ String} (hy : plainName own = true) (hn : (lg_sl args).length ≤ nL)
    (h : ∀ X : zX, xl X = l → (xR X).cells = mc → (xR X).slots = ms → (∀ x ∈ (xc X).exceptionTable.toList, False) → E (xA X) (xs X) (xs X).heap → (∀ rv, o = .inl rv → zFin b g ret X 0 0 w1 rv) → (∀ Ex, o = .inr Ex → zThr b g X mc ms w1 Ex) → Z b own cc nL fr lo g X 0 0 w (lv_args 0 args) 0 []) : CtrX l g b E ⟨own, name, desc⟩ cc nL ret fr lo mc ms args w w1 o := by
  intro sz
  refine vx_ofW (cc := cc) (maxL := nL) (ret := ret) hy rfl ?_
  intro p e s m args' below meth c s₁ B hml htab hv
  obtain ⟨⟨rfl, hsz, hP, hK, hD0, hN⟩, hE⟩ := hv
  subst hsz
  have hts := atoms_spec (ws := zws ⟨own, name, desc⟩ cc nL ret) B.pre
  have hl := lv_entry args (n := nL) hn
  rw [lg_entry_eq]
  refine h (p, l, e, (headSpec (zws ⟨own, name, desc⟩ cc nL ret) ({ frames := fr, cells := mc, slots := ms, locals := lo })).room, s, m, args.toArray, below, meth, c, _, zA b w.flatten s.heap.size) rfl rfl rfl htab hE ?_ ?_ ?_ s.heap [] _ hP ?_ va_S.rf hl
  · intro rv hrv
    refine ⟨B.returns, fun f H locs hP1 hD1 hS hW => W.mono hW fun t ht => ?_⟩
    obtain ⟨o1, h1, h2, ⟨h3, h4⟩, L, ⟨h5, h6, h7⟩, h8⟩ := ht
    exact ⟨o1, h1, h2, Or.inl ⟨⟨rv, hrv, h3, by rw [h4]; exact hP1, hD1, hS.F h4⟩, L, ⟨h5, h6, h7.mono (Nat.zero_le _) (Nat.zero_le _)⟩, h8⟩⟩
  · intro Ex hEx f H locs hP1 hD1 hS hW
    refine W.mono hW fun t ht => ?_
    obtain ⟨o1, h1, h2, h3⟩ := ht
    rcases h3 with ⟨h3, -⟩ | ⟨q, h3, E1, ce, L, ⟨rfl, hz, hk⟩, h5⟩
    · exact h3.elim
    · exact ⟨o1, h1, h2, Or.inr ⟨q, h3, E1, ce, L, ⟨hEx, zP_kept hP1 hk, hD1, Nat.le_trans hS.1 hz, fun q hq hA => by rw [hk q (Nat.lt_of_lt_of_le hq hS.1)]; exact hS.2.1 q hq hA⟩, h5⟩⟩
  · exact ⟨B.exec, B.bytes, findClass_of_methodNamed B.named, hml, fun w hw => hts w (List.mem_cons_of_mem _ hw), B.notSynchronized, Nat.le_refl _, Nat.le_refl _, hK, zA_new, hN⟩
  · intro hb
    subst hb
    exact (hD0 rfl).self
def zXs : List (Nat × String) := [(46, "there is no such drawer"), (56, "the weight is out of range"), (65, "the item cannot be put there"), (85, "there is no such item"), (90, "the item cannot be moved there"), (99, "picking the item is refused"), (107, "the turn is refused"), (128, "there is no such setting"), (136, "the value is out of range"), (148, "a drawer has a greater load"), (153, "the code is not 33 to 126"), (159, "the buffer is full"), (172, "the buffer is not a complete batch"), (187, "no state is saved"), (192, "what is not 0 to 5"), (200, "this number was not given so far"), (202, "what is not 0 or 1"), (207, "what is not 0 to 10"), (218, "there is no such rule"), (220, "what is not 0 to 3")]
def zDw : Cond → Bool
  | .declares _ => true
  | _ => false
def zXd : List Cond := lw_tbl.filter zDw
theorem zDw_warm {w : Cond} (h : zDw w = true) {s U : State} (hW : s.WarmedH U.vm) (hz : va_Nw w s) : va_Nw w U := by
  unfold zDw at h
  split at h
  · exact va_Nw.warmD hW hz
  · cases h
theorem zDw_tab {w : Cond} (h : zDw w = true) : w.onTables = true := by
  unfold zDw at h
  split at h
  · rfl
  · cases h
def zIOB : String := "java/lang/IndexOutOfBoundsException"
def zIAE : String := "java/lang/IllegalArgumentException"
def zISE : String := "java/lang/IllegalStateException"
def zNcs : List (String × String) := [(zIAE, zIOB), (zISE, zIOB), (zIOB, zIAE), (zISE, zIAE), (zIOB, zISE), (zIAE, zISE)]
/-- a static row of three ints that nobody writes -/
def zRow (n : String) (f : Nat → Int32) : zE := fun A U H => ∃ t : Nat, va_Z "DrawerRing" n "[I" (.ref t) A U H ∧ va_T .int t 3 (fun j => .int (f j)) A U H
def zTa (t : Nat) (f : Nat → Int32) : zE := fun A U H => va_T .int t 3 (fun j => .int (f j)) A U H
def zLeast : Nat → Int32 := fun j => ([0, 10, 0] : List Int32).getD j 0
def zGreatest : Nat → Int32 := fun j => ([300, 100, 2] : List Int32).getD j 0
def zFirst : Nat → Int32 := fun j => ([60, 50, 0] : List Int32).getD j 0
def zEx : zE := fun A U H => vx_Zq Bundle.tN "UNASSIGNED_STACK" Bundle.steD A U H ∧ vx_Zq Bundle.tN "SUPPRESSED_SENTINEL" Bundle.listD A U H ∧ (∀ q ∈ zXs, ∃ sa, vk_R "DrawerRing" q.1 q.2 sa U) ∧ (∀ w ∈ zXd, va_Nw w U) ∧ (∀ q ∈ zNcs, va_Nc q.1 q.2 U) ∧ zRow "LEAST_VALUES" zLeast A U H ∧ zRow "GREATEST_VALUES" zGreatest A U H ∧ zRow "FIRST_VALUES" zFirst A U H
theorem zTa_st (t : Nat) (f : Nat → Int32) : zSt (zTa t f) := ⟨fun A u U H H1 hW h hk => (h.moved hW.alike).kept hk, fun A B U H h hAB => h.narrow hAB⟩
theorem zRow_st (n : String) (f : Nat → Int32) : zSt (zRow n f) := by
  refine ⟨fun A u U H H1 hW h hk => ?_, fun A B U H h hAB => ?_⟩
  · obtain ⟨t, h1, h2⟩ := h
    exact ⟨t, (h1.moved hW.alike).kept hk, (h2.moved hW.alike).kept hk⟩
  · obtain ⟨t, h1, h2⟩ := h
    exact ⟨t, h1.narrow hAB, h2.narrow hAB⟩
theorem zEx_st : zSt zEx := by
  refine ⟨fun A u U H H1 hW h hk => ?_, fun A B U H h hAB => ?_⟩
  · obtain ⟨h1, h2, h3, h4, h5, h6, h7, h8⟩ := h
    refine ⟨(h1.moved hW.alike).kept hk, (h2.moved hW.alike).kept hk, fun q hq => ?_, fun w hw => zDw_warm (List.mem_filter.mp hw).2 hW (h4 w hw), fun q hq => (h5 q hq).moved hW.alike, (zRow_st _ _).1 A u U H H1 hW h6 hk, (zRow_st _ _).1 A u U H H1 hW h7 hk, (zRow_st _ _).1 A u U H H1 hW h8 hk⟩
    obtain ⟨sa, hs⟩ := h3 q hq
    exact ⟨sa, hs.warm hW⟩
  · obtain ⟨h1, h2, h3, h4, h5, h6, h7, h8⟩ := h
    exact ⟨h1.narrow hAB, h2.narrow hAB, h3, h4, h5, (zRow_st _ _).2 A B U H h6 hAB, (zRow_st _ _).2 A B U H h7 hAB, (zRow_st _ _).2 A B U H h8 hAB⟩
def zNames : List String := ["java/lang/RuntimeException", "java/lang/Exception"]
/-- what a throw of cls wants of the tables -/
def zXw (ik ic : Nat) (cls : String) : Prop := Bundle.fit cls = true ∧ Cond.classLink RX7 ik cls ∈ zW ∧ Cond.initialized cls ∈ zW ∧ (∀ w ∈ (vx_atS RX7 ic cls zNames).filter goodWord, w ∈ zW) ∧ (∀ w ∈ (vx_atS RX7 ic cls zNames).filter (fun w => !goodWord w), w ∈ zN ++ zXd) ∧ (Cond.classLink RX7 ik cls :: Cond.initialized cls :: vx_atS RX7 ic cls zNames).all vx_ot = true
theorem zXw_in {ik ic : Nat} {cls : String} {i j : Nat} (gs bs : List Nat) (h0 : Bundle.fit cls = true) (h1 : lw_tbl[i]? = some (Cond.classLink RX7 ik cls)) (h2 : lw_tbl[j]? = some (Cond.initialized cls)) (h3 : (vx_atS RX7 ic cls zNames).filter goodWord = gs.filterMap (fun i => lw_tbl[i]?)) (h4 : (vx_atS RX7 ic cls zNames).filter (fun w => !goodWord w) = bs.filterMap (fun i => lw_tbl[i]?)) (h5 : ((vx_atS RX7 ic cls zNames).filter (fun w => !goodWord w)).all (fun w => zNw w || zDw w) = true) (h6 : (Cond.classLink RX7 ik cls :: Cond.initialized cls :: vx_atS RX7 ic cls zNames).all vx_ot = true) : zXw ik ic cls := by
  refine ⟨h0, zW_in i h1 rfl, zW_in j h2 rfl, fun w hw => ?_, fun w hw => ?_, h6⟩
  · have hg := (List.mem_filter.mp hw).2
    rw [h3] at hw
    obtain ⟨k, -, hk⟩ := List.mem_filterMap.mp hw
    exact zW_in k hk hg
  · have hg := List.all_eq_true.mp h5 w hw
    rw [h4] at hw
    obtain ⟨k, -, hk⟩ := List.mem_filterMap.mp hw
    simp only [Bool.or_eq_true] at hg
    rcases hg with hg | hg
    · exact List.mem_append_left _ (zN_in k hk hg)
    · exact List.mem_append_right _ (List.mem_filter.mpr ⟨List.mem_of_getElem? hk, hg⟩)
theorem zxzIOB : zXw 44 48 zIOB := zXw_in (i := 613) (j := 60) [57, 635, 644, 648, 651, 653, 636, 637, 72, 73, 638, 643, 649, 669, 625, 670, 627, 671, 629, 639, 641, 631, 665, 666, 668, 631, 656, 657, 658, 659, 659, 660, 661, 662, 662, 663, 664, 665, 655, 614, 622, 623, 624, 626, 628, 630, 634, 633, 632] [617, 619, 621, 615] (by decide +kernel) (by decide +kernel) (by decide +kernel) (by decide +kernel) (by decide +kernel) (by decide +kernel) (by decide +kernel)
theorem zxzIAE : zXw 54 58 zIAE := zXw_in (i := 684) (j := 61) [57, 635, 644, 648, 651, 653, 636, 637, 72, 73, 638, 643, 649, 669, 625, 670, 627, 671, 629, 639, 641, 631, 665, 666, 668, 631, 695, 696, 697, 659, 659, 660, 661, 662, 662, 663, 664, 665, 694, 685, 687, 646, 688, 689, 690, 691, 634, 633, 692] [617, 619, 621, 686] (by decide +kernel) (by decide +kernel) (by decide +kernel) (by decide +kernel) (by decide +kernel) (by decide +kernel) (by decide +kernel)
theorem zxzISE : zXw 63 67 zISE := zXw_in (i := 705) (j := 63) [57, 635, 644, 648, 651, 653, 636, 637, 72, 73, 638, 643, 649, 669, 625, 670, 627, 671, 629, 639, 641, 631, 665, 666, 668, 631, 716, 717, 718, 659, 659, 660, 661, 662, 662, 663, 664, 665, 715, 706, 708, 647, 709, 710, 711, 712, 634, 633, 713] [617, 619, 621, 707] (by decide +kernel) (by decide +kernel) (by decide +kernel) (by decide +kernel) (by decide +kernel) (by decide +kernel) (by decide +kernel)
section ZX
variable {b : Bool} {own : String} {cc : ByteArray} {nL fr lo : Nat} {g : zG} {X : zX} {k n : Nat} {w w' : List va_W} {lv lv' : List (Nat × Value)} {pc : Nat} {st rest : List Value}
set_option maxHeartbeats 4000000 in
/-- 'throw new E("text")' -/
theorem z_throw {ik ic is mc ms : Nat} {cls text : String} (hl : (xl X).stackTraces = false) (hE : zEx (xA X) (xs X) (xs X).heap) (htab : ∀ x ∈ (xc X).exceptionTable.toList, False) (hcm : (xR X).cells = mc) (hcs : (xR X).slots = ms) (hthr : zThr b g X mc ms w cls) (hxw : zXw ik ic cls) (hstr : (is, text) ∈ zXs) (hfr : 5 < fr) (hlo : (rest.map fun v => v.category).sum + 82 ≤ lo) (hmc : 1 ≤ mc) (hms : 6 ≤ ms)
    (d0 : decode cc pc = .ok (.new ik, 3)) (d3 : decode cc (pc + 3) = .ok (.dup, 1)) (d4 : decode cc (pc + 4) = .ok (.ldc is, 2)) (d6 : decode cc (pc + 6) = .ok (.invokespecial ic, 3)) (d9 : decode cc (pc + 9) = .ok (.athrow, 1)) : Z b RX7 cc nL fr lo g X 0 0 w lv pc rest := by
  intro ok H locs ls hP hD hS hl9
  obtain ⟨hx1, hx2, hx3, hx4, hx5, hx6⟩ := hxw
  obtain ⟨e1, e2, e3, e4, -⟩ := hE
  obtain ⟨sa, hsa⟩ := e3 _ hstr
  have hfr2 := ok.2.2.2.2.2.2.1
  have hlo2 := ok.2.2.2.2.2.2.2.1
  refine hthr _ H locs hP hD hS (vx_throwS (names := zNames) (text := text) (ik := ik) (is := is) (ic := ic) (sa := sa) (A := xA X) ok.1 ok.2.1 hl ok.2.2.1 hx1 (by decide +kernel) (ok.2.2.2.2.1 _ hx2) (ok.2.2.2.2.1 _ hx3) hsa
    (vx_hat (B := zN ++ zXd) (fun w hw => ok.2.2.2.2.1 w (hx4 w hw)) hx5 (fun w hw => ?_)) (fun w hw => List.all_eq_true.mp hx6 w hw) e1 e2 hS (hl9.1.trans ok.2.2.2.1.symm) d0 d3 d4 d6 d9 (fun x hx => (htab x hx).elim) ?_ ?_ ?_ ?_ ok.2.2.2.2.2.1 (fun t _ h1 h2 => ⟨rfl, h1, h2⟩) hS.2.2 (by omega) (by omega))
  · rcases List.mem_append.mp hw with h | h
    · exact va_Nw.use (zNw_tab (List.mem_filter.mp h).2) (ok.2.2.2.2.2.2.2.2.2.2 w h)
    · exact va_Nw.use (zDw_tab (List.mem_filter.mp h).2) (e4 w h)
  · show 2 + 3 < (xR X).frames
    omega
  · show (rest.map fun v => v.category).sum + (13 * (2 + 1) + 43) ≤ (xR X).locals
    omega
  · omega
  · omega
set_option maxHeartbeats 4000000 in
theorem z_afterx {b' : Bool} {wc w1 : va_W} {rv : Option Value} {mc ms : Nat} {a : Array Value} {H : Heap} {locs : List Loc} {ls : Array Slot} (hS : va_S (xA X) (xs X).heap H locs) (hAf : ∀ q, zA b' wc H.size q → xA X q)
    (hr : vx_Run (xp X) (xl X) (xe X) (xR X) (xs X) (xm X) (xa X) (xb X) (xme X) (xc X) H locs k n mc ms (F0 (xm X) pc ls st) rest (zQx g b' wc w1 (.inl rv) H.size a) (zXx g b' wc w1 (.inl rv) H.size) (zA b' wc H.size))
    (kk : ∀ (H1 : Heap) (locs1 : List Loc), va_P g.1 vwCl w1 H1 → (b' = true → va_D (zA b' wc H.size) w1) → (∀ q : Nat, q < H.size → ¬ zA b' wc H.size q → H1[q]? = H[q]?) → va_S (xA X) (xs X).heap H1 locs1 → zWp X H1 locs1 (k + mc) (n + ms) (F0 (xm X) (pc + 3) ls (rv.toList ++ rest))) : zWp X H locs k n (F0 (xm X) pc ls st) := by
  intro T hT Xs
  rcases hr T hT Xs with ⟨v, st₀, t, T', L, h0, X', hL, e1, e2, ⟨rv9, ho, hv, hP1, hD1, hz, hk⟩, go⟩ | ⟨q, st₀, t, T', L, E, ce, h0, X', hL, e1, e2, ⟨ho, -⟩, -⟩
  · cases ho
    cases hv
    rw [h0] at hz hk
    obtain ⟨t2, a1, b1⟩ := kk T'.heap (locs ++ L) (by rw [e1]; exact hP1) hD1 (fun q h1 h2 => by rw [e1]; exact hk q h1 h2)
      ⟨Nat.le_trans hS.1 (by rw [e1]; exact hz), fun q h1 h2 => by rw [e1, hk q (Nat.lt_of_lt_of_le h1 hS.1) (fun z => h2 (hAf q z))]; exact hS.2.1 q h1 h2, fun q hq => by
        rcases List.mem_append.mp hq with h | h
        · exact hS.2.2 q h
        · exact hAf _ (hL q h)⟩ T' rfl X'
    exact ⟨t2, go t2 a1, b1⟩
  · cases ho
/-- what goes to a callee beside its world -/
theorem zpreE {E E' : zE} (hst : zSt E) (hE : E (xA X) (xs X) (xs X).heap) (hEE : ∀ A U H, E A U H → E' A U H) {b' : Bool} {As : List Value} {wc : va_W} {H : Heap} {locs : List Loc} (ok : zOk own cc nL fr lo g X) (hS : va_S (xA X) (xs X).heap H locs) (hf : ∀ q, zA b' wc H.size q → xA X q) (hP : va_P g.1 vwCl wc H) (hD : b' = true → va_D (fun _ => True) wc) : ∀ U : State, U.heap = H → (xs X).WarmedH U.vm → zPcE g b' E' As wc H.size As.toArray U :=
  fun U hU hW => ⟨zpre ok hP hD U hU hW, hEE _ _ _ (by rw [hU]; exact hst.2 _ _ _ _ (hst.1 _ (xs X) U _ H hW hE hS.2.1) hf)⟩
set_option maxHeartbeats 4000000 in
/-- a static method that looks alone, at what lies beside the world -/
theorem z_callSE {E E' : zE} (hst : zSt E) (hst' : zSt E') (hE : E (xA X) (xs X) (xs X).heap) (hEE : ∀ A U H, E A U H → E' A U H) {y : MethodName} {cc2 : ByteArray} {nL2 fr2 lo2 na : Nat} {ret2 : Option FieldType} {idx : Nat} {As : List Value} {rv : Option Value} {l : Launch} (hl : xl X = l) (hC : CtrX l g false E' y cc2 nL2 ret2 fr2 lo2 0 0 As [] [] (.inl rv)) (hy : zCy y cc2 nL2 ret2 na) (hv : Cond.static y ∈ zW) (hk1 : Cond.methodLink own idx y ∈ zW) (hna : As.length = na) (hst9 : st = As.reverse ++ rest) (hroom : fr2 + 1 ≤ fr ∧ 8 + (nL2 + 11) + lo2 ≤ lo) (hsum : (rest.map fun v => v.category).sum ≤ 8) (hkn : k ≤ (xR X).cells ∧ n ≤ (xR X).slots) (d : decode cc pc = .ok (.invokestatic idx, 3)) {st2 : List Value} (h2 : rv.toList ++ rest = st2) (kk : Z b own cc nL fr lo g X k n w lv (pc + 3) st2) : Z b own cc nL fr lo g X k n w lv pc st := by
  intro ok H locs ls hP hD hS hl9
  subst hl
  subst h2
  have hPc : va_P g.1 vwCl ([] : List va_W).flatten H := fun k q h => by cases h
  have hfr := zfree0 (wc := ([] : List va_W).flatten) ok hS
  refine z_afterx (b' := false) hS hfr (vx_runS (As := As) (rest := rest) ⟨ok.1, ok.2.1, ok.2.2.2.1, ok.2.2.1, ok.2.2.2.2.1⟩ (hC H.size) (va_cwS na ok.2.2.2.2.1 (zfs (fun _ h => h) hy hv hk1) rfl rfl rfl hy.2.2 ⟨Nat.le_trans hroom.1 ok.2.2.2.2.2.2.1, Nat.le_trans hroom.2 ok.2.2.2.2.2.2.2.1⟩) ⟨zblindE hst', zpreE hst hE hEE ok hS hfr hPc (fun h => by cases h)⟩ rfl hna hl9.1 hst9 (lv_room hsum) d ⟨hkn.1, hkn.2⟩) (fun H1 locs1 hP1 hD1 hk1 hS1 => ?_)
  exact kk ok H1 locs1 ls (zP_kept hP fun q h => hk1 q h (Nat.not_le.mpr h)) hD hS1 hl9
/-- a static field -/
theorem z_gets {C nm dd : String} {v : Value} {i : Nat} (hZ : va_Z C nm dd v (xA X) (xs X) (xs X).heap) (hlink : Cond.fieldLink own i C nm dd ∈ zW) (d : decode cc pc = .ok (.getstatic i, 3)) (kk : Z b own cc nL fr lo g X k n w lv (pc + 3) (v :: rest)) : Z b own cc nL fr lo g X k n w lv pc rest := fun ok H locs ls hP hD hS hl9 =>
  va_gets ok.1 ok.2.1 hZ hS ok.2.2.1 (ok.2.2.2.2.1 _ hlink) (fun _ h => h) d (kk ok H locs ls hP hD hS hl9)
/-- a row that nobody writes: length and cells -/
theorem z_tlen {t : Nat} {f : Nat → Int32} (hT : va_T .int t 3 (fun j => .int (f j)) (xA X) (xs X) (xs X).heap) (d : decode cc pc = .ok (.arraylength, 1)) (kk : Z b own cc nL fr lo g X k n w lv (pc + 1) (.int 3 :: rest)) : Z b own cc nL fr lo g X k n w lv pc (.ref t :: rest) := fun ok H locs ls hP hD hS hl9 =>
  va_tlen ok.1 ok.2.1 hT hS (v := 3) (by decide) d (kk ok H locs ls hP hD hS hl9)
theorem z_ti {t : Nat} {f : Nat → Int32} {i : Int32} (hT : va_T .int t 3 (fun j => .int (f j)) (xA X) (xs X) (xs X).heap) (hin : vp_in i 3) (d : decode cc pc = .ok (.iaload, 1)) (kk : Z b own cc nL fr lo g X k n w lv (pc + 1) (.int (f i.toNatClampNeg) :: rest)) : Z b own cc nL fr lo g X k n w lv pc (.int i :: .ref t :: rest) := fun ok H locs ls hP hD hS hl9 =>
  va_ti ok.1 ok.2.1 hT hS hin (v := .int (f i.toNatClampNeg)) rfl d (kk ok H locs ls hP hD hS hl9)
end ZX
