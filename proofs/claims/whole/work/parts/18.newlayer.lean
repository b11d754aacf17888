/-! ALLOCATION: rows that make a cell, constructors. -/
/-- a constructor's contract: the blank object r becomes the blocks F a, for some addresses a of them, a 0 = r -/
def CtrN (l : Launch) (g : zG) (E : zE) (y : MethodName) (cc : ByteArray) (nL : Nat) (fr lo mc ms : Nat) (r : Nat) (w : List va_W) (F : (Nat → Nat) → List va_W) : Prop :=
  ∀ sz : Nat, Met l y (zws y cc nL none) ({ frames := fr, cells := mc, slots := ms, locals := lo }) (zPcE g true E [.ref r] w.flatten sz) (fun _ st oc t => oc = .returned none ∧ ∃ a : Nat → Nat, a 0 = r ∧ va_P g.1 vwCl (F a).flatten t.heap ∧ va_D (zA true w.flatten sz) (F a).flatten ∧ va_F (zA true w.flatten sz) st t) mc ms (zA true w.flatten sz)
def zFinN (g : zG) (X : zX) (mc ms : Nat) (r : Nat) (F : (Nat → Nat) → List va_W) : Prop :=
  (xme X).sig.returnType = none ∧ ∀ (f : JFrame) (H : Heap) (locs : List Loc) (a : Nat → Nat), a 0 = r → va_P g.1 vwCl (F a).flatten H → va_D (xA X) (F a).flatten → va_S (xA X) (xs X).heap H locs →
    W (xp X) (xl X) (xe X) (xR X) (xs X) (xm X) (xa X) (xb X) (xme X) (xc X) H locs mc ms (MQ (xb X) (fun _ _ oc t => oc = .returned none ∧ t.heap = H) (xa X) (xs X) mc ms (xA X)) f → zWp X H locs mc ms f
set_option maxHeartbeats 4000000 in
theorem ctrn_of {l : Launch} {g : zG} {E : zE} {own name desc : String} {cc : ByteArray} {nL : Nat} {fr lo mc ms : Nat} {r : Nat} {w : List va_W} {F : (Nat → Nat) → List va_W} (hy : plainName own = true) (hn : 1 ≤ nL)
    (h : ∀ X : zX, xl X = l → (xR X).cells = mc → (xR X).slots = ms → (name = "<init>" → (xme X).name = "<init>") → E (xA X) (xs X) (xs X).heap → zFinN g X mc ms r F → Z true own cc nL fr lo g X 0 0 w [(0, .ref r)] 0 []) : CtrN l g E ⟨own, name, desc⟩ cc nL fr lo mc ms r w F := by
  intro sz
  refine Met.ofW (cc := cc) (maxL := nL) (ret := none) hy rfl ?_
  intro p e s m args' below meth c s₁ B hml hv
  obtain ⟨⟨rfl, hsz, hP, hK, hD0, hN⟩, hE⟩ := hv
  subst hsz
  have hts := atoms_spec (ws := zws ⟨own, name, desc⟩ cc nL none) B.pre
  have hl := lv_entry [Value.ref r] (n := nL) hn
  rw [lg_entry_eq]
  refine h (p, l, e, (headSpec (zws ⟨own, name, desc⟩ cc nL none) ({ frames := fr, cells := mc, slots := ms, locals := lo })).room, s, m, [Value.ref r].toArray, below, meth, c, _, zA true w.flatten s.heap.size) rfl rfl rfl (fun h => (name_of_methodNamed B.named B.method).1.trans h) hE ?_ ?_ s.heap [] _ hP ?_ va_S.rf hl
  · refine ⟨B.returns, fun f H locs a ha hP1 hD1 hS hW => W.mono hW fun t ht => ?_⟩
    obtain ⟨o, h1, h2, ⟨h3, h4⟩, h5⟩ := ht
    exact ⟨o, h1, h2, ⟨h3, a, ha, by rw [h4]; exact hP1, hD1, hS.F h4⟩, h5⟩
  · exact ⟨B.exec, B.bytes, findClass_of_methodNamed B.named, hml, fun w hw => hts w (List.mem_cons_of_mem _ hw), B.notSynchronized, Nat.le_refl _, Nat.le_refl _, hK, zA_new (b := true) (w := w.flatten) (sz := s.heap.size), hN⟩
  · intro hb
    exact (hD0 rfl).self
/-- addresses side by side -/
def zcat : List (Nat × (Nat → Nat)) → Nat → Nat
  | [], _ => 0
  | (n, f) :: t, i => bif Nat.blt i n then f i else zcat t (i - n)
/-- the row of first values, and what a row of states wants -/
def zE0 : zE := fun A U H => va_AO "DrawerRing$State" U ∧ ∃ (t : Nat) (cell : Cell), va_Z "DrawerRing" "FIRST_VALUES" "[I" (.ref t) A U H ∧ H[t]? = some cell ∧ U.vm.findClass "[I" = some cell.cls ∧ cell.vm ≠ .unknown ∧ (∀ k, cell.vm ≠ .statics k) ∧ cell.slots = #[.int 60, .int 50, .int 0] ∧ ¬ A t
theorem zE0_st : zSt zE0 := by
  refine ⟨fun A u U H H1 hW h hk => ?_, fun A B U H h hAB => ?_⟩
  · obtain ⟨h0, t, cell, h1, h2, h3, h4, h5, h6, h7⟩ := h
    exact ⟨h0.moved hW.alike, t, cell, (h1.moved hW.alike).kept hk, (hk t (Array.getElem?_eq_some_iff.mp h2).1 h7).trans h2, by rw [hW.alike.findClass]; exact h3, h4, h5, h6, h7⟩
  · obtain ⟨h0, t, cell, h1, h2, h3, h4, h5, h6, h7⟩ := h
    exact ⟨h0, t, cell, h1.narrow hAB, h2, h3, h4, h5, h6, fun z => h7 (hAB _ z)⟩
theorem zac_eq {g : zG} {s : State} {cA : ClassId} {ty : FieldType} {cA0 : ClassId} (hK : va_K g.1 vwCl (ztys g ++ [(cA, ty)]) s) (t0 : Nat) (h0 : (ztys g)[t0]? = some (cA0, ty)) : cA = cA0 := by
  have h4 := (hK.2 4 (cA, ty) rfl).2
  have h1 := (hK.2 t0 (cA0, ty) (by rw [List.getElem?_append_left (List.getElem?_eq_some_iff.mp h0).1]; exact h0)).2
  unfold va_RA at h4 h1
  cases ty with
  | object C =>
    obtain ⟨kA, comp, -, -, -, e1⟩ := h4
    obtain ⟨kA', comp', -, -, -, e2⟩ := h1
    exact Option.some.inj (e1.symm.trans e2)
  | _ => exact Option.some.inj (h4.symm.trans h1)
section ZN
variable {b : Bool} {own : String} {cc : ByteArray} {nL fr lo : Nat} {g : zG} {X : zX} {k n : Nat} {w w' : List va_W} {lv lv' : List (Nat × Value)} {pc : Nat} {st rest : List Value}
theorem zfl (w : List va_W) (x : Nat × va_E) : (w ++ [[x]]).flatten = w.flatten ++ [x] := by simp
set_option maxHeartbeats 4000000 in
theorem z_newI {v : Int32} {N : Nat} (hn : ¬ v < 0) (hN : v.toNatClampNeg = N) (hb : N * componentBytes .int ≤ 536870912) (hkn : k + 1 ≤ (xR X).cells ∧ n + N ≤ (xR X).slots) (d : decode cc pc = .ok (.newarray .int, 2)) (kk : ∀ q : Nat, Z true own cc nL fr lo g X (k + 1) (n + N) (w ++ [[(q, .inl (g.2.1, N, .inl (fun _ => 0)))]]) lv (pc + 2) (.ref q :: rest)) : Z true own cc nL fr lo g X k n w lv pc (.int v :: rest) := by
  intro ok H locs ls hP hD hS hl
  refine va_newa (atype := .int) (a0 := (N, .inl (fun _ => 0))) (tys := ztys g) ok.1 ok.2.1 (ok.2.2.2.2.1 _ zac_int) rfl ok.2.2.2.2.2.2.2.2.1 hP (hD rfl) hS ok.2.2.2.2.2.2.2.2.2.1 (fun _ => rfl) hn hN hb hkn.1 hkn.2 d (fun q cA H1 hK1 hP1 hD1 hS1 => ?_)
  obtain rfl := zac_eq hK1 0 rfl
  exact kk q ok H1 locs ls (by rw [zfl]; exact hP1) (fun _ => by rw [zfl]; exact hD1) hS1 hl
set_option maxHeartbeats 4000000 in
theorem z_newZ {v : Int32} {N : Nat} (hn : ¬ v < 0) (hN : v.toNatClampNeg = N) (hb : N * componentBytes .boolean ≤ 536870912) (hkn : k + 1 ≤ (xR X).cells ∧ n + N ≤ (xR X).slots) (d : decode cc pc = .ok (.newarray .boolean, 2)) (kk : ∀ q : Nat, Z true own cc nL fr lo g X (k + 1) (n + N) (w ++ [[(q, .inl (g.2.2.1, N, .inl (fun _ => 0)))]]) lv (pc + 2) (.ref q :: rest)) : Z true own cc nL fr lo g X k n w lv pc (.int v :: rest) := by
  intro ok H locs ls hP hD hS hl
  refine va_newa (atype := .boolean) (a0 := (N, .inl (fun _ => 0))) (tys := ztys g) ok.1 ok.2.1 (ok.2.2.2.2.1 _ zac_boolean) rfl ok.2.2.2.2.2.2.2.2.1 hP (hD rfl) hS ok.2.2.2.2.2.2.2.2.2.1 (fun _ => rfl) hn hN hb hkn.1 hkn.2 d (fun q cA H1 hK1 hP1 hD1 hS1 => ?_)
  obtain rfl := zac_eq hK1 1 rfl
  exact kk q ok H1 locs ls (by rw [zfl]; exact hP1) (fun _ => by rw [zfl]; exact hD1) hS1 hl
set_option maxHeartbeats 4000000 in
theorem z_newJ {v : Int32} {N : Nat} (hn : ¬ v < 0) (hN : v.toNatClampNeg = N) (hb : N * componentBytes .long ≤ 536870912) (hkn : k + 1 ≤ (xR X).cells ∧ n + N ≤ (xR X).slots) (d : decode cc pc = .ok (.newarray .long, 2)) (kk : ∀ q : Nat, Z true own cc nL fr lo g X (k + 1) (n + N) (w ++ [[(q, .inl (g.2.2.2.1, N, .inr (.inl (fun _ => 0))))]]) lv (pc + 2) (.ref q :: rest)) : Z true own cc nL fr lo g X k n w lv pc (.int v :: rest) := by
  intro ok H locs ls hP hD hS hl
  refine va_newa (atype := .long) (a0 := (N, .inr (.inl (fun _ => 0)))) (tys := ztys g) ok.1 ok.2.1 (ok.2.2.2.2.1 _ zac_long) rfl ok.2.2.2.2.2.2.2.2.1 hP (hD rfl) hS ok.2.2.2.2.2.2.2.2.2.1 (fun _ => rfl) hn hN hb hkn.1 hkn.2 d (fun q cA H1 hK1 hP1 hD1 hS1 => ?_)
  obtain rfl := zac_eq hK1 2 rfl
  exact kk q ok H1 locs ls (by rw [zfl]; exact hP1) (fun _ => by rw [zfl]; exact hD1) hS1 hl
set_option maxHeartbeats 4000000 in
theorem z_newS {idx : Nat} {v : Int32} {N : Nat} (hn : ¬ v < 0) (hN : v.toNatClampNeg = N) (hb : N * 4 ≤ 536870912) (hcl : Cond.classLink own idx "DrawerRing$State" ∈ zW) (hAO : va_AO "DrawerRing$State" (xs X)) (hkn : k + 1 ≤ (xR X).cells ∧ n + N ≤ (xR X).slots) (d : decode cc pc = .ok (.anewarray idx, 3)) (kk : ∀ q : Nat, Z true own cc nL fr lo g X (k + 1) (n + N) (w ++ [[(q, .inl (g.2.2.2.2, N, .inr (.inr (.inr (.inr (fun _ => none))))))]]) lv (pc + 3) (.ref q :: rest)) : Z true own cc nL fr lo g X k n w lv pc (.int v :: rest) := by
  intro ok H locs ls hP hD hS hl
  refine va_newq (tys := ztys g) ok.1 ok.2.1 ok.2.2.1 (ok.2.2.2.2.1 _ hcl) hAO ok.2.2.2.2.2.2.2.2.1 hP (hD rfl) hS ok.2.2.2.2.2.2.2.2.2.1 hn hN hb hkn.1 hkn.2 d (fun q cA H1 hK1 hP1 hD1 hS1 => ?_)
  obtain rfl := zac_eq hK1 3 rfl
  exact kk q ok H1 locs ls (by rw [zfl]; exact hP1) (fun _ => by rw [zfl]; exact hD1) hS1 hl
set_option maxHeartbeats 4000000 in
theorem z_new {ci N : Nat} {C : String} {T : u_T} {ty : Nat → FieldType} {idx : Nat} {fs : List Value} (hc : zCls ci C T N ty) (hi : Cond.instantiable C N ∈ zW ∧ Cond.initialized C ∈ zW) (hcl : Cond.classLink own idx C ∈ zW) (hfs : ∀ j, j < N → defaultValue (ty j) = vp_V fs j) (hkn : k + 1 ≤ (xR X).cells ∧ n + N ≤ (xR X).slots) (d : decode cc pc = .ok (.new idx, 3)) (kk : ∀ q : Nat, Z true own cc nL fr lo g X (k + 1) (n + N) (w ++ [[(q, .inr (ci, fs))]]) lv (pc + 3) (.ref q :: rest)) : Z true own cc nL fr lo g X k n w lv pc rest := by
  intro ok H locs ls hP hD hS hl
  refine va_new (cl := vwCl) ok.1 ok.2.1 ok.2.2.2.2.1 hc.2.1 ty hc.2.2.1 ok.2.2.1 (ok.2.2.2.2.1 _ hcl) (ok.2.2.2.2.1 _ hi.1) (ok.2.2.2.2.1 _ hi.2) ok.2.2.2.2.2.2.2.2.1 hP (hD rfl) hS ok.2.2.2.2.2.2.2.2.2.1 hc.1 hfs hkn.1 hkn.2 d (fun q H1 hP1 hD1 hS1 => ?_)
  exact kk q ok H1 locs ls (by rw [zfl]; exact hP1) (fun _ => by rw [zfl]; exact hD1) hS1 hl
set_option maxHeartbeats 4000000 in
theorem z_objInit {idx r : Nat} (hk1 : Cond.methodLink own idx objectInit ∈ zW) (hroom : 1 ≤ fr ∧ (rest.map fun v => v.category).sum + 12 ≤ lo) (d : decode cc pc = .ok (.invokespecial idx, 3)) (kk : Z b own cc nL fr lo g X k n w lv (pc + 3) rest) : Z b own cc nL fr lo g X k n w lv pc (.ref r :: rest) := by
  intro ok H locs ls hP hD hS hl
  have hfr := ok.2.2.2.2.2.2.1
  have hlo := ok.2.2.2.2.2.2.2.1
  refine W.objInit ok.1 ok.2.1 ok.2.2.1 (ok.2.2.2.2.1 _ hk1) (ok.2.2.2.2.1 _ zobj.1) (ok.2.2.2.2.1 _ zobj.2) rfl (hl.1.trans ok.2.2.2.1.symm) rfl d (by omega) ?_ (kk ok H locs ls hP hD hS hl)
  have h0 : (F0 (xm X) pc ls (Value.ref r :: rest)).monitorRoom = 0 := rfl
  show _ ≤ (xR X).locals
  omega
set_option maxHeartbeats 4000000 in
/-- a final field, in its class's constructor -/
theorem z_putR {ci N : Nat} {C : String} {T : u_T} {ty : Nat → FieldType} {a idx : Nat} {fs : List Value} {v : Value} {t : FieldType} (w' : List va_W) (hc : zCls ci C T N ty) {blk : va_W} (bi : Nat) (hb : w[bi]? = some blk) (q : Nat) (hq : blk[q]? = some (a, .inr (ci, fs))) (j : Nat) (hj : j < N) (hl1 : Cond.fieldLink own idx (T j).1 (T j).2.1 (T j).2.2.1 ∈ zW) (hf : (T j).2.2.2 = true ∧ parseFieldDescriptor (T j).2.2.1 = some t) (hin : (xme X).name = "<init>") (hdecl : (T j).1 = own) (hn : narrow t v = v) (hfit : fits t v = true) (hlen : j < fs.length) (hw : w.set bi (blk.set q (a, .inr (ci, fs.set j v))) = w') (d : decode cc pc = .ok (.putfield idx, 3)) (kk : Z true own cc nL fr lo g X k n w' lv (pc + 3) rest) : Z true own cc nL fr lo g X k n w lv pc (v :: .ref a :: rest) := by
  intro ok H locs ls hP hD hS hl
  obtain ⟨k1, h1, h2⟩ := zcell hb hq
  exact va_putF (cl := vwCl) ok.1 ok.2.1 (ok.2.2.2.2.1) hc.2.1 ty hc.2.2.1 hc.2.2.2 ok.2.2.1 ok.2.2.2.2.2.2.2.2.1 hP (hD rfl) hS k1 h1 hc.1 j hj (ok.2.2.2.2.1 _ hl1) (fun _ h => h) hf.1 hin hdecl hf.2 hn hfit hlen d (fun H1 locs1 hP1 hD1 hS1 => by rw [h2, hw] at hP1 hD1; exact kk ok H1 locs1 ls hP1 (fun _ => hD1) hS1 hl)
set_option maxHeartbeats 4000000 in
theorem z_aast {a v m1 ci : Nat} {C : String} {T : u_T} {N : Nat} {f : Nat → Option Nat} {vs : List Value} {i : Int32} (w' : List va_W) {blk blk2 : va_W} (bi : Nat) (hb : w[bi]? = some blk) (q : Nat) (hq : blk[q]? = some (a, .inl (g.2.2.2.2, m1, .inr (.inr (.inr (.inr f)))))) (bj : Nat) (hb2 : w[bj]? = some blk2) (q2 : Nat) (hq2 : blk2[q2]? = some (v, .inr (ci, vs))) (hc : vwCl[ci]? = some (C, T, N)) (hC : C = "DrawerRing$State") (e : vp_in i m1) (hw : w.set bi (blk.set q (a, .inl (g.2.2.2.2, m1, .inr (.inr (.inr (.inr (va_up f i.toNatClampNeg (some v)))))))) = w') (d : decode cc pc = .ok (.aastore, 1)) (kk : Z true own cc nL fr lo g X k n w' lv (pc + 1) rest) : Z true own cc nL fr lo g X k n w lv pc (.ref v :: .int i :: .ref a :: rest) := by
  intro ok H locs ls hP hD hS hl
  subst hC
  obtain ⟨k1, h1, h2⟩ := zcell hb hq
  obtain ⟨k3, h3, h4⟩ := zcell hb2 hq2
  exact va_astq ok.1 ok.2.1 ok.2.2.2.2.2.2.2.2.1 hP (hD rfl) hS k1 3 k3 ci h1 rfl h3 hc e d (fun H1 locs1 hP1 hD1 hS1 => by rw [h2, hw] at hP1 hD1; exact kk ok H1 locs1 ls hP1 (fun _ => hD1) hS1 hl)
theorem arrV_ext {cA : ClassId} {N : Nat} {f f' : Nat → Value} (h : ∀ j, j < N → f j = f' j) : arrV cA N f = arrV cA N f' := by
  unfold arrV
  congr 1
  exact congrArg Array.ofFn (funext fun j => h j.1 j.2)
theorem zP_conv {D : va_G} {cl : List vw_C} {ws : va_W} {H : Heap} {q a : Nat} {e e' : va_E} (hP : va_P D cl ws H) (ha : ws[q]? = some (a, e)) (h : va_at D cl (a, e) H → va_at D cl (a, e') H) : va_P D cl (ws.set q (a, e')) H := by
  intro k x hx
  by_cases hk : q = k
  · subst hk
    rw [List.getElem?_set_self (List.getElem?_eq_some_iff.mp ha).1] at hx
    cases hx
    exact h (hP q _ ha)
  · rw [List.getElem?_set_ne hk] at hx
    exact hP k x hx
/-- a row of references told by another function -/
theorem z_rowq {a m1 : Nat} {f f' : Nat → Option Nat} (w' : List va_W) {blk : va_W} (bi : Nat) (hb : w[bi]? = some blk) (q : Nat) (hq : blk[q]? = some (a, .inl (g.2.2.2.2, m1, .inr (.inr (.inr (.inr f)))))) (hff : ∀ j, j < m1 → f j = f' j) (hw : w.set bi (blk.set q (a, .inl (g.2.2.2.2, m1, .inr (.inr (.inr (.inr f')))))) = w') (kk : Z true own cc nL fr lo g X k n w' lv pc st) : Z true own cc nL fr lo g X k n w lv pc st := by
  intro ok H locs ls hP hD hS hl
  obtain ⟨k1, h1, h2⟩ := zcell hb hq
  have hP2 := zP_conv (e' := .inl (g.2.2.2.2, m1, .inr (.inr (.inr (.inr f'))))) hP h1 (fun h => by
    have h : H[a]? = some (arrV g.2.2.2.2 m1 (fun j => va_rf (f j))) := h
    show H[a]? = some (arrV g.2.2.2.2 m1 (fun j => va_rf (f' j)))
    rw [h, arrV_ext (fun j hj => by rw [hff j hj])])
  have hD2 := va_D.set (e := .inl (g.2.2.2.2, m1, .inr (.inr (.inr (.inr f'))))) (hD rfl) h1
  rw [h2, hw] at hP2 hD2
  exact kk ok H locs ls hP2 (fun _ => hD2) hS hl
set_option maxHeartbeats 4000000 in
/-- the end of a constructor -/
theorem z_nret {r : Nat} {F : (Nat → Nat) → List va_W} (a : Nat → Nat) (ha : a 0 = r) (hw : w.flatten = (F a).flatten) (d : decode cc pc = .ok (.return_, 1)) (hf : zFinN g X k n r F) : Z true own cc nL fr lo g X k n w lv pc [] := fun ok H locs ls hP hD hS hl => hf.2 _ H locs a ha (by rw [← hw]; exact hP) (by rw [← hw]; exact hD rfl) hS (W.vret ok.1 ok.2.1 hf.1 (fun t ht hW => ⟨rfl, ht⟩) hS.2.2 d ok.2.2.2.2.2.1)
set_option maxHeartbeats 4000000 in
/-- behind a constructor -/
theorem z_afterI {front : List va_W} {q : Nat} {x : va_E} {F : (Nat → Nat) → List va_W} {mc ms : Nat} {H : Heap} {locs : List Loc} {ls : Array Slot} (ok : zOk own cc nL fr lo g X) (hP : va_P g.1 vwCl (front ++ [[(q, x)]]).flatten H) (hD : va_D (xA X) (front ++ [[(q, x)]]).flatten) (hS : va_S (xA X) (xs X).heap H locs) (hl : lv_has ls nL lv)
    (hr : va_Run (xp X) (xl X) (xe X) (xR X) (xs X) (xm X) (xa X) (xb X) (xme X) (xc X) H locs k n mc ms (F0 (xm X) pc ls (.ref q :: rest)) rest (fun st oc t => oc = .returned none ∧ ∃ a : Nat → Nat, a 0 = q ∧ va_P g.1 vwCl (F a).flatten t.heap ∧ va_D (zA true [(q, x)] H.size) (F a).flatten ∧ va_F (zA true [(q, x)] H.size) st t) (zA true [(q, x)] H.size))
    (kk : ∀ a : Nat → Nat, a 0 = q → Z true own cc nL fr lo g X (k + mc) (n + ms) (front ++ F a) lv (pc + 3) rest) : zWp X H locs k n (F0 (xm X) pc ls (.ref q :: rest)) := by
  intro T hT Xs
  rw [zfl] at hP hD
  have hq : (front.flatten ++ [(q, x)])[front.flatten.length]? = some (q, x) := by simp
  have hPf : va_P g.1 vwCl front.flatten H := fun i y hy => hP i y (by rw [List.getElem?_append_left (List.getElem?_eq_some_iff.mp hy).1]; exact hy)
  have hDf : va_D (xA X) front.flatten := ⟨fun i j y z hy hz e => hD.1 i j y z (by rw [List.getElem?_append_left (List.getElem?_eq_some_iff.mp hy).1]; exact hy) (by rw [List.getElem?_append_left (List.getElem?_eq_some_iff.mp hz).1]; exact hz) e, fun i y hy => hD.2 i y (by rw [List.getElem?_append_left (List.getElem?_eq_some_iff.mp hy).1]; exact hy)⟩
  have hne : ∀ (i : Nat) (y : Nat × va_E), front.flatten[i]? = some y → y.1 ≠ q := fun i y hy e => by
    have h1 := (List.getElem?_eq_some_iff.mp hy).1
    have h2 := hD.1 i _ y _ (by rw [List.getElem?_append_left h1]; exact hy) hq e
    omega
  have hfr : ∀ z, zA true [(q, x)] H.size z → xA X z := by
    intro z hz
    rcases hz with ⟨i, e, hz⟩ | hz
    · have h0 : i < 1 := (List.getElem?_eq_some_iff.mp hz).1
      rw [show i = 0 by omega] at hz
      cases hz
      exact hD.2 _ _ hq
    · exact ok.2.2.2.2.2.2.2.2.2.1 z (Nat.le_trans hS.1 hz)
  obtain ⟨v, st₀, t, T', L, h0, X', hL, e1, e2, ⟨hv, a, ha, hP1, hD1, hz, hk⟩, go⟩ := hr T hT Xs
  cases hv
  rw [h0] at hz hk
  have hnz : ∀ (i : Nat) (y : Nat × va_E), front.flatten[i]? = some y → y.1 < H.size ∧ ¬ zA true [(q, x)] H.size y.1 := fun i y hy => by
    have h1 := (hPf i y hy).lt
    refine ⟨h1, fun z => ?_⟩
    rcases z with ⟨j, e, z⟩ | z
    · have h0 : j < 1 := (List.getElem?_eq_some_iff.mp z).1
      rw [show j = 0 by omega] at z
      have z2 : q = y.1 := congrArg Prod.fst (Option.some.inj z)
      exact hne i y hy z2.symm
    · omega
  obtain ⟨t2, a1, b1⟩ := kk a ha ok T'.heap (locs ++ L) ls
    (by
      rw [List.flatten_append]
      exact (hPf.kept fun i y hy => by rw [e1]; exact hk y.1 (hnz i y hy).1 (hnz i y hy).2).app (by rw [e1]; exact hP1))
    (fun _ => by
      rw [List.flatten_append]
      refine hDf.app (hD1.weaken fun i y _ h => hfr y.1 h) (fun i j y z hy hz2 e => ?_)
      exact (hnz i y hy).2 (e ▸ hD1.2 j z hz2))
    ⟨Nat.le_trans hS.1 (by rw [e1]; exact hz), fun z h1 h2 => by rw [e1, hk z (Nat.lt_of_lt_of_le h1 hS.1) (fun y => h2 (hfr z y))]; exact hS.2.1 z h1 h2, fun z hz2 => by
      rcases List.mem_append.mp hz2 with h | h
      · exact hS.2.2 z h
      · exact hfr _ (hL z h)⟩ hl T' rfl X'
  exact ⟨t2, go t2 a1, b1⟩
set_option maxHeartbeats 4000000 in
theorem z_callI {E E' : zE} (hst9 : zSt E) (hst8 : zSt E') (hE : E (xA X) (xs X) (xs X).heap) (hEE : ∀ A U H, E A U H → E' A U H) {y : MethodName} {cc2 : ByteArray} {nL2 fr2 lo2 mc ms : Nat} {idx : Nat} {C : String} {T : u_T} {ci N q : Nat} {fs : List Value} {F : (Nat → Nat) → List va_W} {l : Launch} (hl : xl X = l) (hC : CtrN l g E' y cc2 nL2 fr2 lo2 mc ms q [[(q, .inr (ci, fs))]] F) (hy : zCy y cc2 nL2 none 0) (hy1 : y.name = "<init>") (hv : Cond.instanceMethod y ∈ zW) (hk1 : Cond.methodLink own idx y ∈ zW) (hcC : vwCl[ci]? = some (C, T, N)) (front : List va_W) (hw : w = front ++ [[(q, .inr (ci, fs))]]) (hroom : fr2 + 1 ≤ fr ∧ 8 + (nL2 + 11) + lo2 ≤ lo) (hsum : (rest.map fun v => v.category).sum ≤ 8) (hkn : k + mc ≤ (xR X).cells ∧ n + ms ≤ (xR X).slots) (d : decode cc pc = .ok (.invokespecial idx, 3)) (kk : ∀ a : Nat → Nat, a 0 = q → Z true own cc nL fr lo g X (k + mc) (n + ms) (front ++ F a) lv (pc + 3) rest) : Z true own cc nL fr lo g X k n w lv pc (.ref q :: rest) := by
  intro ok H locs ls hP hD hS hl9
  subst hl
  subst hw
  have hPc : va_P g.1 vwCl ([[(q, .inr (ci, fs))]] : List va_W).flatten H := zP_cut (ps := [(front.length, none)]) hP (by simp [zcut])
  have hD0 := zD_cut [(front.length, none)] (front ++ [[(q, .inr (ci, fs))]]) [[(q, .inr (ci, fs))]] (by simp [zcut]) rfl (hD rfl)
  have hDc : va_D (fun _ => True) ([[(q, .inr (ci, fs))]] : List va_W).flatten := ⟨hD0.1, fun _ _ _ => trivial⟩
  have hfr := zfree ok hD0 hS
  exact z_afterI ok hP (hD rfl) hS hl9 (va_runI (As := []) (rest := rest) (b := q) ⟨ok.1, ok.2.1, ok.2.2.2.1, ok.2.2.1, ok.2.2.2.2.1⟩ (hC H.size) (cwI 0 ok.2.2.2.2.1 (zW_good (fun _ h => h) hy.1) rfl rfl rfl (ok.2.2.2.2.1 _ hy.2.1) (ok.2.2.2.2.1 _ hk1) (ok.2.2.2.2.1 _ hv) hy1 hy.2.2 ⟨Nat.le_trans hroom.1 ok.2.2.2.2.2.2.1, Nat.le_trans hroom.2 ok.2.2.2.2.2.2.2.1⟩) ⟨zblindE hst8, zpreE hst9 hE hEE ok hS hfr hPc (fun _ => hDc)⟩ rfl rfl hl9.1 rfl (lv_room hsum) d ⟨hkn.1, hkn.2⟩) kk
set_option maxHeartbeats 4000000 in
theorem z_callIN {E E' : zE} (hst9 : zSt E) (hst8 : zSt E') (hE : E (xA X) (xs X) (xs X).heap) (hEE : ∀ A U H, E A U H → E' A U H) {y : MethodName} {cc2 : ByteArray} {nL2 fr2 lo2 mc ms : Nat} {idx : Nat} {host C : String} {T : u_T} {ci N q : Nat} {fs : List Value} {F : (Nat → Nat) → List va_W} {l : Launch} (hl : xl X = l) (hC : CtrN l g E' y cc2 nL2 fr2 lo2 mc ms q [[(q, .inr (ci, fs))]] F) (hy : zCy y cc2 nL2 none 0) (hy1 : y.name = "<init>") (hv : Cond.instanceMethod y ∈ zW) (hk1 : Cond.methodLinkNest own idx y host ∈ zN) (hcC : vwCl[ci]? = some (C, T, N)) (front : List va_W) (hw : w = front ++ [[(q, .inr (ci, fs))]]) (hroom : fr2 + 1 ≤ fr ∧ 8 + (nL2 + 11) + lo2 ≤ lo) (hsum : (rest.map fun v => v.category).sum ≤ 8) (hkn : k + mc ≤ (xR X).cells ∧ n + ms ≤ (xR X).slots) (d : decode cc pc = .ok (.invokespecial idx, 3)) (kk : ∀ a : Nat → Nat, a 0 = q → Z true own cc nL fr lo g X (k + mc) (n + ms) (front ++ F a) lv (pc + 3) rest) : Z true own cc nL fr lo g X k n w lv pc (.ref q :: rest) := by
  intro ok H locs ls hP hD hS hl9
  subst hl
  subst hw
  have hPc : va_P g.1 vwCl ([[(q, .inr (ci, fs))]] : List va_W).flatten H := zP_cut (ps := [(front.length, none)]) hP (by simp [zcut])
  have hD0 := zD_cut [(front.length, none)] (front ++ [[(q, .inr (ci, fs))]]) [[(q, .inr (ci, fs))]] (by simp [zcut]) rfl (hD rfl)
  have hDc : va_D (fun _ => True) ([[(q, .inr (ci, fs))]] : List va_W).flatten := ⟨hD0.1, fun _ _ _ => trivial⟩
  have hfr := zfree ok hD0 hS
  exact z_afterI ok hP (hD rfl) hS hl9 (va_runIN (As := []) (rest := rest) (b := q) ⟨ok.1, ok.2.1, ok.2.2.2.1, ok.2.2.1, ok.2.2.2.2.1⟩ (hC H.size) ⟨va_cnB 0 ok.2.2.2.2.1 (zW_good (fun _ h => h) hy.1) rfl rfl rfl (ok.2.2.2.2.2.2.2.2.2.2 _ hk1) (ok.2.2.2.2.1 _ hy.2.1) hy.2.2 ⟨Nat.le_trans hroom.1 ok.2.2.2.2.2.2.1, Nat.le_trans hroom.2 ok.2.2.2.2.2.2.2.1⟩, hy1, ok.2.2.2.2.1 _ hv⟩ ⟨zblindE hst8, zpreE hst9 hE hEE ok hS hfr hPc (fun _ => hDc)⟩ rfl rfl hl9.1 rfl (lv_room hsum) d ⟨hkn.1, hkn.2⟩) kk
theorem z_getsN {C nm dd ref host : String} {v : Value} {i : Nat} (hZ : va_Z C nm dd v (xA X) (xs X) (xs X).heap) (hlink : Cond.fieldLinkNest own i C nm dd host ∈ zN) (d : decode cc pc = .ok (.getstatic i, 3)) (kk : Z b own cc nL fr lo g X k n w lv (pc + 3) (v :: rest)) : Z b own cc nL fr lo g X k n w lv pc rest := fun ok H locs ls hP hD hS hl9 =>
  va_getsN ok.1 ok.2.1 hZ hS ok.2.2.1 (va_Nw.use (zNw_tab (List.mem_filter.mp hlink).2) (ok.2.2.2.2.2.2.2.2.2.2 _ hlink)) (fun _ h => h) d (kk ok H locs ls hP hD hS hl9)
theorem z_castI {a m1 : Nat} {f : Nat → Int32} {idx : Nat} {blk : va_W} (bi : Nat) (hb : w[bi]? = some blk) (q : Nat) (hq : blk[q]? = some (a, .inl (g.2.1, m1, .inl f))) (hcl : Cond.classLink own idx "[I" ∈ zW) (d : decode cc pc = .ok (.checkcast idx, 3)) (kk : Z b own cc nL fr lo g X k n w lv (pc + 3) (.ref a :: rest)) : Z b own cc nL fr lo g X k n w lv pc (.ref a :: rest) := by
  intro ok H locs ls hP hD hS hl
  obtain ⟨k1, h1, h2⟩ := zcell hb hq
  exact va_castA ok.1 ok.2.1 ok.2.2.1 (ok.2.2.2.2.1 _ hcl) hP k1 h1 (ok.2.2.2.2.2.2.2.2.1.2 0 _ rfl).2 d (kk ok H locs ls hP hD hS hl)
theorem zcl_1 : Cond.methodLink RX6 32 ⟨"[I", "clone", "()Ljava/lang/Object;"⟩ ∈ zW := zW_in 128 (by decide +kernel) (by decide +kernel)
theorem zcl_2 : Cond.sameMethod "[I" "java/lang/Object" "clone" "()Ljava/lang/Object;" ∈ zW := zW_in 129 (by decide +kernel) (by decide +kernel)
theorem zcl_3 : Cond.native ⟨"java/lang/Object", "clone", "()Ljava/lang/Object;"⟩ ∈ zW := zW_in 130 (by decide +kernel) (by decide +kernel)
theorem zcl_4 : Cond.instanceMethod ⟨"java/lang/Object", "clone", "()Ljava/lang/Object;"⟩ ∈ zW := zW_in 131 (by decide +kernel) (by decide +kernel)
theorem zcl_5 : Cond.selects "[I" ⟨"[I", "clone", "()Ljava/lang/Object;"⟩ ⟨"java/lang/Object", "clone", "()Ljava/lang/Object;"⟩ ∈ zW := zW_in 132 (by decide +kernel) (by decide +kernel)
theorem zcl_6 : Cond.castable "[I" "java/lang/Cloneable" ∈ zN := zN_in 133 (by decide +kernel) rfl
theorem zcl_7 : Cond.fieldLinkNest RX6 29 "DrawerRing" "FIRST_VALUES" "[I" "DrawerRing" ∈ zN := zN_in 126 (by decide +kernel) rfl
theorem zcl_8 : Cond.classLink RX6 33 "[I" ∈ zW := zW_in 134 (by decide +kernel) (by decide +kernel)
set_option maxHeartbeats 4000000 in
/-- a copy of the row of first values -/
theorem z_clone {t : Nat} {cell : Cell} (hcell : (xs X).heap[t]? = some cell) (hnm : (xs X).vm.findClass "[I" = some cell.cls) (hu : cell.vm ≠ .unknown) (hs : ∀ k, cell.vm ≠ .statics k) (hsl : cell.slots = #[.int 60, .int 50, .int 0]) (hA : ¬ xA X t) (hroom : 1 ≤ fr ∧ (rest.map fun v => v.category).sum + 14 ≤ lo) (hkn : k + 1 ≤ (xR X).cells ∧ n + 3 ≤ (xR X).slots) (d : decode cc pc = .ok (.invokevirtual 32, 3)) (kk : ∀ q : Nat, Z true RX6 cc nL fr lo g X (k + 1) (n + 3) (w ++ [[(q, .inl (g.2.1, 3, .inl zFirst))]]) lv (pc + 3) (.ref q :: rest)) : Z true RX6 cc nL fr lo g X k n w lv pc (.ref t :: rest) := by
  intro ok H locs ls hP hD hS hl
  have hfr := ok.2.2.2.2.2.2.1
  have hlo := ok.2.2.2.2.2.2.2.1
  have hK := ok.2.2.2.2.2.2.2.2.1
  obtain ⟨c0, t0', f1, f2, f3⟩ := Cond.castable_spec (va_Nw.use (A := xa X) rfl (ok.2.2.2.2.2.2.2.2.2.2 _ zcl_6))
  cases hnm.symm.trans f1
  intro T hT Xs
  have hlt := (Array.getElem?_eq_some_iff.mp hcell).1
  have hcellT : T.heap[t]? = some cell := by rw [hT, hS.2.1 t hlt hA]; exact hcell
  have hcA : g.2.1 = cell.cls := Option.some.inj (((hK.2 0 _ rfl).2 : (xs X).vm.findClass "[I" = some g.2.1).symm.trans hnm)
  obtain ⟨-, kA, hkA, comp, hkind⟩ := State.isArrayOf_alike Xs.warmed.alike ((hK.2 0 _ rfl).1 0 (fun _ => .null))
  obtain ⟨-, kS, hkS, compS, hkindS⟩ := (hK.2 0 _ rfl).1 0 (fun _ => .null)
  have hkA : T.vm.classes[cell.cls]? = some kA := by rw [← hcA]; exact hkA
  have hkS : (xs X).vm.classes[cell.cls]? = some kS := by rw [← hcA]; exact hkS
  have hsz : cell.slots.size = 3 := by rw [hsl]; rfl
  obtain ⟨vm', X', st⟩ := Xs.cloneArray ok.1 ok.2.2.1 (ok.2.2.2.2.1 _ zcl_1) (ok.2.2.2.2.1 _ zcl_2) (ok.2.2.2.2.1 _ zcl_3) (ok.2.2.2.2.1 _ zcl_4) (ok.2.2.2.2.1 _ zcl_5) (a := t) (cell := cell) hcellT hs hu hnm f2 f3
    (fun i v hv => by
      have hv2 : v = .int 60 ∨ v = .int 50 ∨ v = .int 0 := by
        rw [hsl] at hv
        have hi : i < 3 := (Array.getElem?_eq_some_iff.mp hv).1
        rcases (show i = 0 ∨ i = 1 ∨ i = 2 by omega) with rfl | rfl | rfl
        · exact Or.inl (Option.some.inj hv).symm
        · exact Or.inr (Or.inl (Option.some.inj hv).symm)
        · exact Or.inr (Or.inr (Option.some.inj hv).symm)
      have hfit : fits .int v = true := by rcases hv2 with rfl | rfl | rfl <;> rfl
      simpa [State.fitsSlot, State.slotType?, hkA, hkind] using hfit)
    (g := F0 (xm X) pc ls (.ref t :: rest)) rfl (hl.1.trans ok.2.2.2.1.symm) rfl (by rw [ok.2.1]; exact d) (by omega) (by show 2 * 0 + _ + 14 ≤ _; omega) hkn.1 (by rw [hsz]; exact hkn.2) (hloader := Vm.clonesLoader_of_array hkS hkindS)
  rw [hsz] at X'
  have hcE : ({ cls := cell.cls, slots := cell.slots } : Cell) = vp_cell g.2.1 (3, .inl zFirst) := by
    show _ = arrV g.2.1 3 (fun j => .int (zFirst j))
    unfold arrV
    rw [hsl, hcA]
    rfl
  rw [hcE] at X' st
  generalize hH1 : H.push (vp_cell g.2.1 (3, .inl zFirst)) = H1
  have z1 : H1.size = H.size + 1 := by rw [← hH1, Array.size_push]
  have e1 : H1[H.size]? = some (vp_cell g.2.1 (3, .inl zFirst)) := by rw [← hH1, Array.getElem?_push_size]
  have o1 : ∀ q : Nat, q < H.size → H1[q]? = H[q]? := fun q hq => by rw [← hH1, Array.getElem?_push, if_neg (Nat.ne_of_lt hq)]
  have hk : ∀ (k : Nat) (y : Nat × va_E), w.flatten[k]? = some y → H1[y.1]? = H[y.1]? := fun k y hy => o1 y.1 ((hP k y hy).lt)
  obtain ⟨t2, b1, b2⟩ := kk H.size ok H1 locs ls
    (by
      rw [zfl]
      refine (hP.kept hk).app (fun i x hx => ?_)
      have hz : i < 1 := (List.getElem?_eq_some_iff.mp hx).1
      rw [show i = 0 by omega] at hx
      cases hx
      exact e1)
    (fun _ => by rw [zfl]; exact (hD rfl).push hP rfl (ok.2.2.2.2.2.2.2.2.2.1 _ hS.1))
    ⟨Nat.le_trans hS.1 (by omega), fun x h1 h2 => (o1 x (Nat.lt_of_lt_of_le h1 hS.1)).trans (hS.2.1 x h1 h2), hS.2.2⟩ hl _ (by show T.heap.push _ = H1; rw [hT]; exact hH1) X'
  refine ⟨t2, st t2 ?_, b2⟩
  rw [hT]
  exact b1
end ZN
theorem zqX0_0 : (TX0 0).2.2.2 = true ∧ parseFieldDescriptor (TX0 0).2.2.1 = some (.array .int) := by decide +kernel
theorem zqX0_1 : (TX0 1).2.2.2 = true ∧ parseFieldDescriptor (TX0 1).2.2.1 = some (.array .int) := by decide +kernel
theorem zqX1_0 : (TX1 0).2.2.2 = true ∧ parseFieldDescriptor (TX1 0).2.2.1 = some (.array .int) := by decide +kernel
theorem zqX1_2 : (TX1 2).2.2.2 = true ∧ parseFieldDescriptor (TX1 2).2.2.1 = some (.array .int) := by decide +kernel
theorem zqX2_0 : (TX2 0).2.2.2 = true ∧ parseFieldDescriptor (TX2 0).2.2.1 = some (.array (.object "DrawerRing$State")) := by decide +kernel
theorem zqX3_0 : (TX3 0).2.2.2 = true ∧ parseFieldDescriptor (TX3 0).2.2.1 = some (.array .int) := by decide +kernel
theorem zqX3_1 : (TX3 1).2.2.2 = true ∧ parseFieldDescriptor (TX3 1).2.2.1 = some (.array .int) := by decide +kernel
theorem zqX3_2 : (TX3 2).2.2.2 = true ∧ parseFieldDescriptor (TX3 2).2.2.1 = some (.array .int) := by decide +kernel
theorem zqX4_0 : (TX4 0).2.2.2 = true ∧ parseFieldDescriptor (TX4 0).2.2.1 = some (.array .int) := by decide +kernel
theorem zqX4_1 : (TX4 1).2.2.2 = true ∧ parseFieldDescriptor (TX4 1).2.2.1 = some (.object "DrawerRing$Balance") := by decide +kernel
theorem zqX4_2 : (TX4 2).2.2.2 = true ∧ parseFieldDescriptor (TX4 2).2.2.1 = some (.array .int) := by decide +kernel
theorem zqX4_3 : (TX4 3).2.2.2 = true ∧ parseFieldDescriptor (TX4 3).2.2.1 = some (.array .int) := by decide +kernel
theorem zqX4_4 : (TX4 4).2.2.2 = true ∧ parseFieldDescriptor (TX4 4).2.2.1 = some (.array .int) := by decide +kernel
theorem zqX4_5 : (TX4 5).2.2.2 = true ∧ parseFieldDescriptor (TX4 5).2.2.1 = some (.array .int) := by decide +kernel
theorem zqX5_0 : (TX5 0).2.2.2 = true ∧ parseFieldDescriptor (TX5 0).2.2.1 = some (.object "DrawerRing$OrderSearch") := by decide +kernel
theorem zqX6_0 : (TX6 0).2.2.2 = true ∧ parseFieldDescriptor (TX6 0).2.2.1 = some (.object "DrawerRing$Balance") := by decide +kernel
theorem zqX6_1 : (TX6 1).2.2.2 = true ∧ parseFieldDescriptor (TX6 1).2.2.1 = some (.object "DrawerRing$Items") := by decide +kernel
theorem zqX6_2 : (TX6 2).2.2.2 = true ∧ parseFieldDescriptor (TX6 2).2.2.1 = some (.array .int) := by decide +kernel
theorem zqX6_3 : (TX6 3).2.2.2 = true ∧ parseFieldDescriptor (TX6 3).2.2.1 = some (.array .int) := by decide +kernel
theorem zqX7_0 : (TX7 0).2.2.2 = true ∧ parseFieldDescriptor (TX7 0).2.2.1 = some (.object "DrawerRing$State") := by decide +kernel
theorem zqX7_1 : (TX7 1).2.2.2 = true ∧ parseFieldDescriptor (TX7 1).2.2.1 = some (.object "DrawerRing$State") := by decide +kernel
theorem zqX7_2 : (TX7 2).2.2.2 = true ∧ parseFieldDescriptor (TX7 2).2.2.1 = some (.object "DrawerRing$History") := by decide +kernel
theorem zqX7_3 : (TX7 3).2.2.2 = true ∧ parseFieldDescriptor (TX7 3).2.2.1 = some (.object "DrawerRing$BatchText") := by decide +kernel
theorem zqX7_4 : (TX7 4).2.2.2 = true ∧ parseFieldDescriptor (TX7 4).2.2.1 = some (.object "DrawerRing$Picker") := by decide +kernel
theorem zqX8_1 : (TX8 1).2.2.2 = true ∧ parseFieldDescriptor (TX8 1).2.2.1 = some (.array .int) := by decide +kernel
theorem zqX8_2 : (TX8 2).2.2.2 = true ∧ parseFieldDescriptor (TX8 2).2.2.1 = some (.array .int) := by decide +kernel
theorem zqX8_3 : (TX8 3).2.2.2 = true ∧ parseFieldDescriptor (TX8 3).2.2.1 = some (.array .int) := by decide +kernel
theorem zqX8_5 : (TX8 5).2.2.2 = true ∧ parseFieldDescriptor (TX8 5).2.2.1 = some (.array .int) := by decide +kernel
theorem zqX8_9 : (TX8 9).2.2.2 = true ∧ parseFieldDescriptor (TX8 9).2.2.1 = some (.array .int) := by decide +kernel
theorem zqX8_11 : (TX8 11).2.2.2 = true ∧ parseFieldDescriptor (TX8 11).2.2.1 = some (.array .int) := by decide +kernel
theorem zqX8_12 : (TX8 12).2.2.2 = true ∧ parseFieldDescriptor (TX8 12).2.2.1 = some (.array .int) := by decide +kernel
theorem zqX8_13 : (TX8 13).2.2.2 = true ∧ parseFieldDescriptor (TX8 13).2.2.1 = some (.array .boolean) := by decide +kernel
theorem zqX8_14 : (TX8 14).2.2.2 = true ∧ parseFieldDescriptor (TX8 14).2.2.1 = some (.array .int) := by decide +kernel
