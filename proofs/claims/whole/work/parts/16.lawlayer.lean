/-! THE LAW'S LAYER: a method with a table of its own, calls that are caught, rows of longs, the script. -/
def zwsH (y : MethodName) (cc : ByteArray) (nL : Nat) (ret : Option FieldType) (hh : List (Nat × Nat × Nat × Nat)) : List Cond := Cond.codeWith y cc nL ret hh :: zW
def zCyH (y : MethodName) (cc : ByteArray) (nL : Nat) (ret : Option FieldType) (hh : List (Nat × Nat × Nat × Nat)) (na : Nat) : Prop := Cond.codeWith y cc nL ret hh ∈ zW ∧ Cond.initialized y.cls ∈ zW ∧ zYn y na
def CtrH (l : Launch) (g : zG) (b : Bool) (E : zE) (y : MethodName) (cc : ByteArray) (nL : Nat) (ret : Option FieldType) (hh : List (Nat × Nat × Nat × Nat)) (fr lo mc ms : Nat) (args : List Value) (w w1 : List va_W) (rv : Option Value) : Prop :=
  ∀ sz : Nat, vx_Met l y (zwsH y cc nL ret hh) ({ frames := fr, cells := mc, slots := ms, locals := lo }) (zPcE g b E args w.flatten sz) (zQc g b w.flatten w1.flatten rv sz) (fun _ _ _ => False) mc ms (zA b w.flatten sz)
set_option maxHeartbeats 4000000 in
theorem ctrh_of {l : Launch} {g : zG} {b : Bool} {E : zE} {own name desc : String} {cc : ByteArray} {nL : Nat} {ret : Option FieldType} {hh : List (Nat × Nat × Nat × Nat)} {fr lo mc ms : Nat} {args : List Value} {w w1 : List va_W} {rv : Option Value} (hy : plainName own = true) (hn : (lg_sl args).length ≤ nL)
    (h : ∀ X : zX, xl X = l → (xR X).cells = mc → (xR X).slots = ms → (xc X).exceptionTable.toList = tableOf hh → E (xA X) (xs X) (xs X).heap → zFin b g ret X mc ms w1 rv → Z b own cc nL fr lo g X 0 0 w (lv_args 0 args) 0 []) : CtrH l g b E ⟨own, name, desc⟩ cc nL ret hh fr lo mc ms args w w1 rv := by
  intro sz
  refine vx_ofWH (cc := cc) (maxL := nL) (ret := ret) (hh := hh) hy rfl ?_
  intro p e s m args' below meth c s₁ B hml hv
  obtain ⟨⟨rfl, hsz, hP, hK, hD0, hN⟩, hE⟩ := hv
  subst hsz
  have hts := atoms_spec (ws := zwsH ⟨own, name, desc⟩ cc nL ret hh) B.pre
  have hl := lv_entry args (n := nL) hn
  rw [lg_entry_eq]
  refine h (p, l, e, (headSpec (zwsH ⟨own, name, desc⟩ cc nL ret hh) ({ frames := fr, cells := mc, slots := ms, locals := lo })).room, s, m, args.toArray, below, meth, c, _, zA b w.flatten s.heap.size) rfl rfl rfl (vx_table (x := ⟨own, name, desc⟩) B (hts _ List.mem_cons_self)) hE ?_ ?_ s.heap [] _ hP ?_ va_S.rf hl
  · refine ⟨B.returns, fun f H locs hP1 hD1 hS hW => W.mono hW fun t ht => ?_⟩
    obtain ⟨o1, h1, h2, ⟨h3, h4⟩, L, ⟨h5, h6, h7⟩, h8⟩ := ht
    exact ⟨o1, h1, h2, Or.inl ⟨⟨h3, by rw [h4]; exact hP1, hD1, hS.F h4⟩, L, ⟨h5, h6, h7⟩, h8⟩⟩
  · exact ⟨B.exec, B.bytes, findClass_of_methodNamed B.named, hml, fun w hw => hts w (List.mem_cons_of_mem _ hw), B.notSynchronized, Nat.le_refl _, Nat.le_refl _, hK, zA_new, hN⟩
  · intro hb
    subst hb
    exact (hD0 rfl).self
/-- what the handler at h, of the row that takes Ex, wants -/
def zCat (X : zX) (own : String) (pc : Nat) (Ex : String) (h : Nat) : Prop := ∃ (pre : List ExceptionTableEntry) (x : ExceptionTableEntry) (suf : List ExceptionTableEntry), (xc X).exceptionTable.toList = pre ++ x :: suf ∧ (∀ z ∈ pre, covers z pc = false ∨ (z.catchType ≠ 0 ∧ ∃ nm : String, Cond.classLink own z.catchType nm ∈ zW ∧ va_Nc Ex nm (xs X))) ∧ covers x pc = true ∧ x.catchType ≠ 0 ∧ Cond.classLink own x.catchType Ex ∈ zW ∧ Cond.castable Ex Ex ∈ zN ∧ x.handlerPc = h
section ZH
variable {b : Bool} {own : String} {cc : ByteArray} {nL fr lo : Nat} {g : zG} {X : zX} {k n : Nat} {w w' : List va_W} {lv lv' : List (Nat × Value)} {pc : Nat} {st rest : List Value}
set_option maxHeartbeats 4000000 in
theorem z_afterxx {b' : Bool} {wc w1 : va_W} {o : Option Value ⊕ String} {mc ms : Nat} {a : Array Value} {H : Heap} {locs : List Loc} {ls : Array Slot} (hS : va_S (xA X) (xs X).heap H locs) (hAf : ∀ q, zA b' wc H.size q → xA X q)
    (hr : vx_Run (xp X) (xl X) (xe X) (xR X) (xs X) (xm X) (xa X) (xb X) (xme X) (xc X) H locs k n mc ms (F0 (xm X) pc ls st) rest (zQx g b' wc w1 o H.size a) (zXx g b' wc w1 o H.size) (zA b' wc H.size))
    (kk : ∀ rv, o = .inl rv → ∀ (H1 : Heap) (locs1 : List Loc), va_P g.1 vwCl w1 H1 → (b' = true → va_D (zA b' wc H.size) w1) → (∀ q : Nat, q < H.size → ¬ zA b' wc H.size q → H1[q]? = H[q]?) → va_S (xA X) (xs X).heap H1 locs1 → zWp X H1 locs1 (k + mc) (n + ms) (F0 (xm X) (pc + 3) ls (rv.toList ++ rest)))
    (kx : ∀ Ex q ce, o = .inr Ex → ∀ (H1 : Heap) (locs1 : List Loc), va_P g.1 vwCl w1 H1 → (b' = true → va_D (zA b' wc H.size) w1) → (∀ q : Nat, q < H.size → ¬ zA b' wc H.size q → H1[q]? = H[q]?) → va_S (xA X) (xs X).heap H1 locs1 → H1[q]? = some ce → ce.vm = .none → (xs X).vm.findClass Ex = some ce.cls → vx_W (xp X) (xl X) (xe X) (xR X) (xs X) (xm X) (xa X) (xb X) (xme X) (xc X) H1 locs1 (k + mc) (n + ms) (xQ X) (F0 (xm X) pc ls rest) q) : zWp X H locs k n (F0 (xm X) pc ls st) := by
  intro T hT Xs
  rcases hr T hT Xs with ⟨v, st₀, t, T', L, h0, X', hL, e1, e2, ⟨rv9, ho, hv, hP1, hD1, hz, hk⟩, go⟩ | ⟨q, st₀, t, T', L, E, ce, h0, X', hL, e1, e2, ⟨ho, hP1, hD1, hz, hk⟩, hce, hcv, hcl, go⟩
  · cases hv
    rw [h0] at hz hk
    obtain ⟨t2, a1, b1⟩ := kk _ ho T'.heap (locs ++ L) (by rw [e1]; exact hP1) hD1 (fun q h1 h2 => by rw [e1]; exact hk q h1 h2)
      ⟨Nat.le_trans hS.1 (by rw [e1]; exact hz), fun q h1 h2 => by rw [e1, hk q (Nat.lt_of_lt_of_le h1 hS.1) (fun z => h2 (hAf q z))]; exact hS.2.1 q h1 h2, fun q hq => by
        rcases List.mem_append.mp hq with h | h
        · exact hS.2.2 q h
        · exact hAf _ (hL q h)⟩ T' rfl X'
    exact ⟨t2, go t2 a1, b1⟩
  · rw [h0] at hz hk
    obtain ⟨t2, a1, b1⟩ := kx _ q ce ho T'.heap (locs ++ L) (by rw [e1]; exact hP1) hD1 (fun q h1 h2 => by rw [e1]; exact hk q h1 h2)
      ⟨Nat.le_trans hS.1 (by rw [e1]; exact hz), fun q h1 h2 => by rw [e1, hk q (Nat.lt_of_lt_of_le h1 hS.1) (fun z => h2 (hAf q z))]; exact hS.2.1 q h1 h2, fun q hq => by
        rcases List.mem_append.mp hq with h | h
        · exact hS.2.2 q h
        · exact hAf _ (hL q h)⟩ (by rw [e1]; exact hce) hcv hcl T' rfl X'
    exact ⟨t2, Steps.trans go a1, b1⟩
theorem z_caught {Ex : String} {h : Nat} {q : Nat} {ce : Cell} {H : Heap} {locs : List Loc} {ls : Array Slot} (hc : zCat X own pc Ex h) (ok : zOk own cc nL fr lo g X) (hce : H[q]? = some ce) (hcv : ce.vm = .none) (hcl : (xs X).vm.findClass Ex = some ce.cls) (kk : zWp X H locs k n (F0 (xm X) h ls [.ref q])) : vx_W (xp X) (xl X) (xe X) (xR X) (xs X) (xm X) (xa X) (xb X) (xme X) (xc X) H locs k n (xQ X) (F0 (xm X) pc ls rest) q := by
  obtain ⟨pre, x, suf, h1, h2, h3, h4, h5, h6, rfl⟩ := hc
  refine vx_catch ok.2.2.1 pre x suf h1 (fun z hz => ?_) h3 h4 (ok.2.2.2.2.1 _ h5) (va_Nw.use (zNw_tab (List.mem_filter.mp h6).2) (ok.2.2.2.2.2.2.2.2.2.2 _ h6)) hce hcv hcl kk
  rcases h2 z hz with h | ⟨h, nm, h7, h8⟩
  · exact Or.inl h
  · exact Or.inr ⟨h, nm, ok.2.2.2.2.1 _ h7, h8⟩
set_option maxHeartbeats 4000000 in
/-- a virtual call that may throw, caught here -/
theorem z_callVXW {E : zE} (hst9 : zSt E) (hE : E (xA X) (xs X) (xs X).heap) {y : MethodName} {cc2 : ByteArray} {nL2 fr2 lo2 na mc ms : Nat} {ret2 : Option FieldType} {idx : Nat} {C : String} {T : u_T} {ci N r : Nat} {fs : List Value} {As : List Value} {wc w1 : List va_W} {r1 : Int32 ⊕ Nat} {l : Launch} (hl : xl X = l) (hC : CtrX l g true E y cc2 nL2 ret2 fr2 lo2 mc ms (.ref r :: As) wc w1 (zo r1)) (hy : zCy y cc2 nL2 ret2 na) (hv : Cond.instanceMethod y ∈ zW ∧ Cond.selects C y y ∈ zW) (hyC : y.cls = C) (hk1 : Cond.methodLink own idx y ∈ zW) (hcC : vwCl[ci]? = some (C, T, N)) (hrec : ∃ (c0 : va_W) (ct : List va_W), wc = ((r, .inr (ci, fs)) :: c0) :: ct) (ps : List zPl) (hcut : ps.map (zcut w) = wc.map some) (hnd : znd ps = true) (hfst : w1.map (List.map Prod.fst) = wc.map (List.map Prod.fst)) (hw : zrep w ps w1 = w') (hna : As.length = na) (hst : st = As.reverse ++ .ref r :: rest) (hroom : fr2 + 1 ≤ fr ∧ 8 + (nL2 + 11) + lo2 ≤ lo) (hsum : (rest.map fun v => v.category).sum ≤ 8) (hkn : k + mc ≤ (xR X).cells ∧ n + ms ≤ (xR X).slots) (d : decode cc pc = .ok (.invokevirtual idx, 3)) (kk : ∀ v, r1 = .inl v → Z true own cc nL fr lo g X (k + mc) (n + ms) w' lv (pc + 3) (.int v :: rest)) (kx : ∀ e, r1 = .inr e → ∃ h, zCat X own pc (exN e) h ∧ ∀ q, Z true own cc nL fr lo g X (k + mc) (n + ms) w' lv h [.ref q]) : Z true own cc nL fr lo g X k n w lv pc st := by
  intro ok H locs ls hP hD hS hl9
  subst hl
  have hPc : va_P g.1 vwCl wc.flatten H := zP_cut hP hcut
  have hD0 := zD_cut ps w wc hcut hnd (hD rfl)
  have hDc : va_D (fun _ => True) wc.flatten := ⟨hD0.1, fun _ _ _ => trivial⟩
  have hfr := zfree ok hD0 hS
  refine z_afterxx (b' := true) hS hfr (vx_runV (As := As) (rest := rest) (b := r) ⟨ok.1, ok.2.1, ok.2.2.2.1, ok.2.2.1, ok.2.2.2.2.1⟩ (hC H.size) (cwV na ok.2.2.2.2.1 (zfr (fun _ h => h) hy hyC hv hk1) rfl rfl rfl ⟨hyC, hy.2.2⟩ ⟨Nat.le_trans hroom.1 ok.2.2.2.2.2.2.1, Nat.le_trans hroom.2 ok.2.2.2.2.2.2.2.1⟩) ⟨zblindE hst9, va_recv (q0 := 0) ok.2.2.2.2.2.2.2.2.1 hPc hcC (by obtain ⟨c0, ct, rfl⟩ := hrec; rfl), zpreE hst9 hE (fun _ _ _ h => h) ok hS hfr hPc (fun _ => hDc)⟩ rfl hna hl9.1 hst (lv_room hsum) d ⟨hkn.1, hkn.2⟩) (fun rv ho H1 locs1 hP1 hD1 hk1 hS1 => ?_) (fun Ex q ce ho H1 locs1 hP1 hD1 hk1 hS1 hce hcv hcl => ?_)
  · obtain ⟨hP2, hD2⟩ := zjoin hP (hD rfl) ps hcut hnd hfst hk1 hP1
    rw [hw] at hP2 hD2
    rcases r1 with v | e
    · obtain rfl := Sum.inl.inj (show (Sum.inl (some (.int v)) : Option Value ⊕ String) = .inl rv from ho)
      exact kk v rfl ok H1 locs1 ls hP2 (fun _ => hD2) hS1 hl9
    · cases (show (Sum.inr (exN e) : Option Value ⊕ String) = .inl rv from ho)
  · obtain ⟨hP2, hD2⟩ := zjoin hP (hD rfl) ps hcut hnd hfst hk1 hP1
    rw [hw] at hP2 hD2
    rcases r1 with v | e
    · cases (show (Sum.inl (some (.int v)) : Option Value ⊕ String) = .inr Ex from ho)
    · obtain rfl := Sum.inr.inj (show (Sum.inr (exN e) : Option Value ⊕ String) = .inr Ex from ho)
      obtain ⟨h, hc, kz⟩ := kx e rfl
      exact z_caught hc ok hce hcv hcl (kz q ok H1 locs1 ls hP2 (fun _ => hD2) hS1 hl9)
set_option maxHeartbeats 4000000 in
/-- .. of a method that looks alone -/
theorem z_callVXR {E : zE} (hst9 : zSt E) (hE : E (xA X) (xs X) (xs X).heap) {y : MethodName} {cc2 : ByteArray} {nL2 fr2 lo2 na mc ms : Nat} {ret2 : Option FieldType} {idx : Nat} {C : String} {T : u_T} {ci N r : Nat} {fs : List Value} {As : List Value} {wc w1 : List va_W} {r1 : Int32 ⊕ Nat} {l : Launch} (hl : xl X = l) (hC : CtrX l g false E y cc2 nL2 ret2 fr2 lo2 mc ms (.ref r :: As) wc w1 (zo r1)) (hy : zCy y cc2 nL2 ret2 na) (hv : Cond.instanceMethod y ∈ zW ∧ Cond.selects C y y ∈ zW) (hyC : y.cls = C) (hk1 : Cond.methodLink own idx y ∈ zW) (hcC : vwCl[ci]? = some (C, T, N)) (hrec : ∃ (c0 : va_W) (ct : List va_W), wc = ((r, .inr (ci, fs)) :: c0) :: ct) (ps : List zPl) (hcut : ps.map (zcut w) = wc.map some) (hna : As.length = na) (hst : st = As.reverse ++ .ref r :: rest) (hroom : fr2 + 1 ≤ fr ∧ 8 + (nL2 + 11) + lo2 ≤ lo) (hsum : (rest.map fun v => v.category).sum ≤ 8) (hkn : k + mc ≤ (xR X).cells ∧ n + ms ≤ (xR X).slots) (d : decode cc pc = .ok (.invokevirtual idx, 3)) (kk : ∀ v, r1 = .inl v → Z b own cc nL fr lo g X (k + mc) (n + ms) w lv (pc + 3) (.int v :: rest)) (kx : ∀ e, r1 = .inr e → ∃ h, zCat X own pc (exN e) h ∧ ∀ q, Z b own cc nL fr lo g X (k + mc) (n + ms) w lv h [.ref q]) : Z b own cc nL fr lo g X k n w lv pc st := by
  intro ok H locs ls hP hD hS hl9
  subst hl
  have hPc : va_P g.1 vwCl wc.flatten H := zP_cut hP hcut
  have hfr := zfree0 (wc := wc.flatten) ok hS
  refine z_afterxx (b' := false) hS hfr (vx_runV (As := As) (rest := rest) (b := r) ⟨ok.1, ok.2.1, ok.2.2.2.1, ok.2.2.1, ok.2.2.2.2.1⟩ (hC H.size) (cwV na ok.2.2.2.2.1 (zfr (fun _ h => h) hy hyC hv hk1) rfl rfl rfl ⟨hyC, hy.2.2⟩ ⟨Nat.le_trans hroom.1 ok.2.2.2.2.2.2.1, Nat.le_trans hroom.2 ok.2.2.2.2.2.2.2.1⟩) ⟨zblindE hst9, va_recv (q0 := 0) ok.2.2.2.2.2.2.2.2.1 hPc hcC (by obtain ⟨c0, ct, rfl⟩ := hrec; rfl), zpreE hst9 hE (fun _ _ _ h => h) ok hS hfr hPc (fun h => by cases h)⟩ rfl hna hl9.1 hst (lv_room hsum) d ⟨hkn.1, hkn.2⟩) (fun rv ho H1 locs1 hP1 hD1 hk1 hS1 => ?_) (fun Ex q ce ho H1 locs1 hP1 hD1 hk1 hS1 hce hcv hcl => ?_)
  · have hP2 := zP_kept hP fun q h => hk1 q h (Nat.not_le.mpr h)
    rcases r1 with v | e
    · obtain rfl := Sum.inl.inj (show (Sum.inl (some (.int v)) : Option Value ⊕ String) = .inl rv from ho)
      exact kk v rfl ok H1 locs1 ls hP2 hD hS1 hl9
    · cases (show (Sum.inr (exN e) : Option Value ⊕ String) = .inl rv from ho)
  · have hP2 := zP_kept hP fun q h => hk1 q h (Nat.not_le.mpr h)
    rcases r1 with v | e
    · cases (show (Sum.inl (some (.int v)) : Option Value ⊕ String) = .inr Ex from ho)
    · obtain rfl := Sum.inr.inj (show (Sum.inr (exN e) : Option Value ⊕ String) = .inr Ex from ho)
      obtain ⟨h, hc, kz⟩ := kx e rfl
      exact z_caught hc ok hce hcv hcl (kz q ok H1 locs1 ls hP2 hD hS1 hl9)
theorem zfsH {Ts : List Cond} {y : MethodName} {own : String} {idx : Nat} {cc : ByteArray} {nL : Nat} {ret : Option FieldType} {hh : List (Nat × Nat × Nat × Nat)} {na : Nat} (hT : ∀ w ∈ zW, w ∈ Ts) (hy : zCyH y cc nL ret hh na) (hv : Cond.static y ∈ zW) (hl : Cond.methodLink own idx y ∈ zW) : GoodIn Ts (va_wsS own idx y (zwsH y cc nL ret hh)) := by
  have ok : ∀ w ∈ zW, w ∈ Ts ∧ ((w.onTables && w.keeps) = true ∨ ∃ ty, w = .arrayClass ty) := fun w h => ⟨hT w h, good_of_word (List.mem_filter.mp h).2⟩
  refine zG_app (fun w h => ?_) (fun w h => ?_)
  · simp only [List.mem_cons, List.not_mem_nil, or_false] at h
    rcases h with rfl | rfl | rfl
    · exact ok _ hl
    · exact ok _ hv
    · exact ok _ hy.2.1
  · rcases List.mem_cons.mp h with rfl | h
    · exact ok _ hy.1
    · exact ok _ h
set_option maxHeartbeats 4000000 in
/-- a static call of a method with a table of its own -/
theorem z_callH {E : zE} (hst9 : zSt E) (hE : E (xA X) (xs X) (xs X).heap) {y : MethodName} {cc2 : ByteArray} {nL2 fr2 lo2 na mc ms : Nat} {ret2 : Option FieldType} {hh : List (Nat × Nat × Nat × Nat)} {idx : Nat} {As : List Value} {wc w1 : List va_W} {rv : Option Value} {l : Launch} (hl : xl X = l) (hC : CtrH l g true E y cc2 nL2 ret2 hh fr2 lo2 mc ms As wc w1 rv) (hy : zCyH y cc2 nL2 ret2 hh na) (hv : Cond.static y ∈ zW) (hk1 : Cond.methodLink own idx y ∈ zW) (ps : List zPl) (hcut : ps.map (zcut w) = wc.map some) (hnd : znd ps = true) (hfst : w1.map (List.map Prod.fst) = wc.map (List.map Prod.fst)) (hw : zrep w ps w1 = w') (hna : As.length = na) (hst : st = As.reverse ++ rest) (hroom : fr2 + 1 ≤ fr ∧ 8 + (nL2 + 11) + lo2 ≤ lo) (hsum : (rest.map fun v => v.category).sum ≤ 8) (hkn : k + mc ≤ (xR X).cells ∧ n + ms ≤ (xR X).slots) (d : decode cc pc = .ok (.invokestatic idx, 3)) {st2 : List Value} (h2 : rv.toList ++ rest = st2) (kk : Z true own cc nL fr lo g X (k + mc) (n + ms) w' lv (pc + 3) st2) : Z true own cc nL fr lo g X k n w lv pc st := by
  intro ok H locs ls hP hD hS hl9
  subst hl
  subst h2
  have hPc : va_P g.1 vwCl wc.flatten H := zP_cut hP hcut
  have hD0 := zD_cut ps w wc hcut hnd (hD rfl)
  have hDc : va_D (fun _ => True) wc.flatten := ⟨hD0.1, fun _ _ _ => trivial⟩
  have hfr := zfree ok hD0 hS
  intro T hT Xs
  have hr : vx_Run (xp X) (xl X) (xe X) (xR X) (xs X) (xm X) (xa X) (xb X) (xme X) (xc X) H locs k n mc ms (F0 (xm X) pc ls st) rest (zQc g true wc.flatten w1.flatten rv H.size As.toArray) (fun _ _ _ => False) (zA true wc.flatten H.size) := vx_runSX (hh := hh) (As := As) (rest := rest) (H := H) (locs := locs) (cells := k) (slots := n) (g := F0 (xm X) pc ls st) ⟨ok.1, ok.2.1, ok.2.2.2.1, ok.2.2.1, ok.2.2.2.2.1⟩ (hC H.size) (vx_cwSW (hh := hh) na ok.2.2.2.2.1 (zfsH (fun _ h => h) hy hv hk1) rfl rfl rfl hy.2.2 ⟨Nat.le_trans hroom.1 ok.2.2.2.2.2.2.1, Nat.le_trans hroom.2 ok.2.2.2.2.2.2.2.1⟩) ⟨zblindE hst9, zpreE hst9 hE (fun _ _ _ h => h) ok hS hfr hPc (fun _ => hDc)⟩ rfl hna hl9.1 hst (lv_room hsum) d ⟨hkn.1, hkn.2⟩
  rcases hr T hT Xs with ⟨v, st₀, t, T', L, h0, X', hL, e1, e2, ⟨hv, hP1, hD1, hz, hk⟩, go⟩ | ⟨q, st₀, t, T', L, E, ce, h0, X', hL, e1, e2, hF, -⟩
  · cases hv
    rw [h0] at hz hk
    obtain ⟨hP2, hD2⟩ := zjoin hP (hD rfl) ps hcut hnd hfst hk hP1
    rw [hw] at hP2 hD2
    obtain ⟨t2, a1, b1⟩ := kk ok T'.heap (locs ++ L) ls (by rw [e1]; exact hP2) (fun _ => hD2)
      ⟨Nat.le_trans hS.1 (by rw [e1]; exact hz), fun q h1 h2 => by rw [e1, hk q (Nat.lt_of_lt_of_le h1 hS.1) (fun z => h2 (hfr q z))]; exact hS.2.1 q h1 h2, fun q hq => by
        rcases List.mem_append.mp hq with h | h
        · exact hS.2.2 q h
        · exact hfr _ (hL q h)⟩ hl9 T' rfl X'
    exact ⟨t2, go t2 a1, b1⟩
  · exact hF.elim
/-- rows of longs -/
theorem z_laldI {a m1 : Nat} {f : Nat → Int64} {i : Int32} {blk : va_W} (bi : Nat) (hb : w[bi]? = some blk) (q : Nat) (hq : blk[q]? = some (a, .inl (g.2.2.2.1, m1, .inr (.inl f)))) (e : vp_in i m1) (d : decode cc pc = .ok (.laload, 1)) (kk : Z b own cc nL fr lo g X k n w lv (pc + 1) (.long (f i.toNatClampNeg) :: rest)) : Z b own cc nL fr lo g X k n w lv pc (.int i :: .ref a :: rest) := by
  intro ok H locs ls hP hD hS hl
  obtain ⟨k1, h1, h2⟩ := zcell hb hq
  exact va_lald ok.1 ok.2.1 ok.2.2.2.2.2.2.2.2.1 hP k1 2 h1 rfl e d (kk ok H locs ls hP hD hS hl)
theorem z_lastI {a m1 : Nat} {f : Nat → Int64} {i : Int32} {x : Int64} (w' : List va_W) {blk : va_W} (bi : Nat) (hb : w[bi]? = some blk) (q : Nat) (hq : blk[q]? = some (a, .inl (g.2.2.2.1, m1, .inr (.inl f)))) (e : vp_in i m1) (hw : w.set bi (blk.set q (a, .inl (g.2.2.2.1, m1, .inr (.inl (vp_updL f i.toNatClampNeg x))))) = w') (d : decode cc pc = .ok (.lastore, 1)) (kk : Z true own cc nL fr lo g X k n w' lv (pc + 1) rest) : Z true own cc nL fr lo g X k n w lv pc (.long x :: .int i :: .ref a :: rest) := by
  intro ok H locs ls hP hD hS hl
  obtain ⟨k1, h1, h2⟩ := zcell hb hq
  exact va_last ok.1 ok.2.1 ok.2.2.2.2.2.2.2.2.1 hP (hD rfl) hS k1 2 h1 rfl e d (fun H1 locs1 hP1 hD1 hS1 => by rw [h2, hw] at hP1 hD1; exact kk ok H1 locs1 ls hP1 (fun _ => hD1) hS1 hl)
/-- the script -/
theorem z_sld {c L : Nat} {ys : Nat → Int32} (hX : va_X c L ys (xs X) (xs X).heap) (hbl : c < (xs X).heap.size) (hbA : ¬ xA X c) {i : Int32} (hin : vp_in i L) (d : decode cc pc = .ok (.iaload, 1)) (kk : Z b own cc nL fr lo g X k n w lv (pc + 1) (.int (ys i.toNatClampNeg) :: rest)) : Z b own cc nL fr lo g X k n w lv pc (.int i :: .ref c :: rest) := fun ok H locs ls hP hD hS hl =>
  va_sld ok.1 ok.2.1 hX hbl hbA hS hin d (kk ok H locs ls hP hD hS hl)
theorem z_slen {c L : Nat} {ys : Nat → Int32} (hX : va_X c L ys (xs X) (xs X).heap) (hbl : c < (xs X).heap.size) (hbA : ¬ xA X c) (d : decode cc pc = .ok (.arraylength, 1)) (kk : Z b own cc nL fr lo g X k n w lv (pc + 1) (.int (Int32.ofNat L) :: rest)) : Z b own cc nL fr lo g X k n w lv pc (.ref c :: rest) := fun ok H locs ls hP hD hS hl =>
  va_slen ok.1 ok.2.1 hX hbl hbA hS d (kk ok H locs ls hP hD hS hl)
end ZH
/-- how a wrapper tells the end of a call -/
def zLc (c0 c1 c2 : Int32) : Int32 ⊕ Nat → Int32
  | .inl _ => 0
  | .inr 0 => c0
  | .inr 1 => c1
  | .inr _ => c2
def zLo (o : Nat → Int64) : Int32 ⊕ Nat → (Nat → Int64)
  | .inl v => vp_updL o (0 : Int32).toNatClampNeg v.toInt64
  | .inr _ => o
/-- which throws cannot come -/
def zNo {α : Type} (π : α → Int32 ⊕ Nat) (P : Nat → Prop) (o : Option α) : Prop := ∀ r, o = some r → ∀ e, π r = .inr e → P e
def zNe {α : Type} (π : α → Int32 ⊕ Nat) (P : Nat → Prop) (o : α) : Prop := ∀ r, o = r → ∀ e, π r = .inr e → P e
theorem zNo_ite {α : Type} {π : α → Int32 ⊕ Nat} {P : Nat → Prop} {c : Prop} [Decidable c] {x y : Option α} (h1 : zNo π P x) (h2 : zNo π P y) : zNo π P (if c then x else y) := by
  split
  · exact h1
  · exact h2
theorem zNe_ite {α : Type} {π : α → Int32 ⊕ Nat} {P : Nat → Prop} {c : Prop} [Decidable c] {x y : α} (h1 : zNe π P x) (h2 : zNe π P y) : zNe π P (if c then x else y) := by
  split
  · exact h1
  · exact h2
theorem zNo_bind {α β : Type} {π : α → Int32 ⊕ Nat} {P : Nat → Prop} {o : Option β} {K : β → Option α} (h : ∀ v, zNo π P (K v)) : zNo π P (o.bind K) := by
  intro r hr
  obtain ⟨v, -, h2⟩ := zb hr
  exact h v r h2
theorem zNo_lp {α : Type} {P : Nat → Prop} {v : Int32} {u : α} : zNo Prod.fst P (some ((.inl v : Int32 ⊕ Nat), u)) := by
  intro r hr e he
  cases hr
  cases he
theorem zNo_rp {α : Type} {P : Nat → Prop} {x : Nat} {u : α} (h : P x) : zNo Prod.fst P (some ((.inr x : Int32 ⊕ Nat), u)) := by
  intro r hr e he
  cases hr
  cases he
  exact h
theorem zNo_l {P : Nat → Prop} {v : Int32} : zNo id P (some (.inl v : Int32 ⊕ Nat)) := by
  intro r hr e he
  cases hr
  cases he
theorem zNo_r {P : Nat → Prop} {x : Nat} (h : P x) : zNo id P (some (.inr x : Int32 ⊕ Nat)) := by
  intro r hr e he
  cases hr
  cases he
  exact h
theorem zNe_l {P : Nat → Prop} {v : Int32} : zNe id P (.inl v : Int32 ⊕ Nat) := by
  intro r hr e he
  cases hr
  cases he
theorem zNe_r {P : Nat → Prop} {x : Nat} (h : P x) : zNe id P (.inr x : Int32 ⊕ Nat) := by
  intro r hr e he
  cases hr
  cases he
  exact h
theorem zLc_0 {a b c : Int32} : zLc a b c (.inr 0) = a := rfl
theorem zLc_1 {a b c : Int32} : zLc a b c (.inr (0 + 1)) = b := rfl
theorem zLc_2 {a b c : Int32} {x : Nat} : zLc a b c (.inr (x + 1 + 1)) = c := rfl
theorem zLo_r {o : Nat → Int64} {x : Nat} : zLo o (.inr x) = o := rfl
theorem zin0 : vp_in (0 : Int32) 1 := zin (n := 1) (by decide) (by decide) (by decide)
theorem zlcL_13 : Cond.classLink RL 13 zIOB ∈ zW := zW_in 603 (by decide +kernel) (by decide +kernel)
theorem zcastzIOB : Cond.castable zIOB zIOB ∈ zN := zN_in 615 (by decide +kernel) rfl
theorem zlcL_15 : Cond.classLink RL 15 zIAE ∈ zW := zW_in 604 (by decide +kernel) (by decide +kernel)
theorem zcastzIAE : Cond.castable zIAE zIAE ∈ zN := zN_in 686 (by decide +kernel) rfl
theorem zlcL_17 : Cond.classLink RL 17 zISE ∈ zW := zW_in 605 (by decide +kernel) (by decide +kernel)
theorem zcastzISE : Cond.castable zISE zISE ∈ zN := zN_in 707 (by decide +kernel) rfl
theorem zyHL_put : zCyH yL_put cL_put 5 (some .int) [(0, 10, 13, 13), (0, 10, 17, 15), (0, 10, 21, 17)] 4 := ⟨zW_in 602 (by decide +kernel) (by decide +kernel), zW_in 47 (by decide +kernel) (by decide +kernel), ⟨(by decide +kernel), (by decide +kernel), (by decide +kernel)⟩⟩
theorem zyHL_move : zCyH yL_move cL_move 5 (some .int) [(0, 10, 13, 13), (0, 10, 17, 17)] 4 := ⟨zW_in 740 (by decide +kernel) (by decide +kernel), zW_in 47 (by decide +kernel) (by decide +kernel), ⟨(by decide +kernel), (by decide +kernel), (by decide +kernel)⟩⟩
theorem zyHL_pick : zCyH yL_pick cL_pick 4 (some .int) [(0, 9, 12, 13), (0, 9, 15, 17)] 3 := ⟨zW_in 764 (by decide +kernel) (by decide +kernel), zW_in 47 (by decide +kernel) (by decide +kernel), ⟨(by decide +kernel), (by decide +kernel), (by decide +kernel)⟩⟩
theorem zyHL_turn : zCyH yL_turn cL_turn 4 (some .int) [(0, 9, 12, 13), (0, 9, 15, 17)] 3 := ⟨zW_in 773 (by decide +kernel) (by decide +kernel), zW_in 47 (by decide +kernel) (by decide +kernel), ⟨(by decide +kernel), (by decide +kernel), (by decide +kernel)⟩⟩
theorem zyHL_jam : zCyH yL_jam cL_jam 5 (some .int) [(0, 10, 13, 13)] 4 := ⟨zW_in 782 (by decide +kernel) (by decide +kernel), zW_in 47 (by decide +kernel) (by decide +kernel), ⟨(by decide +kernel), (by decide +kernel), (by decide +kernel)⟩⟩
theorem zyHL_set : zCyH yL_set cL_set 5 (some .int) [(0, 10, 13, 13), (0, 10, 17, 15), (0, 10, 21, 17)] 4 := ⟨zW_in 790 (by decide +kernel) (by decide +kernel), zW_in 47 (by decide +kernel) (by decide +kernel), ⟨(by decide +kernel), (by decide +kernel), (by decide +kernel)⟩⟩
theorem zyHL_append : zCyH yL_append cL_append 4 (some .int) [(0, 9, 12, 15), (0, 9, 15, 17)] 3 := ⟨zW_in 807 (by decide +kernel) (by decide +kernel), zW_in 47 (by decide +kernel) (by decide +kernel), ⟨(by decide +kernel), (by decide +kernel), (by decide +kernel)⟩⟩
theorem zyHL_pickAll : zCyH yL_pickAll cL_pickAll 3 (some .int) [(0, 8, 11, 15)] 2 := ⟨zW_in 820 (by decide +kernel) (by decide +kernel), zW_in 47 (by decide +kernel) (by decide +kernel), ⟨(by decide +kernel), (by decide +kernel), (by decide +kernel)⟩⟩
theorem zyHL_undo : zCyH yL_undo cL_undo 3 (some .int) [(0, 8, 11, 17)] 2 := ⟨zW_in 828 (by decide +kernel) (by decide +kernel), zW_in 47 (by decide +kernel) (by decide +kernel), ⟨(by decide +kernel), (by decide +kernel), (by decide +kernel)⟩⟩
theorem zyHL_drawer : zCyH yL_drawer cL_drawer 5 (some .int) [(0, 10, 13, 13), (0, 10, 17, 15)] 4 := ⟨zW_in 840 (by decide +kernel) (by decide +kernel), zW_in 47 (by decide +kernel) (by decide +kernel), ⟨(by decide +kernel), (by decide +kernel), (by decide +kernel)⟩⟩
theorem zyHL_item : zCyH yL_item cL_item 5 (some .int) [(0, 10, 13, 13), (0, 10, 17, 15)] 4 := ⟨zW_in 848 (by decide +kernel) (by decide +kernel), zW_in 47 (by decide +kernel) (by decide +kernel), ⟨(by decide +kernel), (by decide +kernel), (by decide +kernel)⟩⟩
theorem zyHL_count : zCyH yL_count cL_count 4 (some .int) [(0, 9, 12, 15)] 3 := ⟨zW_in 857 (by decide +kernel) (by decide +kernel), zW_in 47 (by decide +kernel) (by decide +kernel), ⟨(by decide +kernel), (by decide +kernel), (by decide +kernel)⟩⟩
theorem zyHL_setting : zCyH yL_setting cL_setting 4 (some .int) [(0, 9, 12, 13)] 3 := ⟨zW_in 865 (by decide +kernel) (by decide +kernel), zW_in 47 (by decide +kernel) (by decide +kernel), ⟨(by decide +kernel), (by decide +kernel), (by decide +kernel)⟩⟩
theorem zyHL_way : zCyH yL_way cL_way 4 (some .int) [(0, 9, 12, 13)] 3 := ⟨zW_in 872 (by decide +kernel) (by decide +kernel), zW_in 47 (by decide +kernel) (by decide +kernel), ⟨(by decide +kernel), (by decide +kernel), (by decide +kernel)⟩⟩
theorem zyHL_ifPut : zCyH yL_ifPut cL_ifPut 5 (some .int) [(0, 10, 13, 13), (0, 10, 17, 15)] 4 := ⟨zW_in 879 (by decide +kernel) (by decide +kernel), zW_in 47 (by decide +kernel) (by decide +kernel), ⟨(by decide +kernel), (by decide +kernel), (by decide +kernel)⟩⟩
theorem zyHL_bestDrawer : zCyH yL_bestDrawer cL_bestDrawer 4 (some .int) [(0, 9, 12, 15)] 3 := ⟨zW_in 886 (by decide +kernel) (by decide +kernel), zW_in 47 (by decide +kernel) (by decide +kernel), ⟨(by decide +kernel), (by decide +kernel), (by decide +kernel)⟩⟩
theorem zyHL_ifPicked : zCyH yL_ifPicked cL_ifPicked 5 (some .int) [(0, 10, 13, 15)] 4 := ⟨zW_in 893 (by decide +kernel) (by decide +kernel), zW_in 47 (by decide +kernel) (by decide +kernel), ⟨(by decide +kernel), (by decide +kernel), (by decide +kernel)⟩⟩
