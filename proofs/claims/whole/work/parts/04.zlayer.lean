/-! THE Z LAYER: Z says: from this pc, these locals, this stack and any heap that holds the world w, the machine comes to the method's end. -/
abbrev zG : Type := va_G × ClassId × ClassId × ClassId × ClassId
abbrev ztys (g : zG) : List (ClassId × FieldType) := [(g.2.1, .int), (g.2.2.1, .boolean), (g.2.2.2.1, .long), (g.2.2.2.2, .object "DrawerRing$State")]
abbrev zX : Type := Program × Launch × Env × Room × State × MethodId × Array Value × List Frame × Method × Code × (State → Prop) × (Nat → Prop)
abbrev xp (X : zX) : Program := X.1
abbrev xl (X : zX) : Launch := X.2.1
abbrev xe (X : zX) : Env := X.2.2.1
abbrev xR (X : zX) : Room := X.2.2.2.1
abbrev xs (X : zX) : State := X.2.2.2.2.1
abbrev xm (X : zX) : MethodId := X.2.2.2.2.2.1
abbrev xa (X : zX) : Array Value := X.2.2.2.2.2.2.1
abbrev xb (X : zX) : List Frame := X.2.2.2.2.2.2.2.1
abbrev xme (X : zX) : Method := X.2.2.2.2.2.2.2.2.1
abbrev xc (X : zX) : Code := X.2.2.2.2.2.2.2.2.2.1
abbrev xQ (X : zX) : State → Prop := X.2.2.2.2.2.2.2.2.2.2.1
abbrev xA (X : zX) : Nat → Prop := X.2.2.2.2.2.2.2.2.2.2.2
def zOk (own : String) (cc : ByteArray) (nL fr lo : Nat) (g : zG) (X : zX) : Prop :=
  (xp X).tables.exec = Jvm.exec ∧ (xc X).code = cc ∧ (xs X).vm.findClass own = some (xm X).cls ∧ (xc X).maxLocals = nL ∧ (∀ w ∈ zW, w.before (xa X) (xs X) = true) ∧ (xme X).locks = false ∧ fr ≤ (xR X).frames ∧ lo ≤ (xR X).locals ∧ va_K g.1 vwCl (ztys g) (xs X) ∧ (∀ q, (xs X).heap.size ≤ q → xA X q) ∧ (∀ w ∈ zN, va_Nw w (xs X))
/-- which cells a method may change: with b its world's, and those that it makes -/
def zA : Bool → va_W → Nat → Nat → Prop
  | true, w, sz => va_A w sz
  | false, _, sz => fun q => sz ≤ q
theorem zA_new {b : Bool} {w : va_W} {sz : Nat} : ∀ q, sz ≤ q → zA b w sz q := by
  intro q h
  cases b with
  | true => exact Or.inr h
  | false => exact h
def zWp (X : zX) (H : Heap) (locs : List Loc) (k n : Nat) (f : JFrame) : Prop := W (xp X) (xl X) (xe X) (xR X) (xs X) (xm X) (xa X) (xb X) (xme X) (xc X) H locs k n (xQ X) f
def Z (b : Bool) (own : String) (cc : ByteArray) (nL fr lo : Nat) (g : zG) (X : zX) (k n : Nat) (w : va_W) (lv : List (Nat × Value)) (pc : Nat) (st : List Value) : Prop :=
  zOk own cc nL fr lo g X → ∀ (H : Heap) (locs : List Loc) (ls : Array Slot), va_P g.1 vwCl w H → (b = true → va_D (xA X) w) → va_S (xA X) (xs X).heap H locs → lv_has ls nL lv → zWp X H locs k n (F0 (xm X) pc ls st)
def zFin (b : Bool) (g : zG) (ret : Option FieldType) (X : zX) (mc ms : Nat) (w1 : va_W) (rv : Option Value) : Prop :=
  (xme X).sig.returnType = ret ∧ ∀ (f : JFrame) (H : Heap) (locs : List Loc), va_P g.1 vwCl w1 H → (b = true → va_D (xA X) w1) → va_S (xA X) (xs X).heap H locs →
    W (xp X) (xl X) (xe X) (xR X) (xs X) (xm X) (xa X) (xb X) (xme X) (xc X) H locs mc ms (MQ (xb X) (fun _ _ oc t => oc = .returned rv ∧ t.heap = H) (xa X) (xs X) mc ms (xA X)) f → zWp X H locs mc ms f
def zPc (g : zG) (b : Bool) (args : List Value) (w : va_W) (sz : Nat) : Array Value → State → Prop := va_Pc args (fun U => U.heap.size = sz ∧ va_P g.1 vwCl w U.heap ∧ va_K g.1 vwCl (ztys g) U ∧ (b = true → va_D (fun _ => True) w) ∧ (∀ w ∈ zN, va_Nw w U))
def zQc (g : zG) (b : Bool) (w w1 : va_W) (rv : Option Value) (sz : Nat) : Array Value → State → Outcome → State → Prop := fun _ st oc t => oc = .returned rv ∧ va_P g.1 vwCl w1 t.heap ∧ (b = true → va_D (zA b w sz) w1) ∧ va_F (zA b w sz) st t
/-- A CONTRACT: called with args in the world w, y answers rv and leaves the world w1 -/
def Ctr (l : Launch) (g : zG) (b : Bool) (y : MethodName) (cc : ByteArray) (nL : Nat) (ret : Option FieldType) (fr lo mc ms : Nat) (args : List Value) (w w1 : va_W) (rv : Option Value) : Prop :=
  ∀ sz : Nat, Met l y (zws y cc nL ret) ({ frames := fr, cells := mc, slots := ms, locals := lo }) (zPc g b args w sz) (zQc g b w w1 rv sz) mc ms (zA b w sz)
theorem W.mono {p : Program} {l : Launch} {e : Env} {R : Room} {s : State} {m : MethodId} {args : Array Value} {below : List Frame} {meth : Method} {c : Code} {H : Heap} {locs : List Loc} {cells slots : Nat} {Q Q' : State → Prop} {f : JFrame} (h : W p l e R s m args below meth c H locs cells slots Q f) (hq : ∀ t, Q t → Q' t) : W p l e R s m args below meth c H locs cells slots Q' f := by
  intro T hT X
  obtain ⟨t, a, b⟩ := h T hT X
  exact ⟨t, a, hq t b⟩
set_option maxHeartbeats 4000000 in
theorem ctr_of {l : Launch} {g : zG} {b : Bool} {own name desc : String} {cc : ByteArray} {nL : Nat} {ret : Option FieldType} {fr lo mc ms : Nat} {args : List Value} {w w1 : va_W} {rv : Option Value} (hy : plainName own = true) (hn : (lg_sl args).length ≤ nL)
    (h : ∀ X : zX, xl X = l → (xR X).cells = mc → (xR X).slots = ms → (name = "<init>" → (xme X).name = "<init>") → zFin b g ret X mc ms w1 rv → Z b own cc nL fr lo g X 0 0 w (lv_args 0 args) 0 []) : Ctr l g b ⟨own, name, desc⟩ cc nL ret fr lo mc ms args w w1 rv := by
  intro sz
  refine Met.ofW (cc := cc) (maxL := nL) (ret := ret) hy rfl ?_
  intro p e s m args' below meth c s₁ B hml hv
  obtain ⟨rfl, hsz, hP, hK, hD0, hN⟩ := hv
  subst hsz
  have hts := atoms_spec (ws := zws ⟨own, name, desc⟩ cc nL ret) B.pre
  have hl := lv_entry args (n := nL) hn
  rw [lg_entry_eq]
  refine h (p, l, e, (headSpec (zws ⟨own, name, desc⟩ cc nL ret) ({ frames := fr, cells := mc, slots := ms, locals := lo })).room, s, m, args.toArray, below, meth, c, _, zA b w s.heap.size) rfl rfl rfl (fun h => (name_of_methodNamed B.named B.method).1.trans h) ?_ ?_ s.heap [] _ hP ?_ va_S.rf hl
  · refine ⟨B.returns, fun f H locs hP1 hD1 hS hW => W.mono hW fun t ht => ?_⟩
    obtain ⟨o, h1, h2, ⟨h3, h4⟩, h5⟩ := ht
    exact ⟨o, h1, h2, ⟨h3, by rw [h4]; exact hP1, hD1, hS.F h4⟩, h5⟩
  · exact ⟨B.exec, B.bytes, findClass_of_methodNamed B.named, hml, fun w hw => hts w (List.mem_cons_of_mem _ hw), B.notSynchronized, Nat.le_refl _, Nat.le_refl _, hK, zA_new, hN⟩
  · intro hb
    subst hb
    exact (hD0 rfl).self
theorem zinc {x : Int32} : x + Int32.ofInt 1 = x + 1 := rfl
theorem zdec {x : Int32} : x + Int32.ofInt (-1) = x + -1 := rfl
theorem zb {α β : Type} {o : Option α} {K : α → Option β} {r : β} (h : o.bind K = some r) : ∃ v, o = some v ∧ K v = some r := by
  cases o with
  | none => cases h
  | some v => exact ⟨v, rfl, h⟩
def b2i : Bool → Int32
  | true => 1
  | false => 0
theorem b2i_nar (b : Bool) : narrow .boolean (.int (b2i b)) = .int (b2i b) := by cases b <;> decide
theorem b2i_fits (b : Bool) : fits .boolean (.int (b2i b)) = true := by cases b <;> decide
theorem b2i_0 (b : Bool) : b2i b = 0 ↔ b = false := by cases b <;> decide
theorem b2i_t : b2i true = 1 := rfl
theorem b2i_f : b2i false = 0 := rfl
def aget (f : Nat → Int32) (n : Nat) (i : Int32) : Option Int32 := if i < 0 ∨ n ≤ i.toNatClampNeg then none else some (f i.toNatClampNeg)
def aset (f : Nat → Int32) (n : Nat) (i x : Int32) : Option (Nat → Int32) := if i < 0 ∨ n ≤ i.toNatClampNeg then none else some (upd f i.toNatClampNeg x)
theorem aget_s {f : Nat → Int32} {n : Nat} {i v : Int32} (h : aget f n i = some v) : vp_in i n ∧ f i.toNatClampNeg = v := by
  unfold aget at h
  split at h
  · cases h
  · exact ⟨by assumption, Option.some.inj h⟩
theorem aset_s {f f' : Nat → Int32} {n : Nat} {i x : Int32} (h : aset f n i x = some f') : vp_in i n ∧ upd f i.toNatClampNeg x = f' := by
  unfold aset at h
  split at h
  · cases h
  · exact ⟨by assumption, Option.some.inj h⟩
def dnn (r : UInt64) : Option UInt64 := if r &&& 0x7fffffffffffffff ≤ 0x7ff0000000000000 then some r else none
theorem dnn_s {r v : UInt64} (h : dnn r = some v) : vf_n64 r ∧ r = v := by
  unfold dnn at h
  split at h
  · exact ⟨by assumption, Option.some.inj h⟩
  · cases h
def i_max (x y : Int32) : Int32 := if x < y then y else x
def i_min (x y : Int32) : Int32 := if y < x then y else x
def i_abs (x : Int32) : Int32 := if 0 ≤ x then x else 0 - x
def i_rem (x y : Int32) : Int32 := x - x / y * y
/-- a loop, with fuel: inl goes on, inr ends it -/
def lp {σ ε : Type} : Nat → (σ → Option (σ ⊕ ε)) → σ → Option ε
  | 0, _, _ => none
  | n + 1, f, s => match f s with
    | none => none
    | some (.inl s') => lp n f s'
    | some (.inr e) => some e
theorem lp_ind {σ ε : Type} (f : σ → Option (σ ⊕ ε)) (ZH : σ → Prop) (ZE : ε → Prop) (hs : ∀ s q, f s = some q → (∀ s', q = .inl s' → ZH s') → (∀ e, q = .inr e → ZE e) → ZH s) : ∀ n s e, lp n f s = some e → ZE e → ZH s := by
  intro n
  induction n with
  | zero => intro s e h; cases h
  | succ n ih =>
    intro s e h he
    unfold lp at h
    cases hf : f s with
    | none => rw [hf] at h; cases h
    | some q =>
      rw [hf] at h
      cases q with
      | inl s' => exact hs s _ hf (fun s2 h2 => by cases h2; exact ih s' e h he) (fun e2 h2 => by cases h2)
      | inr e' => cases h; exact hs s _ hf (fun s2 h2 => by cases h2) (fun e2 h2 => by cases h2; exact he)
/-- the world with the cells at the places is replaced -/
def zrep : va_W → List Nat → va_W → va_W
  | ws, i :: is, c :: cs => zrep (ws.set i c) is cs
  | ws, _, _ => ws
theorem zrep_at : ∀ (is : List Nat) (ws cs : va_W) (k : Nat) (q : Nat × va_E), is.length = cs.length → va_nd is = true → (zrep ws is cs)[k]? = some q → (∃ j : Nat, is[j]? = some k ∧ cs[j]? = some q) ∨ (k ∉ is ∧ ws[k]? = some q)
  | [], ws, cs, k, q, hl, _, h => by
    cases cs with
    | nil => exact Or.inr ⟨List.not_mem_nil, h⟩
    | cons c cs => cases hl
  | i :: is, ws, [], k, q, hl, _, h => by cases hl
  | i :: is, ws, c :: cs, k, q, hl, hn, h => by
    simp only [va_nd, Bool.and_eq_true, decide_eq_true_eq] at hn
    rcases zrep_at is (ws.set i c) cs k q (Nat.succ.inj hl) hn.2 h with ⟨j, h1, h2⟩ | ⟨h1, h2⟩
    · exact Or.inl ⟨j + 1, h1, h2⟩
    · by_cases hk : k = i
      · subst hk
        have hlt : k < ws.length := by
          have := (List.getElem?_eq_some_iff.mp h2).1
          rwa [List.length_set] at this
        rw [List.getElem?_set_self hlt] at h2
        exact Or.inl ⟨0, rfl, h2⟩
      · rw [List.getElem?_set_ne (Ne.symm hk)] at h2
        exact Or.inr ⟨fun hm => by rcases List.mem_cons.mp hm with h3 | h3; exact hk h3; exact h1 h3, h2⟩
theorem zcut_at {ws wc : va_W} {is : List Nat} (hC : is.map (fun i => ws[i]?) = wc.map some) {j : Nat} {q : Nat × va_E} (h : wc[j]? = some q) : ∃ i, is[j]? = some i ∧ ws[i]? = some q := by
  have h1 : (is.map (fun i => ws[i]?))[j]? = some (some q) := by rw [hC, List.getElem?_map, h]; rfl
  rw [List.getElem?_map] at h1
  cases hi : is[j]? with
  | none => rw [hi] at h1; cases h1
  | some i => rw [hi] at h1; exact ⟨i, rfl, Option.some.inj h1⟩
theorem zcut_to {ws wc : va_W} {is : List Nat} (hC : is.map (fun i => ws[i]?) = wc.map some) {j i : Nat} (h : is[j]? = some i) : ∃ q, wc[j]? = some q ∧ ws[i]? = some q := by
  have h1 : (wc.map some)[j]? = some ws[i]? := by rw [← hC, List.getElem?_map, h]; rfl
  rw [List.getElem?_map] at h1
  cases hi : wc[j]? with
  | none => rw [hi] at h1; cases h1
  | some q => rw [hi] at h1; exact ⟨q, rfl, (Option.some.inj h1).symm⟩
theorem zfst {wc w1 : va_W} (h : w1.map Prod.fst = wc.map Prod.fst) {j : Nat} {q p : Nat × va_E} (hq : w1[j]? = some q) (hp : wc[j]? = some p) : q.1 = p.1 := by
  have h1 : (w1.map Prod.fst)[j]? = (wc.map Prod.fst)[j]? := by rw [h]
  rw [List.getElem?_map, List.getElem?_map, hq, hp] at h1
  exact Option.some.inj h1
set_option maxHeartbeats 4000000 in
theorem zjoin {A0 : Nat → Prop} {D : va_G} {cl : List vw_C} {ws wc w1 : va_W} {H H1 : Heap} (hP : va_P D cl ws H) (hD : va_D A0 ws) (is : List Nat) (hC : is.map (fun i => ws[i]?) = wc.map some) (hn : va_nd is = true) (hf : w1.map Prod.fst = wc.map Prod.fst)
    (hk : ∀ q : Nat, q < H.size → ¬ va_A wc H.size q → H1[q]? = H[q]?) (hP1 : va_P D cl w1 H1) : va_P D cl (zrep ws is w1) H1 ∧ va_D A0 (zrep ws is w1) := by
  have hl1 : is.length = wc.length := by have := congrArg List.length hC; simpa using this
  have hl2 : is.length = w1.length := by have := congrArg List.length hf; simp at this; omega
  have key : ∀ (k : Nat) (q : Nat × va_E), (zrep ws is w1)[k]? = some q → ∃ q0, ws[k]? = some q0 ∧ q0.1 = q.1 := by
    intro k q h
    rcases zrep_at is ws w1 k q hl2 hn h with ⟨j, h1, h2⟩ | ⟨-, h2⟩
    · obtain ⟨p, h3, h4⟩ := zcut_to hC h1
      exact ⟨p, h4, (zfst hf h2 h3).symm⟩
    · exact ⟨q, h2, rfl⟩
  refine ⟨fun k q h => ?_, fun i j x y hx hy hxy => ?_, fun k q h => ?_⟩
  · rcases zrep_at is ws w1 k q hl2 hn h with ⟨j, h1, h2⟩ | ⟨h1, h2⟩
    · exact hP1 j q h2
    · have hlt := (hP k q h2).lt
      refine (hP k q h2).kept (hk q.1 hlt fun hA => ?_)
      rcases hA with ⟨j, e, h3⟩ | h3
      · obtain ⟨i, h4, h5⟩ := zcut_at hC h3
        have := hD.1 k i q (q.1, e) h2 h5 rfl
        subst this
        exact h1 (List.mem_of_getElem? h4)
      · omega
  · obtain ⟨x0, h1, h2⟩ := key i x hx
    obtain ⟨y0, h3, h4⟩ := key j y hy
    exact hD.1 i j x0 y0 h1 h3 (h2.trans (hxy.trans h4.symm))
  · obtain ⟨q0, h1, h2⟩ := key k q h
    rw [← h2]
    exact hD.2 k q0 h1
theorem zblind {g : zG} {b : Bool} {args : List Value} {w : va_W} {sz : Nat} : FrameBlind (zPc g b args w sz) := by
  intro a U f mk h
  obtain ⟨h0, h1, h2, h3, h4, h5⟩ := h
  exact ⟨h0, h1, h2, va_K.moved (u := U) (U := U.calling f mk a) (Vm.Alike.refl U.vm) h3, h4, fun w hw => va_Nw.same (u := U) (U := U.calling f mk a) (zNw_tab (List.mem_filter.mp hw).2) rfl (h5 w hw)⟩
section ZR
variable {b : Bool} {own : String} {cc : ByteArray} {nL fr lo : Nat} {g : zG} {X : zX} {k n : Nat} {w : va_W} {lv lv' : List (Nat × Value)} {pc : Nat} {rest : List Value}
theorem z_lv (ks : List Nat) (h : lv_pick lv ks = lv') {st : List Value} (kk : Z b own cc nL fr lo g X k n w lv' pc st) : Z b own cc nL fr lo g X k n w lv pc st := fun ok H locs ls hP hD hS hl => kk ok H locs ls hP hD hS (lv_sub hl ks h)
theorem z_w {w' : va_W} {st : List Value} (h : w = w') (kk : Z b own cc nL fr lo g X k n w' lv pc st) : Z b own cc nL fr lo g X k n w lv pc st := h ▸ kk
theorem z_iconst {i : Int} {v : Int32} (hv : Int32.ofInt i = v) (d : decode cc pc = .ok (.iconst i, 1)) (kk : Z b own cc nL fr lo g X k n w lv (pc + 1) (.int v :: rest)) : Z b own cc nL fr lo g X k n w lv pc (rest) := fun ok H locs ls hP hD hS hl => lv_iconst ok.1 ok.2.1 d hv (kk ok H locs ls hP hD hS hl)
theorem z_bipush {i : Int} {v : Int32} (hv : (Int8.ofInt i).toInt32 = v) (d : decode cc pc = .ok (.bipush i, 2)) (kk : Z b own cc nL fr lo g X k n w lv (pc + 2) (.int v :: rest)) : Z b own cc nL fr lo g X k n w lv pc (rest) := fun ok H locs ls hP hD hS hl => lv_bipush ok.1 ok.2.1 d hv (kk ok H locs ls hP hD hS hl)
theorem z_sipush {i : Int} {v : Int32} (hv : (Int16.ofInt i).toInt32 = v) (d : decode cc pc = .ok (.sipush i, 3)) (kk : Z b own cc nL fr lo g X k n w lv (pc + 3) (.int v :: rest)) : Z b own cc nL fr lo g X k n w lv pc (rest) := fun ok H locs ls hP hD hS hl => lv_sipush ok.1 ok.2.1 d hv (kk ok H locs ls hP hD hS hl)
theorem z_lconst {i : Fin 2} {v : Int64} (hv : Int64.ofNat (i : Nat) = v) (d : decode cc pc = .ok (.lconst i, 1)) (kk : Z b own cc nL fr lo g X k n w lv (pc + 1) (.long v :: rest)) : Z b own cc nL fr lo g X k n w lv pc (rest) := fun ok H locs ls hP hD hS hl => lv_lconst ok.1 ok.2.1 d hv (kk ok H locs ls hP hD hS hl)
theorem z_dconst0  (d : decode cc pc = .ok (.dconst 0, 1)) (kk : Z b own cc nL fr lo g X k n w lv (pc + 1) (.double FP.dconst0 :: rest)) : Z b own cc nL fr lo g X k n w lv pc (rest) := fun ok H locs ls hP hD hS hl => lv_dconst0 ok.1 ok.2.1 d (kk ok H locs ls hP hD hS hl)
theorem z_dconst1  (d : decode cc pc = .ok (.dconst 1, 1)) (kk : Z b own cc nL fr lo g X k n w lv (pc + 1) (.double FP.dconst1 :: rest)) : Z b own cc nL fr lo g X k n w lv pc (rest) := fun ok H locs ls hP hD hS hl => lv_dconst1 ok.1 ok.2.1 d (kk ok H locs ls hP hD hS hl)
theorem z_ldc {i : Nat} {v : Int32} (hc : Cond.constant own i v ∈ zW) (d : decode cc pc = .ok (.ldc i, 2)) (kk : Z b own cc nL fr lo g X k n w lv (pc + 2) (.int v :: rest)) : Z b own cc nL fr lo g X k n w lv pc (rest) := fun ok H locs ls hP hD hS hl => lv_ldc ok.1 ok.2.1 ok.2.2.1 (ok.2.2.2.2.1 _ hc) d (kk ok H locs ls hP hD hS hl)
theorem z_ldc2 {i : Nat} {v : Int64} (hc : Cond.constantLong own i v ∈ zW) (d : decode cc pc = .ok (.ldc2_w i, 3)) (kk : Z b own cc nL fr lo g X k n w lv (pc + 3) (.long v :: rest)) : Z b own cc nL fr lo g X k n w lv pc (rest) := fun ok H locs ls hP hD hS hl => lv_ldc2 ok.1 ok.2.1 ok.2.2.1 (ok.2.2.2.2.1 _ hc) d (kk ok H locs ls hP hD hS hl)
theorem z_ldc2d {i : Nat} {v : UInt64} (hc : Cond.constantDouble own i v ∈ zW) (d : decode cc pc = .ok (.ldc2_w i, 3)) (kk : Z b own cc nL fr lo g X k n w lv (pc + 3) (.double v :: rest)) : Z b own cc nL fr lo g X k n w lv pc (rest) := fun ok H locs ls hP hD hS hl => lv_ldc2d ok.1 ok.2.1 ok.2.2.1 (ok.2.2.2.2.1 _ hc) d (kk ok H locs ls hP hD hS hl)
theorem z_iload_n {j : Fin 4} {i : Nat} {x : Int32} (q : Nat) (hi : (j : Nat) = i) (hq : lv[q]? = some (i, .int x)) (d : decode cc pc = .ok (.iload_n j, 1)) (kk : Z b own cc nL fr lo g X k n w lv (pc + 1) (.int x :: rest)) : Z b own cc nL fr lo g X k n w lv pc (rest) := fun ok H locs ls hP hD hS hl => lv_iload_n ok.1 ok.2.1 d hi (lv_at hl q hq) (kk ok H locs ls hP hD hS hl)
theorem z_iload {i : Nat} {x : Int32} (q : Nat) (hq : lv[q]? = some (i, .int x)) (d : decode cc pc = .ok (.iload i, 2)) (kk : Z b own cc nL fr lo g X k n w lv (pc + 2) (.int x :: rest)) : Z b own cc nL fr lo g X k n w lv pc (rest) := fun ok H locs ls hP hD hS hl => lv_iload ok.1 ok.2.1 d (lv_at hl q hq) (kk ok H locs ls hP hD hS hl)
theorem z_istore_n {j : Fin 4} {i : Nat} {x : Int32} (lv' : List (Nat × Value)) (hi : (j : Nat) = i) (hn : i < nL) (hv : (i, Value.int x) :: lv.filter (fun q => !(q.1 == i) && !(q.1 + 1 == i && q.2.category == 2)) = lv') (d : decode cc pc = .ok (.istore_n j, 1)) (kk : Z b own cc nL fr lo g X k n w lv' (pc + 1) rest) : Z b own cc nL fr lo g X k n w lv pc (.int x :: rest) := fun ok H locs ls hP hD hS hl => lv_istore_n ok.1 ok.2.1 d hi hl hn hv (fun ls2 hl2 => kk ok H locs ls2 hP hD hS hl2)
theorem z_istore {i : Nat} {x : Int32} (lv' : List (Nat × Value)) (hn : i < nL) (hv : (i, Value.int x) :: lv.filter (fun q => !(q.1 == i) && !(q.1 + 1 == i && q.2.category == 2)) = lv') (d : decode cc pc = .ok (.istore i, 2)) (kk : Z b own cc nL fr lo g X k n w lv' (pc + 2) rest) : Z b own cc nL fr lo g X k n w lv pc (.int x :: rest) := fun ok H locs ls hP hD hS hl => lv_istore ok.1 ok.2.1 d hl hn hv (fun ls2 hl2 => kk ok H locs ls2 hP hD hS hl2)
theorem z_lload_n {j : Fin 4} {i : Nat} {x : Int64} (q : Nat) (hi : (j : Nat) = i) (hq : lv[q]? = some (i, .long x)) (d : decode cc pc = .ok (.lload_n j, 1)) (kk : Z b own cc nL fr lo g X k n w lv (pc + 1) (.long x :: rest)) : Z b own cc nL fr lo g X k n w lv pc (rest) := fun ok H locs ls hP hD hS hl => lv_lload_n ok.1 ok.2.1 d hi (lv_at hl q hq) (kk ok H locs ls hP hD hS hl)
theorem z_lload {i : Nat} {x : Int64} (q : Nat) (hq : lv[q]? = some (i, .long x)) (d : decode cc pc = .ok (.lload i, 2)) (kk : Z b own cc nL fr lo g X k n w lv (pc + 2) (.long x :: rest)) : Z b own cc nL fr lo g X k n w lv pc (rest) := fun ok H locs ls hP hD hS hl => lv_lload ok.1 ok.2.1 d (lv_at hl q hq) (kk ok H locs ls hP hD hS hl)
theorem z_lstore_n {j : Fin 4} {i : Nat} {x : Int64} (lv' : List (Nat × Value)) (hi : (j : Nat) = i) (hn : i + 1 < nL) (hv : (i, Value.long x) :: lv.filter (fun q => !(q.1 == i) && (!(q.1 == i + 1) && !(q.1 + 1 == i && q.2.category == 2))) = lv') (d : decode cc pc = .ok (.lstore_n j, 1)) (kk : Z b own cc nL fr lo g X k n w lv' (pc + 1) rest) : Z b own cc nL fr lo g X k n w lv pc (.long x :: rest) := fun ok H locs ls hP hD hS hl => lv_lstore_n ok.1 ok.2.1 d hi hl hn hv (fun ls2 hl2 => kk ok H locs ls2 hP hD hS hl2)
theorem z_lstore {i : Nat} {x : Int64} (lv' : List (Nat × Value)) (hn : i + 1 < nL) (hv : (i, Value.long x) :: lv.filter (fun q => !(q.1 == i) && (!(q.1 == i + 1) && !(q.1 + 1 == i && q.2.category == 2))) = lv') (d : decode cc pc = .ok (.lstore i, 2)) (kk : Z b own cc nL fr lo g X k n w lv' (pc + 2) rest) : Z b own cc nL fr lo g X k n w lv pc (.long x :: rest) := fun ok H locs ls hP hD hS hl => lv_lstore ok.1 ok.2.1 d hl hn hv (fun ls2 hl2 => kk ok H locs ls2 hP hD hS hl2)
theorem z_dload_n {j : Fin 4} {i : Nat} {x : UInt64} (q : Nat) (hi : (j : Nat) = i) (hq : lv[q]? = some (i, .double x)) (d : decode cc pc = .ok (.dload_n j, 1)) (kk : Z b own cc nL fr lo g X k n w lv (pc + 1) (.double x :: rest)) : Z b own cc nL fr lo g X k n w lv pc (rest) := fun ok H locs ls hP hD hS hl => lv_dload_n ok.1 ok.2.1 d hi (lv_at hl q hq) (kk ok H locs ls hP hD hS hl)
theorem z_dload {i : Nat} {x : UInt64} (q : Nat) (hq : lv[q]? = some (i, .double x)) (d : decode cc pc = .ok (.dload i, 2)) (kk : Z b own cc nL fr lo g X k n w lv (pc + 2) (.double x :: rest)) : Z b own cc nL fr lo g X k n w lv pc (rest) := fun ok H locs ls hP hD hS hl => lv_dload ok.1 ok.2.1 d (lv_at hl q hq) (kk ok H locs ls hP hD hS hl)
theorem z_dstore_n {j : Fin 4} {i : Nat} {x : UInt64} (lv' : List (Nat × Value)) (hi : (j : Nat) = i) (hn : i + 1 < nL) (hv : (i, Value.double x) :: lv.filter (fun q => !(q.1 == i) && (!(q.1 == i + 1) && !(q.1 + 1 == i && q.2.category == 2))) = lv') (d : decode cc pc = .ok (.dstore_n j, 1)) (kk : Z b own cc nL fr lo g X k n w lv' (pc + 1) rest) : Z b own cc nL fr lo g X k n w lv pc (.double x :: rest) := fun ok H locs ls hP hD hS hl => lv_dstore_n ok.1 ok.2.1 d hi hl hn hv (fun ls2 hl2 => kk ok H locs ls2 hP hD hS hl2)
theorem z_dstore {i : Nat} {x : UInt64} (lv' : List (Nat × Value)) (hn : i + 1 < nL) (hv : (i, Value.double x) :: lv.filter (fun q => !(q.1 == i) && (!(q.1 == i + 1) && !(q.1 + 1 == i && q.2.category == 2))) = lv') (d : decode cc pc = .ok (.dstore i, 2)) (kk : Z b own cc nL fr lo g X k n w lv' (pc + 2) rest) : Z b own cc nL fr lo g X k n w lv pc (.double x :: rest) := fun ok H locs ls hP hD hS hl => lv_dstore ok.1 ok.2.1 d hl hn hv (fun ls2 hl2 => kk ok H locs ls2 hP hD hS hl2)
theorem z_aload_n {j : Fin 4} {i : Nat} {x : Nat} (q : Nat) (hi : (j : Nat) = i) (hq : lv[q]? = some (i, .ref x)) (d : decode cc pc = .ok (.aload_n j, 1)) (kk : Z b own cc nL fr lo g X k n w lv (pc + 1) (.ref x :: rest)) : Z b own cc nL fr lo g X k n w lv pc (rest) := fun ok H locs ls hP hD hS hl => lv_aload_n ok.1 ok.2.1 d hi (lv_at hl q hq) (kk ok H locs ls hP hD hS hl)
theorem z_aload {i : Nat} {x : Nat} (q : Nat) (hq : lv[q]? = some (i, .ref x)) (d : decode cc pc = .ok (.aload i, 2)) (kk : Z b own cc nL fr lo g X k n w lv (pc + 2) (.ref x :: rest)) : Z b own cc nL fr lo g X k n w lv pc (rest) := fun ok H locs ls hP hD hS hl => lv_aload ok.1 ok.2.1 d (lv_at hl q hq) (kk ok H locs ls hP hD hS hl)
theorem z_astore_n {j : Fin 4} {i : Nat} {x : Nat} (lv' : List (Nat × Value)) (hi : (j : Nat) = i) (hn : i < nL) (hv : (i, Value.ref x) :: lv.filter (fun q => !(q.1 == i) && !(q.1 + 1 == i && q.2.category == 2)) = lv') (d : decode cc pc = .ok (.astore_n j, 1)) (kk : Z b own cc nL fr lo g X k n w lv' (pc + 1) rest) : Z b own cc nL fr lo g X k n w lv pc (.ref x :: rest) := fun ok H locs ls hP hD hS hl => lv_astore_n ok.1 ok.2.1 d hi hl hn hv (fun ls2 hl2 => kk ok H locs ls2 hP hD hS hl2)
theorem z_astore {i : Nat} {x : Nat} (lv' : List (Nat × Value)) (hn : i < nL) (hv : (i, Value.ref x) :: lv.filter (fun q => !(q.1 == i) && !(q.1 + 1 == i && q.2.category == 2)) = lv') (d : decode cc pc = .ok (.astore i, 2)) (kk : Z b own cc nL fr lo g X k n w lv' (pc + 2) rest) : Z b own cc nL fr lo g X k n w lv pc (.ref x :: rest) := fun ok H locs ls hP hD hS hl => lv_astore ok.1 ok.2.1 d hl hn hv (fun ls2 hl2 => kk ok H locs ls2 hP hD hS hl2)
theorem z_iinc {i : Nat} {c : Int} {x v : Int32} (q : Nat) (lv' : List (Nat × Value)) (hq : lv[q]? = some (i, .int x)) (hv : x + Int32.ofInt c = v) (hn : i < nL) (hl2 : (i, Value.int v) :: lv.filter (fun q => !(q.1 == i) && !(q.1 + 1 == i && q.2.category == 2)) = lv') (d : decode cc pc = .ok (.iinc i c, 3)) {st : List Value} (kk : Z b own cc nL fr lo g X k n w lv' (pc + 3) st) : Z b own cc nL fr lo g X k n w lv pc st := fun ok H locs ls hP hD hS hl => lv_iinc ok.1 ok.2.1 d hl hq hv hn hl2 (fun ls2 hl2 => kk ok H locs ls2 hP hD hS hl2)
theorem z_iadd {x y : Int32} (d : decode cc pc = .ok (.iadd, 1)) (kk : Z b own cc nL fr lo g X k n w lv (pc + 1) (.int (x + y) :: rest)) : Z b own cc nL fr lo g X k n w lv pc (.int y :: .int x :: rest) := fun ok H locs ls hP hD hS hl => lv_iadd ok.1 ok.2.1 d (kk ok H locs ls hP hD hS hl)
theorem z_isub {x y : Int32} (d : decode cc pc = .ok (.isub, 1)) (kk : Z b own cc nL fr lo g X k n w lv (pc + 1) (.int (x - y) :: rest)) : Z b own cc nL fr lo g X k n w lv pc (.int y :: .int x :: rest) := fun ok H locs ls hP hD hS hl => lv_isub ok.1 ok.2.1 d (kk ok H locs ls hP hD hS hl)
theorem z_imul {x y : Int32} (d : decode cc pc = .ok (.imul, 1)) (kk : Z b own cc nL fr lo g X k n w lv (pc + 1) (.int (x * y) :: rest)) : Z b own cc nL fr lo g X k n w lv pc (.int y :: .int x :: rest) := fun ok H locs ls hP hD hS hl => lv_imul ok.1 ok.2.1 d (kk ok H locs ls hP hD hS hl)
theorem z_iand {x y : Int32} (d : decode cc pc = .ok (.iand, 1)) (kk : Z b own cc nL fr lo g X k n w lv (pc + 1) (.int (x &&& y) :: rest)) : Z b own cc nL fr lo g X k n w lv pc (.int y :: .int x :: rest) := fun ok H locs ls hP hD hS hl => lv_iand ok.1 ok.2.1 d (kk ok H locs ls hP hD hS hl)
theorem z_ior {x y : Int32} (d : decode cc pc = .ok (.ior, 1)) (kk : Z b own cc nL fr lo g X k n w lv (pc + 1) (.int (x ||| y) :: rest)) : Z b own cc nL fr lo g X k n w lv pc (.int y :: .int x :: rest) := fun ok H locs ls hP hD hS hl => lv_ior ok.1 ok.2.1 d (kk ok H locs ls hP hD hS hl)
theorem z_ixor {x y : Int32} (d : decode cc pc = .ok (.ixor, 1)) (kk : Z b own cc nL fr lo g X k n w lv (pc + 1) (.int (x ^^^ y) :: rest)) : Z b own cc nL fr lo g X k n w lv pc (.int y :: .int x :: rest) := fun ok H locs ls hP hD hS hl => lv_ixor ok.1 ok.2.1 d (kk ok H locs ls hP hD hS hl)
theorem z_idiv {x y : Int32} (hy : ¬ y = 0) (d : decode cc pc = .ok (.idiv, 1)) (kk : Z b own cc nL fr lo g X k n w lv (pc + 1) (.int (x / y) :: rest)) : Z b own cc nL fr lo g X k n w lv pc (.int y :: .int x :: rest) := fun ok H locs ls hP hD hS hl => lv_idiv ok.1 ok.2.1 d hy (kk ok H locs ls hP hD hS hl)
theorem z_irem {x y : Int32} (hy : ¬ y = 0) (d : decode cc pc = .ok (.irem, 1)) (kk : Z b own cc nL fr lo g X k n w lv (pc + 1) (.int (i_rem x y) :: rest)) : Z b own cc nL fr lo g X k n w lv pc (.int y :: .int x :: rest) := fun ok H locs ls hP hD hS hl => lv_irem ok.1 ok.2.1 d hy (kk ok H locs ls hP hD hS hl)
theorem z_ishl {x y : Int32} (d : decode cc pc = .ok (.ishl, 1)) (kk : Z b own cc nL fr lo g X k n w lv (pc + 1) (.int (x <<< (y &&& 31)) :: rest)) : Z b own cc nL fr lo g X k n w lv pc (.int y :: .int x :: rest) := fun ok H locs ls hP hD hS hl => lv_ishl ok.1 ok.2.1 d (kk ok H locs ls hP hD hS hl)
theorem z_ishr {x y : Int32} (d : decode cc pc = .ok (.ishr, 1)) (kk : Z b own cc nL fr lo g X k n w lv (pc + 1) (.int (x >>> (y &&& 31)) :: rest)) : Z b own cc nL fr lo g X k n w lv pc (.int y :: .int x :: rest) := fun ok H locs ls hP hD hS hl => lv_ishr ok.1 ok.2.1 d (kk ok H locs ls hP hD hS hl)
theorem z_ineg {x : Int32} (d : decode cc pc = .ok (.ineg, 1)) (kk : Z b own cc nL fr lo g X k n w lv (pc + 1) (.int (-x) :: rest)) : Z b own cc nL fr lo g X k n w lv pc (.int x :: rest) := fun ok H locs ls hP hD hS hl => lv_ineg ok.1 ok.2.1 d (kk ok H locs ls hP hD hS hl)
theorem z_ladd {x y : Int64} (d : decode cc pc = .ok (.ladd, 1)) (kk : Z b own cc nL fr lo g X k n w lv (pc + 1) (.long (x + y) :: rest)) : Z b own cc nL fr lo g X k n w lv pc (.long y :: .long x :: rest) := fun ok H locs ls hP hD hS hl => lv_ladd ok.1 ok.2.1 d (kk ok H locs ls hP hD hS hl)
theorem z_lmul {x y : Int64} (d : decode cc pc = .ok (.lmul, 1)) (kk : Z b own cc nL fr lo g X k n w lv (pc + 1) (.long (x * y) :: rest)) : Z b own cc nL fr lo g X k n w lv pc (.long y :: .long x :: rest) := fun ok H locs ls hP hD hS hl => lv_lmul ok.1 ok.2.1 d (kk ok H locs ls hP hD hS hl)
theorem z_lcmp {x y : Int64} (d : decode cc pc = .ok (.lcmp, 1)) (kk : Z b own cc nL fr lo g X k n w lv (pc + 1) (.int (lg_cmp x y) :: rest)) : Z b own cc nL fr lo g X k n w lv pc (.long y :: .long x :: rest) := fun ok H locs ls hP hD hS hl => W.lcmp ok.1 ok.2.1 d (kk ok H locs ls hP hD hS hl)
theorem z_lshl {x : Int64} {y : Int32} (d : decode cc pc = .ok (.lshl, 1)) (kk : Z b own cc nL fr lo g X k n w lv (pc + 1) (.long (x <<< (y.toInt64 &&& 63)) :: rest)) : Z b own cc nL fr lo g X k n w lv pc (.int y :: .long x :: rest) := fun ok H locs ls hP hD hS hl => lv_lshl ok.1 ok.2.1 d rfl (kk ok H locs ls hP hD hS hl)
theorem z_i2l {x : Int32} (d : decode cc pc = .ok (.i2l, 1)) (kk : Z b own cc nL fr lo g X k n w lv (pc + 1) (.long x.toInt64 :: rest)) : Z b own cc nL fr lo g X k n w lv pc (.int x :: rest) := fun ok H locs ls hP hD hS hl => lv_i2l ok.1 ok.2.1 d rfl (kk ok H locs ls hP hD hS hl)
theorem z_i2d {x : Int32} (d : decode cc pc = .ok (.i2d, 1)) (kk : Z b own cc nL fr lo g X k n w lv (pc + 1) (.double (FP.i2d x) :: rest)) : Z b own cc nL fr lo g X k n w lv pc (.int x :: rest) := fun ok H locs ls hP hD hS hl => lv_i2d ok.1 ok.2.1 d (kk ok H locs ls hP hD hS hl)
theorem z_d2l {x : UInt64} (d : decode cc pc = .ok (.d2l, 1)) (kk : Z b own cc nL fr lo g X k n w lv (pc + 1) (.long (FP.d2l x) :: rest)) : Z b own cc nL fr lo g X k n w lv pc (.double x :: rest) := fun ok H locs ls hP hD hS hl => lv_d2l ok.1 ok.2.1 d (kk ok H locs ls hP hD hS hl)
theorem z_ddiv {x y v : UInt64} (e : dnn (FP.ddiv x y) = some v) (d : decode cc pc = .ok (.ddiv, 1)) (kk : Z b own cc nL fr lo g X k n w lv (pc + 1) (.double v :: rest)) : Z b own cc nL fr lo g X k n w lv pc (.double y :: .double x :: rest) := fun ok H locs ls hP hD hS hl => lv_ddiv ok.1 ok.2.1 d (dnn_s e).1 (by have e2 := (dnn_s e).2; rw [e2]; exact (kk ok H locs ls hP hD hS hl))
theorem z_dmul {x y v : UInt64} (e : dnn (FP.dmul x y) = some v) (d : decode cc pc = .ok (.dmul, 1)) (kk : Z b own cc nL fr lo g X k n w lv (pc + 1) (.double v :: rest)) : Z b own cc nL fr lo g X k n w lv pc (.double y :: .double x :: rest) := fun ok H locs ls hP hD hS hl => lv_dmul ok.1 ok.2.1 d (dnn_s e).1 (by have e2 := (dnn_s e).2; rw [e2]; exact (kk ok H locs ls hP hD hS hl))
theorem z_dsub {x y v : UInt64} (e : dnn (FP.dsub x y) = some v) (d : decode cc pc = .ok (.dsub, 1)) (kk : Z b own cc nL fr lo g X k n w lv (pc + 1) (.double v :: rest)) : Z b own cc nL fr lo g X k n w lv pc (.double y :: .double x :: rest) := fun ok H locs ls hP hD hS hl => lv_dsub ok.1 ok.2.1 d (dnn_s e).1 (by have e2 := (dnn_s e).2; rw [e2]; exact (kk ok H locs ls hP hD hS hl))
theorem z_dcmp {x y : UInt64} {o : CmpOp} (d : decode cc pc = .ok (.dcmp o, 1)) (kk : Z b own cc nL fr lo g X k n w lv (pc + 1) (.int (Op.cmpValue (FP.dcmp x y) o) :: rest)) : Z b own cc nL fr lo g X k n w lv pc (.double y :: .double x :: rest) := fun ok H locs ls hP hD hS hl => lv_dcmp ok.1 ok.2.1 d (kk ok H locs ls hP hD hS hl)
theorem z_dup {v : Value} (hv : v.category = 1) (d : decode cc pc = .ok (.dup, 1)) (kk : Z b own cc nL fr lo g X k n w lv (pc + 1) (v :: v :: rest)) : Z b own cc nL fr lo g X k n w lv pc (v :: rest) := fun ok H locs ls hP hD hS hl => lv_dup ok.1 ok.2.1 d hv (kk ok H locs ls hP hD hS hl)
theorem z_dup2 {v u : Value} (hv : v.category = 1) (hu : u.category = 1) (d : decode cc pc = .ok (.dup2, 1)) (kk : Z b own cc nL fr lo g X k n w lv (pc + 1) (v :: u :: v :: u :: rest)) : Z b own cc nL fr lo g X k n w lv pc (v :: u :: rest) := fun ok H locs ls hP hD hS hl => lv_dup2_11 ok.1 ok.2.1 d hv hu (kk ok H locs ls hP hD hS hl)
theorem z_pop {v : Value} (hv : v.category = 1) (d : decode cc pc = .ok (.pop, 1)) (kk : Z b own cc nL fr lo g X k n w lv (pc + 1) (rest)) : Z b own cc nL fr lo g X k n w lv pc (v :: rest) := fun ok H locs ls hP hD hS hl => lv_pop ok.1 ok.2.1 d hv (kk ok H locs ls hP hD hS hl)
theorem z_aconst_null  (d : decode cc pc = .ok (.aconst_null, 1)) (kk : Z b own cc nL fr lo g X k n w lv (pc + 1) (.null :: rest)) : Z b own cc nL fr lo g X k n w lv pc (rest) := fun ok H locs ls hP hD hS hl => lv_null ok.1 ok.2.1 d (kk ok H locs ls hP hD hS hl)
theorem z_if_eq {x : Int32} {off : Int} {tgt : Nat} (ht : (pc : Int) + off = (tgt : Int)) (d : decode cc pc = .ok (.ifCond .eq off, 3)) (kt : x = 0 → Z b own cc nL fr lo g X k n w lv tgt rest) (kf : ¬ x = 0 → Z b own cc nL fr lo g X k n w lv (pc + 3) rest) : Z b own cc nL fr lo g X k n w lv pc (.int x :: rest) := fun ok H locs ls hP hD hS hl => lv_if_eq ok.1 ok.2.1 d ht (fun c => kt c ok H locs ls hP hD hS hl) (fun c => kf c ok H locs ls hP hD hS hl)
theorem z_if_ne {x : Int32} {off : Int} {tgt : Nat} (ht : (pc : Int) + off = (tgt : Int)) (d : decode cc pc = .ok (.ifCond .ne off, 3)) (kt : ¬ x = 0 → Z b own cc nL fr lo g X k n w lv tgt rest) (kf : x = 0 → Z b own cc nL fr lo g X k n w lv (pc + 3) rest) : Z b own cc nL fr lo g X k n w lv pc (.int x :: rest) := fun ok H locs ls hP hD hS hl => lv_if_ne ok.1 ok.2.1 d ht (fun c => kt c ok H locs ls hP hD hS hl) (fun c => kf c ok H locs ls hP hD hS hl)
theorem z_if_lt {x : Int32} {off : Int} {tgt : Nat} (ht : (pc : Int) + off = (tgt : Int)) (d : decode cc pc = .ok (.ifCond .lt off, 3)) (kt : x < 0 → Z b own cc nL fr lo g X k n w lv tgt rest) (kf : ¬ x < 0 → Z b own cc nL fr lo g X k n w lv (pc + 3) rest) : Z b own cc nL fr lo g X k n w lv pc (.int x :: rest) := fun ok H locs ls hP hD hS hl => lv_if_lt ok.1 ok.2.1 d ht (fun c => kt c ok H locs ls hP hD hS hl) (fun c => kf c ok H locs ls hP hD hS hl)
theorem z_if_ge {x : Int32} {off : Int} {tgt : Nat} (ht : (pc : Int) + off = (tgt : Int)) (d : decode cc pc = .ok (.ifCond .ge off, 3)) (kt : 0 ≤ x → Z b own cc nL fr lo g X k n w lv tgt rest) (kf : ¬ 0 ≤ x → Z b own cc nL fr lo g X k n w lv (pc + 3) rest) : Z b own cc nL fr lo g X k n w lv pc (.int x :: rest) := fun ok H locs ls hP hD hS hl => lv_if_ge ok.1 ok.2.1 d ht (fun c => kt c ok H locs ls hP hD hS hl) (fun c => kf c ok H locs ls hP hD hS hl)
theorem z_if_gt {x : Int32} {off : Int} {tgt : Nat} (ht : (pc : Int) + off = (tgt : Int)) (d : decode cc pc = .ok (.ifCond .gt off, 3)) (kt : 0 < x → Z b own cc nL fr lo g X k n w lv tgt rest) (kf : ¬ 0 < x → Z b own cc nL fr lo g X k n w lv (pc + 3) rest) : Z b own cc nL fr lo g X k n w lv pc (.int x :: rest) := fun ok H locs ls hP hD hS hl => lv_if_gt ok.1 ok.2.1 d ht (fun c => kt c ok H locs ls hP hD hS hl) (fun c => kf c ok H locs ls hP hD hS hl)
theorem z_if_le {x : Int32} {off : Int} {tgt : Nat} (ht : (pc : Int) + off = (tgt : Int)) (d : decode cc pc = .ok (.ifCond .le off, 3)) (kt : x ≤ 0 → Z b own cc nL fr lo g X k n w lv tgt rest) (kf : ¬ x ≤ 0 → Z b own cc nL fr lo g X k n w lv (pc + 3) rest) : Z b own cc nL fr lo g X k n w lv pc (.int x :: rest) := fun ok H locs ls hP hD hS hl => lv_if_le ok.1 ok.2.1 d ht (fun c => kt c ok H locs ls hP hD hS hl) (fun c => kf c ok H locs ls hP hD hS hl)
theorem z_icmp_eq {x y : Int32} {off : Int} {tgt : Nat} (ht : (pc : Int) + off = (tgt : Int)) (d : decode cc pc = .ok (.if_icmp .eq off, 3)) (kt : x = y → Z b own cc nL fr lo g X k n w lv tgt rest) (kf : ¬ x = y → Z b own cc nL fr lo g X k n w lv (pc + 3) rest) : Z b own cc nL fr lo g X k n w lv pc (.int y :: .int x :: rest) := fun ok H locs ls hP hD hS hl => lv_icmp_eq ok.1 ok.2.1 d ht (fun c => kt c ok H locs ls hP hD hS hl) (fun c => kf c ok H locs ls hP hD hS hl)
theorem z_icmp_ne {x y : Int32} {off : Int} {tgt : Nat} (ht : (pc : Int) + off = (tgt : Int)) (d : decode cc pc = .ok (.if_icmp .ne off, 3)) (kt : ¬ x = y → Z b own cc nL fr lo g X k n w lv tgt rest) (kf : x = y → Z b own cc nL fr lo g X k n w lv (pc + 3) rest) : Z b own cc nL fr lo g X k n w lv pc (.int y :: .int x :: rest) := fun ok H locs ls hP hD hS hl => lv_icmp_ne ok.1 ok.2.1 d ht (fun c => kt c ok H locs ls hP hD hS hl) (fun c => kf c ok H locs ls hP hD hS hl)
theorem z_icmp_lt {x y : Int32} {off : Int} {tgt : Nat} (ht : (pc : Int) + off = (tgt : Int)) (d : decode cc pc = .ok (.if_icmp .lt off, 3)) (kt : x < y → Z b own cc nL fr lo g X k n w lv tgt rest) (kf : ¬ x < y → Z b own cc nL fr lo g X k n w lv (pc + 3) rest) : Z b own cc nL fr lo g X k n w lv pc (.int y :: .int x :: rest) := fun ok H locs ls hP hD hS hl => lv_icmp_lt ok.1 ok.2.1 d ht (fun c => kt c ok H locs ls hP hD hS hl) (fun c => kf c ok H locs ls hP hD hS hl)
theorem z_icmp_ge {x y : Int32} {off : Int} {tgt : Nat} (ht : (pc : Int) + off = (tgt : Int)) (d : decode cc pc = .ok (.if_icmp .ge off, 3)) (kt : y ≤ x → Z b own cc nL fr lo g X k n w lv tgt rest) (kf : ¬ y ≤ x → Z b own cc nL fr lo g X k n w lv (pc + 3) rest) : Z b own cc nL fr lo g X k n w lv pc (.int y :: .int x :: rest) := fun ok H locs ls hP hD hS hl => lv_icmp_ge ok.1 ok.2.1 d ht (fun c => kt c ok H locs ls hP hD hS hl) (fun c => kf c ok H locs ls hP hD hS hl)
theorem z_icmp_gt {x y : Int32} {off : Int} {tgt : Nat} (ht : (pc : Int) + off = (tgt : Int)) (d : decode cc pc = .ok (.if_icmp .gt off, 3)) (kt : y < x → Z b own cc nL fr lo g X k n w lv tgt rest) (kf : ¬ y < x → Z b own cc nL fr lo g X k n w lv (pc + 3) rest) : Z b own cc nL fr lo g X k n w lv pc (.int y :: .int x :: rest) := fun ok H locs ls hP hD hS hl => lv_icmp_gt ok.1 ok.2.1 d ht (fun c => kt c ok H locs ls hP hD hS hl) (fun c => kf c ok H locs ls hP hD hS hl)
theorem z_icmp_le {x y : Int32} {off : Int} {tgt : Nat} (ht : (pc : Int) + off = (tgt : Int)) (d : decode cc pc = .ok (.if_icmp .le off, 3)) (kt : x ≤ y → Z b own cc nL fr lo g X k n w lv tgt rest) (kf : ¬ x ≤ y → Z b own cc nL fr lo g X k n w lv (pc + 3) rest) : Z b own cc nL fr lo g X k n w lv pc (.int y :: .int x :: rest) := fun ok H locs ls hP hD hS hl => lv_icmp_le ok.1 ok.2.1 d ht (fun c => kt c ok H locs ls hP hD hS hl) (fun c => kf c ok H locs ls hP hD hS hl)
theorem z_ifB_eq {t : Bool} {off : Int} {tgt : Nat} (ht : (pc : Int) + off = (tgt : Int)) (d : decode cc pc = .ok (.ifCond .eq off, 3)) (kt : ¬ t = true → Z b own cc nL fr lo g X k n w lv tgt rest) (kf : t = true → Z b own cc nL fr lo g X k n w lv (pc + 3) rest) : Z b own cc nL fr lo g X k n w lv pc (.int (b2i t) :: rest) := fun ok H locs ls hP hD hS hl => lv_if_eq ok.1 ok.2.1 d ht (fun c => kt (by rw [(b2i_0 t).mp c]; decide) ok H locs ls hP hD hS hl) (fun c => kf (by cases t; exact absurd rfl c; rfl) ok H locs ls hP hD hS hl)
theorem z_ifB_ne {t : Bool} {off : Int} {tgt : Nat} (ht : (pc : Int) + off = (tgt : Int)) (d : decode cc pc = .ok (.ifCond .ne off, 3)) (kt : t = true → Z b own cc nL fr lo g X k n w lv tgt rest) (kf : ¬ t = true → Z b own cc nL fr lo g X k n w lv (pc + 3) rest) : Z b own cc nL fr lo g X k n w lv pc (.int (b2i t) :: rest) := fun ok H locs ls hP hD hS hl => lv_if_ne ok.1 ok.2.1 d ht (fun c => kt (by cases t; exact absurd rfl c; rfl) ok H locs ls hP hD hS hl) (fun c => kf (by rw [(b2i_0 t).mp c]; decide) ok H locs ls hP hD hS hl)
theorem z_goto {off : Int} {tgt : Nat} {st : List Value} (ht : (pc : Int) + off = (tgt : Int)) (d : decode cc pc = .ok (.goto off, 3)) (kk : Z b own cc nL fr lo g X k n w lv tgt st) : Z b own cc nL fr lo g X k n w lv pc st := fun ok H locs ls hP hD hS hl => lv_goto ok.1 ok.2.1 d ht (kk ok H locs ls hP hD hS hl)
theorem z_tabIn {dflt lo1 hi off : Int} {offs : Array Int} {len : Nat} {x : Int32} {tgt : Nat} (h1 : ¬ x.toInt < lo1) (h2 : ¬ hi < x.toInt) (ho : offs[(x.toInt - lo1).toNat]? = some off) (ht : (pc : Int) + off = (tgt : Int)) (d : decode cc pc = .ok (.tableswitch dflt lo1 hi offs, len)) (kk : Z b own cc nL fr lo g X k n w lv tgt rest) : Z b own cc nL fr lo g X k n w lv pc (.int x :: rest) := fun ok H locs ls hP hD hS hl => lv_tableIn ok.1 ok.2.1 d h1 h2 ho ht (kk ok H locs ls hP hD hS hl)
theorem z_tabOut {dflt lo1 hi : Int} {offs : Array Int} {len : Nat} {x : Int32} {tgt : Nat} (h : x.toInt < lo1 ∨ hi < x.toInt) (ht : (pc : Int) + dflt = (tgt : Int)) (d : decode cc pc = .ok (.tableswitch dflt lo1 hi offs, len)) (kk : Z b own cc nL fr lo g X k n w lv tgt rest) : Z b own cc nL fr lo g X k n w lv pc (.int x :: rest) := fun ok H locs ls hP hD hS hl => lv_tableOut ok.1 ok.2.1 d h ht (kk ok H locs ls hP hD hS hl)
theorem z_ifnull {x : Nat} {off : Int} (d : decode cc pc = .ok (.ifnull off, 3)) (kk : Z b own cc nL fr lo g X k n w lv (pc + 3) rest) : Z b own cc nL fr lo g X k n w lv pc (.ref x :: rest) := fun ok H locs ls hP hD hS hl => lv_ifnull ok.1 ok.2.1 d (kk ok H locs ls hP hD hS hl)
theorem z_get {ci N : Nat} {C : String} {T : u_T} {ty : Nat → FieldType} {a idx : Nat} {fs : List Value} {v : Value} (hc : zCls ci C T N ty) (q : Nat) (hq : w[q]? = some (a, .inr (ci, fs))) (j : Nat) (hj : j < N) (hl1 : Cond.fieldLink own idx (T j).1 (T j).2.1 (T j).2.2.1 ∈ zW) (hv : fs[j]? = some v) (d : decode cc pc = .ok (.getfield idx, 3)) (kk : Z b own cc nL fr lo g X k n w lv (pc + 3) (v :: rest)) : Z b own cc nL fr lo g X k n w lv pc (.ref a :: rest) := fun ok H locs ls hP hD hS hl => va_get (cl := vwCl) ok.1 ok.2.1 (ok.2.2.2.2.1) hc.2.1 ok.2.2.1 ok.2.2.2.2.2.2.2.2.1 hP q hq hc.1 j hj (ok.2.2.2.2.1 _ hl1) (fun _ h => h) hv d (kk ok H locs ls hP hD hS hl)
theorem z_put {ci N : Nat} {C : String} {T : u_T} {ty : Nat → FieldType} {a idx : Nat} {fs : List Value} {v : Value} {t : FieldType} (w' : va_W) (hc : zCls ci C T N ty) (q : Nat) (hq : w[q]? = some (a, .inr (ci, fs))) (j : Nat) (hj : j < N) (hl1 : Cond.fieldLink own idx (T j).1 (T j).2.1 (T j).2.2.1 ∈ zW) (hf : (T j).2.2.2 = false ∧ parseFieldDescriptor (T j).2.2.1 = some t) (hn : narrow t v = v) (hfit : fits t v = true) (hlen : j < fs.length) (hw : w.set q (a, .inr (ci, fs.set j v)) = w') (d : decode cc pc = .ok (.putfield idx, 3)) (kk : Z true own cc nL fr lo g X k n w' lv (pc + 3) rest) : Z true own cc nL fr lo g X k n w lv pc (v :: .ref a :: rest) := fun ok H locs ls hP hD hS hl => va_put (cl := vwCl) ok.1 ok.2.1 (ok.2.2.2.2.1) hc.2.1 ty hc.2.2.1 hc.2.2.2 ok.2.2.1 ok.2.2.2.2.2.2.2.2.1 hP (hD rfl) hS q hq hc.1 j hj (ok.2.2.2.2.1 _ hl1) (fun _ h => h) hf.1 hf.2 hn hfit hlen d (fun H1 locs1 hP1 hD1 hS1 => (hw ▸ kk) ok H1 locs1 ls hP1 (fun _ => hD1) hS1 hl)
theorem z_iald {a m1 : Nat} {f : Nat → Int32} {i v : Int32} (q : Nat) (hq : w[q]? = some (a, .inl (g.2.1, m1, .inl f))) (e : aget f m1 i = some v) (d : decode cc pc = .ok (.iaload, 1)) (kk : Z b own cc nL fr lo g X k n w lv (pc + 1) (.int v :: rest)) : Z b own cc nL fr lo g X k n w lv pc (.int i :: .ref a :: rest) := fun ok H locs ls hP hD hS hl => va_iald ok.1 ok.2.1 ok.2.2.2.2.2.2.2.2.1 hP q 0 hq rfl (aget_s e).1 d (by rw [(aget_s e).2]; exact (kk ok H locs ls hP hD hS hl))
theorem z_ialdI {a m1 : Nat} {f : Nat → Int32} {i : Int32} (q : Nat) (hq : w[q]? = some (a, .inl (g.2.1, m1, .inl f))) (e : vp_in i m1) (d : decode cc pc = .ok (.iaload, 1)) (kk : Z b own cc nL fr lo g X k n w lv (pc + 1) (.int (f i.toNatClampNeg) :: rest)) : Z b own cc nL fr lo g X k n w lv pc (.int i :: .ref a :: rest) := fun ok H locs ls hP hD hS hl => va_iald ok.1 ok.2.1 ok.2.2.2.2.2.2.2.2.1 hP q 0 hq rfl e d (kk ok H locs ls hP hD hS hl)
theorem z_zald {a m1 : Nat} {f : Nat → Int32} {i v : Int32} (q : Nat) (hq : w[q]? = some (a, .inl (g.2.2.1, m1, .inl f))) (e : aget f m1 i = some v) (d : decode cc pc = .ok (.baload, 1)) (kk : Z b own cc nL fr lo g X k n w lv (pc + 1) (.int v :: rest)) : Z b own cc nL fr lo g X k n w lv pc (.int i :: .ref a :: rest) := fun ok H locs ls hP hD hS hl => va_zald ok.1 ok.2.1 ok.2.2.2.2.2.2.2.2.1 hP q 1 hq rfl (aget_s e).1 d (by rw [(aget_s e).2]; exact (kk ok H locs ls hP hD hS hl))
theorem z_iast {a m1 : Nat} {f f' : Nat → Int32} {i x : Int32} (w' : va_W) (q : Nat) (hq : w[q]? = some (a, .inl (g.2.1, m1, .inl f))) (e : aset f m1 i x = some f') (hw : w.set q (a, .inl (g.2.1, m1, .inl f')) = w') (d : decode cc pc = .ok (.iastore, 1)) (kk : Z true own cc nL fr lo g X k n w' lv (pc + 1) rest) : Z true own cc nL fr lo g X k n w lv pc (.int x :: .int i :: .ref a :: rest) := fun ok H locs ls hP hD hS hl => va_iast ok.1 ok.2.1 ok.2.2.2.2.2.2.2.2.1 hP (hD rfl) hS q 0 hq rfl (aset_s e).1 d (fun H1 locs1 hP1 hD1 hS1 => by rw [(aset_s e).2, hw] at hP1 hD1; exact kk ok H1 locs1 ls hP1 (fun _ => hD1) hS1 hl)
theorem z_iastI {a m1 : Nat} {f : Nat → Int32} {i x : Int32} (w' : va_W) (q : Nat) (hq : w[q]? = some (a, .inl (g.2.1, m1, .inl f))) (e : vp_in i m1) (hw : w.set q (a, .inl (g.2.1, m1, .inl (upd f i.toNatClampNeg x))) = w') (d : decode cc pc = .ok (.iastore, 1)) (kk : Z true own cc nL fr lo g X k n w' lv (pc + 1) rest) : Z true own cc nL fr lo g X k n w lv pc (.int x :: .int i :: .ref a :: rest) := fun ok H locs ls hP hD hS hl => va_iast ok.1 ok.2.1 ok.2.2.2.2.2.2.2.2.1 hP (hD rfl) hS q 0 hq rfl e d (fun H1 locs1 hP1 hD1 hS1 => by rw [hw] at hP1 hD1; exact kk ok H1 locs1 ls hP1 (fun _ => hD1) hS1 hl)
theorem z_zast {a m1 : Nat} {f f' : Nat → Int32} {i x : Int32} (w' : va_W) (q : Nat) (hq : w[q]? = some (a, .inl (g.2.2.1, m1, .inl f))) (e : aset f m1 i (vp_nar .boolean x) = some f') (hw : w.set q (a, .inl (g.2.2.1, m1, .inl f')) = w') (d : decode cc pc = .ok (.bastore, 1)) (kk : Z true own cc nL fr lo g X k n w' lv (pc + 1) rest) : Z true own cc nL fr lo g X k n w lv pc (.int x :: .int i :: .ref a :: rest) := fun ok H locs ls hP hD hS hl => va_zast ok.1 ok.2.1 ok.2.2.2.2.2.2.2.2.1 hP (hD rfl) hS q 1 hq rfl (aset_s e).1 d (fun H1 locs1 hP1 hD1 hS1 => by rw [(aset_s e).2, hw] at hP1 hD1; exact kk ok H1 locs1 ls hP1 (fun _ => hD1) hS1 hl)
theorem z_alen {a m1 : Nat} {f : Nat → Int32} {v : Int32} (q : Nat) (hq : w[q]? = some (a, .inl (g.2.1, m1, .inl f))) (hv : Int32.ofNat m1 = v) (d : decode cc pc = .ok (.arraylength, 1)) (kk : Z b own cc nL fr lo g X k n w lv (pc + 1) (.int v :: rest)) : Z b own cc nL fr lo g X k n w lv pc (.ref a :: rest) := fun ok H locs ls hP hD hS hl => va_alen ok.1 ok.2.1 ok.2.2.2.2.2.2.2.2.1 hP q 0 hq rfl hv d (kk ok H locs ls hP hD hS hl)
theorem z_mmax {idx : Nat} {x y : Int32} (hl1 : Cond.methodLink own idx Lib.Math.max.name ∈ zW) (hf : 1 ≤ fr ∧ (rest.map fun v => v.category).sum + 13 ≤ lo) (hr : k ≤ (xR X).cells ∧ n ≤ (xR X).slots) (d : decode cc pc = .ok (.invokestatic idx, 3)) (kk : Z b own cc nL fr lo g X k n w lv (pc + 3) (.int (i_max x y) :: rest)) : Z b own cc nL fr lo g X k n w lv pc (.int y :: .int x :: rest) := fun ok H locs ls hP hD hS hl => va_mmax ok.1 ok.2.1 (ok.2.2.2.1.trans hl.1.symm) ok.2.2.1 (ok.2.2.2.2.1 _ hl1) (ok.2.2.2.2.1 _ zm_max.1) (ok.2.2.2.2.1 _ zm_max.2.1) (ok.2.2.2.2.1 _ zm_max.2.2) (Nat.le_trans hf.1 ok.2.2.2.2.2.2.1) (Nat.le_trans hf.2 ok.2.2.2.2.2.2.2.1) hr.1 hr.2 d (kk ok H locs ls hP hD hS hl)
theorem z_mmin {idx : Nat} {x y : Int32} (hl1 : Cond.methodLink own idx Lib.Math.min.name ∈ zW) (hf : 1 ≤ fr ∧ (rest.map fun v => v.category).sum + 13 ≤ lo) (hr : k ≤ (xR X).cells ∧ n ≤ (xR X).slots) (d : decode cc pc = .ok (.invokestatic idx, 3)) (kk : Z b own cc nL fr lo g X k n w lv (pc + 3) (.int (i_min x y) :: rest)) : Z b own cc nL fr lo g X k n w lv pc (.int y :: .int x :: rest) := fun ok H locs ls hP hD hS hl => va_mmin ok.1 ok.2.1 (ok.2.2.2.1.trans hl.1.symm) ok.2.2.1 (ok.2.2.2.2.1 _ hl1) (ok.2.2.2.2.1 _ zm_min.1) (ok.2.2.2.2.1 _ zm_min.2.1) (ok.2.2.2.2.1 _ zm_min.2.2) (Nat.le_trans hf.1 ok.2.2.2.2.2.2.1) (Nat.le_trans hf.2 ok.2.2.2.2.2.2.2.1) hr.1 hr.2 d (kk ok H locs ls hP hD hS hl)
theorem z_mabs {idx : Nat} {x : Int32} (hl1 : Cond.methodLink own idx Lib.Math.abs.name ∈ zW) (hf : 1 ≤ fr ∧ (rest.map fun v => v.category).sum + 13 ≤ lo) (hr : k ≤ (xR X).cells ∧ n ≤ (xR X).slots) (d : decode cc pc = .ok (.invokestatic idx, 3)) (kk : Z b own cc nL fr lo g X k n w lv (pc + 3) (.int (i_abs x) :: rest)) : Z b own cc nL fr lo g X k n w lv pc (.int x :: rest) := fun ok H locs ls hP hD hS hl => va_mabs ok.1 ok.2.1 (ok.2.2.2.1.trans hl.1.symm) ok.2.2.1 (ok.2.2.2.2.1 _ hl1) (ok.2.2.2.2.1 _ zm_abs.1) (ok.2.2.2.2.1 _ zm_abs.2.1) (ok.2.2.2.2.1 _ zm_abs.2.2) (Nat.le_trans hf.1 ok.2.2.2.2.2.2.1) (Nat.le_trans hf.2 ok.2.2.2.2.2.2.2.1) hr.1 hr.2 d (kk ok H locs ls hP hD hS hl)
theorem z_iret {v : Int32} (d : decode cc pc = .ok (.ireturn, 1)) (hf : zFin b g (some .int) X k n w (some (.int v))) : Z b own cc nL fr lo g X k n w lv pc [.int v] := fun ok H locs ls hP hD hS hl => hf.2 _ H locs (hP) hD hS (W.iret ok.1 ok.2.1 hf.1 (fun t ht hW => ⟨rfl, ht⟩) hS.2.2 d ok.2.2.2.2.2.1)
theorem z_zret {v : Int32} (t : Bool) (hv : v = b2i t) (d : decode cc pc = .ok (.ireturn, 1)) (hf : zFin b g (some .boolean) X k n w (some (.int (b2i t)))) : Z b own cc nL fr lo g X k n w lv pc [.int v] := by
  subst hv
  exact fun ok H locs ls hP hD hS hl => hf.2 _ H locs hP hD hS (W.zret ok.1 ok.2.1 hf.1 (b2i_nar t) (fun t ht hW => ⟨rfl, ht⟩) hS.2.2 d ok.2.2.2.2.2.1)
theorem z_lret {v : Int64} (d : decode cc pc = .ok (.lreturn, 1)) (hf : zFin b g (some .long) X k n w (some (.long v))) : Z b own cc nL fr lo g X k n w lv pc [.long v] := fun ok H locs ls hP hD hS hl => hf.2 _ H locs (hP) hD hS (W.lret ok.1 ok.2.1 hf.1 (fun t ht hW => ⟨rfl, ht⟩) hS.2.2 d ok.2.2.2.2.2.1)
theorem z_dret {v : UInt64} (d : decode cc pc = .ok (.dreturn, 1)) (hf : zFin b g (some .double) X k n w (some (.double v))) : Z b own cc nL fr lo g X k n w lv pc [.double v] := fun ok H locs ls hP hD hS hl => hf.2 _ H locs (hP) hD hS (W.dret ok.1 ok.2.1 hf.1 (fun t ht hW => ⟨rfl, ht⟩) hS.2.2 d ok.2.2.2.2.2.1)
theorem z_vret  (d : decode cc pc = .ok (.return_, 1)) (hf : zFin b g none X k n w none) : Z b own cc nL fr lo g X k n w lv pc [] := fun ok H locs ls hP hD hS hl => hf.2 _ H locs (hP) hD hS (W.vret ok.1 ok.2.1 hf.1 (fun t ht hW => ⟨rfl, ht⟩) hS.2.2 d ok.2.2.2.2.2.1)
end ZR
section ZC
variable {b : Bool} {own : String} {cc : ByteArray} {nL fr lo : Nat} {g : zG} {X : zX} {k n : Nat} {w w' : va_W} {lv lv' : List (Nat × Value)} {pc : Nat} {st rest : List Value}
theorem zG_app {big x y : List Cond} (ha : GoodIn big x) (hb : GoodIn big y) : GoodIn big (x ++ y) := fun w h => (List.mem_append.mp h).elim (ha w) (hb w)
theorem zfr {Ts : List Cond} {y : MethodName} {own C : String} {idx : Nat} {cc : ByteArray} {nL : Nat} {ret : Option FieldType} {na : Nat} (hT : ∀ w ∈ zW, w ∈ Ts) (hy : zCy y cc nL ret na) (hc : y.cls = C) (hv : Cond.instanceMethod y ∈ zW ∧ Cond.selects C y y ∈ zW) (hl : Cond.methodLink own idx y ∈ zW) : GoodIn Ts (wsV own idx C y (zws y cc nL ret)) := by
  have ok : ∀ w ∈ zW, w ∈ Ts ∧ ((w.onTables && w.keeps) = true ∨ ∃ ty, w = .arrayClass ty) := fun w h => ⟨hT w h, good_of_word (List.mem_filter.mp h).2⟩
  refine zG_app (fun w h => ?_) (zW_good hT hy.1)
  simp only [List.mem_cons, List.not_mem_nil, or_false] at h
  rcases h with rfl | rfl | rfl | rfl
  · exact ok _ hl
  · exact ok _ hv.1
  · exact ok _ hv.2
  · exact ok _ (hc ▸ hy.2.1)
theorem zfs {Ts : List Cond} {y : MethodName} {own : String} {idx : Nat} {cc : ByteArray} {nL : Nat} {ret : Option FieldType} {na : Nat} (hT : ∀ w ∈ zW, w ∈ Ts) (hy : zCy y cc nL ret na) (hv : Cond.static y ∈ zW) (hl : Cond.methodLink own idx y ∈ zW) : GoodIn Ts (va_wsS own idx y (zws y cc nL ret)) := by
  have ok : ∀ w ∈ zW, w ∈ Ts ∧ ((w.onTables && w.keeps) = true ∨ ∃ ty, w = .arrayClass ty) := fun w h => ⟨hT w h, good_of_word (List.mem_filter.mp h).2⟩
  refine zG_app (fun w h => ?_) (zW_good hT hy.1)
  simp only [List.mem_cons, List.not_mem_nil, or_false] at h
  rcases h with rfl | rfl | rfl
  · exact ok _ hl
  · exact ok _ hv
  · exact ok _ hy.2.1
set_option maxHeartbeats 4000000 in
/-- behind a call -/
theorem z_after {b' : Bool} {wc w1 : va_W} {rv : Option Value} {mc ms : Nat} {a : Array Value} {H : Heap} {locs : List Loc} {ls : Array Slot} (hS : va_S (xA X) (xs X).heap H locs) (hAf : ∀ q, zA b' wc H.size q → xA X q)
    (hr : va_Run (xp X) (xl X) (xe X) (xR X) (xs X) (xm X) (xa X) (xb X) (xme X) (xc X) H locs k n mc ms (F0 (xm X) pc ls st) rest (zQc g b' wc w1 rv H.size a) (zA b' wc H.size))
    (kk : ∀ (H1 : Heap) (locs1 : List Loc), va_P g.1 vwCl w1 H1 → (b' = true → va_D (zA b' wc H.size) w1) → (∀ q : Nat, q < H.size → ¬ zA b' wc H.size q → H1[q]? = H[q]?) → va_S (xA X) (xs X).heap H1 locs1 → zWp X H1 locs1 (k + mc) (n + ms) (F0 (xm X) (pc + 3) ls (rv.toList ++ rest))) : zWp X H locs k n (F0 (xm X) pc ls st) := by
  intro T hT Xs
  obtain ⟨v, st₀, t, T', L, h0, X', hL, e1, e2, ⟨hv, hP1, hD1, hz, hk⟩, go⟩ := hr T hT Xs
  cases hv
  rw [h0] at hz hk
  obtain ⟨t2, a1, b1⟩ := kk T'.heap (locs ++ L) (by rw [e1]; exact hP1) hD1 (fun q h1 h2 => by rw [e1]; exact hk q h1 h2)
    ⟨Nat.le_trans hS.1 (by rw [e1]; exact hz), fun q h1 h2 => by rw [e1, hk q (Nat.lt_of_lt_of_le h1 hS.1) (fun z => h2 (hAf q z))]; exact hS.2.1 q h1 h2, fun q hq => by
      rcases List.mem_append.mp hq with h | h
      · exact hS.2.2 q h
      · exact hAf _ (hL q h)⟩ T' rfl X'
  exact ⟨t2, go t2 a1, b1⟩
theorem zP_cut {D : va_G} {cl : List vw_C} {ws wc : va_W} {H : Heap} {is : List Nat} (hP : va_P D cl ws H) (hC : is.map (fun i => ws[i]?) = wc.map some) : va_P D cl wc H := fun j q h => by
  obtain ⟨i, -, h2⟩ := zcut_at hC h
  exact hP i q h2
theorem zP_kept {D : va_G} {cl : List vw_C} {ws : va_W} {H H1 : Heap} (hP : va_P D cl ws H) (hk : ∀ q : Nat, q < H.size → H1[q]? = H[q]?) : va_P D cl ws H1 := hP.kept fun k q hq => hk q.1 (hP k q hq).lt
/-- what a callee wants, where its world is cut out of the caller's -/
theorem zpre {b' : Bool} {As : List Value} {wc : va_W} {H : Heap} (ok : zOk own cc nL fr lo g X) (hP : va_P g.1 vwCl wc H) (hD : b' = true → va_D (fun _ => True) wc) : ∀ U : State, U.heap = H → (xs X).WarmedH U.vm → zPc g b' As wc H.size As.toArray U :=
  fun U hU hW => ⟨rfl, by rw [hU], by rw [hU]; exact hP, va_K.moved hW.alike ok.2.2.2.2.2.2.2.2.1, hD, fun w hw => zNw_warm (List.mem_filter.mp hw).2 hW (ok.2.2.2.2.2.2.2.2.2.2 w hw)⟩
theorem zfree {wc : va_W} {H : Heap} {locs : List Loc} {is : List Nat} (ok : zOk own cc nL fr lo g X) (hD : va_D (xA X) w) (hS : va_S (xA X) (xs X).heap H locs) (hC : is.map (fun i => w[i]?) = wc.map some) : ∀ q, zA true wc H.size q → xA X q := va_free hD hS ok.2.2.2.2.2.2.2.2.2.1 is hC
theorem zfree0 {wc : va_W} {H : Heap} {locs : List Loc} (ok : zOk own cc nL fr lo g X) (hS : va_S (xA X) (xs X).heap H locs) : ∀ q, zA false wc H.size q → xA X q := fun q h => ok.2.2.2.2.2.2.2.2.2.1 q (Nat.le_trans hS.1 h)
set_option maxHeartbeats 4000000 in
theorem z_callVW {y : MethodName} {cc2 : ByteArray} {nL2 fr2 lo2 na : Nat} {ret2 : Option FieldType} {idx : Nat} {C : String} {T : u_T} {ci N r : Nat} {fs : List Value} {As : List Value} {wc w1 : va_W} {rv : Option Value} {l : Launch} (hl : xl X = l) (hC : Ctr l g true y cc2 nL2 ret2 fr2 lo2 0 0 (.ref r :: As) wc w1 rv) (hy : zCy y cc2 nL2 ret2 na) (hv : Cond.instanceMethod y ∈ zW ∧ Cond.selects C y y ∈ zW) (hyC : y.cls = C) (hk1 : Cond.methodLink own idx y ∈ zW) (hcC : vwCl[ci]? = some (C, T, N)) (hrec : wc[0]? = some (r, .inr (ci, fs))) (is : List Nat) (hcut : is.map (fun i => w[i]?) = wc.map some) (hnd : va_nd is = true) (hfst : w1.map Prod.fst = wc.map Prod.fst) (hw : zrep w is w1 = w') (hna : As.length = na) (hst : st = As.reverse ++ .ref r :: rest) (hroom : fr2 + 1 ≤ fr ∧ 8 + (nL2 + 11) + lo2 ≤ lo) (hsum : (rest.map fun v => v.category).sum ≤ 8) (hkn : k ≤ (xR X).cells ∧ n ≤ (xR X).slots) (d : decode cc pc = .ok (.invokevirtual idx, 3)) {st2 : List Value} (h2 : rv.toList ++ rest = st2) (kk : Z true own cc nL fr lo g X k n w' lv (pc + 3) st2) : Z true own cc nL fr lo g X k n w lv pc st := by
  intro ok H locs ls hP hD hS hl9
  subst hl
  subst h2
  have hPc : va_P g.1 vwCl wc H := zP_cut hP hcut
  have hDc : va_D (fun _ => True) wc := ⟨((hD rfl).sub is hnd hcut).1, fun _ _ _ => trivial⟩
  have hfr := zfree ok (hD rfl) hS hcut
  refine z_after (b' := true) hS hfr (va_runV (As := As) (rest := rest) (b := r) ⟨ok.1, ok.2.1, ok.2.2.2.1, ok.2.2.1, ok.2.2.2.2.1⟩ (hC H.size) (cwV na ok.2.2.2.2.1 (zfr (fun _ h => h) hy hyC hv hk1) rfl rfl rfl ⟨hyC, hy.2.2⟩ ⟨Nat.le_trans hroom.1 ok.2.2.2.2.2.2.1, Nat.le_trans hroom.2 ok.2.2.2.2.2.2.2.1⟩) ⟨zblind, va_recv ok.2.2.2.2.2.2.2.2.1 hPc hcC hrec, zpre ok hPc (fun _ => hDc)⟩ rfl hna hl9.1 hst (lv_room hsum) d ⟨hkn.1, hkn.2⟩) (fun H1 locs1 hP1 hD1 hk1 hS1 => ?_)
  obtain ⟨hP2, hD2⟩ := zjoin hP (hD rfl) is hcut hnd hfst hk1 hP1
  rw [hw] at hP2 hD2
  exact kk ok H1 locs1 ls hP2 (fun _ => hD2) hS1 hl9
set_option maxHeartbeats 4000000 in
theorem z_callVR {y : MethodName} {cc2 : ByteArray} {nL2 fr2 lo2 na : Nat} {ret2 : Option FieldType} {idx : Nat} {C : String} {T : u_T} {ci N r : Nat} {fs : List Value} {As : List Value} {wc w1 : va_W} {rv : Option Value} {l : Launch} (hl : xl X = l) (hC : Ctr l g false y cc2 nL2 ret2 fr2 lo2 0 0 (.ref r :: As) wc w1 rv) (hy : zCy y cc2 nL2 ret2 na) (hv : Cond.instanceMethod y ∈ zW ∧ Cond.selects C y y ∈ zW) (hyC : y.cls = C) (hk1 : Cond.methodLink own idx y ∈ zW) (hcC : vwCl[ci]? = some (C, T, N)) (hrec : wc[0]? = some (r, .inr (ci, fs))) (is : List Nat) (hcut : is.map (fun i => w[i]?) = wc.map some) (hna : As.length = na) (hst : st = As.reverse ++ .ref r :: rest) (hroom : fr2 + 1 ≤ fr ∧ 8 + (nL2 + 11) + lo2 ≤ lo) (hsum : (rest.map fun v => v.category).sum ≤ 8) (hkn : k ≤ (xR X).cells ∧ n ≤ (xR X).slots) (d : decode cc pc = .ok (.invokevirtual idx, 3)) {st2 : List Value} (h2 : rv.toList ++ rest = st2) (kk : Z b own cc nL fr lo g X k n w lv (pc + 3) st2) : Z b own cc nL fr lo g X k n w lv pc st := by
  intro ok H locs ls hP hD hS hl9
  subst hl
  subst h2
  have hPc : va_P g.1 vwCl wc H := zP_cut hP hcut
  have hfr := zfree0 (wc := wc) ok hS
  refine z_after (b' := false) hS hfr (va_runV (As := As) (rest := rest) (b := r) ⟨ok.1, ok.2.1, ok.2.2.2.1, ok.2.2.1, ok.2.2.2.2.1⟩ (hC H.size) (cwV na ok.2.2.2.2.1 (zfr (fun _ h => h) hy hyC hv hk1) rfl rfl rfl ⟨hyC, hy.2.2⟩ ⟨Nat.le_trans hroom.1 ok.2.2.2.2.2.2.1, Nat.le_trans hroom.2 ok.2.2.2.2.2.2.2.1⟩) ⟨zblind, va_recv ok.2.2.2.2.2.2.2.2.1 hPc hcC hrec, zpre ok hPc (fun h => by cases h)⟩ rfl hna hl9.1 hst (lv_room hsum) d ⟨hkn.1, hkn.2⟩) (fun H1 locs1 hP1 hD1 hk1 hS1 => ?_)
  exact kk ok H1 locs1 ls (zP_kept hP fun q h => hk1 q h (Nat.not_le.mpr h)) hD hS1 hl9
set_option maxHeartbeats 4000000 in
theorem z_callSW {y : MethodName} {cc2 : ByteArray} {nL2 fr2 lo2 na : Nat} {ret2 : Option FieldType} {idx : Nat} {As : List Value} {wc w1 : va_W} {rv : Option Value} {l : Launch} (hl : xl X = l) (hC : Ctr l g true y cc2 nL2 ret2 fr2 lo2 0 0 As wc w1 rv) (hy : zCy y cc2 nL2 ret2 na) (hv : Cond.static y ∈ zW) (hk1 : Cond.methodLink own idx y ∈ zW) (is : List Nat) (hcut : is.map (fun i => w[i]?) = wc.map some) (hnd : va_nd is = true) (hfst : w1.map Prod.fst = wc.map Prod.fst) (hw : zrep w is w1 = w') (hna : As.length = na) (hst : st = As.reverse ++ rest) (hroom : fr2 + 1 ≤ fr ∧ 8 + (nL2 + 11) + lo2 ≤ lo) (hsum : (rest.map fun v => v.category).sum ≤ 8) (hkn : k ≤ (xR X).cells ∧ n ≤ (xR X).slots) (d : decode cc pc = .ok (.invokestatic idx, 3)) {st2 : List Value} (h2 : rv.toList ++ rest = st2) (kk : Z true own cc nL fr lo g X k n w' lv (pc + 3) st2) : Z true own cc nL fr lo g X k n w lv pc st := by
  intro ok H locs ls hP hD hS hl9
  subst hl
  subst h2
  have hPc : va_P g.1 vwCl wc H := zP_cut hP hcut
  have hDc : va_D (fun _ => True) wc := ⟨((hD rfl).sub is hnd hcut).1, fun _ _ _ => trivial⟩
  have hfr := zfree ok (hD rfl) hS hcut
  refine z_after (b' := true) hS hfr (va_runS (As := As) (rest := rest) ⟨ok.1, ok.2.1, ok.2.2.2.1, ok.2.2.1, ok.2.2.2.2.1⟩ (hC H.size) (va_cwS na ok.2.2.2.2.1 (zfs (fun _ h => h) hy hv hk1) rfl rfl rfl hy.2.2 ⟨Nat.le_trans hroom.1 ok.2.2.2.2.2.2.1, Nat.le_trans hroom.2 ok.2.2.2.2.2.2.2.1⟩) ⟨zblind, zpre ok hPc (fun _ => hDc)⟩ rfl hna hl9.1 hst (lv_room hsum) d ⟨hkn.1, hkn.2⟩) (fun H1 locs1 hP1 hD1 hk1 hS1 => ?_)
  obtain ⟨hP2, hD2⟩ := zjoin hP (hD rfl) is hcut hnd hfst hk1 hP1
  rw [hw] at hP2 hD2
  exact kk ok H1 locs1 ls hP2 (fun _ => hD2) hS1 hl9
set_option maxHeartbeats 4000000 in
theorem z_callSR {y : MethodName} {cc2 : ByteArray} {nL2 fr2 lo2 na : Nat} {ret2 : Option FieldType} {idx : Nat} {As : List Value} {wc w1 : va_W} {rv : Option Value} {l : Launch} (hl : xl X = l) (hC : Ctr l g false y cc2 nL2 ret2 fr2 lo2 0 0 As wc w1 rv) (hy : zCy y cc2 nL2 ret2 na) (hv : Cond.static y ∈ zW) (hk1 : Cond.methodLink own idx y ∈ zW) (is : List Nat) (hcut : is.map (fun i => w[i]?) = wc.map some) (hna : As.length = na) (hst : st = As.reverse ++ rest) (hroom : fr2 + 1 ≤ fr ∧ 8 + (nL2 + 11) + lo2 ≤ lo) (hsum : (rest.map fun v => v.category).sum ≤ 8) (hkn : k ≤ (xR X).cells ∧ n ≤ (xR X).slots) (d : decode cc pc = .ok (.invokestatic idx, 3)) {st2 : List Value} (h2 : rv.toList ++ rest = st2) (kk : Z b own cc nL fr lo g X k n w lv (pc + 3) st2) : Z b own cc nL fr lo g X k n w lv pc st := by
  intro ok H locs ls hP hD hS hl9
  subst hl
  subst h2
  have hPc : va_P g.1 vwCl wc H := zP_cut hP hcut
  have hfr := zfree0 (wc := wc) ok hS
  refine z_after (b' := false) hS hfr (va_runS (As := As) (rest := rest) ⟨ok.1, ok.2.1, ok.2.2.2.1, ok.2.2.1, ok.2.2.2.2.1⟩ (hC H.size) (va_cwS na ok.2.2.2.2.1 (zfs (fun _ h => h) hy hv hk1) rfl rfl rfl hy.2.2 ⟨Nat.le_trans hroom.1 ok.2.2.2.2.2.2.1, Nat.le_trans hroom.2 ok.2.2.2.2.2.2.2.1⟩) ⟨zblind, zpre ok hPc (fun h => by cases h)⟩ rfl hna hl9.1 hst (lv_room hsum) d ⟨hkn.1, hkn.2⟩) (fun H1 locs1 hP1 hD1 hk1 hS1 => ?_)
  exact kk ok H1 locs1 ls (zP_kept hP fun q h => hk1 q h (Nat.not_le.mpr h)) hD hS1 hl9
set_option maxHeartbeats 4000000 in
theorem z_callNW {y : MethodName} {cc2 : ByteArray} {nL2 fr2 lo2 na : Nat} {ret2 : Option FieldType} {idx : Nat} {host : String} {As : List Value} {wc w1 : va_W} {rv : Option Value} {l : Launch} (hl : xl X = l) (hC : Ctr l g true y cc2 nL2 ret2 fr2 lo2 0 0 As wc w1 rv) (hy : zCy y cc2 nL2 ret2 na) (hv : Cond.static y ∈ zW) (hk1 : Cond.methodLinkNest own idx y host ∈ zN) (is : List Nat) (hcut : is.map (fun i => w[i]?) = wc.map some) (hnd : va_nd is = true) (hfst : w1.map Prod.fst = wc.map Prod.fst) (hw : zrep w is w1 = w') (hna : As.length = na) (hst : st = As.reverse ++ rest) (hroom : fr2 + 1 ≤ fr ∧ 8 + (nL2 + 11) + lo2 ≤ lo) (hsum : (rest.map fun v => v.category).sum ≤ 8) (hkn : k ≤ (xR X).cells ∧ n ≤ (xR X).slots) (d : decode cc pc = .ok (.invokestatic idx, 3)) {st2 : List Value} (h2 : rv.toList ++ rest = st2) (kk : Z true own cc nL fr lo g X k n w' lv (pc + 3) st2) : Z true own cc nL fr lo g X k n w lv pc st := by
  intro ok H locs ls hP hD hS hl9
  subst hl
  subst h2
  have hPc : va_P g.1 vwCl wc H := zP_cut hP hcut
  have hDc : va_D (fun _ => True) wc := ⟨((hD rfl).sub is hnd hcut).1, fun _ _ _ => trivial⟩
  have hfr := zfree ok (hD rfl) hS hcut
  refine z_after (b' := true) hS hfr (va_runSN (As := As) (rest := rest) ⟨ok.1, ok.2.1, ok.2.2.2.1, ok.2.2.1, ok.2.2.2.2.1⟩ (hC H.size) ⟨va_cnB na ok.2.2.2.2.1 (zW_good (fun _ h => h) hy.1) rfl rfl rfl (ok.2.2.2.2.2.2.2.2.2.2 _ hk1) (ok.2.2.2.2.1 _ hy.2.1) hy.2.2 ⟨Nat.le_trans hroom.1 ok.2.2.2.2.2.2.1, Nat.le_trans hroom.2 ok.2.2.2.2.2.2.2.1⟩, ok.2.2.2.2.1 _ hv, trivial⟩ ⟨zblind, zpre ok hPc (fun _ => hDc)⟩ rfl hna hl9.1 hst (lv_room hsum) d ⟨hkn.1, hkn.2⟩) (fun H1 locs1 hP1 hD1 hk1 hS1 => ?_)
  obtain ⟨hP2, hD2⟩ := zjoin hP (hD rfl) is hcut hnd hfst hk1 hP1
  rw [hw] at hP2 hD2
  exact kk ok H1 locs1 ls hP2 (fun _ => hD2) hS1 hl9
set_option maxHeartbeats 4000000 in
theorem z_callNR {y : MethodName} {cc2 : ByteArray} {nL2 fr2 lo2 na : Nat} {ret2 : Option FieldType} {idx : Nat} {host : String} {As : List Value} {wc w1 : va_W} {rv : Option Value} {l : Launch} (hl : xl X = l) (hC : Ctr l g false y cc2 nL2 ret2 fr2 lo2 0 0 As wc w1 rv) (hy : zCy y cc2 nL2 ret2 na) (hv : Cond.static y ∈ zW) (hk1 : Cond.methodLinkNest own idx y host ∈ zN) (is : List Nat) (hcut : is.map (fun i => w[i]?) = wc.map some) (hna : As.length = na) (hst : st = As.reverse ++ rest) (hroom : fr2 + 1 ≤ fr ∧ 8 + (nL2 + 11) + lo2 ≤ lo) (hsum : (rest.map fun v => v.category).sum ≤ 8) (hkn : k ≤ (xR X).cells ∧ n ≤ (xR X).slots) (d : decode cc pc = .ok (.invokestatic idx, 3)) {st2 : List Value} (h2 : rv.toList ++ rest = st2) (kk : Z b own cc nL fr lo g X k n w lv (pc + 3) st2) : Z b own cc nL fr lo g X k n w lv pc st := by
  intro ok H locs ls hP hD hS hl9
  subst hl
  subst h2
  have hPc : va_P g.1 vwCl wc H := zP_cut hP hcut
  have hfr := zfree0 (wc := wc) ok hS
  refine z_after (b' := false) hS hfr (va_runSN (As := As) (rest := rest) ⟨ok.1, ok.2.1, ok.2.2.2.1, ok.2.2.1, ok.2.2.2.2.1⟩ (hC H.size) ⟨va_cnB na ok.2.2.2.2.1 (zW_good (fun _ h => h) hy.1) rfl rfl rfl (ok.2.2.2.2.2.2.2.2.2.2 _ hk1) (ok.2.2.2.2.1 _ hy.2.1) hy.2.2 ⟨Nat.le_trans hroom.1 ok.2.2.2.2.2.2.1, Nat.le_trans hroom.2 ok.2.2.2.2.2.2.2.1⟩, ok.2.2.2.2.1 _ hv, trivial⟩ ⟨zblind, zpre ok hPc (fun h => by cases h)⟩ rfl hna hl9.1 hst (lv_room hsum) d ⟨hkn.1, hkn.2⟩) (fun H1 locs1 hP1 hD1 hk1 hS1 => ?_)
  exact kk ok H1 locs1 ls (zP_kept hP fun q h => hk1 q h (Nat.not_le.mpr h)) hD hS1 hl9
end ZC
