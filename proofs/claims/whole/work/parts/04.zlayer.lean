/-! THE Z LAYER: Z says: from this pc, these locals, this stack and any heap that holds the world w, the machine comes to the method's end. -/
abbrev zG : Type := va_G × ClassId × ClassId × ClassId × ClassId
abbrev ztys (g : zG) : List (ClassId × FieldType) := [(g.2.1, .int), (g.2.2.1, .boolean), (g.2.2.2.1, .long), (g.2.2.2.2, .object "DrawerRing$State")]
abbrev zX : Type := Program × Launch × Env × Room × State × MethodId × Array Value × List Frame × Method × Code × (State → Prop) × (Nat → Prop)
abbrev xp (X : zX) : Program := X.1
abbrev xl (X : zX) : Launch := X.2.1
abbrev xe (X : zX) : Env := X.2.2.1
abbrev xR (X : zX) : Room := X.2.2.2.1
abbrev xs (X : zX) : State := X.2.2.2.2.1
abbrev xm (X : zX) : MethodId := X.2.2.2.2.2.1
abbrev xa (X : zX) : Array Value := X.2.2.2.2.2.2.1
abbrev xb (X : zX) : List Frame := X.2.2.2.2.2.2.2.1
abbrev xme (X : zX) : Method := X.2.2.2.2.2.2.2.2.1
abbrev xc (X : zX) : Code := X.2.2.2.2.2.2.2.2.2.1
abbrev xQ (X : zX) : State → Prop := X.2.2.2.2.2.2.2.2.2.2.1
abbrev xA (X : zX) : Nat → Prop := X.2.2.2.2.2.2.2.2.2.2.2
def zOk (own : String) (cc : ByteArray) (nL fr lo : Nat) (g : zG) (X : zX) : Prop :=
  (xp X).tables.exec = Jvm.exec ∧ (xc X).code = cc ∧ (xs X).vm.findClass own = some (xm X).cls ∧ (xc X).maxLocals = nL ∧ (∀ w ∈ zW, w.before (xa X) (xs X) = true) ∧ (xme X).locks = false ∧ fr ≤ (xR X).frames ∧ lo ≤ (xR X).locals ∧ va_K g.1 vwCl (ztys g) (xs X) ∧ (∀ q, (xs X).heap.size ≤ q → xA X q) ∧ (∀ w ∈ zN, va_Nw w (xs X))
/-- which cells a method may change: with b its world's, and those that it makes -/
def zA : Bool → va_W → Nat → Nat → Prop
  | true, w, sz => va_A w sz
  | false, _, sz => fun q => sz ≤ q
theorem zA_new {b : Bool} {w : va_W} {sz : Nat} : ∀ q, sz ≤ q → zA b w sz q := by
  intro q h
  cases b with
  | true => exact Or.inr h
  | false => exact h
def zWp (X : zX) (H : Heap) (locs : List Loc) (k n : Nat) (f : JFrame) : Prop := W (xp X) (xl X) (xe X) (xR X) (xs X) (xm X) (xa X) (xb X) (xme X) (xc X) H locs k n (xQ X) f
def Z (b : Bool) (own : String) (cc : ByteArray) (nL fr lo : Nat) (g : zG) (X : zX) (k n : Nat) (w : List va_W) (lv : List (Nat × Value)) (pc : Nat) (st : List Value) : Prop :=
  zOk own cc nL fr lo g X → ∀ (H : Heap) (locs : List Loc) (ls : Array Slot), va_P g.1 vwCl w.flatten H → (b = true → va_D (xA X) w.flatten) → va_S (xA X) (xs X).heap H locs → lv_has ls nL lv → zWp X H locs k n (F0 (xm X) pc ls st)
def zFin (b : Bool) (g : zG) (ret : Option FieldType) (X : zX) (mc ms : Nat) (w1 : List va_W) (rv : Option Value) : Prop :=
  (xme X).sig.returnType = ret ∧ ∀ (f : JFrame) (H : Heap) (locs : List Loc), va_P g.1 vwCl w1.flatten H → (b = true → va_D (xA X) w1.flatten) → va_S (xA X) (xs X).heap H locs →
    W (xp X) (xl X) (xe X) (xR X) (xs X) (xm X) (xa X) (xb X) (xme X) (xc X) H locs mc ms (MQ (xb X) (fun _ _ oc t => oc = .returned rv ∧ t.heap = H) (xa X) (xs X) mc ms (xA X)) f → zWp X H locs mc ms f
def zPc (g : zG) (b : Bool) (args : List Value) (w : va_W) (sz : Nat) : Array Value → State → Prop := va_Pc args (fun U => U.heap.size = sz ∧ va_P g.1 vwCl w U.heap ∧ va_K g.1 vwCl (ztys g) U ∧ (b = true → va_D (fun _ => True) w) ∧ (∀ w ∈ zN, va_Nw w U))
def zQc (g : zG) (b : Bool) (w w1 : va_W) (rv : Option Value) (sz : Nat) : Array Value → State → Outcome → State → Prop := fun _ st oc t => oc = .returned rv ∧ va_P g.1 vwCl w1 t.heap ∧ (b = true → va_D (zA b w sz) w1) ∧ va_F (zA b w sz) st t
/-- A CONTRACT: called with args in the world w, y answers rv and leaves the world w1 -/
def Ctr (l : Launch) (g : zG) (b : Bool) (y : MethodName) (cc : ByteArray) (nL : Nat) (ret : Option FieldType) (fr lo mc ms : Nat) (args : List Value) (w w1 : List va_W) (rv : Option Value) : Prop :=
  ∀ sz : Nat, Met l y (zws y cc nL ret) ({ frames := fr, cells := mc, slots := ms, locals := lo }) (zPc g b args w.flatten sz) (zQc g b w.flatten w1.flatten rv sz) mc ms (zA b w.flatten sz)
theorem W.mono {p : Program} {l : Launch} {e : Env} {R : Room} {s : State} {m : MethodId} {args : Array Value} {below : List Frame} {meth : Method} {c : Code} {H : Heap} {locs : List Loc} {cells slots : Nat} {Q Q' : State → Prop} {f : JFrame} (h : W p l e R s m args below meth c H locs cells slots Q f) (hq : ∀ t, Q t → Q' t) : W p l e R s m args below meth c H locs cells slots Q' f := by
  intro T hT X
  obtain ⟨t, a, b⟩ := h T hT X
  exact ⟨t, a, hq t b⟩
set_option maxHeartbeats 4000000 in
theorem ctr_of {l : Launch} {g : zG} {b : Bool} {own name desc : String} {cc : ByteArray} {nL : Nat} {ret : Option FieldType} {fr lo mc ms : Nat} {args : List Value} {w w1 : List va_W} {rv : Option Value} (hy : plainName own = true) (hn : (lg_sl args).length ≤ nL)
    (h : ∀ X : zX, xl X = l → (xR X).cells = mc → (xR X).slots = ms → (name = "<init>" → (xme X).name = "<init>") → zFin b g ret X mc ms w1 rv → Z b own cc nL fr lo g X 0 0 w (lv_args 0 args) 0 []) : Ctr l g b ⟨own, name, desc⟩ cc nL ret fr lo mc ms args w w1 rv := by
  intro sz
  refine Met.ofW (cc := cc) (maxL := nL) (ret := ret) hy rfl ?_
  intro p e s m args' below meth c s₁ B hml hv
  obtain ⟨rfl, hsz, hP, hK, hD0, hN⟩ := hv
  subst hsz
  have hts := atoms_spec (ws := zws ⟨own, name, desc⟩ cc nL ret) B.pre
  have hl := lv_entry args (n := nL) hn
  rw [lg_entry_eq]
  refine h (p, l, e, (headSpec (zws ⟨own, name, desc⟩ cc nL ret) ({ frames := fr, cells := mc, slots := ms, locals := lo })).room, s, m, args.toArray, below, meth, c, _, zA b w.flatten s.heap.size) rfl rfl rfl (fun h => (name_of_methodNamed B.named B.method).1.trans h) ?_ ?_ s.heap [] _ hP ?_ va_S.rf hl
  · refine ⟨B.returns, fun f H locs hP1 hD1 hS hW => W.mono hW fun t ht => ?_⟩
    obtain ⟨o, h1, h2, ⟨h3, h4⟩, h5⟩ := ht
    exact ⟨o, h1, h2, ⟨h3, by rw [h4]; exact hP1, hD1, hS.F h4⟩, h5⟩
  · exact ⟨B.exec, B.bytes, findClass_of_methodNamed B.named, hml, fun w hw => hts w (List.mem_cons_of_mem _ hw), B.notSynchronized, Nat.le_refl _, Nat.le_refl _, hK, zA_new, hN⟩
  · intro hb
    subst hb
    exact (hD0 rfl).self
theorem zinc {x : Int32} : x + Int32.ofInt 1 = x + 1 := rfl
theorem zdec {x : Int32} : x + Int32.ofInt (-1) = x + -1 := rfl
theorem zb {α β : Type} {o : Option α} {K : α → Option β} {r : β} (h : o.bind K = some r) : ∃ v, o = some v ∧ K v = some r := by
  cases o with
  | none => cases h
  | some v => exact ⟨v, rfl, h⟩
def b2i : Bool → Int32
  | true => 1
  | false => 0
theorem b2i_nar (b : Bool) : narrow .boolean (.int (b2i b)) = .int (b2i b) := by cases b <;> decide
theorem b2i_fits (b : Bool) : fits .boolean (.int (b2i b)) = true := by cases b <;> decide
theorem zn_i (x : Int32) : narrow .int (.int x) = .int x := rfl
theorem zf_i (x : Int32) : fits .int (.int x) = true := rfl
theorem zn_l (x : Int64) : narrow .long (.long x) = .long x := rfl
theorem zf_l (x : Int64) : fits .long (.long x) = true := rfl
theorem b2i_0 (b : Bool) : b2i b = 0 ↔ b = false := by cases b <;> decide
theorem b2i_t : b2i true = 1 := rfl
theorem b2i_f : b2i false = 0 := rfl
def aget (f : Nat → Int32) (n : Nat) (i : Int32) : Option Int32 := if i < 0 ∨ n ≤ i.toNatClampNeg then none else some (f i.toNatClampNeg)
def aset (f : Nat → Int32) (n : Nat) (i x : Int32) : Option (Nat → Int32) := if i < 0 ∨ n ≤ i.toNatClampNeg then none else some (upd f i.toNatClampNeg x)
theorem aget_s {f : Nat → Int32} {n : Nat} {i v : Int32} (h : aget f n i = some v) : vp_in i n ∧ f i.toNatClampNeg = v := by
  unfold aget at h
  split at h
  · cases h
  · exact ⟨by assumption, Option.some.inj h⟩
theorem aset_s {f f' : Nat → Int32} {n : Nat} {i x : Int32} (h : aset f n i x = some f') : vp_in i n ∧ upd f i.toNatClampNeg x = f' := by
  unfold aset at h
  split at h
  · cases h
  · exact ⟨by assumption, Option.some.inj h⟩
def dnn (r : UInt64) : Option UInt64 := if r &&& 0x7fffffffffffffff ≤ 0x7ff0000000000000 then some r else none
theorem dnn_s {r v : UInt64} (h : dnn r = some v) : vf_n64 r ∧ r = v := by
  unfold dnn at h
  split at h
  · exact ⟨by assumption, Option.some.inj h⟩
  · cases h
def i_max (x y : Int32) : Int32 := if x < y then y else x
def i_min (x y : Int32) : Int32 := if y < x then y else x
def i_abs (x : Int32) : Int32 := if 0 ≤ x then x else 0 - x
def i_rem (x y : Int32) : Int32 := x - x / y * y
/-- a loop, with fuel: inl goes on, inr ends it -/
def lp {σ ε : Type} : Nat → (σ → Option (σ ⊕ ε)) → σ → Option ε
  | 0, _, _ => none
  | n + 1, f, s => match f s with
    | none => none
    | some (.inl s') => lp n f s'
    | some (.inr e) => some e
theorem lp_ind {σ ε : Type} (f : σ → Option (σ ⊕ ε)) (ZH : σ → Prop) (ZE : ε → Prop) (hs : ∀ s q, f s = some q → (∀ s', q = .inl s' → ZH s') → (∀ e, q = .inr e → ZE e) → ZH s) : ∀ n s e, lp n f s = some e → ZE e → ZH s := by
  intro n
  induction n with
  | zero => intro s e h; cases h
  | succ n ih =>
    intro s e h he
    unfold lp at h
    cases hf : f s with
    | none => rw [hf] at h; cases h
    | some q =>
      rw [hf] at h
      cases q with
      | inl s' => exact hs s _ hf (fun s2 h2 => by cases h2; exact ih s' e h he) (fun e2 h2 => by cases h2)
      | inr e' => cases h; exact hs s _ hf (fun s2 h2 => by cases h2) (fun e2 h2 => by cases h2; exact he)
/-- a piece of a world of blocks: a block, or a part of one -/
abbrev zPl : Type := Nat × Option (Nat × Nat)
def zcut (w : List va_W) (p : zPl) : Option va_W := match p.2 with
  | none => w[p.1]?
  | some (o, m) => w[p.1]?.map fun b => (b.drop o).take m
def zset (w : List va_W) (p : zPl) (d : va_W) : List va_W := match p.2 with
  | none => w.set p.1 d
  | some (o, m) => w.set p.1 (((w[p.1]?).getD []).take o ++ (d ++ ((w[p.1]?).getD []).drop (o + m)))
def zrep : List va_W → List zPl → List va_W → List va_W
  | w, p :: ps, d :: ds => zrep (zset w p d) ps ds
  | w, _, _ => w
theorem zblk {w : List va_W} {i : Nat} {b : va_W} (h : w[i]? = some b) : ∃ pre post, w = pre ++ b :: post ∧ pre.length = i := by
  obtain ⟨hi, rfl⟩ := List.getElem?_eq_some_iff.mp h
  exact ⟨w.take i, w.drop (i + 1), by rw [List.getElem_cons_drop]; exact (List.take_append_drop i w).symm, by rw [List.length_take]; omega⟩
/-- one piece: what it is among the rest, before and behind -/
theorem zpiece {w : List va_W} {p : zPl} {c : va_W} (h : zcut w p = some c) : ∃ x y : va_W, w.flatten = x ++ (c ++ y) ∧ ∀ d, (zset w p d).flatten = x ++ (d ++ y) := by
  obtain ⟨i, o⟩ := p
  cases o with
  | none =>
    obtain ⟨pre, post, rfl, rfl⟩ := zblk (h : w[i]? = some c)
    refine ⟨pre.flatten, post.flatten, by simp, fun d => ?_⟩
    show ((pre ++ c :: post).set pre.length d).flatten = _
    rw [List.set_append_right _ _ (Nat.le_refl _), Nat.sub_self]
    simp
  | some om =>
    obtain ⟨o, m⟩ := om
    have h : (w[i]?.map fun b => (b.drop o).take m) = some c := h
    cases hb : w[i]? with
    | none => rw [hb] at h; cases h
    | some b =>
      rw [hb] at h
      have hc : (b.drop o).take m = c := Option.some.inj h
      obtain ⟨pre, post, rfl, rfl⟩ := zblk hb
      have e : b = b.take o ++ (c ++ b.drop (o + m)) := by
        rw [← hc, ← List.drop_drop, List.take_append_drop, List.take_append_drop]
      refine ⟨pre.flatten ++ b.take o, b.drop (o + m) ++ post.flatten, ?_, fun d => ?_⟩
      · rw [List.flatten_append, List.flatten_cons]
        conv => lhs; rw [e]
        simp
      · show ((pre ++ b :: post).set pre.length ((((pre ++ b :: post)[pre.length]?).getD []).take o ++ (d ++ (((pre ++ b :: post)[pre.length]?).getD []).drop (o + m)))).flatten = _
        rw [hb, List.set_append_right _ _ (Nat.le_refl _), Nat.sub_self]
        simp
theorem zset_ne {w : List va_W} {p q : zPl} {d : va_W} (h : p.1 ≠ q.1) : zcut (zset w p d) q = zcut w q := by
  obtain ⟨i, o⟩ := p
  obtain ⟨j, o2⟩ := q
  have e : (zset w (i, o) d)[j]? = w[j]? := by
    cases o with
    | none => exact List.getElem?_set_ne h
    | some om => exact List.getElem?_set_ne h
  cases o2 with
  | none => exact e
  | some om =>
    show (zset w (i, o) d)[j]?.map _ = w[j]?.map _
    rw [e]
theorem zP_mem {D : va_G} {cl : List vw_C} {ws : va_W} {H : Heap} : va_P D cl ws H ↔ ∀ q ∈ ws, va_at D cl q H := by
  constructor
  · intro h q hq
    obtain ⟨k, hk⟩ := List.getElem?_of_mem hq
    exact h k q hk
  · intro h k q hk
    exact h q (List.mem_of_getElem? hk)
theorem zD_fst {A : Nat → Prop} {ws ws' : va_W} (h : ws'.map Prod.fst = ws.map Prod.fst) (hD : va_D A ws) : va_D A ws' := by
  have key : ∀ (k : Nat) (q : Nat × va_E), ws'[k]? = some q → ∃ q0, ws[k]? = some q0 ∧ q0.1 = q.1 := by
    intro k q hk
    have h1 : (ws'.map Prod.fst)[k]? = (ws.map Prod.fst)[k]? := by rw [h]
    rw [List.getElem?_map, List.getElem?_map, hk] at h1
    cases h2 : ws[k]? with
    | none => rw [h2] at h1; cases h1
    | some q0 => rw [h2] at h1; exact ⟨q0, rfl, (Option.some.inj h1).symm⟩
  refine ⟨fun i j x y hx hy hxy => ?_, fun k q hk => ?_⟩
  · obtain ⟨x0, h1, h2⟩ := key i x hx
    obtain ⟨y0, h3, h4⟩ := key j y hy
    exact hD.1 i j x0 y0 h1 h3 (h2.trans (hxy.trans h4.symm))
  · obtain ⟨q0, h1, h2⟩ := key k q hk
    rw [← h2]
    exact hD.2 k q0 h1
/-- cells of two sides of a world are apart -/
theorem zD_apart {A : Nat → Prop} {x y z : va_W} (hD : va_D A (x ++ (y ++ z))) {p q : Nat × va_E} (hp : p ∈ x ∨ p ∈ z) (hq : q ∈ y) : p.1 ≠ q.1 := by
  obtain ⟨j, hj⟩ := List.getElem?_of_mem hq
  have hjl := (List.getElem?_eq_some_iff.mp hj).1
  have h2 : (x ++ (y ++ z))[x.length + j]? = some q := by
    rw [List.getElem?_append_right (by omega), Nat.add_sub_cancel_left, List.getElem?_append_left hjl]; exact hj
  intro e
  rcases hp with hp | hp
  · obtain ⟨i, hi⟩ := List.getElem?_of_mem hp
    have hil := (List.getElem?_eq_some_iff.mp hi).1
    have h1 : (x ++ (y ++ z))[i]? = some p := by rw [List.getElem?_append_left hil]; exact hi
    have := hD.1 _ _ _ _ h1 h2 e
    omega
  · obtain ⟨i, hi⟩ := List.getElem?_of_mem hp
    have h1 : (x ++ (y ++ z))[x.length + (y.length + i)]? = some p := by
      rw [List.getElem?_append_right (by omega), Nat.add_sub_cancel_left, List.getElem?_append_right (by omega), Nat.add_sub_cancel_left]; exact hi
    have := hD.1 _ _ _ _ h1 h2 e
    omega
def znd (ps : List zPl) : Bool := va_nd (ps.map Prod.fst)
theorem zrep_fst : ∀ (ps : List zPl) (w wc w1 : List va_W), ps.map (zcut w) = wc.map some → znd ps = true → w1.map (List.map Prod.fst) = wc.map (List.map Prod.fst) → (zrep w ps w1).flatten.map Prod.fst = w.flatten.map Prod.fst
  | [], w, wc, w1, _, _, _ => by cases w1 <;> rfl
  | p :: ps, w, wc, [], _, _, _ => rfl
  | p :: ps, w, [], d :: ds, hC, _, _ => by cases hC
  | p :: ps, w, c :: cs, d :: ds, hC, hn, hf => by
    simp only [znd, List.map_cons, va_nd, Bool.and_eq_true, decide_eq_true_eq] at hn
    have hC := List.cons.inj hC
    have hf := List.cons.inj hf
    have h2 : ps.map (zcut (zset w p d)) = cs.map some := by
      rw [← hC.2]
      exact List.map_congr_left fun q hq => zset_ne fun e => hn.1 (List.mem_map.mpr ⟨q, hq, e.symm⟩)
    have := zrep_fst ps (zset w p d) cs ds h2 hn.2 hf.2
    show (zrep (zset w p d) ps ds).flatten.map Prod.fst = _
    rw [this]
    obtain ⟨x, y, h3, h4⟩ := zpiece hC.1
    rw [h3, h4, List.map_append, List.map_append, List.map_append, List.map_append, hf.1]
theorem zrep_mem {A : Nat → Prop} : ∀ (ps : List zPl) (w wc w1 : List va_W), ps.map (zcut w) = wc.map some → znd ps = true → w1.map (List.map Prod.fst) = wc.map (List.map Prod.fst) → va_D A w.flatten → ∀ q ∈ (zrep w ps w1).flatten, q ∈ w1.flatten ∨ (q ∈ w.flatten ∧ ∀ c ∈ wc.flatten, q.1 ≠ c.1)
  | [], w, wc, w1, hC, _, _, _, q, hq => by
    cases wc with
    | nil => cases w1 <;> exact Or.inr ⟨hq, fun c hc => by cases hc⟩
    | cons c cs => cases hC
  | p :: ps, w, wc, [], hC, _, hf, _, q, hq => by
    cases wc with
    | nil => cases hC
    | cons c cs => cases hf
  | p :: ps, w, [], d :: ds, hC, _, _, _, q, hq => by cases hC
  | p :: ps, w, c :: cs, d :: ds, hC, hn, hf, hD, q, hq => by
    have hn0 := hn
    simp only [znd, List.map_cons, va_nd, Bool.and_eq_true, decide_eq_true_eq] at hn
    have hC := List.cons.inj hC
    have hf := List.cons.inj hf
    have h2 : ps.map (zcut (zset w p d)) = cs.map some := by
      rw [← hC.2]
      exact List.map_congr_left fun q hq => zset_ne fun e => hn.1 (List.mem_map.mpr ⟨q, hq, e.symm⟩)
    obtain ⟨x, y, h3, h4⟩ := zpiece hC.1
    have hD2 : va_D A (zset w p d).flatten := by
      refine zD_fst ?_ hD
      rw [h3, h4, List.map_append, List.map_append, List.map_append, List.map_append, hf.1]
    rcases zrep_mem ps (zset w p d) cs ds h2 hn.2 hf.2 hD2 q hq with h | ⟨h, h5⟩
    · exact Or.inl (List.mem_append_right _ h)
    · rw [h4] at h
      have hx : q ∈ d ∨ (q ∈ x ∨ q ∈ y) := by
        rcases List.mem_append.mp h with h | h
        · exact Or.inr (Or.inl h)
        · rcases List.mem_append.mp h with h | h
          · exact Or.inl h
          · exact Or.inr (Or.inr h)
      rcases hx with h | h
      · exact Or.inl (List.mem_append_left _ h)
      · refine Or.inr ⟨?_, fun c2 hc2 => ?_⟩
        · rw [h3]
          rcases h with h | h
          · exact List.mem_append_left _ h
          · exact List.mem_append_right _ (List.mem_append_right _ h)
        · rcases List.mem_append.mp hc2 with h6 | h6
          · rw [h3] at hD
            exact zD_apart hD h h6
          · exact h5 c2 h6
theorem zP_cut {D : va_G} {cl : List vw_C} {ws wc : List va_W} {H : Heap} {ps : List zPl} (hP : va_P D cl ws.flatten H) (hC : ps.map (zcut ws) = wc.map some) : va_P D cl wc.flatten H := by
  rw [zP_mem] at hP ⊢
  intro q hq
  obtain ⟨c, hc, hqc⟩ := List.mem_flatten.mp hq
  have h1 : some c ∈ ps.map (zcut ws) := by rw [hC]; exact List.mem_map.mpr ⟨c, hc, rfl⟩
  obtain ⟨p, -, hp⟩ := List.mem_map.mp h1
  obtain ⟨x, y, h3, -⟩ := zpiece hp
  exact hP q (by rw [h3]; exact List.mem_append_right _ (List.mem_append_left _ hqc))
/-- .. each cell of the cut-out part once, and among the world's -/
theorem zD_cut {A : Nat → Prop} : ∀ (ps : List zPl) (ws wc : List va_W), ps.map (zcut ws) = wc.map some → znd ps = true → va_D A ws.flatten → va_D A wc.flatten
  | ps, ws, wc, hC, hn, hD => by
    -- the world with the pieces emptied lies beside the pieces
    have key : ∀ (ps : List zPl) (w wc : List va_W), ps.map (zcut w) = wc.map some → znd ps = true → va_D A w.flatten → va_D A wc.flatten ∧ ∀ c ∈ wc.flatten, A c.1 := by
      intro ps
      induction ps with
      | nil =>
        intro w wc hC _ _
        cases wc with
        | nil => exact ⟨⟨fun i j p q h => by simp at h, fun k q h => by simp at h⟩, fun c hc => by cases hc⟩
        | cons c cs => cases hC
      | cons p ps ih =>
        intro w wc hC hn hD
        cases wc with
        | nil => cases hC
        | cons c cs =>
          simp only [znd, List.map_cons, va_nd, Bool.and_eq_true, decide_eq_true_eq] at hn
          have hC := List.cons.inj hC
          obtain ⟨x, y, h3, h4⟩ := zpiece hC.1
          have h2 : ps.map (zcut (zset w p [])) = cs.map some := by
            rw [← hC.2]
            exact List.map_congr_left fun q hq => zset_ne fun e => hn.1 (List.mem_map.mpr ⟨q, hq, e.symm⟩)
          have hD' := hD
          rw [h3] at hD'
          have hDs : va_D A (zset w p []).flatten := by
            rw [h4, List.nil_append]
            refine ⟨fun i j u v hu hv huv => ?_, fun k q h => ?_⟩
            · have up : ∀ (k : Nat) (q : Nat × va_E), (x ++ y)[k]? = some q → (x ++ (c ++ y))[if k < x.length then k else k + c.length]? = some q := by
                intro k q h
                by_cases hk : k < x.length
                · rw [if_pos hk, List.getElem?_append_left hk]
                  rwa [List.getElem?_append_left hk] at h
                · rw [if_neg hk, List.getElem?_append_right (by omega), List.getElem?_append_right (by omega)]
                  rw [List.getElem?_append_right (by omega)] at h
                  rw [← h]
                  congr 1
                  omega
              have := hD'.1 _ _ _ _ (up i u hu) (up j v hv) huv
              split at this <;> split at this <;> omega
            · have hm : q ∈ x ++ (c ++ y) := by
                rcases List.mem_append.mp (List.mem_of_getElem? h) with h | h
                · exact List.mem_append_left _ h
                · exact List.mem_append_right _ (List.mem_append_right _ h)
              obtain ⟨k2, hk2⟩ := List.getElem?_of_mem hm
              exact hD'.2 k2 q hk2
          obtain ⟨hDc, hAc⟩ := ih _ _ h2 hn.2 hDs
          have hDone : va_D A c := by
            refine ⟨fun i j u v hu hv huv => ?_, fun k q h => ?_⟩
            · have up : ∀ (k : Nat) (q : Nat × va_E), c[k]? = some q → (x ++ (c ++ y))[x.length + k]? = some q := by
                intro k q h
                rw [List.getElem?_append_right (by omega), Nat.add_sub_cancel_left, List.getElem?_append_left (List.getElem?_eq_some_iff.mp h).1]
                exact h
              have := hD'.1 _ _ _ _ (up i u hu) (up j v hv) huv
              omega
            · obtain ⟨k2, hk2⟩ := List.getElem?_of_mem (List.mem_append_right x (List.mem_append_left y (List.mem_of_getElem? h)))
              exact hD'.2 k2 q hk2
          have hcs : ∀ q ∈ cs.flatten, q ∈ x ∨ q ∈ y := by
            intro q hq
            obtain ⟨d, hd, hqd⟩ := List.mem_flatten.mp hq
            have h5 : some d ∈ ps.map (zcut (zset w p [])) := by rw [h2]; exact List.mem_map.mpr ⟨d, hd, rfl⟩
            obtain ⟨p2, -, hp2⟩ := List.mem_map.mp h5
            obtain ⟨x2, y2, h6, -⟩ := zpiece hp2
            have h7 : q ∈ (zset w p []).flatten := by rw [h6]; exact List.mem_append_right _ (List.mem_append_left _ hqd)
            rw [h4, List.nil_append] at h7
            exact List.mem_append.mp h7
          have hall : va_D A (c ++ cs.flatten) := hDone.app hDc (fun i j u v hu hv => (zD_apart hD' (hcs v (List.mem_of_getElem? hv)) (List.mem_of_getElem? hu)).symm)
          refine ⟨hall, fun q hq => ?_⟩
          obtain ⟨k2, hk2⟩ := List.getElem?_of_mem hq
          exact hall.2 k2 q hk2
    exact (key ps ws wc hC hn hD).1
set_option maxHeartbeats 4000000 in
theorem zjoin {A0 : Nat → Prop} {D : va_G} {cl : List vw_C} {ws wc w1 : List va_W} {H H1 : Heap} (hP : va_P D cl ws.flatten H) (hD : va_D A0 ws.flatten) (ps : List zPl) (hC : ps.map (zcut ws) = wc.map some) (hn : znd ps = true) (hf : w1.map (List.map Prod.fst) = wc.map (List.map Prod.fst))
    (hk : ∀ q : Nat, q < H.size → ¬ va_A wc.flatten H.size q → H1[q]? = H[q]?) (hP1 : va_P D cl w1.flatten H1) : va_P D cl (zrep ws ps w1).flatten H1 ∧ va_D A0 (zrep ws ps w1).flatten := by
  refine ⟨?_, zD_fst (zrep_fst ps ws wc w1 hC hn hf) hD⟩
  rw [zP_mem] at hP hP1 ⊢
  intro q hq
  rcases zrep_mem ps ws wc w1 hC hn hf hD q hq with h | ⟨h, h2⟩
  · exact hP1 q h
  · have hlt := (hP q h).lt
    refine (hP q h).kept (hk q.1 hlt fun hA => ?_)
    rcases hA with ⟨j, e, h3⟩ | h3
    · exact h2 (q.1, e) (List.mem_of_getElem? h3) rfl
    · omega
/-- a cell by its block and its place there -/
theorem zcell {w : List va_W} {i j : Nat} {b : va_W} {c : Nat × va_E} (hb : w[i]? = some b) (hc : b[j]? = some c) : ∃ k, w.flatten[k]? = some c ∧ ∀ c', w.flatten.set k c' = (w.set i (b.set j c')).flatten := by
  obtain ⟨pre, post, rfl, rfl⟩ := zblk hb
  have hjl := (List.getElem?_eq_some_iff.mp hc).1
  refine ⟨pre.flatten.length + j, ?_, fun c' => ?_⟩
  · rw [List.flatten_append, List.getElem?_append_right (by omega), Nat.add_sub_cancel_left, List.flatten_cons, List.getElem?_append_left hjl]
    exact hc
  · rw [List.set_append_right _ _ (Nat.le_refl _), Nat.sub_self, List.flatten_append, List.flatten_append, List.flatten_cons, List.set_cons_zero, List.flatten_cons, List.set_append_right _ _ (by omega), Nat.add_sub_cancel_left, List.set_append_left _ _ hjl]
theorem zblind {g : zG} {b : Bool} {args : List Value} {w : va_W} {sz : Nat} : FrameBlind (zPc g b args w sz) := by
  intro a U f mk h
  obtain ⟨h0, h1, h2, h3, h4, h5⟩ := h
  exact ⟨h0, h1, h2, va_K.moved (u := U) (U := U.calling f mk a) (Vm.Alike.refl U.vm) h3, h4, fun w hw => va_Nw.same (u := U) (U := U.calling f mk a) (zNw_tab (List.mem_filter.mp hw).2) rfl (h5 w hw)⟩
section ZR
variable {b : Bool} {own : String} {cc : ByteArray} {nL fr lo : Nat} {g : zG} {X : zX} {k n : Nat} {w : List va_W} {lv lv' : List (Nat × Value)} {pc : Nat} {rest : List Value}
theorem z_lv (ks : List Nat) (h : lv_pick lv ks = lv') {st : List Value} (kk : Z b own cc nL fr lo g X k n w lv' pc st) : Z b own cc nL fr lo g X k n w lv pc st := fun ok H locs ls hP hD hS hl => kk ok H locs ls hP hD hS (lv_sub hl ks h)
theorem z_w {w' : List va_W} {st : List Value} (h : w = w') (kk : Z b own cc nL fr lo g X k n w' lv pc st) : Z b own cc nL fr lo g X k n w lv pc st := h ▸ kk
theorem z_iconst {i : Int} {v : Int32} (hv : Int32.ofInt i = v) (d : decode cc pc = .ok (.iconst i, 1)) (kk : Z b own cc nL fr lo g X k n w lv (pc + 1) (.int v :: rest)) : Z b own cc nL fr lo g X k n w lv pc (rest) := fun ok H locs ls hP hD hS hl => lv_iconst ok.1 ok.2.1 d hv (kk ok H locs ls hP hD hS hl)
theorem z_bipush {i : Int} {v : Int32} (hv : (Int8.ofInt i).toInt32 = v) (d : decode cc pc = .ok (.bipush i, 2)) (kk : Z b own cc nL fr lo g X k n w lv (pc + 2) (.int v :: rest)) : Z b own cc nL fr lo g X k n w lv pc (rest) := fun ok H locs ls hP hD hS hl => lv_bipush ok.1 ok.2.1 d hv (kk ok H locs ls hP hD hS hl)
theorem z_sipush {i : Int} {v : Int32} (hv : (Int16.ofInt i).toInt32 = v) (d : decode cc pc = .ok (.sipush i, 3)) (kk : Z b own cc nL fr lo g X k n w lv (pc + 3) (.int v :: rest)) : Z b own cc nL fr lo g X k n w lv pc (rest) := fun ok H locs ls hP hD hS hl => lv_sipush ok.1 ok.2.1 d hv (kk ok H locs ls hP hD hS hl)
theorem z_lconst {i : Fin 2} {v : Int64} (hv : Int64.ofNat (i : Nat) = v) (d : decode cc pc = .ok (.lconst i, 1)) (kk : Z b own cc nL fr lo g X k n w lv (pc + 1) (.long v :: rest)) : Z b own cc nL fr lo g X k n w lv pc (rest) := fun ok H locs ls hP hD hS hl => lv_lconst ok.1 ok.2.1 d hv (kk ok H locs ls hP hD hS hl)
theorem z_dconst0  (d : decode cc pc = .ok (.dconst 0, 1)) (kk : Z b own cc nL fr lo g X k n w lv (pc + 1) (.double FP.dconst0 :: rest)) : Z b own cc nL fr lo g X k n w lv pc (rest) := fun ok H locs ls hP hD hS hl => lv_dconst0 ok.1 ok.2.1 d (kk ok H locs ls hP hD hS hl)
theorem z_dconst1  (d : decode cc pc = .ok (.dconst 1, 1)) (kk : Z b own cc nL fr lo g X k n w lv (pc + 1) (.double FP.dconst1 :: rest)) : Z b own cc nL fr lo g X k n w lv pc (rest) := fun ok H locs ls hP hD hS hl => lv_dconst1 ok.1 ok.2.1 d (kk ok H locs ls hP hD hS hl)
theorem z_ldc {i : Nat} {v : Int32} (hc : Cond.constant own i v ∈ zW) (d : decode cc pc = .ok (.ldc i, 2)) (kk : Z b own cc nL fr lo g X k n w lv (pc + 2) (.int v :: rest)) : Z b own cc nL fr lo g X k n w lv pc (rest) := fun ok H locs ls hP hD hS hl => lv_ldc ok.1 ok.2.1 ok.2.2.1 (ok.2.2.2.2.1 _ hc) d (kk ok H locs ls hP hD hS hl)
theorem z_ldc2 {i : Nat} {v : Int64} (hc : Cond.constantLong own i v ∈ zW) (d : decode cc pc = .ok (.ldc2_w i, 3)) (kk : Z b own cc nL fr lo g X k n w lv (pc + 3) (.long v :: rest)) : Z b own cc nL fr lo g X k n w lv pc (rest) := fun ok H locs ls hP hD hS hl => lv_ldc2 ok.1 ok.2.1 ok.2.2.1 (ok.2.2.2.2.1 _ hc) d (kk ok H locs ls hP hD hS hl)
theorem z_ldc2d {i : Nat} {v : UInt64} (hc : Cond.constantDouble own i v ∈ zW) (d : decode cc pc = .ok (.ldc2_w i, 3)) (kk : Z b own cc nL fr lo g X k n w lv (pc + 3) (.double v :: rest)) : Z b own cc nL fr lo g X k n w lv pc (rest) := fun ok H locs ls hP hD hS hl => lv_ldc2d ok.1 ok.2.1 ok.2.2.1 (ok.2.2.2.2.1 _ hc) d (kk ok H locs ls hP hD hS hl)
theorem z_iload_n {j : Fin 4} {i : Nat} {x : Int32} (q : Nat) (hi : (j : Nat) = i) (hq : lv[q]? = some (i, .int x)) (d : decode cc pc = .ok (.iload_n j, 1)) (kk : Z b own cc nL fr lo g X k n w lv (pc + 1) (.int x :: rest)) : Z b own cc nL fr lo g X k n w lv pc (rest) := fun ok H locs ls hP hD hS hl => lv_iload_n ok.1 ok.2.1 d hi (lv_at hl q hq) (kk ok H locs ls hP hD hS hl)
theorem z_iload {i : Nat} {x : Int32} (q : Nat) (hq : lv[q]? = some (i, .int x)) (d : decode cc pc = .ok (.iload i, 2)) (kk : Z b own cc nL fr lo g X k n w lv (pc + 2) (.int x :: rest)) : Z b own cc nL fr lo g X k n w lv pc (rest) := fun ok H locs ls hP hD hS hl => lv_iload ok.1 ok.2.1 d (lv_at hl q hq) (kk ok H locs ls hP hD hS hl)
theorem z_istore_n {j : Fin 4} {i : Nat} {x : Int32} (lv' : List (Nat × Value)) (hi : (j : Nat) = i) (hn : i < nL) (hv : (i, Value.int x) :: lv.filter (fun q => !(q.1 == i) && !(q.1 + 1 == i && q.2.category == 2)) = lv') (d : decode cc pc = .ok (.istore_n j, 1)) (kk : Z b own cc nL fr lo g X k n w lv' (pc + 1) rest) : Z b own cc nL fr lo g X k n w lv pc (.int x :: rest) := fun ok H locs ls hP hD hS hl => lv_istore_n ok.1 ok.2.1 d hi hl hn hv (fun ls2 hl2 => kk ok H locs ls2 hP hD hS hl2)
theorem z_istore {i : Nat} {x : Int32} (lv' : List (Nat × Value)) (hn : i < nL) (hv : (i, Value.int x) :: lv.filter (fun q => !(q.1 == i) && !(q.1 + 1 == i && q.2.category == 2)) = lv') (d : decode cc pc = .ok (.istore i, 2)) (kk : Z b own cc nL fr lo g X k n w lv' (pc + 2) rest) : Z b own cc nL fr lo g X k n w lv pc (.int x :: rest) := fun ok H locs ls hP hD hS hl => lv_istore ok.1 ok.2.1 d hl hn hv (fun ls2 hl2 => kk ok H locs ls2 hP hD hS hl2)
theorem z_lload_n {j : Fin 4} {i : Nat} {x : Int64} (q : Nat) (hi : (j : Nat) = i) (hq : lv[q]? = some (i, .long x)) (d : decode cc pc = .ok (.lload_n j, 1)) (kk : Z b own cc nL fr lo g X k n w lv (pc + 1) (.long x :: rest)) : Z b own cc nL fr lo g X k n w lv pc (rest) := fun ok H locs ls hP hD hS hl => lv_lload_n ok.1 ok.2.1 d hi (lv_at hl q hq) (kk ok H locs ls hP hD hS hl)
theorem z_lload {i : Nat} {x : Int64} (q : Nat) (hq : lv[q]? = some (i, .long x)) (d : decode cc pc = .ok (.lload i, 2)) (kk : Z b own cc nL fr lo g X k n w lv (pc + 2) (.long x :: rest)) : Z b own cc nL fr lo g X k n w lv pc (rest) := fun ok H locs ls hP hD hS hl => lv_lload ok.1 ok.2.1 d (lv_at hl q hq) (kk ok H locs ls hP hD hS hl)
theorem z_lstore_n {j : Fin 4} {i : Nat} {x : Int64} (lv' : List (Nat × Value)) (hi : (j : Nat) = i) (hn : i + 1 < nL) (hv : (i, Value.long x) :: lv.filter (fun q => !(q.1 == i) && (!(q.1 == i + 1) && !(q.1 + 1 == i && q.2.category == 2))) = lv') (d : decode cc pc = .ok (.lstore_n j, 1)) (kk : Z b own cc nL fr lo g X k n w lv' (pc + 1) rest) : Z b own cc nL fr lo g X k n w lv pc (.long x :: rest) := fun ok H locs ls hP hD hS hl => lv_lstore_n ok.1 ok.2.1 d hi hl hn hv (fun ls2 hl2 => kk ok H locs ls2 hP hD hS hl2)
theorem z_lstore {i : Nat} {x : Int64} (lv' : List (Nat × Value)) (hn : i + 1 < nL) (hv : (i, Value.long x) :: lv.filter (fun q => !(q.1 == i) && (!(q.1 == i + 1) && !(q.1 + 1 == i && q.2.category == 2))) = lv') (d : decode cc pc = .ok (.lstore i, 2)) (kk : Z b own cc nL fr lo g X k n w lv' (pc + 2) rest) : Z b own cc nL fr lo g X k n w lv pc (.long x :: rest) := fun ok H locs ls hP hD hS hl => lv_lstore ok.1 ok.2.1 d hl hn hv (fun ls2 hl2 => kk ok H locs ls2 hP hD hS hl2)
theorem z_dload_n {j : Fin 4} {i : Nat} {x : UInt64} (q : Nat) (hi : (j : Nat) = i) (hq : lv[q]? = some (i, .double x)) (d : decode cc pc = .ok (.dload_n j, 1)) (kk : Z b own cc nL fr lo g X k n w lv (pc + 1) (.double x :: rest)) : Z b own cc nL fr lo g X k n w lv pc (rest) := fun ok H locs ls hP hD hS hl => lv_dload_n ok.1 ok.2.1 d hi (lv_at hl q hq) (kk ok H locs ls hP hD hS hl)
theorem z_dload {i : Nat} {x : UInt64} (q : Nat) (hq : lv[q]? = some (i, .double x)) (d : decode cc pc = .ok (.dload i, 2)) (kk : Z b own cc nL fr lo g X k n w lv (pc + 2) (.double x :: rest)) : Z b own cc nL fr lo g X k n w lv pc (rest) := fun ok H locs ls hP hD hS hl => lv_dload ok.1 ok.2.1 d (lv_at hl q hq) (kk ok H locs ls hP hD hS hl)
theorem z_dstore_n {j : Fin 4} {i : Nat} {x : UInt64} (lv' : List (Nat × Value)) (hi : (j : Nat) = i) (hn : i + 1 < nL) (hv : (i, Value.double x) :: lv.filter (fun q => !(q.1 == i) && (!(q.1 == i + 1) && !(q.1 + 1 == i && q.2.category == 2))) = lv') (d : decode cc pc = .ok (.dstore_n j, 1)) (kk : Z b own cc nL fr lo g X k n w lv' (pc + 1) rest) : Z b own cc nL fr lo g X k n w lv pc (.double x :: rest) := fun ok H locs ls hP hD hS hl => lv_dstore_n ok.1 ok.2.1 d hi hl hn hv (fun ls2 hl2 => kk ok H locs ls2 hP hD hS hl2)
theorem z_dstore {i : Nat} {x : UInt64} (lv' : List (Nat × Value)) (hn : i + 1 < nL) (hv : (i, Value.double x) :: lv.filter (fun q => !(q.1 == i) && (!(q.1 == i + 1) && !(q.1 + 1 == i && q.2.category == 2))) = lv') (d : decode cc pc = .ok (.dstore i, 2)) (kk : Z b own cc nL fr lo g X k n w lv' (pc + 2) rest) : Z b own cc nL fr lo g X k n w lv pc (.double x :: rest) := fun ok H locs ls hP hD hS hl => lv_dstore ok.1 ok.2.1 d hl hn hv (fun ls2 hl2 => kk ok H locs ls2 hP hD hS hl2)
theorem z_aload_n {j : Fin 4} {i : Nat} {x : Nat} (q : Nat) (hi : (j : Nat) = i) (hq : lv[q]? = some (i, .ref x)) (d : decode cc pc = .ok (.aload_n j, 1)) (kk : Z b own cc nL fr lo g X k n w lv (pc + 1) (.ref x :: rest)) : Z b own cc nL fr lo g X k n w lv pc (rest) := fun ok H locs ls hP hD hS hl => lv_aload_n ok.1 ok.2.1 d hi (lv_at hl q hq) (kk ok H locs ls hP hD hS hl)
theorem z_aload {i : Nat} {x : Nat} (q : Nat) (hq : lv[q]? = some (i, .ref x)) (d : decode cc pc = .ok (.aload i, 2)) (kk : Z b own cc nL fr lo g X k n w lv (pc + 2) (.ref x :: rest)) : Z b own cc nL fr lo g X k n w lv pc (rest) := fun ok H locs ls hP hD hS hl => lv_aload ok.1 ok.2.1 d (lv_at hl q hq) (kk ok H locs ls hP hD hS hl)
theorem z_astore_n {j : Fin 4} {i : Nat} {x : Nat} (lv' : List (Nat × Value)) (hi : (j : Nat) = i) (hn : i < nL) (hv : (i, Value.ref x) :: lv.filter (fun q => !(q.1 == i) && !(q.1 + 1 == i && q.2.category == 2)) = lv') (d : decode cc pc = .ok (.astore_n j, 1)) (kk : Z b own cc nL fr lo g X k n w lv' (pc + 1) rest) : Z b own cc nL fr lo g X k n w lv pc (.ref x :: rest) := fun ok H locs ls hP hD hS hl => lv_astore_n ok.1 ok.2.1 d hi hl hn hv (fun ls2 hl2 => kk ok H locs ls2 hP hD hS hl2)
theorem z_astore {i : Nat} {x : Nat} (lv' : List (Nat × Value)) (hn : i < nL) (hv : (i, Value.ref x) :: lv.filter (fun q => !(q.1 == i) && !(q.1 + 1 == i && q.2.category == 2)) = lv') (d : decode cc pc = .ok (.astore i, 2)) (kk : Z b own cc nL fr lo g X k n w lv' (pc + 2) rest) : Z b own cc nL fr lo g X k n w lv pc (.ref x :: rest) := fun ok H locs ls hP hD hS hl => lv_astore ok.1 ok.2.1 d hl hn hv (fun ls2 hl2 => kk ok H locs ls2 hP hD hS hl2)
theorem z_iinc {i : Nat} {c : Int} {x v : Int32} (q : Nat) (lv' : List (Nat × Value)) (hq : lv[q]? = some (i, .int x)) (hv : x + Int32.ofInt c = v) (hn : i < nL) (hl2 : (i, Value.int v) :: lv.filter (fun q => !(q.1 == i) && !(q.1 + 1 == i && q.2.category == 2)) = lv') (d : decode cc pc = .ok (.iinc i c, 3)) {st : List Value} (kk : Z b own cc nL fr lo g X k n w lv' (pc + 3) st) : Z b own cc nL fr lo g X k n w lv pc st := fun ok H locs ls hP hD hS hl => lv_iinc ok.1 ok.2.1 d hl hq hv hn hl2 (fun ls2 hl2 => kk ok H locs ls2 hP hD hS hl2)
theorem z_iadd {x y : Int32} (d : decode cc pc = .ok (.iadd, 1)) (kk : Z b own cc nL fr lo g X k n w lv (pc + 1) (.int (x + y) :: rest)) : Z b own cc nL fr lo g X k n w lv pc (.int y :: .int x :: rest) := fun ok H locs ls hP hD hS hl => lv_iadd ok.1 ok.2.1 d (kk ok H locs ls hP hD hS hl)
theorem z_isub {x y : Int32} (d : decode cc pc = .ok (.isub, 1)) (kk : Z b own cc nL fr lo g X k n w lv (pc + 1) (.int (x - y) :: rest)) : Z b own cc nL fr lo g X k n w lv pc (.int y :: .int x :: rest) := fun ok H locs ls hP hD hS hl => lv_isub ok.1 ok.2.1 d (kk ok H locs ls hP hD hS hl)
theorem z_imul {x y : Int32} (d : decode cc pc = .ok (.imul, 1)) (kk : Z b own cc nL fr lo g X k n w lv (pc + 1) (.int (x * y) :: rest)) : Z b own cc nL fr lo g X k n w lv pc (.int y :: .int x :: rest) := fun ok H locs ls hP hD hS hl => lv_imul ok.1 ok.2.1 d (kk ok H locs ls hP hD hS hl)
theorem z_iand {x y : Int32} (d : decode cc pc = .ok (.iand, 1)) (kk : Z b own cc nL fr lo g X k n w lv (pc + 1) (.int (x &&& y) :: rest)) : Z b own cc nL fr lo g X k n w lv pc (.int y :: .int x :: rest) := fun ok H locs ls hP hD hS hl => lv_iand ok.1 ok.2.1 d (kk ok H locs ls hP hD hS hl)
theorem z_ior {x y : Int32} (d : decode cc pc = .ok (.ior, 1)) (kk : Z b own cc nL fr lo g X k n w lv (pc + 1) (.int (x ||| y) :: rest)) : Z b own cc nL fr lo g X k n w lv pc (.int y :: .int x :: rest) := fun ok H locs ls hP hD hS hl => lv_ior ok.1 ok.2.1 d (kk ok H locs ls hP hD hS hl)
theorem z_ixor {x y : Int32} (d : decode cc pc = .ok (.ixor, 1)) (kk : Z b own cc nL fr lo g X k n w lv (pc + 1) (.int (x ^^^ y) :: rest)) : Z b own cc nL fr lo g X k n w lv pc (.int y :: .int x :: rest) := fun ok H locs ls hP hD hS hl => lv_ixor ok.1 ok.2.1 d (kk ok H locs ls hP hD hS hl)
theorem z_idiv {x y : Int32} (hy : ¬ y = 0) (d : decode cc pc = .ok (.idiv, 1)) (kk : Z b own cc nL fr lo g X k n w lv (pc + 1) (.int (x / y) :: rest)) : Z b own cc nL fr lo g X k n w lv pc (.int y :: .int x :: rest) := fun ok H locs ls hP hD hS hl => lv_idiv ok.1 ok.2.1 d hy (kk ok H locs ls hP hD hS hl)
theorem z_irem {x y : Int32} (hy : ¬ y = 0) (d : decode cc pc = .ok (.irem, 1)) (kk : Z b own cc nL fr lo g X k n w lv (pc + 1) (.int (i_rem x y) :: rest)) : Z b own cc nL fr lo g X k n w lv pc (.int y :: .int x :: rest) := fun ok H locs ls hP hD hS hl => lv_irem ok.1 ok.2.1 d hy (kk ok H locs ls hP hD hS hl)
theorem z_ishl {x y : Int32} (d : decode cc pc = .ok (.ishl, 1)) (kk : Z b own cc nL fr lo g X k n w lv (pc + 1) (.int (x <<< (y &&& 31)) :: rest)) : Z b own cc nL fr lo g X k n w lv pc (.int y :: .int x :: rest) := fun ok H locs ls hP hD hS hl => lv_ishl ok.1 ok.2.1 d (kk ok H locs ls hP hD hS hl)
theorem z_ishr {x y : Int32} (d : decode cc pc = .ok (.ishr, 1)) (kk : Z b own cc nL fr lo g X k n w lv (pc + 1) (.int (x >>> (y &&& 31)) :: rest)) : Z b own cc nL fr lo g X k n w lv pc (.int y :: .int x :: rest) := fun ok H locs ls hP hD hS hl => lv_ishr ok.1 ok.2.1 d (kk ok H locs ls hP hD hS hl)
theorem z_ineg {x : Int32} (d : decode cc pc = .ok (.ineg, 1)) (kk : Z b own cc nL fr lo g X k n w lv (pc + 1) (.int (-x) :: rest)) : Z b own cc nL fr lo g X k n w lv pc (.int x :: rest) := fun ok H locs ls hP hD hS hl => lv_ineg ok.1 ok.2.1 d (kk ok H locs ls hP hD hS hl)
theorem z_ladd {x y : Int64} (d : decode cc pc = .ok (.ladd, 1)) (kk : Z b own cc nL fr lo g X k n w lv (pc + 1) (.long (x + y) :: rest)) : Z b own cc nL fr lo g X k n w lv pc (.long y :: .long x :: rest) := fun ok H locs ls hP hD hS hl => lv_ladd ok.1 ok.2.1 d (kk ok H locs ls hP hD hS hl)
theorem z_lmul {x y : Int64} (d : decode cc pc = .ok (.lmul, 1)) (kk : Z b own cc nL fr lo g X k n w lv (pc + 1) (.long (x * y) :: rest)) : Z b own cc nL fr lo g X k n w lv pc (.long y :: .long x :: rest) := fun ok H locs ls hP hD hS hl => lv_lmul ok.1 ok.2.1 d (kk ok H locs ls hP hD hS hl)
theorem z_lcmp {x y : Int64} (d : decode cc pc = .ok (.lcmp, 1)) (kk : Z b own cc nL fr lo g X k n w lv (pc + 1) (.int (lg_cmp x y) :: rest)) : Z b own cc nL fr lo g X k n w lv pc (.long y :: .long x :: rest) := fun ok H locs ls hP hD hS hl => W.lcmp ok.1 ok.2.1 d (kk ok H locs ls hP hD hS hl)
theorem z_lshl {x : Int64} {y : Int32} (d : decode cc pc = .ok (.lshl, 1)) (kk : Z b own cc nL fr lo g X k n w lv (pc + 1) (.long (x <<< (y.toInt64 &&& 63)) :: rest)) : Z b own cc nL fr lo g X k n w lv pc (.int y :: .long x :: rest) := fun ok H locs ls hP hD hS hl => lv_lshl ok.1 ok.2.1 d rfl (kk ok H locs ls hP hD hS hl)
theorem z_i2l {x : Int32} (d : decode cc pc = .ok (.i2l, 1)) (kk : Z b own cc nL fr lo g X k n w lv (pc + 1) (.long x.toInt64 :: rest)) : Z b own cc nL fr lo g X k n w lv pc (.int x :: rest) := fun ok H locs ls hP hD hS hl => lv_i2l ok.1 ok.2.1 d rfl (kk ok H locs ls hP hD hS hl)
theorem z_i2d {x : Int32} (d : decode cc pc = .ok (.i2d, 1)) (kk : Z b own cc nL fr lo g X k n w lv (pc + 1) (.double (FP.i2d x) :: rest)) : Z b own cc nL fr lo g X k n w lv pc (.int x :: rest) := fun ok H locs ls hP hD hS hl => lv_i2d ok.1 ok.2.1 d (kk ok H locs ls hP hD hS hl)
theorem z_d2l {x : UInt64} (d : decode cc pc = .ok (.d2l, 1)) (kk : Z b own cc nL fr lo g X k n w lv (pc + 1) (.long (FP.d2l x) :: rest)) : Z b own cc nL fr lo g X k n w lv pc (.double x :: rest) := fun ok H locs ls hP hD hS hl => lv_d2l ok.1 ok.2.1 d (kk ok H locs ls hP hD hS hl)
theorem z_ddiv {x y v : UInt64} (e : dnn (FP.ddiv x y) = some v) (d : decode cc pc = .ok (.ddiv, 1)) (kk : Z b own cc nL fr lo g X k n w lv (pc + 1) (.double v :: rest)) : Z b own cc nL fr lo g X k n w lv pc (.double y :: .double x :: rest) := fun ok H locs ls hP hD hS hl => lv_ddiv ok.1 ok.2.1 d (dnn_s e).1 (by have e2 := (dnn_s e).2; rw [e2]; exact (kk ok H locs ls hP hD hS hl))
theorem z_dmul {x y v : UInt64} (e : dnn (FP.dmul x y) = some v) (d : decode cc pc = .ok (.dmul, 1)) (kk : Z b own cc nL fr lo g X k n w lv (pc + 1) (.double v :: rest)) : Z b own cc nL fr lo g X k n w lv pc (.double y :: .double x :: rest) := fun ok H locs ls hP hD hS hl => lv_dmul ok.1 ok.2.1 d (dnn_s e).1 (by have e2 := (dnn_s e).2; rw [e2]; exact (kk ok H locs ls hP hD hS hl))
theorem z_dsub {x y v : UInt64} (e : dnn (FP.dsub x y) = some v) (d : decode cc pc = .ok (.dsub, 1)) (kk : Z b own cc nL fr lo g X k n w lv (pc + 1) (.double v :: rest)) : Z b own cc nL fr lo g X k n w lv pc (.double y :: .double x :: rest) := fun ok H locs ls hP hD hS hl => lv_dsub ok.1 ok.2.1 d (dnn_s e).1 (by have e2 := (dnn_s e).2; rw [e2]; exact (kk ok H locs ls hP hD hS hl))
theorem z_dcmp {x y : UInt64} {o : CmpOp} (d : decode cc pc = .ok (.dcmp o, 1)) (kk : Z b own cc nL fr lo g X k n w lv (pc + 1) (.int (Op.cmpValue (FP.dcmp x y) o) :: rest)) : Z b own cc nL fr lo g X k n w lv pc (.double y :: .double x :: rest) := fun ok H locs ls hP hD hS hl => lv_dcmp ok.1 ok.2.1 d (kk ok H locs ls hP hD hS hl)
theorem z_dup {v : Value} (hv : v.category = 1) (d : decode cc pc = .ok (.dup, 1)) (kk : Z b own cc nL fr lo g X k n w lv (pc + 1) (v :: v :: rest)) : Z b own cc nL fr lo g X k n w lv pc (v :: rest) := fun ok H locs ls hP hD hS hl => lv_dup ok.1 ok.2.1 d hv (kk ok H locs ls hP hD hS hl)
theorem z_dup2 {v u : Value} (hv : v.category = 1) (hu : u.category = 1) (d : decode cc pc = .ok (.dup2, 1)) (kk : Z b own cc nL fr lo g X k n w lv (pc + 1) (v :: u :: v :: u :: rest)) : Z b own cc nL fr lo g X k n w lv pc (v :: u :: rest) := fun ok H locs ls hP hD hS hl => lv_dup2_11 ok.1 ok.2.1 d hv hu (kk ok H locs ls hP hD hS hl)
theorem z_pop {v : Value} (hv : v.category = 1) (d : decode cc pc = .ok (.pop, 1)) (kk : Z b own cc nL fr lo g X k n w lv (pc + 1) (rest)) : Z b own cc nL fr lo g X k n w lv pc (v :: rest) := fun ok H locs ls hP hD hS hl => lv_pop ok.1 ok.2.1 d hv (kk ok H locs ls hP hD hS hl)
theorem z_aconst_null  (d : decode cc pc = .ok (.aconst_null, 1)) (kk : Z b own cc nL fr lo g X k n w lv (pc + 1) (.null :: rest)) : Z b own cc nL fr lo g X k n w lv pc (rest) := fun ok H locs ls hP hD hS hl => lv_null ok.1 ok.2.1 d (kk ok H locs ls hP hD hS hl)
theorem z_if_eq {x : Int32} {off : Int} {tgt : Nat} (ht : (pc : Int) + off = (tgt : Int)) (d : decode cc pc = .ok (.ifCond .eq off, 3)) (kt : x = 0 → Z b own cc nL fr lo g X k n w lv tgt rest) (kf : ¬ x = 0 → Z b own cc nL fr lo g X k n w lv (pc + 3) rest) : Z b own cc nL fr lo g X k n w lv pc (.int x :: rest) := fun ok H locs ls hP hD hS hl => lv_if_eq ok.1 ok.2.1 d ht (fun c => kt c ok H locs ls hP hD hS hl) (fun c => kf c ok H locs ls hP hD hS hl)
theorem z_if_ne {x : Int32} {off : Int} {tgt : Nat} (ht : (pc : Int) + off = (tgt : Int)) (d : decode cc pc = .ok (.ifCond .ne off, 3)) (kt : ¬ x = 0 → Z b own cc nL fr lo g X k n w lv tgt rest) (kf : x = 0 → Z b own cc nL fr lo g X k n w lv (pc + 3) rest) : Z b own cc nL fr lo g X k n w lv pc (.int x :: rest) := fun ok H locs ls hP hD hS hl => lv_if_ne ok.1 ok.2.1 d ht (fun c => kt c ok H locs ls hP hD hS hl) (fun c => kf c ok H locs ls hP hD hS hl)
theorem z_if_lt {x : Int32} {off : Int} {tgt : Nat} (ht : (pc : Int) + off = (tgt : Int)) (d : decode cc pc = .ok (.ifCond .lt off, 3)) (kt : x < 0 → Z b own cc nL fr lo g X k n w lv tgt rest) (kf : ¬ x < 0 → Z b own cc nL fr lo g X k n w lv (pc + 3) rest) : Z b own cc nL fr lo g X k n w lv pc (.int x :: rest) := fun ok H locs ls hP hD hS hl => lv_if_lt ok.1 ok.2.1 d ht (fun c => kt c ok H locs ls hP hD hS hl) (fun c => kf c ok H locs ls hP hD hS hl)
theorem z_if_ge {x : Int32} {off : Int} {tgt : Nat} (ht : (pc : Int) + off = (tgt : Int)) (d : decode cc pc = .ok (.ifCond .ge off, 3)) (kt : 0 ≤ x → Z b own cc nL fr lo g X k n w lv tgt rest) (kf : ¬ 0 ≤ x → Z b own cc nL fr lo g X k n w lv (pc + 3) rest) : Z b own cc nL fr lo g X k n w lv pc (.int x :: rest) := fun ok H locs ls hP hD hS hl => lv_if_ge ok.1 ok.2.1 d ht (fun c => kt c ok H locs ls hP hD hS hl) (fun c => kf c ok H locs ls hP hD hS hl)
theorem z_if_gt {x : Int32} {off : Int} {tgt : Nat} (ht : (pc : Int) + off = (tgt : Int)) (d : decode cc pc = .ok (.ifCond .gt off, 3)) (kt : 0 < x → Z b own cc nL fr lo g X k n w lv tgt rest) (kf : ¬ 0 < x → Z b own cc nL fr lo g X k n w lv (pc + 3) rest) : Z b own cc nL fr lo g X k n w lv pc (.int x :: rest) := fun ok H locs ls hP hD hS hl => lv_if_gt ok.1 ok.2.1 d ht (fun c => kt c ok H locs ls hP hD hS hl) (fun c => kf c ok H locs ls hP hD hS hl)
theorem z_if_le {x : Int32} {off : Int} {tgt : Nat} (ht : (pc : Int) + off = (tgt : Int)) (d : decode cc pc = .ok (.ifCond .le off, 3)) (kt : x ≤ 0 → Z b own cc nL fr lo g X k n w lv tgt rest) (kf : ¬ x ≤ 0 → Z b own cc nL fr lo g X k n w lv (pc + 3) rest) : Z b own cc nL fr lo g X k n w lv pc (.int x :: rest) := fun ok H locs ls hP hD hS hl => lv_if_le ok.1 ok.2.1 d ht (fun c => kt c ok H locs ls hP hD hS hl) (fun c => kf c ok H locs ls hP hD hS hl)
theorem z_icmp_eq {x y : Int32} {off : Int} {tgt : Nat} (ht : (pc : Int) + off = (tgt : Int)) (d : decode cc pc = .ok (.if_icmp .eq off, 3)) (kt : x = y → Z b own cc nL fr lo g X k n w lv tgt rest) (kf : ¬ x = y → Z b own cc nL fr lo g X k n w lv (pc + 3) rest) : Z b own cc nL fr lo g X k n w lv pc (.int y :: .int x :: rest) := fun ok H locs ls hP hD hS hl => lv_icmp_eq ok.1 ok.2.1 d ht (fun c => kt c ok H locs ls hP hD hS hl) (fun c => kf c ok H locs ls hP hD hS hl)
theorem z_icmp_ne {x y : Int32} {off : Int} {tgt : Nat} (ht : (pc : Int) + off = (tgt : Int)) (d : decode cc pc = .ok (.if_icmp .ne off, 3)) (kt : ¬ x = y → Z b own cc nL fr lo g X k n w lv tgt rest) (kf : x = y → Z b own cc nL fr lo g X k n w lv (pc + 3) rest) : Z b own cc nL fr lo g X k n w lv pc (.int y :: .int x :: rest) := fun ok H locs ls hP hD hS hl => lv_icmp_ne ok.1 ok.2.1 d ht (fun c => kt c ok H locs ls hP hD hS hl) (fun c => kf c ok H locs ls hP hD hS hl)
theorem z_icmp_lt {x y : Int32} {off : Int} {tgt : Nat} (ht : (pc : Int) + off = (tgt : Int)) (d : decode cc pc = .ok (.if_icmp .lt off, 3)) (kt : x < y → Z b own cc nL fr lo g X k n w lv tgt rest) (kf : ¬ x < y → Z b own cc nL fr lo g X k n w lv (pc + 3) rest) : Z b own cc nL fr lo g X k n w lv pc (.int y :: .int x :: rest) := fun ok H locs ls hP hD hS hl => lv_icmp_lt ok.1 ok.2.1 d ht (fun c => kt c ok H locs ls hP hD hS hl) (fun c => kf c ok H locs ls hP hD hS hl)
theorem z_icmp_ge {x y : Int32} {off : Int} {tgt : Nat} (ht : (pc : Int) + off = (tgt : Int)) (d : decode cc pc = .ok (.if_icmp .ge off, 3)) (kt : y ≤ x → Z b own cc nL fr lo g X k n w lv tgt rest) (kf : ¬ y ≤ x → Z b own cc nL fr lo g X k n w lv (pc + 3) rest) : Z b own cc nL fr lo g X k n w lv pc (.int y :: .int x :: rest) := fun ok H locs ls hP hD hS hl => lv_icmp_ge ok.1 ok.2.1 d ht (fun c => kt c ok H locs ls hP hD hS hl) (fun c => kf c ok H locs ls hP hD hS hl)
theorem z_icmp_gt {x y : Int32} {off : Int} {tgt : Nat} (ht : (pc : Int) + off = (tgt : Int)) (d : decode cc pc = .ok (.if_icmp .gt off, 3)) (kt : y < x → Z b own cc nL fr lo g X k n w lv tgt rest) (kf : ¬ y < x → Z b own cc nL fr lo g X k n w lv (pc + 3) rest) : Z b own cc nL fr lo g X k n w lv pc (.int y :: .int x :: rest) := fun ok H locs ls hP hD hS hl => lv_icmp_gt ok.1 ok.2.1 d ht (fun c => kt c ok H locs ls hP hD hS hl) (fun c => kf c ok H locs ls hP hD hS hl)
theorem z_icmp_le {x y : Int32} {off : Int} {tgt : Nat} (ht : (pc : Int) + off = (tgt : Int)) (d : decode cc pc = .ok (.if_icmp .le off, 3)) (kt : x ≤ y → Z b own cc nL fr lo g X k n w lv tgt rest) (kf : ¬ x ≤ y → Z b own cc nL fr lo g X k n w lv (pc + 3) rest) : Z b own cc nL fr lo g X k n w lv pc (.int y :: .int x :: rest) := fun ok H locs ls hP hD hS hl => lv_icmp_le ok.1 ok.2.1 d ht (fun c => kt c ok H locs ls hP hD hS hl) (fun c => kf c ok H locs ls hP hD hS hl)
theorem z_ifB_eq {t : Bool} {off : Int} {tgt : Nat} (ht : (pc : Int) + off = (tgt : Int)) (d : decode cc pc = .ok (.ifCond .eq off, 3)) (kt : ¬ t = true → Z b own cc nL fr lo g X k n w lv tgt rest) (kf : t = true → Z b own cc nL fr lo g X k n w lv (pc + 3) rest) : Z b own cc nL fr lo g X k n w lv pc (.int (b2i t) :: rest) := fun ok H locs ls hP hD hS hl => lv_if_eq ok.1 ok.2.1 d ht (fun c => kt (by rw [(b2i_0 t).mp c]; decide) ok H locs ls hP hD hS hl) (fun c => kf (by cases t; exact absurd rfl c; rfl) ok H locs ls hP hD hS hl)
theorem z_ifB_ne {t : Bool} {off : Int} {tgt : Nat} (ht : (pc : Int) + off = (tgt : Int)) (d : decode cc pc = .ok (.ifCond .ne off, 3)) (kt : t = true → Z b own cc nL fr lo g X k n w lv tgt rest) (kf : ¬ t = true → Z b own cc nL fr lo g X k n w lv (pc + 3) rest) : Z b own cc nL fr lo g X k n w lv pc (.int (b2i t) :: rest) := fun ok H locs ls hP hD hS hl => lv_if_ne ok.1 ok.2.1 d ht (fun c => kt (by cases t; exact absurd rfl c; rfl) ok H locs ls hP hD hS hl) (fun c => kf (by rw [(b2i_0 t).mp c]; decide) ok H locs ls hP hD hS hl)
theorem z_goto {off : Int} {tgt : Nat} {st : List Value} (ht : (pc : Int) + off = (tgt : Int)) (d : decode cc pc = .ok (.goto off, 3)) (kk : Z b own cc nL fr lo g X k n w lv tgt st) : Z b own cc nL fr lo g X k n w lv pc st := fun ok H locs ls hP hD hS hl => lv_goto ok.1 ok.2.1 d ht (kk ok H locs ls hP hD hS hl)
theorem z_tabIn {dflt lo1 hi off : Int} {offs : Array Int} {len : Nat} {x : Int32} {tgt : Nat} (h1 : ¬ x.toInt < lo1) (h2 : ¬ hi < x.toInt) (ho : offs[(x.toInt - lo1).toNat]? = some off) (ht : (pc : Int) + off = (tgt : Int)) (d : decode cc pc = .ok (.tableswitch dflt lo1 hi offs, len)) (kk : Z b own cc nL fr lo g X k n w lv tgt rest) : Z b own cc nL fr lo g X k n w lv pc (.int x :: rest) := fun ok H locs ls hP hD hS hl => lv_tableIn ok.1 ok.2.1 d h1 h2 ho ht (kk ok H locs ls hP hD hS hl)
theorem z_tabOut {dflt lo1 hi : Int} {offs : Array Int} {len : Nat} {x : Int32} {tgt : Nat} (h : x.toInt < lo1 ∨ hi < x.toInt) (ht : (pc : Int) + dflt = (tgt : Int)) (d : decode cc pc = .ok (.tableswitch dflt lo1 hi offs, len)) (kk : Z b own cc nL fr lo g X k n w lv tgt rest) : Z b own cc nL fr lo g X k n w lv pc (.int x :: rest) := fun ok H locs ls hP hD hS hl => lv_tableOut ok.1 ok.2.1 d h ht (kk ok H locs ls hP hD hS hl)
theorem z_ifnull {x : Nat} {off : Int} (d : decode cc pc = .ok (.ifnull off, 3)) (kk : Z b own cc nL fr lo g X k n w lv (pc + 3) rest) : Z b own cc nL fr lo g X k n w lv pc (.ref x :: rest) := fun ok H locs ls hP hD hS hl => lv_ifnull ok.1 ok.2.1 d (kk ok H locs ls hP hD hS hl)
theorem z_get {ci N : Nat} {C : String} {T : u_T} {ty : Nat → FieldType} {a idx : Nat} {fs : List Value} {v : Value} (hc : zCls ci C T N ty) {blk : va_W} (bi : Nat) (hb : w[bi]? = some blk) (q : Nat) (hq : blk[q]? = some (a, .inr (ci, fs))) (j : Nat) (hj : j < N) (hl1 : Cond.fieldLink own idx (T j).1 (T j).2.1 (T j).2.2.1 ∈ zW) (hv : fs[j]? = some v) (d : decode cc pc = .ok (.getfield idx, 3)) (kk : Z b own cc nL fr lo g X k n w lv (pc + 3) (v :: rest)) : Z b own cc nL fr lo g X k n w lv pc (.ref a :: rest) := by
  intro ok H locs ls hP hD hS hl
  obtain ⟨k1, h1, h2⟩ := zcell hb hq
  exact va_get (cl := vwCl) ok.1 ok.2.1 (ok.2.2.2.2.1) hc.2.1 ok.2.2.1 ok.2.2.2.2.2.2.2.2.1 hP k1 h1 hc.1 j hj (ok.2.2.2.2.1 _ hl1) (fun _ h => h) hv d (kk ok H locs ls hP hD hS hl)
theorem z_put {ci N : Nat} {C : String} {T : u_T} {ty : Nat → FieldType} {a idx : Nat} {fs : List Value} {v : Value} {t : FieldType} (w' : List va_W) (hc : zCls ci C T N ty) {blk : va_W} (bi : Nat) (hb : w[bi]? = some blk) (q : Nat) (hq : blk[q]? = some (a, .inr (ci, fs))) (j : Nat) (hj : j < N) (hl1 : Cond.fieldLink own idx (T j).1 (T j).2.1 (T j).2.2.1 ∈ zW) (hf : (T j).2.2.2 = false ∧ parseFieldDescriptor (T j).2.2.1 = some t) (hn : narrow t v = v) (hfit : fits t v = true) (hlen : j < fs.length) (hw : w.set bi (blk.set q (a, .inr (ci, fs.set j v))) = w') (d : decode cc pc = .ok (.putfield idx, 3)) (kk : Z true own cc nL fr lo g X k n w' lv (pc + 3) rest) : Z true own cc nL fr lo g X k n w lv pc (v :: .ref a :: rest) := by
  intro ok H locs ls hP hD hS hl
  obtain ⟨k1, h1, h2⟩ := zcell hb hq
  exact va_put (cl := vwCl) ok.1 ok.2.1 (ok.2.2.2.2.1) hc.2.1 ty hc.2.2.1 hc.2.2.2 ok.2.2.1 ok.2.2.2.2.2.2.2.2.1 hP (hD rfl) hS k1 h1 hc.1 j hj (ok.2.2.2.2.1 _ hl1) (fun _ h => h) hf.1 hf.2 hn hfit hlen d (fun H1 locs1 hP1 hD1 hS1 => by rw [h2, hw] at hP1 hD1; exact kk ok H1 locs1 ls hP1 (fun _ => hD1) hS1 hl)
theorem z_iald {a m1 : Nat} {f : Nat → Int32} {i v : Int32} {blk : va_W} (bi : Nat) (hb : w[bi]? = some blk) (q : Nat) (hq : blk[q]? = some (a, .inl (g.2.1, m1, .inl f))) (e : aget f m1 i = some v) (d : decode cc pc = .ok (.iaload, 1)) (kk : Z b own cc nL fr lo g X k n w lv (pc + 1) (.int v :: rest)) : Z b own cc nL fr lo g X k n w lv pc (.int i :: .ref a :: rest) := by
  intro ok H locs ls hP hD hS hl
  obtain ⟨k1, h1, h2⟩ := zcell hb hq
  exact va_iald ok.1 ok.2.1 ok.2.2.2.2.2.2.2.2.1 hP k1 0 h1 rfl (aget_s e).1 d (by rw [(aget_s e).2]; exact (kk ok H locs ls hP hD hS hl))
theorem z_ialdI {a m1 : Nat} {f : Nat → Int32} {i : Int32} {blk : va_W} (bi : Nat) (hb : w[bi]? = some blk) (q : Nat) (hq : blk[q]? = some (a, .inl (g.2.1, m1, .inl f))) (e : vp_in i m1) (d : decode cc pc = .ok (.iaload, 1)) (kk : Z b own cc nL fr lo g X k n w lv (pc + 1) (.int (f i.toNatClampNeg) :: rest)) : Z b own cc nL fr lo g X k n w lv pc (.int i :: .ref a :: rest) := by
  intro ok H locs ls hP hD hS hl
  obtain ⟨k1, h1, h2⟩ := zcell hb hq
  exact va_iald ok.1 ok.2.1 ok.2.2.2.2.2.2.2.2.1 hP k1 0 h1 rfl e d (kk ok H locs ls hP hD hS hl)
theorem z_zald {a m1 : Nat} {f : Nat → Int32} {i v : Int32} {blk : va_W} (bi : Nat) (hb : w[bi]? = some blk) (q : Nat) (hq : blk[q]? = some (a, .inl (g.2.2.1, m1, .inl f))) (e : aget f m1 i = some v) (d : decode cc pc = .ok (.baload, 1)) (kk : Z b own cc nL fr lo g X k n w lv (pc + 1) (.int v :: rest)) : Z b own cc nL fr lo g X k n w lv pc (.int i :: .ref a :: rest) := by
  intro ok H locs ls hP hD hS hl
  obtain ⟨k1, h1, h2⟩ := zcell hb hq
  exact va_zald ok.1 ok.2.1 ok.2.2.2.2.2.2.2.2.1 hP k1 1 h1 rfl (aget_s e).1 d (by rw [(aget_s e).2]; exact (kk ok H locs ls hP hD hS hl))
theorem z_iast {a m1 : Nat} {f f' : Nat → Int32} {i x : Int32} (w' : List va_W) {blk : va_W} (bi : Nat) (hb : w[bi]? = some blk) (q : Nat) (hq : blk[q]? = some (a, .inl (g.2.1, m1, .inl f))) (e : aset f m1 i x = some f') (hw : w.set bi (blk.set q (a, .inl (g.2.1, m1, .inl f'))) = w') (d : decode cc pc = .ok (.iastore, 1)) (kk : Z true own cc nL fr lo g X k n w' lv (pc + 1) rest) : Z true own cc nL fr lo g X k n w lv pc (.int x :: .int i :: .ref a :: rest) := by
  intro ok H locs ls hP hD hS hl
  obtain ⟨k1, h1, h2⟩ := zcell hb hq
  exact va_iast ok.1 ok.2.1 ok.2.2.2.2.2.2.2.2.1 hP (hD rfl) hS k1 0 h1 rfl (aset_s e).1 d (fun H1 locs1 hP1 hD1 hS1 => by rw [(aset_s e).2, h2, hw] at hP1 hD1; exact kk ok H1 locs1 ls hP1 (fun _ => hD1) hS1 hl)
theorem z_iastI {a m1 : Nat} {f : Nat → Int32} {i x : Int32} (w' : List va_W) {blk : va_W} (bi : Nat) (hb : w[bi]? = some blk) (q : Nat) (hq : blk[q]? = some (a, .inl (g.2.1, m1, .inl f))) (e : vp_in i m1) (hw : w.set bi (blk.set q (a, .inl (g.2.1, m1, .inl (upd f i.toNatClampNeg x)))) = w') (d : decode cc pc = .ok (.iastore, 1)) (kk : Z true own cc nL fr lo g X k n w' lv (pc + 1) rest) : Z true own cc nL fr lo g X k n w lv pc (.int x :: .int i :: .ref a :: rest) := by
  intro ok H locs ls hP hD hS hl
  obtain ⟨k1, h1, h2⟩ := zcell hb hq
  exact va_iast ok.1 ok.2.1 ok.2.2.2.2.2.2.2.2.1 hP (hD rfl) hS k1 0 h1 rfl e d (fun H1 locs1 hP1 hD1 hS1 => by rw [h2, hw] at hP1 hD1; exact kk ok H1 locs1 ls hP1 (fun _ => hD1) hS1 hl)
theorem z_zast {a m1 : Nat} {f f' : Nat → Int32} {i x : Int32} (w' : List va_W) {blk : va_W} (bi : Nat) (hb : w[bi]? = some blk) (q : Nat) (hq : blk[q]? = some (a, .inl (g.2.2.1, m1, .inl f))) (e : aset f m1 i (vp_nar .boolean x) = some f') (hw : w.set bi (blk.set q (a, .inl (g.2.2.1, m1, .inl f'))) = w') (d : decode cc pc = .ok (.bastore, 1)) (kk : Z true own cc nL fr lo g X k n w' lv (pc + 1) rest) : Z true own cc nL fr lo g X k n w lv pc (.int x :: .int i :: .ref a :: rest) := by
  intro ok H locs ls hP hD hS hl
  obtain ⟨k1, h1, h2⟩ := zcell hb hq
  exact va_zast ok.1 ok.2.1 ok.2.2.2.2.2.2.2.2.1 hP (hD rfl) hS k1 1 h1 rfl (aset_s e).1 d (fun H1 locs1 hP1 hD1 hS1 => by rw [(aset_s e).2, h2, hw] at hP1 hD1; exact kk ok H1 locs1 ls hP1 (fun _ => hD1) hS1 hl)
theorem z_alen {a m1 : Nat} {f : Nat → Int32} {v : Int32} {blk : va_W} (bi : Nat) (hb : w[bi]? = some blk) (q : Nat) (hq : blk[q]? = some (a, .inl (g.2.1, m1, .inl f))) (hv : Int32.ofNat m1 = v) (d : decode cc pc = .ok (.arraylength, 1)) (kk : Z b own cc nL fr lo g X k n w lv (pc + 1) (.int v :: rest)) : Z b own cc nL fr lo g X k n w lv pc (.ref a :: rest) := by
  intro ok H locs ls hP hD hS hl
  obtain ⟨k1, h1, h2⟩ := zcell hb hq
  exact va_alen ok.1 ok.2.1 ok.2.2.2.2.2.2.2.2.1 hP k1 0 h1 rfl hv d (kk ok H locs ls hP hD hS hl)
theorem z_alenS {a m1 : Nat} {f : Nat → Option Nat} {v : Int32} {blk : va_W} (bi : Nat) (hb : w[bi]? = some blk) (q : Nat) (hq : blk[q]? = some (a, .inl (g.2.2.2.2, m1, .inr (.inr (.inr (.inr f)))))) (hv : Int32.ofNat m1 = v) (d : decode cc pc = .ok (.arraylength, 1)) (kk : Z b own cc nL fr lo g X k n w lv (pc + 1) (.int v :: rest)) : Z b own cc nL fr lo g X k n w lv pc (.ref a :: rest) := by
  intro ok H locs ls hP hD hS hl
  obtain ⟨k1, h1, h2⟩ := zcell hb hq
  exact va_alen ok.1 ok.2.1 ok.2.2.2.2.2.2.2.2.1 hP k1 3 h1 rfl hv d (kk ok H locs ls hP hD hS hl)
theorem z_aald {a m1 : Nat} {f : Nat → Option Nat} {i : Int32} {v : Value} {blk : va_W} (bi : Nat) (hb : w[bi]? = some blk) (q : Nat) (hq : blk[q]? = some (a, .inl (g.2.2.2.2, m1, .inr (.inr (.inr (.inr f)))))) (e : vp_in i m1) (hv : va_rf (f i.toNatClampNeg) = v) (d : decode cc pc = .ok (.aaload, 1)) (kk : Z b own cc nL fr lo g X k n w lv (pc + 1) (v :: rest)) : Z b own cc nL fr lo g X k n w lv pc (.int i :: .ref a :: rest) := by
  intro ok H locs ls hP hD hS hl
  obtain ⟨k1, h1, h2⟩ := zcell hb hq
  exact va_aldq ok.1 ok.2.1 ok.2.2.2.2.2.2.2.2.1 hP k1 3 h1 rfl e d (by rw [hv]; exact (kk ok H locs ls hP hD hS hl))
theorem z_aret {v : Nat} {C : String} (d : decode cc pc = .ok (.areturn, 1)) (hf : zFin b g (some (.object C)) X k n w (some (.ref v))) : Z b own cc nL fr lo g X k n w lv pc [.ref v] := fun ok H locs ls hP hD hS hl => hf.2 _ H locs hP hD hS (W.aret ok.1 ok.2.1 hf.1 (Or.inl ⟨_, rfl⟩) (Or.inr ⟨_, rfl⟩) (fun t ht hW => ⟨rfl, ht⟩) hS.2.2 d ok.2.2.2.2.2.1)
theorem z_acopy {idx a a0 m1 : Nat} {f h : Nat → Int32} {blk0 blk1 : va_W} (w' : List va_W) (hl1 : Cond.methodLink own idx arraycopyName ∈ zW) (hm : m1 < 2 ^ 31) (b0 q0 b1 q1 : Nat) (hb0 : w[b0]? = some blk0) (h0 : blk0[q0]? = some (a0, .inl (g.2.1, m1, .inl f))) (hb1 : w[b1]? = some blk1) (h1 : blk1[q1]? = some (a, .inl (g.2.1, m1, .inl h))) (hw : w.set b1 (blk1.set q1 (a, .inl (g.2.1, m1, .inl (va_cpy f h 0 0 m1)))) = w') (hf : 1 ≤ fr ∧ (rest.map fun v => v.category).sum + (nativeFrameWords "java/lang/System" "arraycopy" 5 + 11) ≤ lo) (d : decode cc pc = .ok (.invokestatic idx, 3)) (kk : Z true own cc nL fr lo g X k n w' lv (pc + 3) rest) : Z true own cc nL fr lo g X k n w lv pc (.int (nI m1) :: .int 0 :: .ref a :: .int 0 :: .ref a0 :: rest) := by
  intro ok H locs ls hP hD hS hl
  have c0 : (0 : Int32).toNatClampNeg = 0 := by decide
  obtain ⟨k0, e0, -⟩ := zcell hb0 h0
  obtain ⟨k1, e1, e2⟩ := zcell hb1 h1
  refine va_copyi ok.1 ok.2.1 (ok.2.2.2.1.trans hl.1.symm) ok.2.2.1 (ok.2.2.2.2.1 _ hl1) (ok.2.2.2.2.1 _ zarr.1) (ok.2.2.2.2.1 _ zarr.2.1) (ok.2.2.2.2.1 _ zarr.2.2) ok.2.2.2.2.2.2.2.2.1 hP (hD rfl) hS k0 k1 0 0 e0 e1 rfl rfl rfl (by decide) (by decide) (nI_pos hm) (by rw [c0, nI_clamp hm]; omega) (by rw [c0, nI_clamp hm]; omega) (fun i _ => rfl) (Nat.le_trans hf.1 ok.2.2.2.2.2.2.1) (Nat.le_trans hf.2 ok.2.2.2.2.2.2.2.1) d (fun H1 locs1 hP1 hD1 hS1 => ?_)
  rw [c0, nI_clamp hm, e2, hw] at hP1 hD1
  exact kk ok H1 locs1 ls hP1 (fun _ => hD1) hS1 hl
theorem z_mmax {idx : Nat} {x y : Int32} (hl1 : Cond.methodLink own idx Lib.Math.max.name ∈ zW) (hf : 1 ≤ fr ∧ (rest.map fun v => v.category).sum + 13 ≤ lo) (hr : k ≤ (xR X).cells ∧ n ≤ (xR X).slots) (d : decode cc pc = .ok (.invokestatic idx, 3)) (kk : Z b own cc nL fr lo g X k n w lv (pc + 3) (.int (i_max x y) :: rest)) : Z b own cc nL fr lo g X k n w lv pc (.int y :: .int x :: rest) := fun ok H locs ls hP hD hS hl => va_mmax ok.1 ok.2.1 (ok.2.2.2.1.trans hl.1.symm) ok.2.2.1 (ok.2.2.2.2.1 _ hl1) (ok.2.2.2.2.1 _ zm_max.1) (ok.2.2.2.2.1 _ zm_max.2.1) (ok.2.2.2.2.1 _ zm_max.2.2) (Nat.le_trans hf.1 ok.2.2.2.2.2.2.1) (Nat.le_trans hf.2 ok.2.2.2.2.2.2.2.1) hr.1 hr.2 d (kk ok H locs ls hP hD hS hl)
theorem z_mmin {idx : Nat} {x y : Int32} (hl1 : Cond.methodLink own idx Lib.Math.min.name ∈ zW) (hf : 1 ≤ fr ∧ (rest.map fun v => v.category).sum + 13 ≤ lo) (hr : k ≤ (xR X).cells ∧ n ≤ (xR X).slots) (d : decode cc pc = .ok (.invokestatic idx, 3)) (kk : Z b own cc nL fr lo g X k n w lv (pc + 3) (.int (i_min x y) :: rest)) : Z b own cc nL fr lo g X k n w lv pc (.int y :: .int x :: rest) := fun ok H locs ls hP hD hS hl => va_mmin ok.1 ok.2.1 (ok.2.2.2.1.trans hl.1.symm) ok.2.2.1 (ok.2.2.2.2.1 _ hl1) (ok.2.2.2.2.1 _ zm_min.1) (ok.2.2.2.2.1 _ zm_min.2.1) (ok.2.2.2.2.1 _ zm_min.2.2) (Nat.le_trans hf.1 ok.2.2.2.2.2.2.1) (Nat.le_trans hf.2 ok.2.2.2.2.2.2.2.1) hr.1 hr.2 d (kk ok H locs ls hP hD hS hl)
theorem z_mabs {idx : Nat} {x : Int32} (hl1 : Cond.methodLink own idx Lib.Math.abs.name ∈ zW) (hf : 1 ≤ fr ∧ (rest.map fun v => v.category).sum + 13 ≤ lo) (hr : k ≤ (xR X).cells ∧ n ≤ (xR X).slots) (d : decode cc pc = .ok (.invokestatic idx, 3)) (kk : Z b own cc nL fr lo g X k n w lv (pc + 3) (.int (i_abs x) :: rest)) : Z b own cc nL fr lo g X k n w lv pc (.int x :: rest) := fun ok H locs ls hP hD hS hl => va_mabs ok.1 ok.2.1 (ok.2.2.2.1.trans hl.1.symm) ok.2.2.1 (ok.2.2.2.2.1 _ hl1) (ok.2.2.2.2.1 _ zm_abs.1) (ok.2.2.2.2.1 _ zm_abs.2.1) (ok.2.2.2.2.1 _ zm_abs.2.2) (Nat.le_trans hf.1 ok.2.2.2.2.2.2.1) (Nat.le_trans hf.2 ok.2.2.2.2.2.2.2.1) hr.1 hr.2 d (kk ok H locs ls hP hD hS hl)
theorem z_draw {x : UInt64} {idx : Nat} (hl1 : Cond.methodLink own idx ⟨"java/lang/Double", "doubleToRawLongBits", "(D)J"⟩ ∈ zW) (hf : 1 ≤ fr ∧ (rest.map fun v => v.category).sum + 15 ≤ lo) (d : decode cc pc = .ok (.invokestatic idx, 3)) (kk : Z b own cc nL fr lo g X k n w lv (pc + 3) (.long x.toInt64 :: rest)) : Z b own cc nL fr lo g X k n w lv pc (.double x :: rest) := fun ok H locs ls hP hD hS hl => vn_d2l ok.1 ok.2.1 (ok.2.2.2.1.trans hl.1.symm) ok.2.2.1 (ok.2.2.2.2.1 _ hl1) (ok.2.2.2.2.1 _ zraw.2.1) (ok.2.2.2.2.1 _ zraw.2.2.1) (ok.2.2.2.2.1 _ zraw.2.2.2) (Nat.le_trans hf.1 ok.2.2.2.2.2.2.1) (Nat.le_trans hf.2 ok.2.2.2.2.2.2.2.1) d (kk ok H locs ls hP hD hS hl)
theorem z_iret {v : Int32} (d : decode cc pc = .ok (.ireturn, 1)) (hf : zFin b g (some .int) X k n w (some (.int v))) : Z b own cc nL fr lo g X k n w lv pc [.int v] := fun ok H locs ls hP hD hS hl => hf.2 _ H locs (hP) hD hS (W.iret ok.1 ok.2.1 hf.1 (fun t ht hW => ⟨rfl, ht⟩) hS.2.2 d ok.2.2.2.2.2.1)
theorem z_zret {v : Int32} (t : Bool) (hv : v = b2i t) (d : decode cc pc = .ok (.ireturn, 1)) (hf : zFin b g (some .boolean) X k n w (some (.int (b2i t)))) : Z b own cc nL fr lo g X k n w lv pc [.int v] := by
  subst hv
  exact fun ok H locs ls hP hD hS hl => hf.2 _ H locs hP hD hS (W.zret ok.1 ok.2.1 hf.1 (b2i_nar t) (fun t ht hW => ⟨rfl, ht⟩) hS.2.2 d ok.2.2.2.2.2.1)
theorem z_lret {v : Int64} (d : decode cc pc = .ok (.lreturn, 1)) (hf : zFin b g (some .long) X k n w (some (.long v))) : Z b own cc nL fr lo g X k n w lv pc [.long v] := fun ok H locs ls hP hD hS hl => hf.2 _ H locs (hP) hD hS (W.lret ok.1 ok.2.1 hf.1 (fun t ht hW => ⟨rfl, ht⟩) hS.2.2 d ok.2.2.2.2.2.1)
theorem z_dret {v : UInt64} (d : decode cc pc = .ok (.dreturn, 1)) (hf : zFin b g (some .double) X k n w (some (.double v))) : Z b own cc nL fr lo g X k n w lv pc [.double v] := fun ok H locs ls hP hD hS hl => hf.2 _ H locs (hP) hD hS (W.dret ok.1 ok.2.1 hf.1 (fun t ht hW => ⟨rfl, ht⟩) hS.2.2 d ok.2.2.2.2.2.1)
theorem z_vret  (d : decode cc pc = .ok (.return_, 1)) (hf : zFin b g none X k n w none) : Z b own cc nL fr lo g X k n w lv pc [] := fun ok H locs ls hP hD hS hl => hf.2 _ H locs (hP) hD hS (W.vret ok.1 ok.2.1 hf.1 (fun t ht hW => ⟨rfl, ht⟩) hS.2.2 d ok.2.2.2.2.2.1)
end ZR
section ZC
variable {b : Bool} {own : String} {cc : ByteArray} {nL fr lo : Nat} {g : zG} {X : zX} {k n : Nat} {w w' : List va_W} {lv lv' : List (Nat × Value)} {pc : Nat} {st rest : List Value}
theorem zG_app {big x y : List Cond} (ha : GoodIn big x) (hb : GoodIn big y) : GoodIn big (x ++ y) := fun w h => (List.mem_append.mp h).elim (ha w) (hb w)
theorem zfr {Ts : List Cond} {y : MethodName} {own C : String} {idx : Nat} {cc : ByteArray} {nL : Nat} {ret : Option FieldType} {na : Nat} (hT : ∀ w ∈ zW, w ∈ Ts) (hy : zCy y cc nL ret na) (hc : y.cls = C) (hv : Cond.instanceMethod y ∈ zW ∧ Cond.selects C y y ∈ zW) (hl : Cond.methodLink own idx y ∈ zW) : GoodIn Ts (wsV own idx C y (zws y cc nL ret)) := by
  have ok : ∀ w ∈ zW, w ∈ Ts ∧ ((w.onTables && w.keeps) = true ∨ ∃ ty, w = .arrayClass ty) := fun w h => ⟨hT w h, good_of_word (List.mem_filter.mp h).2⟩
  refine zG_app (fun w h => ?_) (zW_good hT hy.1)
  simp only [List.mem_cons, List.not_mem_nil, or_false] at h
  rcases h with rfl | rfl | rfl | rfl
  · exact ok _ hl
  · exact ok _ hv.1
  · exact ok _ hv.2
  · exact ok _ (hc ▸ hy.2.1)
theorem zfs {Ts : List Cond} {y : MethodName} {own : String} {idx : Nat} {cc : ByteArray} {nL : Nat} {ret : Option FieldType} {na : Nat} (hT : ∀ w ∈ zW, w ∈ Ts) (hy : zCy y cc nL ret na) (hv : Cond.static y ∈ zW) (hl : Cond.methodLink own idx y ∈ zW) : GoodIn Ts (va_wsS own idx y (zws y cc nL ret)) := by
  have ok : ∀ w ∈ zW, w ∈ Ts ∧ ((w.onTables && w.keeps) = true ∨ ∃ ty, w = .arrayClass ty) := fun w h => ⟨hT w h, good_of_word (List.mem_filter.mp h).2⟩
  refine zG_app (fun w h => ?_) (zW_good hT hy.1)
  simp only [List.mem_cons, List.not_mem_nil, or_false] at h
  rcases h with rfl | rfl | rfl
  · exact ok _ hl
  · exact ok _ hv
  · exact ok _ hy.2.1
set_option maxHeartbeats 4000000 in
/-- behind a call -/
theorem z_after {b' : Bool} {wc w1 : va_W} {rv : Option Value} {mc ms : Nat} {a : Array Value} {H : Heap} {locs : List Loc} {ls : Array Slot} (hS : va_S (xA X) (xs X).heap H locs) (hAf : ∀ q, zA b' wc H.size q → xA X q)
    (hr : va_Run (xp X) (xl X) (xe X) (xR X) (xs X) (xm X) (xa X) (xb X) (xme X) (xc X) H locs k n mc ms (F0 (xm X) pc ls st) rest (zQc g b' wc w1 rv H.size a) (zA b' wc H.size))
    (kk : ∀ (H1 : Heap) (locs1 : List Loc), va_P g.1 vwCl w1 H1 → (b' = true → va_D (zA b' wc H.size) w1) → (∀ q : Nat, q < H.size → ¬ zA b' wc H.size q → H1[q]? = H[q]?) → va_S (xA X) (xs X).heap H1 locs1 → zWp X H1 locs1 (k + mc) (n + ms) (F0 (xm X) (pc + 3) ls (rv.toList ++ rest))) : zWp X H locs k n (F0 (xm X) pc ls st) := by
  intro T hT Xs
  obtain ⟨v, st₀, t, T', L, h0, X', hL, e1, e2, ⟨hv, hP1, hD1, hz, hk⟩, go⟩ := hr T hT Xs
  cases hv
  rw [h0] at hz hk
  obtain ⟨t2, a1, b1⟩ := kk T'.heap (locs ++ L) (by rw [e1]; exact hP1) hD1 (fun q h1 h2 => by rw [e1]; exact hk q h1 h2)
    ⟨Nat.le_trans hS.1 (by rw [e1]; exact hz), fun q h1 h2 => by rw [e1, hk q (Nat.lt_of_lt_of_le h1 hS.1) (fun z => h2 (hAf q z))]; exact hS.2.1 q h1 h2, fun q hq => by
      rcases List.mem_append.mp hq with h | h
      · exact hS.2.2 q h
      · exact hAf _ (hL q h)⟩ T' rfl X'
  exact ⟨t2, go t2 a1, b1⟩
theorem zP_kept {D : va_G} {cl : List vw_C} {ws : va_W} {H H1 : Heap} (hP : va_P D cl ws H) (hk : ∀ q : Nat, q < H.size → H1[q]? = H[q]?) : va_P D cl ws H1 := hP.kept fun k q hq => hk q.1 (hP k q hq).lt
/-- what a callee wants, where its world is cut out of the caller's -/
theorem zpre {b' : Bool} {As : List Value} {wc : va_W} {H : Heap} (ok : zOk own cc nL fr lo g X) (hP : va_P g.1 vwCl wc H) (hD : b' = true → va_D (fun _ => True) wc) : ∀ U : State, U.heap = H → (xs X).WarmedH U.vm → zPc g b' As wc H.size As.toArray U :=
  fun U hU hW => ⟨rfl, by rw [hU], by rw [hU]; exact hP, va_K.moved hW.alike ok.2.2.2.2.2.2.2.2.1, hD, fun w hw => zNw_warm (List.mem_filter.mp hw).2 hW (ok.2.2.2.2.2.2.2.2.2.2 w hw)⟩
theorem zfree {wc : List va_W} {H : Heap} {locs : List Loc} (ok : zOk own cc nL fr lo g X) (hD : va_D (xA X) wc.flatten) (hS : va_S (xA X) (xs X).heap H locs) : ∀ q, zA true wc.flatten H.size q → xA X q := by
  intro q h
  rcases h with ⟨k, e, h⟩ | h
  · exact hD.2 k (q, e) h
  · exact ok.2.2.2.2.2.2.2.2.2.1 q (Nat.le_trans hS.1 h)
theorem zfree0 {wc : va_W} {H : Heap} {locs : List Loc} (ok : zOk own cc nL fr lo g X) (hS : va_S (xA X) (xs X).heap H locs) : ∀ q, zA false wc H.size q → xA X q := fun q h => ok.2.2.2.2.2.2.2.2.2.1 q (Nat.le_trans hS.1 h)
set_option maxHeartbeats 4000000 in
theorem z_callVW {y : MethodName} {cc2 : ByteArray} {nL2 fr2 lo2 na : Nat} {ret2 : Option FieldType} {idx : Nat} {C : String} {T : u_T} {ci N r : Nat} {fs : List Value} {As : List Value} {wc w1 : List va_W} {rv : Option Value} {l : Launch} (hl : xl X = l) (hC : Ctr l g true y cc2 nL2 ret2 fr2 lo2 0 0 (.ref r :: As) wc w1 rv) (hy : zCy y cc2 nL2 ret2 na) (hv : Cond.instanceMethod y ∈ zW ∧ Cond.selects C y y ∈ zW) (hyC : y.cls = C) (hk1 : Cond.methodLink own idx y ∈ zW) (hcC : vwCl[ci]? = some (C, T, N)) (hrec : ∃ (c0 : va_W) (ct : List va_W), wc = ((r, .inr (ci, fs)) :: c0) :: ct) (ps : List zPl) (hcut : ps.map (zcut w) = wc.map some) (hnd : znd ps = true) (hfst : w1.map (List.map Prod.fst) = wc.map (List.map Prod.fst)) (hw : zrep w ps w1 = w') (hna : As.length = na) (hst : st = As.reverse ++ .ref r :: rest) (hroom : fr2 + 1 ≤ fr ∧ 8 + (nL2 + 11) + lo2 ≤ lo) (hsum : (rest.map fun v => v.category).sum ≤ 8) (hkn : k ≤ (xR X).cells ∧ n ≤ (xR X).slots) (d : decode cc pc = .ok (.invokevirtual idx, 3)) {st2 : List Value} (h2 : rv.toList ++ rest = st2) (kk : Z true own cc nL fr lo g X k n w' lv (pc + 3) st2) : Z true own cc nL fr lo g X k n w lv pc st := by
  intro ok H locs ls hP hD hS hl9
  subst hl
  subst h2
  have hPc : va_P g.1 vwCl wc.flatten H := zP_cut hP hcut
  have hD0 := zD_cut ps w wc hcut hnd (hD rfl)
  have hDc : va_D (fun _ => True) wc.flatten := ⟨hD0.1, fun _ _ _ => trivial⟩
  have hfr := zfree ok hD0 hS
  refine z_after (b' := true) hS hfr (va_runV (As := As) (rest := rest) (b := r) ⟨ok.1, ok.2.1, ok.2.2.2.1, ok.2.2.1, ok.2.2.2.2.1⟩ (hC H.size) (cwV na ok.2.2.2.2.1 (zfr (fun _ h => h) hy hyC hv hk1) rfl rfl rfl ⟨hyC, hy.2.2⟩ ⟨Nat.le_trans hroom.1 ok.2.2.2.2.2.2.1, Nat.le_trans hroom.2 ok.2.2.2.2.2.2.2.1⟩) ⟨zblind, va_recv (q0 := 0) ok.2.2.2.2.2.2.2.2.1 hPc hcC (by obtain ⟨c0, ct, rfl⟩ := hrec; rfl), zpre ok hPc (fun _ => hDc)⟩ rfl hna hl9.1 hst (lv_room hsum) d ⟨hkn.1, hkn.2⟩) (fun H1 locs1 hP1 hD1 hk1 hS1 => ?_)
  obtain ⟨hP2, hD2⟩ := zjoin hP (hD rfl) ps hcut hnd hfst hk1 hP1
  rw [hw] at hP2 hD2
  exact kk ok H1 locs1 ls hP2 (fun _ => hD2) hS1 hl9
set_option maxHeartbeats 4000000 in
theorem z_callVR {y : MethodName} {cc2 : ByteArray} {nL2 fr2 lo2 na : Nat} {ret2 : Option FieldType} {idx : Nat} {C : String} {T : u_T} {ci N r : Nat} {fs : List Value} {As : List Value} {wc w1 : List va_W} {rv : Option Value} {l : Launch} (hl : xl X = l) (hC : Ctr l g false y cc2 nL2 ret2 fr2 lo2 0 0 (.ref r :: As) wc w1 rv) (hy : zCy y cc2 nL2 ret2 na) (hv : Cond.instanceMethod y ∈ zW ∧ Cond.selects C y y ∈ zW) (hyC : y.cls = C) (hk1 : Cond.methodLink own idx y ∈ zW) (hcC : vwCl[ci]? = some (C, T, N)) (hrec : ∃ (c0 : va_W) (ct : List va_W), wc = ((r, .inr (ci, fs)) :: c0) :: ct) (ps : List zPl) (hcut : ps.map (zcut w) = wc.map some) (hna : As.length = na) (hst : st = As.reverse ++ .ref r :: rest) (hroom : fr2 + 1 ≤ fr ∧ 8 + (nL2 + 11) + lo2 ≤ lo) (hsum : (rest.map fun v => v.category).sum ≤ 8) (hkn : k ≤ (xR X).cells ∧ n ≤ (xR X).slots) (d : decode cc pc = .ok (.invokevirtual idx, 3)) {st2 : List Value} (h2 : rv.toList ++ rest = st2) (kk : Z b own cc nL fr lo g X k n w lv (pc + 3) st2) : Z b own cc nL fr lo g X k n w lv pc st := by
  intro ok H locs ls hP hD hS hl9
  subst hl
  subst h2
  have hPc : va_P g.1 vwCl wc.flatten H := zP_cut hP hcut
  have hfr := zfree0 (wc := wc.flatten) ok hS
  refine z_after (b' := false) hS hfr (va_runV (As := As) (rest := rest) (b := r) ⟨ok.1, ok.2.1, ok.2.2.2.1, ok.2.2.1, ok.2.2.2.2.1⟩ (hC H.size) (cwV na ok.2.2.2.2.1 (zfr (fun _ h => h) hy hyC hv hk1) rfl rfl rfl ⟨hyC, hy.2.2⟩ ⟨Nat.le_trans hroom.1 ok.2.2.2.2.2.2.1, Nat.le_trans hroom.2 ok.2.2.2.2.2.2.2.1⟩) ⟨zblind, va_recv (q0 := 0) ok.2.2.2.2.2.2.2.2.1 hPc hcC (by obtain ⟨c0, ct, rfl⟩ := hrec; rfl), zpre ok hPc (fun h => by cases h)⟩ rfl hna hl9.1 hst (lv_room hsum) d ⟨hkn.1, hkn.2⟩) (fun H1 locs1 hP1 hD1 hk1 hS1 => ?_)
  exact kk ok H1 locs1 ls (zP_kept hP fun q h => hk1 q h (Nat.not_le.mpr h)) hD hS1 hl9
set_option maxHeartbeats 4000000 in
theorem z_callSW {y : MethodName} {cc2 : ByteArray} {nL2 fr2 lo2 na : Nat} {ret2 : Option FieldType} {idx : Nat} {As : List Value} {wc w1 : List va_W} {rv : Option Value} {l : Launch} (hl : xl X = l) (hC : Ctr l g true y cc2 nL2 ret2 fr2 lo2 0 0 As wc w1 rv) (hy : zCy y cc2 nL2 ret2 na) (hv : Cond.static y ∈ zW) (hk1 : Cond.methodLink own idx y ∈ zW) (ps : List zPl) (hcut : ps.map (zcut w) = wc.map some) (hnd : znd ps = true) (hfst : w1.map (List.map Prod.fst) = wc.map (List.map Prod.fst)) (hw : zrep w ps w1 = w') (hna : As.length = na) (hst : st = As.reverse ++ rest) (hroom : fr2 + 1 ≤ fr ∧ 8 + (nL2 + 11) + lo2 ≤ lo) (hsum : (rest.map fun v => v.category).sum ≤ 8) (hkn : k ≤ (xR X).cells ∧ n ≤ (xR X).slots) (d : decode cc pc = .ok (.invokestatic idx, 3)) {st2 : List Value} (h2 : rv.toList ++ rest = st2) (kk : Z true own cc nL fr lo g X k n w' lv (pc + 3) st2) : Z true own cc nL fr lo g X k n w lv pc st := by
  intro ok H locs ls hP hD hS hl9
  subst hl
  subst h2
  have hPc : va_P g.1 vwCl wc.flatten H := zP_cut hP hcut
  have hD0 := zD_cut ps w wc hcut hnd (hD rfl)
  have hDc : va_D (fun _ => True) wc.flatten := ⟨hD0.1, fun _ _ _ => trivial⟩
  have hfr := zfree ok hD0 hS
  refine z_after (b' := true) hS hfr (va_runS (As := As) (rest := rest) ⟨ok.1, ok.2.1, ok.2.2.2.1, ok.2.2.1, ok.2.2.2.2.1⟩ (hC H.size) (va_cwS na ok.2.2.2.2.1 (zfs (fun _ h => h) hy hv hk1) rfl rfl rfl hy.2.2 ⟨Nat.le_trans hroom.1 ok.2.2.2.2.2.2.1, Nat.le_trans hroom.2 ok.2.2.2.2.2.2.2.1⟩) ⟨zblind, zpre ok hPc (fun _ => hDc)⟩ rfl hna hl9.1 hst (lv_room hsum) d ⟨hkn.1, hkn.2⟩) (fun H1 locs1 hP1 hD1 hk1 hS1 => ?_)
  obtain ⟨hP2, hD2⟩ := zjoin hP (hD rfl) ps hcut hnd hfst hk1 hP1
  rw [hw] at hP2 hD2
  exact kk ok H1 locs1 ls hP2 (fun _ => hD2) hS1 hl9
set_option maxHeartbeats 4000000 in
theorem z_callSR {y : MethodName} {cc2 : ByteArray} {nL2 fr2 lo2 na : Nat} {ret2 : Option FieldType} {idx : Nat} {As : List Value} {wc w1 : List va_W} {rv : Option Value} {l : Launch} (hl : xl X = l) (hC : Ctr l g false y cc2 nL2 ret2 fr2 lo2 0 0 As wc w1 rv) (hy : zCy y cc2 nL2 ret2 na) (hv : Cond.static y ∈ zW) (hk1 : Cond.methodLink own idx y ∈ zW) (ps : List zPl) (hcut : ps.map (zcut w) = wc.map some) (hna : As.length = na) (hst : st = As.reverse ++ rest) (hroom : fr2 + 1 ≤ fr ∧ 8 + (nL2 + 11) + lo2 ≤ lo) (hsum : (rest.map fun v => v.category).sum ≤ 8) (hkn : k ≤ (xR X).cells ∧ n ≤ (xR X).slots) (d : decode cc pc = .ok (.invokestatic idx, 3)) {st2 : List Value} (h2 : rv.toList ++ rest = st2) (kk : Z b own cc nL fr lo g X k n w lv (pc + 3) st2) : Z b own cc nL fr lo g X k n w lv pc st := by
  intro ok H locs ls hP hD hS hl9
  subst hl
  subst h2
  have hPc : va_P g.1 vwCl wc.flatten H := zP_cut hP hcut
  have hfr := zfree0 (wc := wc.flatten) ok hS
  refine z_after (b' := false) hS hfr (va_runS (As := As) (rest := rest) ⟨ok.1, ok.2.1, ok.2.2.2.1, ok.2.2.1, ok.2.2.2.2.1⟩ (hC H.size) (va_cwS na ok.2.2.2.2.1 (zfs (fun _ h => h) hy hv hk1) rfl rfl rfl hy.2.2 ⟨Nat.le_trans hroom.1 ok.2.2.2.2.2.2.1, Nat.le_trans hroom.2 ok.2.2.2.2.2.2.2.1⟩) ⟨zblind, zpre ok hPc (fun h => by cases h)⟩ rfl hna hl9.1 hst (lv_room hsum) d ⟨hkn.1, hkn.2⟩) (fun H1 locs1 hP1 hD1 hk1 hS1 => ?_)
  exact kk ok H1 locs1 ls (zP_kept hP fun q h => hk1 q h (Nat.not_le.mpr h)) hD hS1 hl9
set_option maxHeartbeats 4000000 in
theorem z_callNW {y : MethodName} {cc2 : ByteArray} {nL2 fr2 lo2 na : Nat} {ret2 : Option FieldType} {idx : Nat} {host : String} {As : List Value} {wc w1 : List va_W} {rv : Option Value} {l : Launch} (hl : xl X = l) (hC : Ctr l g true y cc2 nL2 ret2 fr2 lo2 0 0 As wc w1 rv) (hy : zCy y cc2 nL2 ret2 na) (hv : Cond.static y ∈ zW) (hk1 : Cond.methodLinkNest own idx y host ∈ zN) (ps : List zPl) (hcut : ps.map (zcut w) = wc.map some) (hnd : znd ps = true) (hfst : w1.map (List.map Prod.fst) = wc.map (List.map Prod.fst)) (hw : zrep w ps w1 = w') (hna : As.length = na) (hst : st = As.reverse ++ rest) (hroom : fr2 + 1 ≤ fr ∧ 8 + (nL2 + 11) + lo2 ≤ lo) (hsum : (rest.map fun v => v.category).sum ≤ 8) (hkn : k ≤ (xR X).cells ∧ n ≤ (xR X).slots) (d : decode cc pc = .ok (.invokestatic idx, 3)) {st2 : List Value} (h2 : rv.toList ++ rest = st2) (kk : Z true own cc nL fr lo g X k n w' lv (pc + 3) st2) : Z true own cc nL fr lo g X k n w lv pc st := by
  intro ok H locs ls hP hD hS hl9
  subst hl
  subst h2
  have hPc : va_P g.1 vwCl wc.flatten H := zP_cut hP hcut
  have hD0 := zD_cut ps w wc hcut hnd (hD rfl)
  have hDc : va_D (fun _ => True) wc.flatten := ⟨hD0.1, fun _ _ _ => trivial⟩
  have hfr := zfree ok hD0 hS
  refine z_after (b' := true) hS hfr (va_runSN (As := As) (rest := rest) ⟨ok.1, ok.2.1, ok.2.2.2.1, ok.2.2.1, ok.2.2.2.2.1⟩ (hC H.size) ⟨va_cnB na ok.2.2.2.2.1 (zW_good (fun _ h => h) hy.1) rfl rfl rfl (ok.2.2.2.2.2.2.2.2.2.2 _ hk1) (ok.2.2.2.2.1 _ hy.2.1) hy.2.2 ⟨Nat.le_trans hroom.1 ok.2.2.2.2.2.2.1, Nat.le_trans hroom.2 ok.2.2.2.2.2.2.2.1⟩, ok.2.2.2.2.1 _ hv, trivial⟩ ⟨zblind, zpre ok hPc (fun _ => hDc)⟩ rfl hna hl9.1 hst (lv_room hsum) d ⟨hkn.1, hkn.2⟩) (fun H1 locs1 hP1 hD1 hk1 hS1 => ?_)
  obtain ⟨hP2, hD2⟩ := zjoin hP (hD rfl) ps hcut hnd hfst hk1 hP1
  rw [hw] at hP2 hD2
  exact kk ok H1 locs1 ls hP2 (fun _ => hD2) hS1 hl9
set_option maxHeartbeats 4000000 in
theorem z_callNR {y : MethodName} {cc2 : ByteArray} {nL2 fr2 lo2 na : Nat} {ret2 : Option FieldType} {idx : Nat} {host : String} {As : List Value} {wc w1 : List va_W} {rv : Option Value} {l : Launch} (hl : xl X = l) (hC : Ctr l g false y cc2 nL2 ret2 fr2 lo2 0 0 As wc w1 rv) (hy : zCy y cc2 nL2 ret2 na) (hv : Cond.static y ∈ zW) (hk1 : Cond.methodLinkNest own idx y host ∈ zN) (ps : List zPl) (hcut : ps.map (zcut w) = wc.map some) (hna : As.length = na) (hst : st = As.reverse ++ rest) (hroom : fr2 + 1 ≤ fr ∧ 8 + (nL2 + 11) + lo2 ≤ lo) (hsum : (rest.map fun v => v.category).sum ≤ 8) (hkn : k ≤ (xR X).cells ∧ n ≤ (xR X).slots) (d : decode cc pc = .ok (.invokestatic idx, 3)) {st2 : List Value} (h2 : rv.toList ++ rest = st2) (kk : Z b own cc nL fr lo g X k n w lv (pc + 3) st2) : Z b own cc nL fr lo g X k n w lv pc st := by
  intro ok H locs ls hP hD hS hl9
  subst hl
  subst h2
  have hPc : va_P g.1 vwCl wc.flatten H := zP_cut hP hcut
  have hfr := zfree0 (wc := wc.flatten) ok hS
  refine z_after (b' := false) hS hfr (va_runSN (As := As) (rest := rest) ⟨ok.1, ok.2.1, ok.2.2.2.1, ok.2.2.1, ok.2.2.2.2.1⟩ (hC H.size) ⟨va_cnB na ok.2.2.2.2.1 (zW_good (fun _ h => h) hy.1) rfl rfl rfl (ok.2.2.2.2.2.2.2.2.2.2 _ hk1) (ok.2.2.2.2.1 _ hy.2.1) hy.2.2 ⟨Nat.le_trans hroom.1 ok.2.2.2.2.2.2.1, Nat.le_trans hroom.2 ok.2.2.2.2.2.2.2.1⟩, ok.2.2.2.2.1 _ hv, trivial⟩ ⟨zblind, zpre ok hPc (fun h => by cases h)⟩ rfl hna hl9.1 hst (lv_room hsum) d ⟨hkn.1, hkn.2⟩) (fun H1 locs1 hP1 hD1 hk1 hS1 => ?_)
  exact kk ok H1 locs1 ls (zP_kept hP fun q h => hk1 q h (Nat.not_le.mpr h)) hD hS1 hl9
end ZC
