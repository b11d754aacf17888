/-! orders: the first of the shortest, by blocks -/
abbrev Bl : Type := Option (Nat × List Nat)
def cmb (a b : Bl) : Bl := match a, b with
  | none, b => b
  | some x, none => some x
  | some x, some y => if y.1 < x.1 then some y else some x
theorem cmb_none (a : Bl) : cmb a none = a := by cases a <;> rfl
theorem none_cmb (a : Bl) : cmb none a = a := rfl
theorem cmb_assoc (a b c : Bl) : cmb (cmb a b) c = cmb a (cmb b c) := by
  cases a with
  | none => rfl
  | some x =>
    cases b with
    | none => rfl
    | some y =>
      cases c with
      | none => rw [cmb_none, cmb_none]
      | some z =>
        show cmb (if y.1 < x.1 then some y else some x) (some z) = cmb (some x) (if z.1 < y.1 then some z else some y)
        by_cases h1 : y.1 < x.1 <;> by_cases h2 : z.1 < y.1
        · rw [if_pos h1, if_pos h2]
          show (if z.1 < y.1 then some z else some y) = (if z.1 < x.1 then some z else some x)
          rw [if_pos h2, if_pos (by omega)]
        · rw [if_pos h1, if_neg h2]
          show (if z.1 < y.1 then some z else some y) = (if y.1 < x.1 then some y else some x)
          rw [if_neg h2, if_pos h1]
        · rw [if_neg h1, if_pos h2]
        · rw [if_neg h1, if_neg h2]
          show (if z.1 < x.1 then some z else some x) = (if y.1 < x.1 then some y else some x)
          rw [if_neg (by omega), if_neg h1]
theorem cmb_cases (a b : Bl) : cmb a b = a ∨ cmb a b = b := by
  cases a with
  | none => exact Or.inr rfl
  | some x =>
    cases b with
    | none => exact Or.inl rfl
    | some y =>
      show (if y.1 < x.1 then some y else some x) = _ ∨ (if y.1 < x.1 then some y else some x) = _
      split
      · exact Or.inr rfl
      · exact Or.inl rfl
def fb (g : Nat → Bl) : List Nat → Bl
  | [] => none
  | k :: ks => cmb (g k) (fb g ks)
theorem fb_app (g : Nat → Bl) : ∀ l m, fb g (l ++ m) = cmb (fb g l) (fb g m) := by
  intro l m
  induction l with
  | nil => rfl
  | cons k l ih =>
    show cmb (g k) (fb g (l ++ m)) = cmb (cmb (g k) (fb g l)) (fb g m)
    rw [ih, cmb_assoc]
theorem fb_mem (g : Nat → Bl) : ∀ l x, fb g l = some x → ∃ k, k ∈ l ∧ g k = some x := by
  intro l x
  induction l with
  | nil => intro h; cases h
  | cons k l ih =>
    intro h
    rcases cmb_cases (g k) (fb g l) with c | c
    · exact ⟨k, List.mem_cons_self, c.symm.trans h⟩
    · obtain ⟨j, h1, h2⟩ := ih (c.symm.trans h)
      exact ⟨j, List.mem_cons_of_mem _ h1, h2⟩
theorem fb_congr {g h : Nat → Bl} : ∀ {l : List Nat}, (∀ k, k ∈ l → g k = h k) → fb g l = fb h l := by
  intro l
  induction l with
  | nil => intro _; rfl
  | cons k l ih =>
    intro H
    show cmb (g k) (fb g l) = cmb (h k) (fb h l)
    rw [H k List.mem_cons_self, ih (fun j hj => H j (List.mem_cons_of_mem _ hj))]
/-- the state without what is counted -/
def nc (A : AS) : AS := (aL A, aJ A, A.2.2.1, aW A, (0, 0, 0, 0), 0)
def stA (A : AS) (n : Int32) : Nat := match fd (aL A) n with
  | some x => (wayA A x.2.2).natAbs
  | none => 0
/-- the steps of a row of items, if none is refused -/
def tl : AS → List Int32 → Option Nat
  | _, [] => some 0
  | A, n :: ns => if reasonA A n = 0 then (tl (takeA A n) ns).map (stA A n + ·) else none
theorem reasonA_nc (A : AS) (n : Int32) : reasonA (nc A) n = reasonA A n := rfl
theorem stA_nc (A : AS) (n : Int32) : stA (nc A) n = stA A n := rfl
theorem nc_take (A : AS) (n : Int32) : nc (takeA (nc A) n) = nc (takeA A n) := by
  unfold takeA
  show nc (match fd (aL A) n with | none => nc A | some x => _) = _
  cases fd (aL A) n with
  | none => rfl
  | some x => rfl
theorem tl_nc : ∀ ns A, tl (nc A) ns = tl A ns := by
  intro ns
  induction ns with
  | nil => intro A; rfl
  | cons n ns ih =>
    intro A
    show (if reasonA (nc A) n = 0 then (tl (takeA (nc A) n) ns).map (stA (nc A) n + ·) else none) = (if reasonA A n = 0 then (tl (takeA A n) ns).map (stA A n + ·) else none)
    rw [← ih (takeA (nc A) n), nc_take, ih]
    rfl
theorem tl_of {A B : AS} (h : nc A = nc B) (ns : List Int32) : tl A ns = tl B ns := by rw [← tl_nc, h, tl_nc]
theorem stA_le {A : AS} {n : Int32} (h : reasonA A n = 0) : stA A n ≤ 11 := by
  obtain ⟨x, h1, _, h2⟩ := reason0 h
  unfold stA
  rw [h1]
  have := wy_range (okA A) (aW A) x.2.2
  unfold wayA at h2 ⊢
  dsimp only
  omega
theorem tl_le : ∀ ns A t, tl A ns = some t → t ≤ 11 * ns.length := by
  intro ns
  induction ns with
  | nil => intro A t h; cases h; exact Nat.le_refl _
  | cons n ns ih =>
    intro A t h
    unfold tl at h
    by_cases c : reasonA A n = 0
    · rw [if_pos c] at h
      cases e : tl (takeA A n) ns with
      | none => rw [e] at h; cases h
      | some t' =>
        rw [e] at h
        have h1 := ih _ _ e
        have h2 := stA_le c
        have h3 : stA A n + t' = t := Option.some.inj h
        rw [List.length_cons]
        omega
    · rw [if_neg c] at h
      cases h
/-- what picking a row brings, told by tl -/
theorem tl_row : ∀ ns A, (tl A ns = none → (pickRow A ns).1 < ns.length) ∧ (∀ t, tl A ns = some t → (pickRow A ns).1 = ns.length ∧ (aC (pickRow A ns).2).1 = (aC A).1 + nI t) := by
  intro ns
  induction ns with
  | nil =>
    intro A
    refine ⟨fun h => (by cases h), fun t h => ?_⟩
    cases h
    exact ⟨rfl, (add0 _).symm⟩
  | cons n ns ih =>
    intro A
    have h := ih (takeA A n)
    by_cases c : reasonA A n = 0
    · rw [pickRow_yes c]
      unfold tl
      rw [if_pos c]
      cases e : tl (takeA A n) ns with
      | none =>
        refine ⟨fun _ => ?_, fun t h => (by cases h)⟩
        have := h.1 e
        rw [List.length_cons]
        dsimp only
        omega
      | some t' =>
        refine ⟨fun h => (by cases h), fun t ht => ?_⟩
        obtain ⟨h1, h2⟩ := h.2 t' e
        have ht' : stA A n + t' = t := Option.some.inj ht
        refine ⟨by rw [List.length_cons]; dsimp only; omega, ?_⟩
        show (aC (pickRow (takeA A n) ns).2).1 = _
        rw [h2, ← ht', ← nI_add]
        obtain ⟨x, h3, _, _⟩ := reason0 c
        unfold takeA stA
        rw [h3]
        show ((aC A).1 + nI (wayA A x.2.2).natAbs) + nI t' = _
        rw [Int32.add_assoc]
    · rw [pickRow_no c]
      unfold tl
      rw [if_neg c]
      exact ⟨fun _ => by rw [List.length_cons]; exact Nat.succ_pos _, fun t h => (by cases h)⟩
def gb (b : List Int32) (i : Nat) : Int32 := b.getD i 0
def one (A : AS) (b : List Int32) (o : List Nat) : Bl := (tl A (o.map (gb b))).map (fun t => (t, o))
def blk (A : AS) (b : List Int32) : List (List Nat) → Bl
  | [] => none
  | o :: os => cmb (one A b o) (blk A b os)
theorem blk_app (A : AS) (b : List Int32) : ∀ l m, blk A b (l ++ m) = cmb (blk A b l) (blk A b m) := by
  intro l m
  induction l with
  | nil => rfl
  | cons o l ih =>
    show cmb (one A b o) (blk A b (l ++ m)) = cmb (cmb (one A b o) (blk A b l)) (blk A b m)
    rw [ih, cmb_assoc]
theorem blk_flat (A : AS) (b : List Int32) (h : Nat → List (List Nat)) : ∀ ks, blk A b (ks.flatMap h) = fb (fun k => blk A b (h k)) ks := by
  intro ks
  induction ks with
  | nil => rfl
  | cons k ks ih =>
    rw [List.flatMap_cons, blk_app, ih]
    rfl
theorem blk_of {A B : AS} (h : nc A = nc B) (b : List Int32) : ∀ os, blk A b os = blk B b os := by
  intro os
  induction os with
  | nil => rfl
  | cons o os ih =>
    show cmb (one A b o) (blk A b os) = cmb (one B b o) (blk B b os)
    unfold one
    rw [ih, tl_of h]
def lift (st k : Nat) (x : Bl) : Bl := x.map (fun y => (st + y.1, k :: y.2))
theorem lift_cmb (st k : Nat) (x y : Bl) : lift st k (cmb x y) = cmb (lift st k x) (lift st k y) := by
  cases x with
  | none => rfl
  | some x =>
    cases y with
    | none => rfl
    | some y =>
      show lift st k (if y.1 < x.1 then some y else some x) = (if st + y.1 < st + x.1 then some (st + y.1, k :: y.2) else some (st + x.1, k :: x.2))
      by_cases c : y.1 < x.1
      · rw [if_pos c, if_pos (by omega)]
        rfl
      · rw [if_neg c, if_neg (by omega)]
        rfl
theorem blk_cons (A : AS) (b : List Int32) (k : Nat) : ∀ os, blk A b (os.map (k :: ·)) = if reasonA A (gb b k) = 0 then lift (stA A (gb b k)) k (blk (takeA A (gb b k)) b os) else none := by
  intro os
  induction os with
  | nil => rw [List.map_nil]; split <;> rfl
  | cons o os ih =>
    rw [List.map_cons]
    show cmb (one A b (k :: o)) (blk A b (os.map (k :: ·))) = _
    rw [ih]
    unfold one
    rw [List.map_cons]
    unfold tl
    by_cases c : reasonA A (gb b k) = 0
    · rw [if_pos c, if_pos c, if_pos c]
      show _ = lift _ _ (cmb (one (takeA A (gb b k)) b o) (blk (takeA A (gb b k)) b os))
      rw [lift_cmb]
      unfold one
      cases tl (takeA A (gb b k)) (o.map (gb b)) <;> rfl
    · rw [if_neg c, if_neg c, if_neg c]
      rfl
/-- all orders, place by place -/
def prm : Nat → List Nat → List (List Nat)
  | 0, _ => [[]]
  | f + 1, r => r.flatMap (fun k => (prm f (r.filter (· != k))).map (k :: ·))
theorem blk_prm (A : AS) (b : List Int32) (f : Nat) (r : List Nat) : blk A b (prm (f + 1) r) = fb (fun k => if reasonA A (gb b k) = 0 then lift (stA A (gb b k)) k (blk (takeA A (gb b k)) b (prm f (r.filter (· != k)))) else none) r := by
  show blk A b (r.flatMap _) = _
  rw [blk_flat]
  exact fb_congr (fun k _ => blk_cons A b k _)
theorem blk_le (A : AS) (b : List Int32) (m : Nat) : ∀ os x, (∀ o, o ∈ os → o.length ≤ m) → blk A b os = some x → x.1 ≤ 11 * m := by
  intro os
  induction os with
  | nil => intro x _ h; cases h
  | cons o os ih =>
    intro x hm h
    rcases cmb_cases (one A b o) (blk A b os) with c | c
    · have h1 : one A b o = some x := c.symm.trans h
      unfold one at h1
      cases e : tl A (o.map (gb b)) with
      | none => rw [e] at h1; cases h1
      | some t =>
        rw [e] at h1
        cases h1
        have := tl_le _ _ _ e
        rw [List.length_map] at this
        have := hm o List.mem_cons_self
        dsimp only
        omega
    · exact ih x (fun o ho => hm o (List.mem_cons_of_mem _ ho)) (c.symm.trans h)
theorem prm_len : ∀ f r o, o ∈ prm f r → o.length ≤ f := by
  intro f
  induction f with
  | zero => intro r o h; rw [List.mem_singleton.mp h]; exact Nat.le_refl _
  | succ f ih =>
    intro r o h
    obtain ⟨k, _, h2⟩ := List.mem_flatMap.mp h
    obtain ⟨o', h3, rfl⟩ := List.mem_map.mp h2
    exact Nat.succ_le_succ (ih _ _ h3)
/-- what is left of a list when the items of a set are out -/
def pP (b : List Int32) (S : Nat) : Nat → It → Bool
  | 0, _ => true
  | m + 1, x => pP b S m x && !(S.testBit m && decide (x.1 = gb b m))
theorem pP_iff (b : List Int32) (S : Nat) (x : It) : ∀ m, pP b S m x = true ↔ ∀ j, j < m → S.testBit j = true → x.1 ≠ gb b j := by
  intro m
  induction m with
  | zero => exact ⟨fun _ j hj => absurd hj (Nat.not_lt_zero _), fun _ => rfl⟩
  | succ m ih =>
    show (pP b S m x && !(S.testBit m && decide (x.1 = gb b m))) = true ↔ _
    rw [Bool.and_eq_true, ih]
    constructor
    · rintro ⟨h1, h2⟩ j hj hs
      by_cases c : j = m
      · subst c
        rw [hs, Bool.true_and] at h2
        simpa using h2
      · exact h1 j (by omega) hs
    · intro h
      refine ⟨fun j hj => h j (by omega), ?_⟩
      cases c : S.testBit m with
      | false => rfl
      | true =>
        have := h m (by omega) c
        simpa using this
theorem fd_filter {b : List Int32} {n : Nat} (hd : ∀ i j, i < n → j < n → gb b i = gb b j → i = j) (L : List It) (S : Nat) {k : Nat} (hk : k < n) (hS : S.testBit k = false) (m : Nat) (hm : m ≤ n) : fd (L.filter (pP b S m)) (gb b k) = fd L (gb b k) := by
  unfold fd
  rw [List.find?_filter]
  congr 1
  funext x
  by_cases c : x.1 = gb b k
  · have : pP b S m x = true := (pP_iff b S x m).mpr (fun j hj hs e => by
      have := hd k j hk (by omega) (c.symm.trans e)
      subst this
      rw [hS] at hs
      cases hs)
    rw [this]
    simp
  · rw [decide_eq_false c]
    simp
theorem or_bit (S k j : Nat) : (S ||| 2 ^ k).testBit j = (S.testBit j || decide (k = j)) := by
  rw [Nat.testBit_or, Nat.testBit_two_pow]
theorem rm_or {b : List Int32} {n : Nat} (L : List It) (S : Nat) {k : Nat} (hk : k < n) : rm (L.filter (pP b S n)) (gb b k) = L.filter (pP b (S ||| 2 ^ k) n) := by
  unfold rm
  rw [List.filter_filter]
  congr 1
  funext x
  rw [Bool.eq_iff_iff, Bool.and_eq_true, pP_iff, pP_iff]
  constructor
  · rintro ⟨h1, h2⟩ j hj hs
    rw [or_bit, Bool.or_eq_true] at hs
    rcases hs with hs | hs
    · exact h2 j hj hs
    · have : k = j := of_decide_eq_true hs
      subst this
      exact of_decide_eq_true h1
  · intro h
    refine ⟨decide_eq_true (h k hk (by rw [or_bit, decide_eq_true rfl, Bool.or_true])), fun j hj hs => h j hj (by rw [or_bit, hs, Bool.true_or])⟩
def sA (A : AS) (b : List Int32) (n S w : Nat) : AS := ((aL A).filter (pP b S n), aJ A, A.2.2.1, w, (0, 0, 0, 0), 0)
/-- the batch: unlike numbers, all there and in drawers that go -/
def Bt (A : AS) (b : List Int32) (n : Nat) (dk : Nat → Nat) : Prop := (∀ i j, i < n → j < n → gb b i = gb b j → i = j) ∧ (∀ k, k < n → ∃ x, fd (aL A) (gb b k) = some x ∧ x.2.2 = dk k ∧ aJ A (dk k) = false)
theorem sA_fd {A : AS} {b : List Int32} {n : Nat} {dk : Nat → Nat} (h : Bt A b n dk) (S w : Nat) {k : Nat} (hk : k < n) (hS : S.testBit k = false) : ∃ x, fd (aL (sA A b n S w)) (gb b k) = some x ∧ x.2.2 = dk k ∧ aJ A (dk k) = false := by
  obtain ⟨x, h1, h2, h3⟩ := h.2 k hk
  exact ⟨x, (fd_filter h.1 (aL A) S hk hS n (Nat.le_refl _)).trans h1, h2, h3⟩
theorem sA_take {A : AS} {b : List Int32} {n : Nat} {dk : Nat → Nat} (h : Bt A b n dk) (S w : Nat) {k : Nat} (hk : k < n) (hS : S.testBit k = false) : nc (takeA (sA A b n S w) (gb b k)) = nc (sA A b n (S ||| 2 ^ k) (dk k)) := by
  obtain ⟨x, h1, h2, _⟩ := sA_fd h S w hk hS
  unfold takeA
  rw [h1]
  show nc (rm ((aL A).filter (pP b S n)) (gb b k), _, _, _, _, _) = _
  rw [rm_or (aL A) S hk, h2]
  rfl
theorem sA_reason {A : AS} {b : List Int32} {n : Nat} {dk : Nat → Nat} (h : Bt A b n dk) (S w : Nat) {k : Nat} (hk : k < n) (hS : S.testBit k = false) : (reasonA (sA A b n S w) (gb b k) = 0 ↔ wayA (sA A b n S w) (dk k) ≠ 99) ∧ stA (sA A b n S w) (gb b k) = (wayA (sA A b n S w) (dk k)).natAbs := by
  obtain ⟨x, h1, h2, h3⟩ := sA_fd h S w hk hS
  unfold reasonA stA
  rw [h1]
  dsimp only
  rw [h2, show aJ (sA A b n S w) (dk k) = false from h3, if_neg (by decide)]
  refine ⟨?_, rfl⟩
  by_cases c : wayA (sA A b n S w) (dk k) = 99
  · rw [if_pos c]
    exact ⟨fun h => (by cases h), fun h => absurd c h⟩
  · rw [if_neg c]
    exact ⟨fun _ => c, fun _ => rfl⟩
def remS (n S : Nat) : List Nat := (List.range n).filter (fun k => !S.testBit k)
theorem remS_mem {n S k : Nat} : k ∈ remS n S ↔ k < n ∧ S.testBit k = false := by
  unfold remS
  rw [List.mem_filter, List.mem_range]
  simp
theorem remS_or (n S k : Nat) : (remS n S).filter (· != k) = remS n (S ||| 2 ^ k) := by
  unfold remS
  rw [List.filter_filter]
  congr 1
  funext j
  rw [or_bit]
  by_cases c : k = j
  · subst c
    simp
  · have : (j != k) = true := by simpa using fun e => c (Eq.symm e)
    rw [this, decide_eq_false c]
    simp
theorem remS_len {n S k : Nat} (hk : k < n) (hS : S.testBit k = false) : (remS n S).length = (remS n (S ||| 2 ^ k)).length + 1 := by
  have hm : k ∈ remS n S := remS_mem.mpr ⟨hk, hS⟩
  have hnd : (remS n S).Nodup := List.Pairwise.filter _ List.nodup_range
  rw [← remS_or, ← hnd.erase_eq_filter, List.length_erase_of_mem hm]
  have := List.length_pos_of_mem hm
  omega
def VV (A : AS) (b : List Int32) (n S w : Nat) : Bl := blk (sA A b n S w) b (prm (remS n S).length (remS n S))
def gV (A : AS) (b : List Int32) (n : Nat) (dk : Nat → Nat) (S w k : Nat) : Bl := if wayA (sA A b n S w) (dk k) = 99 then none else lift (wayA (sA A b n S w) (dk k)).natAbs k (VV A b n (S ||| 2 ^ k) (dk k))
theorem VV_full {A : AS} {b : List Int32} {n S : Nat} (w : Nat) (h : remS n S = []) : VV A b n S w = some (0, []) := by
  unfold VV
  rw [h]
  rfl
theorem VV_step {A : AS} {b : List Int32} {n : Nat} {dk : Nat → Nat} (h : Bt A b n dk) (S w : Nat) (hr : remS n S ≠ []) : VV A b n S w = fb (gV A b n dk S w) (remS n S) := by
  unfold VV
  obtain ⟨f, hf⟩ : ∃ f, (remS n S).length = f + 1 := ⟨(remS n S).length - 1, by have := List.length_pos_iff.mpr hr; omega⟩
  rw [hf, blk_prm]
  refine fb_congr (fun k hk => ?_)
  obtain ⟨h1, h2⟩ := remS_mem.mp hk
  have h3 := remS_len h1 h2
  obtain ⟨h4, h5⟩ := sA_reason h S w h1 h2
  have h6 : f = (remS n (S ||| 2 ^ k)).length := by omega
  rw [remS_or, h5, blk_of (sA_take h S w h1 h2), h6]
  unfold gV VV
  by_cases c : wayA (sA A b n S w) (dk k) = 99
  · rw [if_pos c, if_neg (fun e => h4.mp e c)]
  · rw [if_neg c, if_pos (h4.mpr c)]
theorem VV_le {A : AS} {b : List Int32} {n S w : Nat} (hn : n ≤ 6) {x : Nat × List Nat} (h : VV A b n S w = some x) : x.1 ≤ 66 := by
  have h1 := blk_le _ _ _ _ _ (fun o ho => prm_len _ _ o ho) h
  have h2 : (remS n S).length ≤ n := by
    unfold remS
    exact Nat.le_trans (List.length_filter_le _ _) (by rw [List.length_range]; exact Nat.le_refl _)
  omega
