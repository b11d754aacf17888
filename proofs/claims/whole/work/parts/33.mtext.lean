/-! texts: an automaton, and both readers -/
abbrev TS : Type := List Nat × Nat × Nat
def cg (n d : Nat) : Bool := decide (n ≠ 0 ∧ d < 3)
def stp (s : TS) (c : Nat) : Option TS :=
  if c = 44 then (if 5 ≤ s.1.length then none else if s.2.2 = 0 ∨ s.2.1 ∈ s.1 then none else some (s.1 ++ [s.2.1], 0, 0))
  else if 48 ≤ c ∧ c ≤ 57 then (if 0 < s.2.2 ∧ cg s.2.1 s.2.2 = false then none else if cg (10 * s.2.1 + (c - 48)) (s.2.2 + 1) = true ∨ ¬ (10 * s.2.1 + (c - 48)) ∈ s.1 then some (s.1, 10 * s.2.1 + (c - 48), s.2.2 + 1) else none)
  else none
def run : TS → List Nat → Nat × Option TS
  | s, [] => (0, some s)
  | s, c :: l => match stp s c with
    | none => (0, none)
    | some s' => ((run s' l).1 + 1, (run s' l).2)
def fin (x : Option TS) : Option (List Nat) := match x with
  | none => none
  | some s => if s.2.2 = 0 ∨ s.2.1 ∈ s.1 then none else some (s.1 ++ [s.2.1])
def er (t : List Nat) : Nat := (run ([], 0, 0) t).1
def bt (t : List Nat) : Option (List Nat) := fin (run ([], 0, 0) t).2
def Ts (s : TS) : Prop := (∀ x ∈ s.1, x < 1000) ∧ s.1.length ≤ 5 ∧ s.1.Nodup ∧ s.2.2 ≤ 3 ∧ s.2.1 < 10 ^ s.2.2
theorem Ts.n {s : TS} (h : Ts s) : s.2.1 < 1000 := Nat.lt_of_lt_of_le h.2.2.2.2 (Nat.pow_le_pow_right (n := 10) (by omega) h.2.2.2.1)
theorem Ts.step {s s' : TS} {c : Nat} (h : Ts s) (e : stp s c = some s') : Ts s' := by
  have hn := h.n
  obtain ⟨h1, h2, h3, h4, h5⟩ := h
  unfold stp at e
  by_cases c1 : c = 44
  · rw [if_pos c1] at e
    by_cases c2 : 5 ≤ s.1.length
    · rw [if_pos c2] at e; cases e
    · rw [if_neg c2] at e
      by_cases c3 : s.2.2 = 0 ∨ s.2.1 ∈ s.1
      · rw [if_pos c3] at e; cases e
      · rw [if_neg c3] at e
        cases e
        refine ⟨fun x hx => ?_, ?_, ?_, Nat.zero_le _, Nat.one_pos⟩
        · rcases List.mem_append.mp hx with y | y
          · exact h1 x y
          · rw [List.mem_singleton.mp y]; exact hn
        · show (s.1 ++ [s.2.1]).length ≤ 5
          rw [List.length_append, List.length_singleton]
          omega
        · refine List.nodup_append.mpr ⟨h3, List.pairwise_singleton _ _, fun a ha b hb e => ?_⟩
          rw [List.mem_singleton.mp hb] at e
          subst e
          exact c3 (Or.inr ha)
  · rw [if_neg c1] at e
    by_cases c2 : 48 ≤ c ∧ c ≤ 57
    · rw [if_pos c2] at e
      by_cases c3 : 0 < s.2.2 ∧ cg s.2.1 s.2.2 = false
      · rw [if_pos c3] at e; cases e
      · rw [if_neg c3] at e
        by_cases c4 : cg (10 * s.2.1 + (c - 48)) (s.2.2 + 1) = true ∨ ¬ (10 * s.2.1 + (c - 48)) ∈ s.1
        · rw [if_pos c4] at e
          cases e
          refine ⟨h1, h2, h3, ?_, ?_⟩
          · show s.2.2 + 1 ≤ 3
            rcases Nat.eq_zero_or_pos s.2.2 with z | z
            · omega
            · have : cg s.2.1 s.2.2 = true := by
                cases q : cg s.2.1 s.2.2 with
                | true => rfl
                | false => exact absurd ⟨z, q⟩ c3
              have := of_decide_eq_true this
              omega
          · show 10 * s.2.1 + (c - 48) < 10 ^ (s.2.2 + 1)
            rw [Nat.pow_succ]
            omega
        · rw [if_neg c4] at e; cases e
    · rw [if_neg c2] at e; cases e
theorem run_Ts : ∀ (l : List Nat) (s s' : TS), Ts s → (run s l).2 = some s' → Ts s' := by
  intro l
  induction l with
  | nil => intro s s' h e; cases e; exact h
  | cons c l ih =>
    intro s s' h e
    unfold run at e
    cases q : stp s c with
    | none => rw [q] at e; cases e
    | some s2 =>
      rw [q] at e
      exact ih s2 s' (h.step q) e
theorem Ts0 : Ts ([], 0, 0) := ⟨fun x hx => (by cases hx), Nat.zero_le _, List.nodup_nil, Nat.zero_le _, Nat.one_pos⟩
theorem run_le : ∀ (l : List Nat) (s : TS), (run s l).1 ≤ l.length ∧ ((run s l).2 = none → (run s l).1 < l.length) ∧ (∀ s', (run s l).2 = some s' → (run s l).1 = l.length) := by
  intro l
  induction l with
  | nil => intro s; exact ⟨Nat.le_refl _, fun h => (by cases h), fun _ _ => rfl⟩
  | cons c l ih =>
    intro s
    unfold run
    cases q : stp s c with
    | none => exact ⟨Nat.zero_le _, fun _ => Nat.succ_pos _, fun s' h => (by cases h)⟩
    | some s2 =>
      have := ih s2
      exact ⟨Nat.succ_le_succ this.1, fun h => Nat.succ_lt_succ (this.2.1 h), fun s' h => by rw [List.length_cons]; exact congrArg (· + 1) (this.2.2 s' h)⟩
theorem bt_ok {t b : List Nat} (h : bt t = some b) : 0 < b.length ∧ b.length ≤ 6 ∧ b.Nodup ∧ ∀ x ∈ b, x < 1000 := by
  unfold bt fin at h
  cases e : (run ([], 0, 0) t).2 with
  | none => rw [e] at h; cases h
  | some s =>
    rw [e] at h
    have hs := run_Ts t _ s Ts0 e
    have hn := hs.n
    obtain ⟨h1, h2, h3, h4, h5⟩ := hs
    dsimp only at h
    by_cases c : s.2.2 = 0 ∨ s.2.1 ∈ s.1
    · rw [if_pos c] at h; cases h
    · rw [if_neg c] at h
      cases h
      rw [List.length_append, List.length_singleton]
      refine ⟨by omega, by omega, ?_, fun x hx => ?_⟩
      · refine List.nodup_append.mpr ⟨h3, List.pairwise_singleton _ _, fun a ha b hb e => ?_⟩
        rw [List.mem_singleton.mp hb] at e
        subst e
        exact c (Or.inr ha)
      · rcases List.mem_append.mp hx with y | y
        · exact h1 x y
        · rw [List.mem_singleton.mp y]; exact hn
/-- the class's buffer, and what it has read -/
def Rt (u : tX1) (t : List Nat) : Prop := (∀ k x, t[k]? = some x → u.1 k = nI x) ∧ u.2.1 = nI t.length
def Rs (u : tX1) (s : TS) : Prop := (∀ k x, s.1[k]? = some x → u.2.2.1 k = nI x) ∧ u.2.2.2.1 = nI s.1.length ∧ u.2.2.2.2.1 = nI s.2.1 ∧ u.2.2.2.2.2 = nI s.2.2
theorem x1_told {u : tX1} {s : TS} (h : Rs u s) (hl : s.1.length ≤ 6) (hb : ∀ x ∈ s.1, x < 1000) {m : Nat} (hm : m < 2 ^ 31) : f_X1_isTold u (nI m) = some (decide (m ∈ s.1)) := by
  unfold f_X1_isTold
  obtain ⟨e, h1, h2⟩ := lp_run (b_X1_isTold_2 u (nI m)) s.1.length (fun k z => z = nI k ∧ ∀ j (hj : j < s.1.length), j < k → s.1[j] ≠ m) (fun e => e = decide (m ∈ s.1)) (fun k z hk hz => by
    obtain ⟨rfl, hz⟩ := hz
    unfold b_X1_isTold_2
    rw [h.2.1]
    rcases Nat.lt_or_ge k s.1.length with h5 | h5
    · have hx := List.getElem?_eq_getElem h5
      have hxb := hb _ (List.getElem_mem h5)
      rw [if_neg (nI_ge h5 (by omega)), if_neg (show ¬ (6 : Int32) ≤ nI k from nI_ge (b := 6) (by omega) (by omega)), aget_n (by omega) (by omega), Option.bind_some, h.1 k _ hx]
      by_cases c : s.1[k] = m
      · left
        rw [if_pos (by rw [c])]
        refine ⟨_, rfl, ?_⟩
        rw [decide_eq_true (by rw [← c]; exact List.getElem_mem h5)]
      · right
        rw [if_neg (fun e => c ((nI_eq (by omega) hm).mp e)), nI_1]
        refine ⟨h5, _, rfl, rfl, fun j hj hjk => ?_⟩
        by_cases c2 : j = k
        · subst c2; exact c
        · exact hz j hj (by omega)
    · left
      rw [if_pos (nI_le h5 (by omega))]
      refine ⟨_, rfl, ?_⟩
      rw [decide_eq_false (fun hm => by
        obtain ⟨j, hj, e⟩ := List.getElem_of_mem hm
        exact hz j hj (by omega) e)]) 5000 0 0 (Nat.zero_le _) (by omega) ⟨rfl, fun j _ hj => absurd hj (Nat.not_lt_zero _)⟩
  rw [h1, h2]
theorem x1_cg {u : tX1} {s : TS} (h : Rs u s) (hn : s.2.1 < 2 ^ 31) (hd : s.2.2 < 2 ^ 31) : f_X1_canGoOn u = cg s.2.1 s.2.2 := by
  unfold f_X1_canGoOn cg
  rw [h.2.2.1, h.2.2.2]
  by_cases c : s.2.1 = 0
  · rw [if_pos ((i0e hn).mpr c), decide_eq_false (fun e => e.1 c)]
  · rw [if_neg (fun e => c ((i0e hn).mp e))]
    have e3 : ((3 : Int32) ≤ nI s.2.2) ↔ 3 ≤ s.2.2 := nI_leI (a := 3) (by omega) hd
    by_cases c2 : 3 ≤ s.2.2
    · rw [if_pos (e3.mpr c2), decide_eq_false (by omega)]
    · rw [if_neg (fun e => c2 (e3.mp e)), decide_eq_true ⟨c, by omega⟩]
theorem x1_end {u : tX1} {s : TS} (h : Rs u s) (hs : Ts s) : ∃ e, f_X1_endNumber u = some e ∧ e.2.1 = u.1 ∧ e.2.2.1 = u.2.1 ∧ ((s.2.2 = 0 ∨ s.2.1 ∈ s.1) ∧ e.1 = false ∨ ¬ (s.2.2 = 0 ∨ s.2.1 ∈ s.1) ∧ e.1 = true ∧ Rs e.2 (s.1 ++ [s.2.1], 0, 0)) := by
  have hn := hs.n
  obtain ⟨g1, g2, g3, g4, g5⟩ := hs
  unfold f_X1_endNumber
  rw [h.2.2.2]
  by_cases c : s.2.2 = 0
  · rw [if_pos ((i0e (by omega)).mpr c)]
    exact ⟨_, rfl, rfl, rfl, Or.inl ⟨Or.inl c, rfl⟩⟩
  · rw [if_neg (fun e => c ((i0e (by omega)).mp e)), h.2.2.1, x1_told h (by omega) g1 (by omega), Option.bind_some]
    by_cases c2 : s.2.1 ∈ s.1
    · rw [decide_eq_true c2, if_pos rfl]
      exact ⟨_, rfl, rfl, rfl, Or.inl ⟨Or.inr c2, rfl⟩⟩
    · rw [decide_eq_false c2, if_neg (by decide), h.2.1, wr_n (by omega) (by omega), Option.bind_some, nI_1]
      refine ⟨_, rfl, rfl, rfl, Or.inr ⟨fun e => by rcases e with e | e; exact c e; exact c2 e, rfl, fun k x hx => ?_, ?_, rfl, rfl⟩⟩
      · show upd u.2.2.1 s.1.length (nI s.2.1) k = nI x
        rcases Nat.lt_trichotomy k s.1.length with d | d | d
        · rw [upd_n (by omega)]
          refine h.1 k x ?_
          rw [← hx]
          exact (List.getElem?_append_left d).symm
        · subst d
          rw [upd_s]
          replace hx : (s.1 ++ [s.2.1])[s.1.length]? = some x := hx
          rw [List.getElem?_append_right (Nat.le_refl _), Nat.sub_self] at hx
          cases hx
          rfl
        · replace hx : (s.1 ++ [s.2.1])[k]? = some x := hx
          rw [List.getElem?_eq_none (by rw [List.length_append, List.length_singleton]; omega)] at hx
          cases hx
      · show nI (s.1.length + 1) = nI (s.1 ++ [s.2.1]).length
        rw [List.length_append, List.length_singleton]
theorem bool_eta (e : Bool × tX1) : (if e.1 = true then some (true, e.2) else some (false, e.2)) = some e := by
  obtain ⟨b, x⟩ := e
  cases b <;> rfl
theorem x1_taken {u : tX1} {s : TS} (h : Rs u s) (hs : Ts s) {c : Nat} (hc : c < 1000) : ∃ e, f_X1_isTaken u (nI c) = some e ∧ e.2.1 = u.1 ∧ e.2.2.1 = u.2.1 ∧ (match stp s c with | none => e.1 = false | some s' => e.1 = true ∧ Rs e.2 s') := by
  have hn := hs.n
  have hs0 := hs
  obtain ⟨g1, g2, g3, g4, g5⟩ := hs
  unfold f_X1_isTaken stp
  have e44 : (nI c = (44 : Int32)) ↔ c = 44 := nI_eq (b := 44) (by omega) (by omega)
  have e48 : (nI c < (48 : Int32)) ↔ c < 48 := nI_ltI (b := 48) (by omega) (by omega)
  have e57 : ((57 : Int32) < nI c) ↔ 57 < c := nI_ltI (a := 57) (by omega) (by omega)
  by_cases c1 : c = 44
  · rw [if_pos (e44.mpr c1), if_pos c1, h.2.1]
    have e5 : ((5 : Int32) ≤ nI s.1.length) ↔ 5 ≤ s.1.length := nI_leI (a := 5) (by omega) (by omega)
    by_cases c2 : 5 ≤ s.1.length
    · rw [if_pos (e5.mpr c2), if_pos c2]
      exact ⟨_, rfl, rfl, rfl, rfl⟩
    · rw [if_neg (fun e => c2 (e5.mp e)), if_neg c2]
      obtain ⟨e, e1, e2, e3, e4⟩ := x1_end h hs0
      rw [e1, Option.bind_some]
      rcases e4 with ⟨d1, d2⟩ | ⟨d1, d2, d3⟩
      · rw [d2, if_neg (by decide), if_pos d1]
        exact ⟨_, rfl, e2, e3, rfl⟩
      · rw [d2, if_pos rfl, if_neg d1]
        exact ⟨_, rfl, e2, e3, rfl, d3⟩
  · rw [if_neg (fun e => c1 (e44.mp e)), if_neg c1]
    by_cases c2 : 48 ≤ c ∧ c ≤ 57
    · rw [if_neg (fun e => by have := e48.mp e; omega), if_neg (fun e => by have := e57.mp e; omega), if_pos c2, show (48 : Int32) = nI 48 from rfl, pk_sub c2.1]
      unfold f_X1_isDigitTaken
      rw [h.2.2.2, h.2.2.1, show (10 : Int32) = nI 10 from rfl, pk_mul, nI_add, nI_1, show s.2.1 * 10 + (c - 48) = 10 * s.2.1 + (c - 48) by omega]
      have hR : Rs (u.1, u.2.1, u.2.2.1, u.2.2.2.1, nI (10 * s.2.1 + (c - 48)), nI (s.2.2 + 1)) (s.1, 10 * s.2.1 + (c - 48), s.2.2 + 1) := ⟨h.1, h.2.1, rfl, rfl⟩
      have e0 : (nI s.2.2 ≤ (0 : Int32)) ↔ s.2.2 = 0 := by
        rw [show (0 : Int32) = nI 0 from rfl, nI_leI (by omega) (by omega)]
        omega
      rw [x1_cg h (by omega) (by omega), x1_cg hR (by dsimp only; omega) (by dsimp only; omega), x1_told hR (by dsimp only; omega) g1 (by omega), Option.bind_some]
      dsimp only
      have tail : ∀ X : Option TS, X = (if cg (10 * s.2.1 + (c - 48)) (s.2.2 + 1) = true ∨ ¬ (10 * s.2.1 + (c - 48)) ∈ s.1 then some (s.1, 10 * s.2.1 + (c - 48), s.2.2 + 1) else none) → ∃ e : Bool × tX1, ((if cg (10 * s.2.1 + (c - 48)) (s.2.2 + 1) = true then some (true, (u.1, u.2.1, u.2.2.1, u.2.2.2.1, nI (10 * s.2.1 + (c - 48)), nI (s.2.2 + 1))) else if decide (10 * s.2.1 + (c - 48) ∈ s.1) = true then some (false, (u.1, u.2.1, u.2.2.1, u.2.2.2.1, nI (10 * s.2.1 + (c - 48)), nI (s.2.2 + 1))) else some (true, (u.1, u.2.1, u.2.2.1, u.2.2.2.1, nI (10 * s.2.1 + (c - 48)), nI (s.2.2 + 1)))) : Option (Bool × tX1)) = some e ∧ e.2.1 = u.1 ∧ e.2.2.1 = u.2.1 ∧ (match X with | none => e.1 = false | some s' => e.1 = true ∧ Rs e.2 s') := by
        intro X hX
        by_cases k1 : cg (10 * s.2.1 + (c - 48)) (s.2.2 + 1) = true
        · rw [if_pos k1]
          rw [if_pos (Or.inl k1)] at hX
          subst hX
          exact ⟨_, rfl, rfl, rfl, rfl, hR⟩
        · rw [if_neg k1]
          by_cases k2 : 10 * s.2.1 + (c - 48) ∈ s.1
          · rw [if_neg (fun e => by rcases e with e | e; exact k1 e; exact e k2)] at hX
            subst hX
            rw [if_pos (decide_eq_true k2)]
            exact ⟨_, rfl, rfl, rfl, rfl⟩
          · rw [if_pos (Or.inr k2)] at hX
            subst hX
            rw [if_neg (by rw [decide_eq_false k2]; decide)]
            exact ⟨_, rfl, rfl, rfl, rfl, hR⟩
      by_cases c3 : s.2.2 = 0
      · obtain ⟨e, t1, t2, t3, t4⟩ := tail _ rfl
        rw [if_pos (e0.mpr c3), t1, Option.bind_some, bool_eta, if_neg (show ¬ (0 < s.2.2 ∧ cg s.2.1 s.2.2 = false) from fun x => by omega)]
        exact ⟨e, rfl, t2, t3, t4⟩
      · rw [if_neg (fun e => c3 (e0.mp e))]
        by_cases c4 : cg s.2.1 s.2.2 = true
        · obtain ⟨e, t1, t2, t3, t4⟩ := tail _ rfl
          rw [if_pos c4, t1, Option.bind_some, bool_eta, if_neg (show ¬ (0 < s.2.2 ∧ cg s.2.1 s.2.2 = false) from fun x => by rw [c4] at x; cases x.2)]
          exact ⟨e, rfl, t2, t3, t4⟩
        · rw [if_neg c4, Option.bind_some, if_pos (show 0 < s.2.2 ∧ cg s.2.1 s.2.2 = false from ⟨by omega, jam_f c4⟩)]
          exact ⟨_, rfl, rfl, rfl, rfl⟩
    · rw [if_neg c2]
      by_cases c3 : c < 48
      · rw [if_pos (e48.mpr c3)]
        exact ⟨_, rfl, rfl, rfl, rfl⟩
      · rw [if_neg (fun e => c3 (e48.mp e)), if_pos (e57.mpr (by omega))]
        exact ⟨_, rfl, rfl, rfl, rfl⟩
theorem x1_read {u : tX1} {t : List Nat} (h : Rt u t) (hl : t.length ≤ 60) (hc : ∀ x ∈ t, x < 1000) : ∃ u', f_X1_readSigns u = some (nI (er t), u') ∧ Rt u' t ∧ ∀ s, (run ([], 0, 0) t).2 = some s → Rs u' s := by
  unfold f_X1_readSigns
  obtain ⟨e, h1, h2, h3, h4⟩ := lp_run b_X1_readSigns_17 t.length (fun k z => z.1 = nI k ∧ z.2.1 = u.1 ∧ z.2.2.1 = u.2.1 ∧ ∃ s, Ts s ∧ Rs z.2 s ∧ er t = k + (run s (t.drop k)).1 ∧ (run ([], 0, 0) t).2 = (run s (t.drop k)).2) (fun e => e.1 = nI (er t) ∧ Rt e.2 t ∧ ∀ s, (run ([], 0, 0) t).2 = some s → Rs e.2 s) (fun k z hk hz => by
    obtain ⟨z1, z2⟩ := z
    obtain ⟨a1, a2, a3, s, a4, a5, a6, a7⟩ := hz
    dsimp only at a1 a2 a3 a5
    subst a1
    have hRt : Rt z2 t := ⟨fun k x hx => by rw [a2]; exact h.1 k x hx, by rw [a3]; exact h.2⟩
    unfold b_X1_readSigns_17
    dsimp only
    rw [hRt.2]
    rcases Nat.lt_or_ge k t.length with h5 | h5
    · have hx := List.getElem?_eq_getElem h5
      rw [List.drop_eq_getElem_cons h5] at a6 a7
      obtain ⟨e, t1, t2, t3, t4⟩ := x1_taken a5 a4 (hc _ (List.getElem_mem h5))
      rw [if_neg (nI_ge h5 (by omega)), at_n (by omega) (by omega), hRt.1 k _ hx, t1, Option.bind_some]
      cases q : stp s t[k] with
      | none =>
        left
        unfold run at a6 a7
        rw [q] at t4 a6
        dsimp only at t4 a6
        have a8 : (run ([], 0, 0) t).2 = none := by
          unfold run
          rw [a7]
          show (match stp s t[k] with | none => ((0 : Nat), (none : Option TS)) | some s' => ((run s' (t.drop (k + 1))).1 + 1, (run s' (t.drop (k + 1))).2)).2 = none
          rw [q]
        rw [t4, if_neg (by decide)]
        refine ⟨_, rfl, by rw [a6]; rfl, ⟨fun k x hx => ?_, ?_⟩, fun s' hs' => ?_⟩
        · show e.2.1 k = nI x
          rw [t2]
          exact hRt.1 k x hx
        · show e.2.2.1 = _
          rw [t3]
          exact hRt.2
        · rw [a8] at hs'
          cases hs'
      | some s' =>
        right
        refine ⟨h5, ?_⟩
        rw [q] at t4
        dsimp only at t4
        have a8 : run s (t[k] :: t.drop (k + 1)) = ((run s' (t.drop (k + 1))).1 + 1, (run s' (t.drop (k + 1))).2) := by
          show (match stp s t[k] with | none => ((0 : Nat), (none : Option TS)) | some s' => ((run s' (t.drop (k + 1))).1 + 1, (run s' (t.drop (k + 1))).2)) = _
          rw [q]
        rw [a8] at a6 a7
        rw [t4.1, if_pos rfl, nI_1]
        refine ⟨_, rfl, rfl, t2.trans a2, t3.trans a3, s', a4.step q, t4.2, ?_, a7⟩
        rw [a6]
        dsimp only
        omega
    · left
      have : k = t.length := by omega
      subst this
      rw [if_pos (nI_le (Nat.le_refl _) (by omega))]
      rw [List.drop_length] at a6 a7
      refine ⟨_, rfl, by rw [a6]; rfl, hRt, fun s' hs' => ?_⟩
      rw [a7] at hs'
      cases hs'
      exact a5) 5000 0 (0, (u.1, u.2.1, u.2.2.1, 0, 0, 0)) (by omega) (by omega) ⟨rfl, rfl, rfl, ([], 0, 0), Ts0, ⟨fun k x hx => (by cases hx), rfl, rfl, rfl⟩, by rw [List.drop_zero, Nat.zero_add]; rfl, by rw [List.drop_zero]⟩
  rw [h1, Option.bind_some]
  obtain ⟨e1, e2⟩ := e
  dsimp only at h2 h3 h4
  subst h2
  exact ⟨e2, rfl, h3, h4⟩
theorem x1_batch {u : tX1} {t : List Nat} (h : Rt u t) (hl : t.length ≤ 60) (hc : ∀ x ∈ t, x < 1000) : ∃ e, f_X1_readBatch u = some e ∧ Rt e.2 t ∧ (match bt t with | none => e.1 = false | some b => e.1 = true ∧ (∀ k x, b[k]? = some x → e.2.2.2.1 k = nI x) ∧ e.2.2.2.2.1 = nI b.length) := by
  obtain ⟨u', h1, h2, h3⟩ := x1_read h hl hc
  have hr := run_le t ([], 0, 0)
  unfold f_X1_readBatch bt
  rw [h1, Option.bind_some]
  dsimp only
  rw [h2.2]
  cases q : (run ([], 0, 0) t).2 with
  | none =>
    have : er t < t.length := hr.2.1 q
    rw [if_neg (fun e => by have := (nI_eq (by omega) (by omega)).mp e; omega)]
    exact ⟨_, rfl, h2, rfl⟩
  | some s =>
    have h4 : er t = t.length := hr.2.2 s q
    have hs := run_Ts t _ s Ts0 q
    obtain ⟨e, e1, e2, e3, e4⟩ := x1_end (h3 s q) hs
    rw [if_pos (by rw [h4]), e1, Option.bind_some, bool_eta]
    refine ⟨e, rfl, ⟨fun k x hx => by rw [e2]; exact h2.1 k x hx, by rw [e3]; exact h2.2⟩, ?_⟩
    unfold fin
    dsimp only
    rcases e4 with ⟨d1, d2⟩ | ⟨d1, d2, d3⟩
    · rw [if_pos d1]
      exact d2
    · rw [if_neg d1]
      exact ⟨d2, d3.1, d3.2.1⟩
