/-! the nearest, on both sides; a batch by its rule -/
def nrk (A : AS) (b : List Int32) : Nat → Option (Nat × Nat)
  | 0 => none
  | k + 1 => if reasonA A (gb b k) = 0 then (match nrk A b k with
    | none => some (k, stA A (gb b k))
    | some y => if stA A (gb b k) < y.2 then some (k, stA A (gb b k)) else some y) else nrk A b k
theorem nrk_some {A : AS} {b : List Int32} : ∀ {n : Nat} {y : Nat × Nat}, nrk A b n = some y → y.1 < n ∧ reasonA A (gb b y.1) = 0 ∧ y.2 = stA A (gb b y.1) := by
  intro n
  induction n with
  | zero => intro y h; cases h
  | succ n ih =>
    intro y h
    unfold nrk at h
    by_cases c : reasonA A (gb b n) = 0
    · rw [if_pos c] at h
      cases e : nrk A b n with
      | none =>
        rw [e] at h
        cases h
        exact ⟨Nat.lt_succ_self n, c, rfl⟩
      | some z =>
        rw [e] at h
        dsimp only at h
        by_cases c2 : stA A (gb b n) < z.2
        · rw [if_pos c2] at h
          cases h
          exact ⟨Nat.lt_succ_self n, c, rfl⟩
        · rw [if_neg c2] at h
          cases h
          have := ih e
          exact ⟨by omega, this.2⟩
    · rw [if_neg c] at h
      have := ih h
      exact ⟨by omega, this.2⟩
def nearA (b : List Int32) (n : Nat) : Nat → AS → Nat × AS
  | 0, A => (0, A)
  | f + 1, A => match nrk A b n with
    | none => (0, A)
    | some y => ((nearA b n f (takeA A (gb b y.1))).1 + 1, (nearA b n f (takeA A (gb b y.1))).2)
theorem nearA_no {b : List Int32} {n f : Nat} {A : AS} (h : nrk A b n = none) : nearA b n f A = (0, A) := by
  cases f with
  | zero => rfl
  | succ f =>
    unfold nearA
    rw [h]
theorem nearA_yes {b : List Int32} {n f : Nat} {A : AS} {y : Nat × Nat} (h : nrk A b n = some y) : nearA b n (f + 1) A = ((nearA b n f (takeA A (gb b y.1))).1 + 1, (nearA b n f (takeA A (gb b y.1))).2) := by
  show (match nrk A b n with
    | none => (0, A)
    | some y => ((nearA b n f (takeA A (gb b y.1))).1 + 1, (nearA b n f (takeA A (gb b y.1))).2)) = _
  rw [h]
theorem nearA_Inv {b : List Int32} {n : Nat} : ∀ {f : Nat} {A : AS}, Inv A → Inv (nearA b n f A).2 := by
  intro f
  induction f with
  | zero => intro A h; exact h
  | succ f ih =>
    intro A h
    cases e : nrk A b n with
    | none => rw [nearA_no e]; exact h
    | some y =>
      rw [nearA_yes e]
      exact ih (h.take _)
theorem nearA_le {b : List Int32} {n : Nat} : ∀ {f : Nat} {A : AS}, (nearA b n f A).1 ≤ f := by
  intro f
  induction f with
  | zero => intro A; exact Nat.le_refl 0
  | succ f ih =>
    intro A
    cases e : nrk A b n with
    | none => rw [nearA_no e]; exact Nat.zero_le _
    | some y =>
      rw [nearA_yes e]
      exact Nat.succ_le_succ ih
theorem i1e {k : Nat} (hk : k < 2 ^ 31) : (nI k = (1 : Int32)) ↔ k = 1 := nI_eq (b := 1) hk (by omega)
theorem i2e {k : Nat} (hk : k < 2 ^ 31) : (nI k = (2 : Int32)) ↔ k = 2 := nI_eq (b := 2) hk (by omega)
theorem reason_no {A : AS} {m : Int32} (h : fd (aL A) m = none) : reasonA A m = 1 := by
  unfold reasonA
  rw [h]
theorem reason_x {A : AS} {m : Int32} {x : It} (h : fd (aL A) m = some x) : reasonA A m = if aJ A x.2.2 = true then 2 else if wayA A x.2.2 = 99 then 3 else 0 := by
  unfold reasonA
  rw [h]
theorem st_of {A : AS} {m : Int32} {x : It} (h : fd (aL A) m = some x) : stA A m = (wayA A x.2.2).natAbs := by
  unfold stA
  rw [h]
theorem x5_steps {u : tX6} {A : AS} (h : R6 u A) (hi : Inv A) (m : Int32) : f_X5_stepsTo u m = some (if reasonA A m = 0 then nI (stA A m) else 99) := by
  have hl := hi.1.1
  unfold f_X5_stepsTo
  rw [x3_slot h.2.1 hl, Option.bind_some]
  unfold sl
  cases e : ix (aL A) m with
  | none =>
    rw [if_pos rfl, if_neg (by rw [reason_no (fd_no e)]; decide)]
  | some k =>
    obtain ⟨x, hx, h1, _, hm⟩ := fd_of e
    have hk := ix_lt e
    have hd := (hi.1.wt hm).2.2
    have hR := reason_x h1
    dsimp only
    rw [if_neg (nI_nm1 (by omega)), at_n (by omega) (by omega), (h.2.1.1 k x hx).2.2, x6_jam h hd, st_of h1]
    by_cases c : aJ A x.2.2 = true
    · rw [if_pos c] at hR
      rw [if_pos c, if_neg (by rw [hR]; decide)]
    · have hb := way_b A x.2.2
      rw [if_neg c] at hR
      rw [if_neg c, x6_way h hi hd, Option.bind_some, zI_abs (by omega) (by omega)]
      by_cases c2 : wayA A x.2.2 = 99
      · rw [if_pos c2] at hR
        rw [if_neg (by rw [hR]; decide), c2]
        rfl
      · rw [if_neg c2] at hR
        rw [if_pos hR]
def fN (b : List Int32) (x : Option (Nat × Nat)) : Int32 := match x with
  | none => -1
  | some y => gb b y.1
def fS (x : Option (Nat × Nat)) : Int32 := match x with
  | none => 99
  | some y => nI y.2
theorem x5_near {u : tX6} {A : AS} (h : R6 u A) (hi : Inv A) {f : zF} {b : List Int32} {n : Nat} (hn : n ≤ 6) (hf : ∀ k, k < n → f k = gb b k) (hm : ∀ k, k < n → gb b k ≠ -1) : ∃ u', f_X5_pickNearest u f (nI n) = some (nI (nearA b n n A).1, u') ∧ R6 u' (nearA b n n A).2 := by
  unfold f_X5_pickNearest
  obtain ⟨e, h1, h2⟩ := lp_run (b_X5_pickNearest_3 f (nI n)) n (fun k s => s.1 = nI k ∧ ∃ A', R6 s.2 A' ∧ Inv A' ∧ nearA b n n A = (k + (nearA b n (n - k) A').1, (nearA b n (n - k) A').2)) (fun e => e.1 = nI (nearA b n n A).1 ∧ R6 e.2 (nearA b n n A).2) (fun k s hk hs => by
    obtain ⟨s1, s2⟩ := s
    obtain ⟨a1, A', a2, a3, a4⟩ := hs
    dsimp only at a1 a2
    subst a1
    unfold b_X5_pickNearest_3
    dsimp only
    rcases Nat.lt_or_ge k n with h5 | h5
    · have hst : ∀ j, j < n → b_X5_pickNearest_19 f (nI n) (nI k, s2) ((fun j => (fN b (nrk A' b j), fS (nrk A' b j), nI j)) j) = some (.inl ((fun j => (fN b (nrk A' b j), fS (nrk A' b j), nI j)) (j + 1))) := by
        intro j hj
        show b_X5_pickNearest_19 f (nI n) (nI k, s2) (fN b (nrk A' b j), fS (nrk A' b j), nI j) = some (Sum.inl (fN b (if reasonA A' (gb b j) = 0 then (match nrk A' b j with | none => some (j, stA A' (gb b j)) | some y => if stA A' (gb b j) < y.2 then some (j, stA A' (gb b j)) else some y) else nrk A' b j), fS (if reasonA A' (gb b j) = 0 then (match nrk A' b j with | none => some (j, stA A' (gb b j)) | some y => if stA A' (gb b j) < y.2 then some (j, stA A' (gb b j)) else some y) else nrk A' b j), nI (j + 1)))
        have hq : ∀ y, nrk A' b j = some y → y.1 < j ∧ reasonA A' (gb b y.1) = 0 ∧ y.2 = stA A' (gb b y.1) := fun y e => nrk_some e
        generalize nrk A' b j = q at hq ⊢
        have hle : fS q ≤ 99 := by
          cases q with
          | none => exact (by decide : (99 : Int32) ≤ 99)
          | some y =>
            obtain ⟨_, y2, y3⟩ := hq y rfl
            have := stA_le y2
            exact nI_le (b := 99) (by omega) (by omega)
        unfold b_X5_pickNearest_19
        dsimp only
        rw [if_neg (nI_ge hj (by omega)), at_n (by omega) (by omega), hf j hj, x5_steps a2 a3, Option.bind_some, nI_1]
        by_cases c : reasonA A' (gb b j) = 0
        · have hsl := stA_le c
          rw [if_pos c, if_pos c]
          cases q with
          | none =>
            rw [if_neg (show ¬ fS none ≤ nI _ from nI_ge (b := 99) (by omega) (by omega))]
            rfl
          | some y =>
            obtain ⟨_, y2, y3⟩ := hq y rfl
            have := stA_le y2
            dsimp only
            by_cases c2 : stA A' (gb b j) < y.2
            · rw [if_neg (show ¬ fS (some y) ≤ nI _ from nI_ge c2 (by omega)), if_pos c2]
              rfl
            · rw [if_pos (show fS (some y) ≤ nI _ from nI_le (by omega) (by omega)), if_neg c2]
        · rw [if_neg c, if_neg c, if_pos hle]
      have hen : b_X5_pickNearest_19 f (nI n) (nI k, s2) ((fun j => (fN b (nrk A' b j), fS (nrk A' b j), nI j)) n) = some (.inr (fN b (nrk A' b n))) := by
        unfold b_X5_pickNearest_19
        dsimp only
        rw [if_pos (nI_le (Nat.le_refl _) (by omega))]
      rw [if_neg (nI_ge h5 (by omega)), lp_st (s := (-1, 99, 0)) _ _ _ _ hst hen (by omega) rfl, Option.bind_some]
      obtain ⟨g, hg⟩ : ∃ g, n - k = g + 1 := ⟨n - k - 1, by omega⟩
      rw [hg] at a4
      cases e : nrk A' b n with
      | none =>
        left
        rw [nearA_no e] at a4
        rw [if_pos (show fN b none = -1 from rfl)]
        refine ⟨_, rfl, ?_, ?_⟩
        · rw [a4]; rfl
        · rw [a4]; exact a2
      | some y =>
        right
        refine ⟨h5, ?_⟩
        rw [nearA_yes e] at a4
        obtain ⟨y1, y2, y3⟩ := nrk_some e
        obtain ⟨x, b1, _, b2⟩ := reason0 y2
        obtain ⟨u', b3, b4⟩ := x6_take a2 a3 b1 b2
        rw [if_neg (show ¬ fN b (some y) = -1 from hm y.1 y1), show fN b (some y) = gb b y.1 from rfl, b3, Option.bind_some, nI_1]
        refine ⟨_, rfl, rfl, _, b4, a3.take _, ?_⟩
        rw [a4, show n - (k + 1) = g by omega]
        dsimp only
        rw [Nat.add_assoc, Nat.add_comm 1]
    · left
      have : k = n := by omega
      subst this
      rw [if_pos (nI_le (Nat.le_refl _) (by omega))]
      rw [Nat.sub_self] at a4
      refine ⟨_, rfl, ?_, ?_⟩
      · rw [a4]; rfl
      · rw [a4]; exact a2) 5000 0 (0, u) (by omega) (by omega) ⟨rfl, A, h, hi, by rw [Nat.sub_zero, Nat.zero_add]⟩
  rw [h1]
  obtain ⟨e1, e2⟩ := e
  obtain ⟨b1, b2⟩ := h2
  dsimp only at b1 b2
  subst b1
  exact ⟨e2, rfl, b2⟩
def fI (x : Option (Nat × Nat)) : Int32 := match x with
  | none => -1
  | some y => nI y.1
abbrev mP (v : tX8) : zF := v.2.2.2.2.2.2.2.2.2.2.2.2.2.1
theorem x8_near {u : tX8} {A : AS} (h : R8 u.2.1 A) (hi : Inv A) {b : List Int32} {n : Nat} (hn : n ≤ 6) (hN : mN u = nI n) (hb : ∀ k, k < n → mB u k = gb b k) (hp : ∀ k, k < n → mP u k = 0 ∨ fd (aL A) (gb b k) = none) : f_X8_nearest u = some (fI (nrk A b n)) := by
  unfold f_X8_nearest
  have hst : ∀ k, k < n → b_X8_nearest_4 u ((fun k => (fI (nrk A b k), nI k)) k) = some (.inl ((fun k => (fI (nrk A b k), nI k)) (k + 1))) := by
    intro k hk
    show b_X8_nearest_4 u (fI (nrk A b k), nI k) = some (Sum.inl (fI (if reasonA A (gb b k) = 0 then (match nrk A b k with | none => some (k, stA A (gb b k)) | some y => if stA A (gb b k) < y.2 then some (k, stA A (gb b k)) else some y) else nrk A b k), nI (k + 1)))
    have hq : ∀ y, nrk A b k = some y → y.1 < k ∧ reasonA A (gb b y.1) = 0 ∧ y.2 = stA A (gb b y.1) := fun y e => nrk_some e
    generalize nrk A b k = q at hq ⊢
    unfold b_X8_nearest_4
    dsimp only
    rw [show u.2.2.2.2.2.2.2.2.2.2.1 = nI n from hN, if_neg (nI_ge hk (by omega)), aget_n (by omega) (by omega), aget_n (by omega) (by omega), Option.bind_some, show u.2.2.2.2.2.2.2.2.2.1 k = gb b k from hb k hk, nI_1, if_neg (show ¬ (1 : Int32) = 0 by decide), if_pos (show (0 : Int32) = 0 from rfl)]
    by_cases c : reasonA A (gb b k) = 0
    · have hp0 : u.2.2.2.2.2.2.2.2.2.2.2.2.2.1 k = 0 := by
        rcases hp k hk with c1 | c1
        · exact c1
        · obtain ⟨x, x1, _⟩ := reason0 c
          rw [c1] at x1
          cases x1
      obtain ⟨x, x1, x2, x3⟩ := reason0 c
      rw [if_pos hp0, Option.bind_some, x8_reason h hi, Option.bind_some, c, if_pos (show nI 0 = 0 from rfl), if_pos rfl]
      cases q with
      | none =>
        rw [if_pos (show fI none = -1 from rfl)]
        rfl
      | some y =>
        obtain ⟨y1, y2, y3⟩ := hq y rfl
        obtain ⟨z, z1, _, _⟩ := reason0 y2
        have g1 := stA_le c
        have g2 := stA_le y2
        rw [if_neg (show ¬ fI (some y) = -1 from nI_nm1 (by omega)), Option.bind_some, x8_steps h hi x1, Option.bind_some, show fI (some y) = nI y.1 from rfl, aget_n (by omega) (by omega), Option.bind_some, show u.2.2.2.2.2.2.2.2.2.1 y.1 = gb b y.1 from hb y.1 (by omega), x8_steps h hi z1, Option.bind_some, ← st_of x1, ← st_of z1, ← y3]
        dsimp only
        by_cases c2 : stA A (gb b k) < y.2
        · rw [if_neg (nI_ge c2 (by omega)), if_pos c2]
          rfl
        · rw [if_pos (nI_le (by omega) (by omega)), if_neg c2]
          rfl
    · have hr := reason_lt A (gb b k)
      rw [Option.bind_some, x8_reason h hi, Option.bind_some, if_neg (nz (by omega) (by omega)), if_neg c, ite_self]
  have hen : b_X8_nearest_4 u ((fun k => (fI (nrk A b k), nI k)) n) = some (.inr (fI (nrk A b n))) := by
    unfold b_X8_nearest_4
    dsimp only
    rw [show u.2.2.2.2.2.2.2.2.2.2.1 = nI n from hN, if_pos (nI_le (Nat.le_refl _) (by omega))]
  rw [lp_st (s := (-1, 0)) _ _ _ _ hst hen (by omega) rfl]
  rfl
/-- how many of the batch are there -/
def msr (A : AS) (b : List Int32) (n : Nat) : Nat := ((List.range n).filter (fun k => (fd (aL A) (gb b k)).isSome)).length
theorem fd_rm (L : List It) (n : Int32) : fd (rm L n) n = none := by
  unfold fd rm
  rw [List.find?_eq_none]
  intro x hx
  have := of_decide_eq_true (List.mem_filter.mp hx).2
  simpa using this
theorem take_L {A : AS} {m : Int32} {x : It} (h : fd (aL A) m = some x) : aL (takeA A m) = rm (aL A) m := by
  unfold takeA
  rw [h]
theorem msr_take {A : AS} {b : List Int32} {n : Nat} (hd : ∀ i j, i < n → j < n → gb b i = gb b j → i = j) {i : Nat} (hi : i < n) {x : It} (hx : fd (aL A) (gb b i) = some x) : msr (takeA A (gb b i)) b n + 1 = msr A b n := by
  unfold msr
  rw [take_L hx]
  have h1 : (List.range n).filter (fun k => (fd (rm (aL A) (gb b i)) (gb b k)).isSome) = ((List.range n).filter (fun k => (fd (aL A) (gb b k)).isSome)).filter (· != i) := by
    rw [List.filter_filter]
    refine List.filter_congr (fun k hk => ?_)
    have hk' := List.mem_range.mp hk
    by_cases c : k = i
    · subst c
      rw [fd_rm]
      simp
    · have : fd (rm (aL A) (gb b i)) (gb b k) = fd (aL A) (gb b k) := fd_keep _ (fun y hy => decide_eq_true (fun e => c (hd k i hk' hi (hy.symm.trans e))))
      rw [this]
      simp [c]
  have hm : i ∈ (List.range n).filter (fun k => (fd (aL A) (gb b k)).isSome) := List.mem_filter.mpr ⟨List.mem_range.mpr hi, by rw [hx]; rfl⟩
  have hnd : ((List.range n).filter (fun k => (fd (aL A) (gb b k)).isSome)).Nodup := List.Pairwise.filter _ List.nodup_range
  rw [h1, ← hnd.erase_eq_filter, List.length_erase_of_mem hm]
  have := List.length_pos_of_mem hm
  omega
theorem msr_le (A : AS) (b : List Int32) (n : Nat) : msr A b n ≤ n := by
  unfold msr
  exact Nat.le_trans (List.length_filter_le _ _) (by rw [List.length_range]; exact Nat.le_refl _)
theorem msr_zero {A : AS} {b : List Int32} {n : Nat} (h : msr A b n = 0) : nrk A b n = none := by
  cases e : nrk A b n with
  | none => rfl
  | some y =>
    obtain ⟨y1, y2, _⟩ := nrk_some e
    obtain ⟨x, x1, _⟩ := reason0 y2
    have hm : y.1 ∈ (List.range n).filter (fun k => (fd (aL A) (gb b k)).isSome) := List.mem_filter.mpr ⟨List.mem_range.mpr y1, by rw [x1]; rfl⟩
    have := List.length_pos_of_mem hm
    unfold msr at h
    omega
theorem nb0 : vp_nar .boolean 0 = 0 := by decide +kernel
theorem x8_nearest {u : tX8} {A : AS} (h : R8 u.2.1 A) (hi : Inv A) {b : List Int32} {n : Nat} (hn : n ≤ 6) (hN : mN u = nI n) (hb : ∀ k, k < n → mB u k = gb b k) (hd : ∀ i j, i < n → j < n → gb b i = gb b j → i = j) : ∃ s ip, f_X8_picksNearest u = some (nI (nearA b n n A).1, (u.1, s, u.2.2.1, u.2.2.2.1, u.2.2.2.2.1, u.2.2.2.2.2.1, u.2.2.2.2.2.2.1, u.2.2.2.2.2.2.2.1, u.2.2.2.2.2.2.2.2.1, u.2.2.2.2.2.2.2.2.2.1, u.2.2.2.2.2.2.2.2.2.2.1, u.2.2.2.2.2.2.2.2.2.2.2.1, u.2.2.2.2.2.2.2.2.2.2.2.2.1, ip, u.2.2.2.2.2.2.2.2.2.2.2.2.2.2)) ∧ R8 s (nearA b n n A).2 := by
  unfold f_X8_picksNearest
  obtain ⟨e, h1, h2⟩ := lp_run (b_X8_picksNearest_2 u) n (fun k s => s.1 = nI k ∧ ∀ j, j < k → s.2 j = 0) (fun e => ∀ j, j < n → e j = 0) (fun k s hk hs => by
    obtain ⟨s1, s2⟩ := s
    obtain ⟨a1, a2⟩ := hs
    dsimp only at a1 a2
    subst a1
    unfold b_X8_picksNearest_2
    dsimp only
    rw [show u.2.2.2.2.2.2.2.2.2.2.1 = nI n from hN]
    rcases Nat.lt_or_ge k n with h5 | h5
    · right
      refine ⟨h5, ?_⟩
      rw [if_neg (nI_ge h5 (by omega)), aset_n (by omega) (by omega), Option.bind_some, nI_1, nb0]
      refine ⟨_, rfl, rfl, fun j hj => ?_⟩
      dsimp only
      rw [upd_if]
      by_cases c : j = k
      · rw [if_pos c]
      · rw [if_neg c]
        exact a2 j (by omega)
    · left
      have : k = n := by omega
      subst this
      rw [if_pos (nI_le (Nat.le_refl _) (by omega))]
      exact ⟨_, rfl, a2⟩) 5000 0 (0, u.2.2.2.2.2.2.2.2.2.2.2.2.2.1) (by omega) (by omega) ⟨rfl, fun j hj => absurd hj (Nat.not_lt_zero _)⟩
  rw [h1, Option.bind_some]
  have hn0 := x8_near (u := (u.1, u.2.1, u.2.2.1, u.2.2.2.1, u.2.2.2.2.1, u.2.2.2.2.2.1, u.2.2.2.2.2.2.1, u.2.2.2.2.2.2.2.1, u.2.2.2.2.2.2.2.2.1, u.2.2.2.2.2.2.2.2.2.1, u.2.2.2.2.2.2.2.2.2.2.1, u.2.2.2.2.2.2.2.2.2.2.2.1, u.2.2.2.2.2.2.2.2.2.2.2.2.1, e, u.2.2.2.2.2.2.2.2.2.2.2.2.2.2)) h hi hn hN hb (fun k hk => Or.inl (h2 k hk))
  rw [show f_X8_nearest (u.1, u.2.1, u.2.2.1, u.2.2.2.1, u.2.2.2.2.1, u.2.2.2.2.2.1, u.2.2.2.2.2.2.1, u.2.2.2.2.2.2.2.1, u.2.2.2.2.2.2.2.2.1, u.2.2.2.2.2.2.2.2.2.1, u.2.2.2.2.2.2.2.2.2.2.1, u.2.2.2.2.2.2.2.2.2.2.2.1, u.2.2.2.2.2.2.2.2.2.2.2.2.1, e, u.2.2.2.2.2.2.2.2.2.2.2.2.2.2.1, u.2.2.2.2.2.2.2.2.2.2.2.2.2.2.2) = some (fI (nrk A b n)) from hn0, Option.bind_some]
  obtain ⟨e', h3, s, ip, h4, h5⟩ := lp_run b_X8_picksNearest_30 n (fun t z => ∃ s ip A', z = (nI t, fI (nrk A' b n), (u.1, s, u.2.2.1, u.2.2.2.1, u.2.2.2.2.1, u.2.2.2.2.2.1, u.2.2.2.2.2.2.1, u.2.2.2.2.2.2.2.1, u.2.2.2.2.2.2.2.2.1, u.2.2.2.2.2.2.2.2.2.1, u.2.2.2.2.2.2.2.2.2.2.1, u.2.2.2.2.2.2.2.2.2.2.2.1, u.2.2.2.2.2.2.2.2.2.2.2.2.1, ip, u.2.2.2.2.2.2.2.2.2.2.2.2.2.2)) ∧ R8 s A' ∧ Inv A' ∧ (∀ k, k < n → ip k = 0 ∨ fd (aL A') (gb b k) = none) ∧ nearA b n n A = (t + (nearA b n (n - t) A').1, (nearA b n (n - t) A').2) ∧ msr A' b n ≤ n - t) (fun e => ∃ s ip, e = (nI (nearA b n n A).1, (u.1, s, u.2.2.1, u.2.2.2.1, u.2.2.2.2.1, u.2.2.2.2.2.1, u.2.2.2.2.2.2.1, u.2.2.2.2.2.2.2.1, u.2.2.2.2.2.2.2.2.1, u.2.2.2.2.2.2.2.2.2.1, u.2.2.2.2.2.2.2.2.2.2.1, u.2.2.2.2.2.2.2.2.2.2.2.1, u.2.2.2.2.2.2.2.2.2.2.2.2.1, ip, u.2.2.2.2.2.2.2.2.2.2.2.2.2.2)) ∧ R8 s (nearA b n n A).2) (fun t z ht hz => by
    obtain ⟨s, ip, A', rfl, a1, a2, a3, a4, a5⟩ := hz
    unfold b_X8_picksNearest_30
    dsimp only
    cases hq : nrk A' b n with
    | none =>
      left
      rw [nearA_no hq] at a4
      rw [if_pos (show fI none = -1 from rfl)]
      refine ⟨_, rfl, s, ip, ?_, ?_⟩
      · rw [a4]; rfl
      · rw [a4]; exact a1
    | some y =>
      right
      obtain ⟨y1, y2, y3⟩ := nrk_some hq
      have htn : t < n := by
        rcases Nat.lt_or_ge t n with c | c
        · exact c
        · have := msr_zero (A := A') (b := b) (n := n) (by omega)
          rw [hq] at this
          cases this
      refine ⟨htn, ?_⟩
      obtain ⟨g, hg⟩ : ∃ g, n - t = g + 1 := ⟨n - t - 1, by omega⟩
      rw [hg, nearA_yes hq] at a4
      obtain ⟨x, x1, _, x2⟩ := reason0 y2
      obtain ⟨s', p1, p2⟩ := x8_picks (u := (u.1, s, u.2.2.1, u.2.2.2.1, u.2.2.2.2.1, u.2.2.2.2.2.1, u.2.2.2.2.2.2.1, u.2.2.2.2.2.2.2.1, u.2.2.2.2.2.2.2.2.1, u.2.2.2.2.2.2.2.2.2.1, u.2.2.2.2.2.2.2.2.2.2.1, u.2.2.2.2.2.2.2.2.2.2.2.1, u.2.2.2.2.2.2.2.2.2.2.2.2.1, (upd ip y.1 (vp_nar .boolean 1)), u.2.2.2.2.2.2.2.2.2.2.2.2.2.2)) a1 a2 x1 x2
      replace p1 : f_X8_picks (u.1, s, u.2.2.1, u.2.2.2.1, u.2.2.2.2.1, u.2.2.2.2.2.1, u.2.2.2.2.2.2.1, u.2.2.2.2.2.2.2.1, u.2.2.2.2.2.2.2.2.1, u.2.2.2.2.2.2.2.2.2.1, u.2.2.2.2.2.2.2.2.2.2.1, u.2.2.2.2.2.2.2.2.2.2.2.1, u.2.2.2.2.2.2.2.2.2.2.2.2.1, (upd ip y.1 (vp_nar .boolean 1)), u.2.2.2.2.2.2.2.2.2.2.2.2.2.2.1, u.2.2.2.2.2.2.2.2.2.2.2.2.2.2.2) (gb b y.1) = some (nI (wayA A' x.2.2).natAbs, (u.1, s', u.2.2.1, u.2.2.2.1, u.2.2.2.2.1, u.2.2.2.2.2.1, u.2.2.2.2.2.2.1, u.2.2.2.2.2.2.2.1, u.2.2.2.2.2.2.2.2.1, u.2.2.2.2.2.2.2.2.2.1, u.2.2.2.2.2.2.2.2.2.2.1, u.2.2.2.2.2.2.2.2.2.2.2.1, u.2.2.2.2.2.2.2.2.2.2.2.2.1, (upd ip y.1 (vp_nar .boolean 1)), u.2.2.2.2.2.2.2.2.2.2.2.2.2.2.1, u.2.2.2.2.2.2.2.2.2.2.2.2.2.2.2)) := p1
      have hip : ∀ k, k < n → upd ip y.1 (vp_nar .boolean 1) k = 0 ∨ fd (aL (takeA A' (gb b y.1))) (gb b k) = none := by
        intro k hk
        rw [take_L x1]
        by_cases c : k = y.1
        · right
          rw [c, fd_rm]
        · rw [upd_n c]
          rcases a3 k hk with c1 | c1
          · exact Or.inl c1
          · right
            have hkp : fd (rm (aL A') (gb b y.1)) (gb b k) = fd (aL A') (gb b k) := fd_keep _ (fun z hz => decide_eq_true (fun e => c (hd k y.1 hk y1 (hz.symm.trans e))))
            rw [hkp, c1]
      have hn1 := x8_near (u := (u.1, s', u.2.2.1, u.2.2.2.1, u.2.2.2.2.1, u.2.2.2.2.2.1, u.2.2.2.2.2.2.1, u.2.2.2.2.2.2.2.1, u.2.2.2.2.2.2.2.2.1, u.2.2.2.2.2.2.2.2.2.1, u.2.2.2.2.2.2.2.2.2.2.1, u.2.2.2.2.2.2.2.2.2.2.2.1, u.2.2.2.2.2.2.2.2.2.2.2.2.1, (upd ip y.1 (vp_nar .boolean 1)), u.2.2.2.2.2.2.2.2.2.2.2.2.2.2)) p2 (a2.take _) hn hN hb hip
      replace hn1 : f_X8_nearest (u.1, s', u.2.2.1, u.2.2.2.1, u.2.2.2.2.1, u.2.2.2.2.2.1, u.2.2.2.2.2.2.1, u.2.2.2.2.2.2.2.1, u.2.2.2.2.2.2.2.2.1, u.2.2.2.2.2.2.2.2.2.1, u.2.2.2.2.2.2.2.2.2.2.1, u.2.2.2.2.2.2.2.2.2.2.2.1, u.2.2.2.2.2.2.2.2.2.2.2.2.1, (upd ip y.1 (vp_nar .boolean 1)), u.2.2.2.2.2.2.2.2.2.2.2.2.2.2.1, u.2.2.2.2.2.2.2.2.2.2.2.2.2.2.2) = some (fI (nrk (takeA A' (gb b y.1)) b n)) := hn1
      rw [if_neg (show ¬ fI (some y) = -1 from nI_nm1 (by omega)), show fI (some y) = nI y.1 from rfl, aset_n (by omega) (by omega), Option.bind_some, aget_n (by omega) (by omega), Option.bind_some, show u.2.2.2.2.2.2.2.2.2.1 y.1 = gb b y.1 from hb y.1 y1, p1, Option.bind_some, hn1, Option.bind_some, nI_1]
      refine ⟨_, rfl, s', upd ip y.1 (vp_nar .boolean 1), takeA A' (gb b y.1), rfl, p2, a2.take _, hip, ?_, ?_⟩
      · rw [a4, show n - (t + 1) = g by omega]
        dsimp only
        rw [Nat.add_assoc, Nat.add_comm 1]
      · have := msr_take hd y1 x1
        omega) 5000 0 (0, fI (nrk A b n), (u.1, u.2.1, u.2.2.1, u.2.2.2.1, u.2.2.2.2.1, u.2.2.2.2.2.1, u.2.2.2.2.2.2.1, u.2.2.2.2.2.2.2.1, u.2.2.2.2.2.2.2.2.1, u.2.2.2.2.2.2.2.2.2.1, u.2.2.2.2.2.2.2.2.2.2.1, u.2.2.2.2.2.2.2.2.2.2.2.1, u.2.2.2.2.2.2.2.2.2.2.2.2.1, e, u.2.2.2.2.2.2.2.2.2.2.2.2.2.2)) (by omega) (by omega) ⟨u.2.1, e, A, rfl, h, hi, fun k hk => Or.inl (h2 k hk), by rw [Nat.sub_zero, Nat.zero_add], by rw [Nat.sub_zero]; exact msr_le A b n⟩
  rw [show lp 5000 b_X8_picksNearest_30 (0, fI (nrk A b n), (u.1, u.2.1, u.2.2.1, u.2.2.2.1, u.2.2.2.2.1, u.2.2.2.2.2.1, u.2.2.2.2.2.2.1, u.2.2.2.2.2.2.2.1, u.2.2.2.2.2.2.2.2.1, u.2.2.2.2.2.2.2.2.2.1, u.2.2.2.2.2.2.2.2.2.2.1, u.2.2.2.2.2.2.2.2.2.2.2.1, u.2.2.2.2.2.2.2.2.2.2.2.2.1, e, u.2.2.2.2.2.2.2.2.2.2.2.2.2.2.1, u.2.2.2.2.2.2.2.2.2.2.2.2.2.2.2)) = some e' from h3, Option.bind_some, h4]
  exact ⟨s, ip, rfl, h5⟩
/-- a batch is picked by a rule -/
def batA (A : AS) (b : List Int32) (rule : Nat) : Nat × AS := if rule = 1 then nearA b b.length b.length A else if rule = 2 then pickRow A ((selO b.length (best A b b.length)).map (gb b)) else pickRow A b
theorem range_gb (b : List Int32) : (List.range b.length).map (gb b) = b := by
  refine List.ext_getElem (by simp) (fun k h1 h2 => ?_)
  rw [List.getElem_map, List.getElem_range]
  unfold gb
  rw [List.getD_eq_getElem?_getD, List.getElem?_eq_getElem h2]
  rfl
theorem gb_get {b : List Int32} {k : Nat} {x : Int32} (h : b[k]? = some x) : gb b k = x := by
  unfold gb
  rw [List.getD_eq_getElem?_getD, h]
  rfl
theorem batA_Inv {A : AS} (hi : Inv A) (b : List Int32) (rule : Nat) : Inv (batA A b rule).2 := by
  unfold batA
  split
  · exact nearA_Inv hi
  · split
    · exact pickRow_Inv hi
    · exact pickRow_Inv hi
theorem selO_len {A : AS} {b : List Int32} {n : Nat} (hn : n ≤ 6) : (selO n (best A b n)).length = n ∧ ∀ x ∈ selO n (best A b n), x < n := by
  cases e : best A b n with
  | none => exact ⟨List.length_range, fun x hx => List.mem_range.mp hx⟩
  | some y => exact prm_facts n (by omega) y.2 (blk_mem _ _ _ _ e).1
theorem batA_le {A : AS} {b : List Int32} (hn : b.length ≤ 6) (rule : Nat) : (batA A b rule).1 ≤ b.length := by
  unfold batA
  split
  · exact nearA_le
  · split
    · have := pickRow_le (ns := (selO b.length (best A b b.length)).map (gb b)) (A := A)
      rw [List.length_map, (selO_len hn).1] at this
      exact this
    · exact pickRow_le
/-- a batch as it is read: 1 to 6 unlike numbers, none of them -1 -/
def Bx (b : List Int32) : Prop := 0 < b.length ∧ b.length ≤ 6 ∧ (∀ i j, i < b.length → j < b.length → gb b i = gb b j → i = j) ∧ (∀ k, k < b.length → gb b k ≠ -1)
theorem x5_batch {u : tX5} {v : tX6} {A : AS} (h : R6 v A) (hi : Inv A) {f : zF} {b : List Int32} (hb : Bx b) (hf : ∀ k, k < b.length → f k = gb b k) {rule : Nat} (hr : rule ≤ 2) : ∃ u' v', f_X5_pickBatch u v f (nI b.length) (nI rule) = some (nI (batA A b rule).1, u', v') ∧ R6 v' (batA A b rule).2 := by
  obtain ⟨b0, b6, bd, bm⟩ := hb
  have hrow : ∀ k x, b[k]? = some x → f k = x := fun k x hx => by
    rw [hf k (List.getElem?_eq_some_iff.mp hx).1, gb_get hx]
  unfold f_X5_pickBatch batA
  by_cases c1 : rule = 1
  · subst c1
    obtain ⟨v', h1, h2⟩ := x5_near h hi b6 hf bm
    rw [if_pos (show nI 1 = 1 from rfl), if_pos rfl, h1, Option.bind_some]
    exact ⟨_, _, rfl, h2⟩
  · rw [if_neg (fun e => c1 ((i1e (by omega)).mp e)), if_neg c1]
    by_cases c2 : rule = 2
    · subst c2
      obtain ⟨e, h1, h2⟩ := x4_find (u := u) h hi b6 hf bd
      rw [if_pos (show nI 2 = 2 from rfl), if_pos rfl, h1, Option.bind_some]
      cases hq : best A b b.length with
      | none =>
        rw [hq] at h2
        dsimp only at h2
        obtain ⟨v', h3, h4⟩ := x5_row h hi b6 hrow
        rw [h2, if_neg (by decide), h3, Option.bind_some]
        refine ⟨e.2, v', ?_, ?_⟩
        · show some (nI (pickRow A b).1, _, _) = some (nI (pickRow A ((List.range b.length).map (gb b))).1, _, _)
          rw [range_gb]
        · show R6 v' (pickRow A ((List.range b.length).map (gb b))).2
          rw [range_gb]
          exact h4
      | some y =>
        rw [hq] at h2
        obtain ⟨h3, h4⟩ := h2
        have hy := prm_facts _ (show b.length < 7 by omega) y.2 (blk_mem _ _ _ _ hq).1
        obtain ⟨v', h5, h6⟩ := x5_row (f := e.2.1) (ns := y.2.map (gb b)) h hi (by rw [List.length_map]; omega) (fun k x hx => by
          have hk := (List.getElem?_eq_some_iff.mp hx).1
          rw [List.length_map, hy.1] at hk
          rw [h4 k hk]
          rw [List.getElem?_map] at hx
          rw [List.getD_eq_getElem?_getD]
          cases e : y.2[k]? with
          | none => rw [e] at hx; cases hx
          | some z =>
            rw [e] at hx
            cases hx
            rfl)
        rw [List.length_map, hy.1] at h5
        rw [h3, if_pos rfl, h5, Option.bind_some]
        exact ⟨_, _, rfl, h6⟩
    · obtain ⟨v', h3, h4⟩ := x5_row h hi b6 hrow
      rw [if_neg (fun e => c2 ((i2e (by omega)).mp e)), if_neg c2, h3, Option.bind_some]
      exact ⟨_, _, rfl, h4⟩
/-- what a pick leaves of the reference -/
def Kp (u v : tX8) : Prop := v.1 = u.1 ∧ v.2.2.1 = u.2.2.1 ∧ v.2.2.2.1 = u.2.2.2.1 ∧ v.2.2.2.2.1 = u.2.2.2.2.1 ∧ v.2.2.2.2.2.1 = u.2.2.2.2.2.1 ∧ v.2.2.2.2.2.2.1 = u.2.2.2.2.2.2.1 ∧ v.2.2.2.2.2.2.2.2.2.2.2.2.2.2.2 = u.2.2.2.2.2.2.2.2.2.2.2.2.2.2.2
theorem Kp.rf (u : tX8) : Kp u u := ⟨rfl, rfl, rfl, rfl, rfl, rfl, rfl⟩
theorem x8_batch {u : tX8} {A : AS} (h : R8 u.2.1 A) (hi : Inv A) {b : List Int32} (hb : Bx b) (hN : mN u = nI b.length) (hf : ∀ k, k < b.length → mB u k = gb b k) {rule : Nat} (hr : rule ≤ 2) : ∃ u', f_X8_picksBatch u (nI rule) = some (nI (batA A b rule).1, u') ∧ R8 u'.2.1 (batA A b rule).2 ∧ Kp u u' := by
  obtain ⟨b0, b6, bd, bm⟩ := hb
  unfold f_X8_picksBatch batA
  by_cases c1 : rule = 1
  · subst c1
    obtain ⟨s, ip, h1, h2⟩ := x8_nearest h hi b6 hN hf bd
    rw [if_pos (show nI 1 = 1 from rfl), if_pos rfl, h1, Option.bind_some]
    exact ⟨_, rfl, h2, rfl, rfl, rfl, rfl, rfl, rfl, rfl⟩
  · rw [if_neg (fun e => c1 ((i1e (by omega)).mp e)), if_neg c1]
    by_cases c2 : rule = 2
    · subst c2
      obtain ⟨s, o, bb, st, h1, h2, h3⟩ := x8_lays h hi b0 b6 hN hf
      have hy := selO_len (A := A) (b := b) b6
      rw [if_pos (show nI 2 = 2 from rfl), if_pos rfl, h1, Option.bind_some]
      obtain ⟨s', h5, h6⟩ := x8_rowB (u := (u.1, s, u.2.2.1, u.2.2.2.1, u.2.2.2.2.1, u.2.2.2.2.2.1, u.2.2.2.2.2.2.1, u.2.2.2.2.2.2.2.1, u.2.2.2.2.2.2.2.2.1, u.2.2.2.2.2.2.2.2.2.1, u.2.2.2.2.2.2.2.2.2.2.1, o, bb, u.2.2.2.2.2.2.2.2.2.2.2.2.2.1, st, u.2.2.2.2.2.2.2.2.2.2.2.2.2.2.2)) (ns := (selO b.length (best A b b.length)).map (gb b)) h2 hi (by rw [List.length_map]; omega) (by rw [List.length_map, hy.1]; exact hN) (fun k x hx => by
        rw [List.getElem?_map] at hx
        cases e : (selO b.length (best A b b.length))[k]? with
        | none => rw [e] at hx; cases hx
        | some z =>
          rw [e] at hx
          cases hx
          have hz := hy.2 z (List.mem_of_getElem? e)
          refine ⟨z, by omega, ?_, hf z hz⟩
          have := h3 k (List.getElem?_eq_some_iff.mp e).1
          rw [List.getD_eq_getElem?_getD, e] at this
          exact this)
      rw [h5, Option.bind_some]
      exact ⟨_, rfl, h6, rfl, rfl, rfl, rfl, rfl, rfl, rfl⟩
    · rw [if_neg (fun e => c2 ((i2e (by omega)).mp e)), if_neg c2]
      unfold f_X8_firstOrder
      rw [show b_X8_firstOrder_2 u = idl u.2.2.2.2.2.2.2.2.2.2.1 from rfl, idl_run b6 hN, Option.bind_some, Option.bind_some]
      obtain ⟨s', h5, h6⟩ := x8_rowO (u := wO u (idf b.length u.2.2.2.2.2.2.2.2.2.2.2.1)) (ns := b) h hi b6 hN (fun k x hx => by
        have hk := (List.getElem?_eq_some_iff.mp hx).1
        refine ⟨k, by omega, ?_, ?_⟩
        · show idf b.length _ k = nI k
          unfold idf
          rw [if_pos hk]
        · show mB u k = x
          rw [hf k hk, gb_get hx])
      rw [show f_X8_picksBy_order (u.1, u.2.1, u.2.2.1, u.2.2.2.1, u.2.2.2.2.1, u.2.2.2.2.2.1, u.2.2.2.2.2.2.1, u.2.2.2.2.2.2.2.1, u.2.2.2.2.2.2.2.2.1, u.2.2.2.2.2.2.2.2.2.1, u.2.2.2.2.2.2.2.2.2.2.1, (idf b.length u.2.2.2.2.2.2.2.2.2.2.2.1), u.2.2.2.2.2.2.2.2.2.2.2.2.1, u.2.2.2.2.2.2.2.2.2.2.2.2.2.1, u.2.2.2.2.2.2.2.2.2.2.2.2.2.2.1, u.2.2.2.2.2.2.2.2.2.2.2.2.2.2.2) = _ from h5, Option.bind_some]
      exact ⟨_, rfl, h6, rfl, rfl, rfl, rfl, rfl, rfl, rfl⟩
