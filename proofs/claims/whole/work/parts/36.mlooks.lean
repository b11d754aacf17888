/-! looks, on both sides -/
def sn (f : Nat → Int) : Nat → Int
  | 0 => 0
  | n + 1 => sn f n + f n
theorem sn_add (f g : Nat → Int) : ∀ n, sn (fun k => f k + g k) n = sn f n + sn g n := by
  intro n
  induction n with
  | zero => rfl
  | succ n ih =>
    show sn (fun k => f k + g k) n + (f n + g n) = (sn f n + f n) + (sn g n + g n)
    rw [ih]
    omega
theorem sn_zero : ∀ n, sn (fun _ => 0) n = 0 := by
  intro n
  induction n with
  | zero => rfl
  | succ n ih =>
    show sn (fun _ => 0) n + 0 = 0
    rw [ih]
    rfl
theorem sn_congr {f g : Nat → Int} : ∀ {n : Nat}, (∀ k, k < n → f k = g k) → sn f n = sn g n := by
  intro n
  induction n with
  | zero => intro _; rfl
  | succ n ih =>
    intro h
    show sn f n + f n = sn g n + g n
    rw [ih (fun k hk => h k (by omega)), h n (by omega)]
theorem sn_pick (c : Int) (d : Nat) : ∀ n, sn (fun k => if k = d then c else 0) n = if d < n then c else 0 := by
  intro n
  induction n with
  | zero => rfl
  | succ n ih =>
    show sn (fun k => if k = d then c else 0) n + (if n = d then c else 0) = _
    rw [ih]
    by_cases h1 : d < n
    · rw [if_pos h1, if_neg (by omega), if_pos (by omega), Int.add_zero]
    · rw [if_neg h1]
      by_cases h2 : n = d
      · rw [if_pos h2, if_pos (by omega), Int.zero_add]
      · rw [if_neg h2, if_neg (by omega)]
        rfl
/-- sums by drawers are sums by items -/
theorem sn_side (g : Nat → Int) : ∀ {L : List It}, (∀ x ∈ L, x.2.2 < 12) → sn (fun d => ld L d * g d) 12 = sm (fun x => (x.2.1 : Int) * g x.2.2) L := by
  intro L
  induction L with
  | nil =>
    intro _
    rw [sn_congr (g := fun _ => 0) (fun k _ => by
      show (0 : Int) * g k = 0
      rw [Int.zero_mul]), sn_zero]
    rfl
  | cons x L ih =>
    intro h
    have hx := h x List.mem_cons_self
    rw [sm_cons, ← ih (fun y hy => h y (List.mem_cons_of_mem _ hy))]
    have h1 := sn_pick ((x.2.1 : Int) * g x.2.2) x.2.2 12
    rw [if_pos hx] at h1
    rw [← h1, ← sn_add]
    refine sn_congr (fun k _ => ?_)
    show (sm _ (x :: L)) * g k = _
    rw [sm_cons, Int.add_mul]
    congr 1
    by_cases c : x.2.2 = k
    · rw [if_pos c, if_pos c.symm, c]
    · rw [if_neg c, if_neg (fun e => c e.symm), Int.zero_mul]
theorem sn_wt {L : List It} (h : ∀ x ∈ L, x.2.2 < 12) : sn (ld L) 12 = sm (fun x => (x.2.1 : Int)) L := by
  have h1 := sn_side (fun _ => 1) h
  rw [sn_congr (g := ld L) (fun k _ => Int.mul_one _)] at h1
  rw [h1]
  congr 1
  funext x
  exact Int.mul_one _
theorem zI_0 : zI 0 = 0 := rfl
theorem x0_whole {u : tX0} {D T : Nat → Int} (h : Bal u D T) : f_X0_wholeLoad u = some (zI (sn D 12)) := by
  unfold f_X0_wholeLoad
  have hst : ∀ k, k < 12 → b_X0_wholeLoad_13 u ((fun k => (zI (sn D k), nI k)) k) = some (.inl ((fun k => (zI (sn D k), nI k)) (k + 1))) := by
    intro k hk
    unfold b_X0_wholeLoad_13
    dsimp only
    rw [if_neg (g12 hk), aget_n hk (by omega), Option.bind_some, h.1 k hk, zI_add, nI_1]
    rfl
  have hen : b_X0_wholeLoad_13 u ((fun k => (zI (sn D k), nI k)) 12) = some (.inr (zI (sn D 12))) := by
    unfold b_X0_wholeLoad_13
    dsimp only
    rw [if_pos e12]
  rw [lp_st (s := (0, 0)) _ _ _ _ hst hen (by omega) rfl]
  rfl
theorem x8_whole {u : tX8} {A : AS} (h : R8 u.2.1 A) (hw : Wf (aL A) (aG A)) : f_X8_loadOfAll u = some (zI (sn (ld (aL A)) 12)) := by
  have hl := hw.1
  rw [sn_wt (fun x hx => (hw.wt hx).2.2)]
  unfold f_X8_loadOfAll
  have hst : ∀ k, k < (aL A).length → b_X8_loadOfAll_4 u ((fun k => (zI (sm (fun x => (x.2.1 : Int)) ((aL A).take k)), nI k)) k) = some (.inl ((fun k => (zI (sm (fun x => (x.2.1 : Int)) ((aL A).take k)), nI k)) (k + 1))) := by
    intro k hk
    have hx := List.getElem?_eq_getElem hk
    unfold b_X8_loadOfAll_4
    dsimp only
    rw [q9, Option.bind_some, h.2.1, if_neg (nI_ge hk (by omega)), x8_of1 h (by omega) hx, Option.bind_some, nI_1, sm_take _ hk, nI_zI ((aL A)[k].2.1), zI_add]
  have hen : b_X8_loadOfAll_4 u ((fun k => (zI (sm (fun x => (x.2.1 : Int)) ((aL A).take k)), nI k)) (aL A).length) = some (.inr (zI (sm (fun x => (x.2.1 : Int)) (aL A)))) := by
    unfold b_X8_loadOfAll_4
    dsimp only
    rw [q9, Option.bind_some, h.2.1, if_pos (nI_le (Nat.le_refl _) (by omega)), List.take_length]
  rw [lp_st (s := (0, 0)) _ _ _ _ hst hen (by omega) rfl]
  rfl
def jn (J : Nat → Bool) : Nat → Int32
  | 0 => 0
  | n + 1 => jn J n + bI (J n)
theorem x6_jams {u : tX6} {A : AS} (h : R6 u A) : f_X6_jammedDrawers u = some (jn (aJ A) 12) := by
  unfold f_X6_jammedDrawers
  have hst : ∀ k, k < 12 → b_X6_jammedDrawers_13 u ((fun k => (jn (aJ A) k, nI k)) k) = some (.inl ((fun k => (jn (aJ A) k, nI k)) (k + 1))) := by
    intro k hk
    unfold b_X6_jammedDrawers_13
    dsimp only
    rw [if_neg (g12 hk), aget_n hk (by omega), Option.bind_some, h.2.2.1 k hk, nI_1]
    rfl
  have hen : b_X6_jammedDrawers_13 u ((fun k => (jn (aJ A) k, nI k)) 12) = some (.inr (jn (aJ A) 12)) := by
    unfold b_X6_jammedDrawers_13
    dsimp only
    rw [if_pos e12]
  rw [lp_st (s := (0, 0)) _ _ _ _ hst hen (by omega) rfl]
  rfl
theorem x8_jams {u : tX8} {A : AS} (h : R8 u.2.1 A) : f_X8_jammed u = some (jn (aJ A) 12) := by
  unfold f_X8_jammed
  have hst : ∀ k, k < 12 → b_X8_jammed_4 u ((fun k => (jn (aJ A) k, nI k)) k) = some (.inl ((fun k => (jn (aJ A) k, nI k)) (k + 1))) := by
    intro k hk
    unfold b_X8_jammed_4
    dsimp only
    rw [if_neg (g12 hk), pos10, aget_n (by omega) (by omega), Option.bind_some, h.2.2.2.1 k hk, nI_1]
    rfl
  have hen : b_X8_jammed_4 u ((fun k => (jn (aJ A) k, nI k)) 12) = some (.inr (jn (aJ A) 12)) := by
    unfold b_X8_jammed_4
    dsimp only
    rw [if_pos e12]
  rw [lp_st (s := (0, 0)) _ _ _ _ hst hen (by omega) rfl]
  rfl
/-- the loads as naturals, the greatest, the least -/
def lod (L : List It) (d : Nat) : Nat := (ld L d).toNat
theorem lod_ld (L : List It) (d : Nat) : ld L d = (lod L d : Int) := by
  have := ld_nn L d
  unfold lod
  omega
theorem lod_le {L : List It} {G : Nat} (h : Wf L G) (d : Nat) : lod L d ≤ 800 := by
  have := h.ldle d
  rw [lod_ld] at this
  omega
def gl (L : List It) : Nat := mx (lod L) 12
def mn (f : Nat → Nat) (i : Nat) : Nat → Nat
  | 0 => i
  | n + 1 => min (mn f i n) (f n)
theorem mn_eq {f : Nat → Nat} {i : Nat} (h : f 0 ≤ i) : ∀ n, mn f i (n + 1) = mn f (f 0) (n + 1) := by
  intro n
  induction n with
  | zero => show min i (f 0) = min (f 0) (f 0); omega
  | succ n ih =>
    show min (mn f i (n + 1)) (f (n + 1)) = min (mn f (f 0) (n + 1)) (f (n + 1))
    rw [ih]
theorem mn_le {f : Nat → Nat} {i : Nat} : ∀ n, mn f i n ≤ i := by
  intro n
  induction n with
  | zero => exact Nat.le_refl _
  | succ n ih => exact Nat.le_trans (Nat.min_le_left _ _) ih
def ll (L : List It) : Nat := mn (lod L) (lod L 0) 12
theorem x0_greatL {u : tX0} {L : List It} {G : Nat} {T : Nat → Int} (h : Bal u (ld L) T) (hw : Wf L G) : f_X0_greatestLoad u = some (nI (gl L)) := by
  have hb : ∀ k, mx (lod L) k < 1000 := fun k => mx_lt (by omega) (fun j _ => by have := lod_le hw j; omega)
  unfold f_X0_greatestLoad
  have hst : ∀ k, k < 12 → b_X0_greatestLoad_13 u ((fun k => (nI (mx (lod L) k), nI k)) k) = some (.inl ((fun k => (nI (mx (lod L) k), nI k)) (k + 1))) := by
    intro k hk
    have h1 := hb k
    have h2 := lod_le hw k
    unfold b_X0_greatestLoad_13
    dsimp only
    rw [if_neg (g12 hk), aget_n hk (by omega), Option.bind_some, h.1 k hk, lod_ld, ← nI_zI, nI_max (by omega) (by omega), nI_1]
    rfl
  have hen : b_X0_greatestLoad_13 u ((fun k => (nI (mx (lod L) k), nI k)) 12) = some (.inr (nI (gl L))) := by
    unfold b_X0_greatestLoad_13
    dsimp only
    rw [if_pos e12]
    rfl
  rw [lp_st (s := (0, 0)) _ _ _ _ hst hen (by omega) rfl]
  rfl
theorem x0_leastL {u : tX0} {L : List It} {G : Nat} {T : Nat → Int} (h : Bal u (ld L) T) (hw : Wf L G) : f_X0_leastLoad u = some (nI (ll L)) := by
  have h0 := lod_le hw 0
  have hb : ∀ k, mn (lod L) (lod L 0) k ≤ 800 := fun k => Nat.le_trans (mn_le k) h0
  unfold f_X0_leastLoad
  rw [show (0 : Int32) = nI 0 from rfl, at_n (by omega) (by omega), h.1 0 (by omega), lod_ld, ← nI_zI]
  have hst : ∀ k, k < 12 → b_X0_leastLoad_20 u ((fun k => (nI (mn (lod L) (lod L 0) k), nI k)) k) = some (.inl ((fun k => (nI (mn (lod L) (lod L 0) k), nI k)) (k + 1))) := by
    intro k hk
    have h1 := hb k
    have h2 := lod_le hw k
    unfold b_X0_leastLoad_20
    dsimp only
    rw [if_neg (g12 hk), aget_n hk (by omega), Option.bind_some, h.1 k hk, lod_ld, ← nI_zI, nI_min (by omega) (by omega), nI_1]
    rfl
  have hen : b_X0_leastLoad_20 u ((fun k => (nI (mn (lod L) (lod L 0) k), nI k)) 12) = some (.inr (nI (ll L))) := by
    unfold b_X0_leastLoad_20
    dsimp only
    rw [if_pos e12]
    rfl
  rw [lp_st (s := (nI (lod L 0), nI 0)) _ _ _ _ hst hen (by omega) rfl]
  rfl
theorem x8_loadN {u : tX8} {A : AS} (h : R8 u.2.1 A) (hw : Wf (aL A) (aG A)) {d : Nat} (hd : d < 12) : f_X8_loadOf u (nI d) = some (nI (lod (aL A) d)) := by
  rw [x8_load h hw hd, lod_ld, ← nI_zI]
theorem x8_greatL {u : tX8} {A : AS} (h : R8 u.2.1 A) (hw : Wf (aL A) (aG A)) : f_X8_greatestLoad u = some (nI (gl (aL A))) := by
  have hb : ∀ k, mx (lod (aL A)) k < 1000 := fun k => mx_lt (by omega) (fun j _ => by have := lod_le hw j; omega)
  unfold f_X8_greatestLoad
  have hst : ∀ k, k < 12 → b_X8_greatestLoad_4 u ((fun k => (nI (mx (lod (aL A)) k), nI k)) k) = some (.inl ((fun k => (nI (mx (lod (aL A)) k), nI k)) (k + 1))) := by
    intro k hk
    have h1 := hb k
    have h2 := lod_le hw k
    unfold b_X8_greatestLoad_4
    dsimp only
    rw [if_neg (g12 hk), x8_loadN h hw hk, Option.bind_some, Option.bind_some, nI_1]
    show _ = some (Sum.inl (nI (max (mx (lod (aL A)) k) (lod (aL A) k)), nI (k + 1)))
    by_cases c : lod (aL A) k ≤ mx (lod (aL A)) k
    · rw [if_pos (nI_le c (by omega)), Nat.max_eq_left c]
    · rw [if_neg (nI_ge (by omega) (by omega)), Nat.max_eq_right (by omega)]
  have hen : b_X8_greatestLoad_4 u ((fun k => (nI (mx (lod (aL A)) k), nI k)) 12) = some (.inr (nI (gl (aL A)))) := by
    unfold b_X8_greatestLoad_4
    dsimp only
    rw [if_pos e12]
    rfl
  rw [lp_st (s := (0, 0)) _ _ _ _ hst hen (by omega) rfl]
  rfl
def evA (A : AS) : UInt64 := if gl (aL A) = 0 then FP.dconst1 else dq (ll (aL A)) (gl (aL A))
theorem ll_le (L : List It) : ll L ≤ gl L := Nat.le_trans (mn_le 12) (mx_ge (f := lod L) (k := 0) (by omega))
theorem gl_le {A : AS} (h : Inv A) : gl (aL A) ≤ 100 := mx_le (fun k hk => by
  have h1 := h.2.2.1 k hk
  have h2 := h.2.2.2.2.2.1
  rw [lod_ld] at h1
  omega)
theorem evA_ok {A : AS} (h : Inv A) : okd (evA A) = true := by
  unfold evA
  by_cases c : gl (aL A) = 0
  · rw [if_pos c]
    exact okd1
  · rw [if_neg c]
    exact okd_all (by omega) (ll_le _) (gl_le h)
theorem x7_even {u : tX7} {A : AS} (h : R6 u.1 A) (hi : Inv A) : f_X7_shareOfLeast u = some (evA A) := by
  have hg := gl_le hi
  have hk := (okd_use (evA_ok hi)).1
  unfold f_X7_shareOfLeast
  rw [x0_greatL h.1 hi.1, Option.bind_some]
  unfold evA at hk ⊢
  by_cases c : gl (aL A) = 0
  · rw [if_pos c, if_neg (show ¬ (0 : Int32) < nI (gl (aL A)) by rw [c]; decide)]
  · rw [if_neg c] at hk ⊢
    rw [if_pos (show (0 : Int32) < nI (gl (aL A)) from nI_lt (a := 0) (by omega) (by omega)), x0_leastL h.1 hi.1, Option.bind_some, show FP.ddiv (FP.i2d (nI (ll (aL A)))) (FP.i2d (nI (gl (aL A)))) = dq (ll (aL A)) (gl (aL A)) from rfl, hk, Option.bind_some]
theorem x8_even {u : tX8} {A : AS} (h : R8 u.2.1 A) (hi : Inv A) : f_X8_even u = some (evA A) := by
  have hw := hi.1
  have hg := gl_le hi
  have hk := (okd_use (evA_ok hi)).1
  have hb : ∀ k, mn (lod (aL A)) (gl (aL A)) k ≤ 100 := fun k => Nat.le_trans (mn_le k) hg
  have hst : ∀ k, k < 12 → b_X8_even_9 u ((fun k => (nI (mn (lod (aL A)) (gl (aL A)) k), nI k)) k) = some (.inl ((fun k => (nI (mn (lod (aL A)) (gl (aL A)) k), nI k)) (k + 1))) := by
    intro k hk
    have h1 := hb k
    have h2 := lod_le hw k
    unfold b_X8_even_9
    dsimp only
    rw [if_neg (g12 hk), x8_loadN h hw hk, Option.bind_some, Option.bind_some, nI_1]
    show _ = some (Sum.inl (nI (min (mn (lod (aL A)) (gl (aL A)) k) (lod (aL A) k)), nI (k + 1)))
    by_cases c : mn (lod (aL A)) (gl (aL A)) k ≤ lod (aL A) k
    · rw [if_pos (nI_le c (by omega)), Nat.min_eq_left c]
    · rw [if_neg (nI_ge (by omega) (by omega)), Nat.min_eq_right (by omega)]
  have hen : b_X8_even_9 u ((fun k => (nI (mn (lod (aL A)) (gl (aL A)) k), nI k)) 12) = some (.inr (nI (ll (aL A)))) := by
    unfold b_X8_even_9
    dsimp only
    rw [if_pos e12, show mn (lod (aL A)) (gl (aL A)) 12 = ll (aL A) from mn_eq (show lod (aL A) 0 ≤ gl (aL A) from mx_ge (n := 12) (by omega)) 11]
  unfold f_X8_even
  rw [x8_greatL h hw, Option.bind_some, lp_st (s := (nI (gl (aL A)), 0)) _ _ _ _ hst hen (by omega) rfl, Option.bind_some]
  unfold evA at hk ⊢
  by_cases c : gl (aL A) = 0
  · rw [if_pos c, if_pos ((i0e (by omega)).mpr c)]
  · rw [if_neg c] at hk ⊢
    rw [if_neg (fun e => c ((i0e (by omega)).mp e)), show FP.ddiv (FP.i2d (nI (ll (aL A)))) (FP.i2d (nI (gl (aL A)))) = dq (ll (aL A)) (gl (aL A)) from rfl, hk, Option.bind_some]
/-- the greatest imbalance with one more -/
theorem sn_with {L : List It} (h : ∀ x ∈ L, x.2.2 < 12) {d : Nat} (hd : d < 12) (x w : Nat) : sn (fun o => (ld L o + (if o = d then (x : Int) else 0)) * side o w) 12 = tilt L w + (x : Int) * side d w := by
  have h1 := sn_side (fun o => side o w) h
  have h2 := sn_pick ((x : Int) * side d w) d 12
  rw [if_pos hd] at h2
  unfold tilt
  rw [← h1, ← h2, ← sn_add]
  refine sn_congr (fun k _ => ?_)
  rw [Int.add_mul]
  congr 1
  by_cases c : k = d
  · rw [if_pos c, if_pos c, c]
  · rw [if_neg c, if_neg c, Int.zero_mul]
theorem x8_gw {u : tX8} {A : AS} (h : R8 u.2.1 A) (hw : Wf (aL A) (aG A)) {d x : Nat} (hd : d < 12) (hx : x < 1000) : f_X8_greatestWith u (nI d) (nI x) = some (nI (gw (tilt (aL A)) d x)) := by
  have hT := hw.Tb
  have hb : ∀ w, (tilt (aL A) w + (x : Int) * side d w).natAbs < 200000 := fun w => by
    have h1 := hT w
    have h2 := side_mul x d w
    omega
  have hmx : ∀ k, mx (fun w => (tilt (aL A) w + (x : Int) * side d w).natAbs) k < 200000 := fun k => mx_lt (by omega) (fun j _ => hb j)
  unfold f_X8_greatestWith
  have hst : ∀ k, k < 12 → b_X8_greatestWith_5 u (nI d) (nI x) ((fun k => (nI (mx (fun w => (tilt (aL A) w + (x : Int) * side d w).natAbs) k), nI k)) k) = some (.inl ((fun k => (nI (mx (fun w => (tilt (aL A) w + (x : Int) * side d w).natAbs) k), nI k)) (k + 1))) := by
    intro w hwk
    have hin : ∀ o, o < 12 → b_X8_greatestWith_18 u (nI d) (nI x) (nI (mx (fun w => (tilt (aL A) w + (x : Int) * side d w).natAbs) w), nI w) ((fun o => (zI (sn (fun o => (ld (aL A) o + (if o = d then (x : Int) else 0)) * side o w) o), nI o)) o) = some (.inl ((fun o => (zI (sn (fun o => (ld (aL A) o + (if o = d then (x : Int) else 0)) * side o w) o), nI o)) (o + 1))) := by
      intro o ho
      have hp := pl_lt o w
      unfold b_X8_greatestWith_18
      dsimp only
      rw [if_neg (g12 ho), x8_load h hw ho, Option.bind_some, x8_place o ho w hwk, nI_1]
      show _ = some (Sum.inl (zI (sn _ o + (ld (aL A) o + (if o = d then (x : Int) else 0)) * side o w), nI (o + 1)))
      have tail : ∀ (y : Int32) (z : Int), y = zI z → (if nI (pl o w) = (0 : Int32) then some (Sum.inl (zI (sn (fun o => (ld (aL A) o + (if o = d then (x : Int) else 0)) * side o w) o) + 0, nI (o + 1))) else if nI (pl o w) = (6 : Int32) then some (Sum.inl (zI (sn (fun o => (ld (aL A) o + (if o = d then (x : Int) else 0)) * side o w) o) + 0, nI (o + 1))) else if (6 : Int32) ≤ nI (pl o w) then some (Sum.inl (zI (sn (fun o => (ld (aL A) o + (if o = d then (x : Int) else 0)) * side o w) o) + -y, nI (o + 1))) else some (Sum.inl (zI (sn (fun o => (ld (aL A) o + (if o = d then (x : Int) else 0)) * side o w) o) + y, nI (o + 1))) : Option ((Int32 × Int32) ⊕ Int32)) = some (Sum.inl (zI (sn (fun o => (ld (aL A) o + (if o = d then (x : Int) else 0)) * side o w) o + z * side o w), nI (o + 1))) := by
        intro y z hy
        subst hy
        unfold side
        by_cases c0 : pl o w = 0
        · rw [if_pos ((i0e (by omega)).mpr c0), if_pos c0, Int.mul_zero, Int.add_zero, add0]
        · rw [if_neg (fun e => c0 ((i0e (by omega)).mp e)), if_neg c0]
          by_cases c6 : pl o w = 6
          · rw [if_pos ((i6e (by omega)).mpr c6), if_pos c6, Int.mul_zero, Int.add_zero, add0]
          · rw [if_neg (fun e => c6 ((i6e (by omega)).mp e)), if_neg c6]
            by_cases c7 : 6 ≤ pl o w
            · rw [if_pos ((i6 (by omega)).mpr c7), if_pos c7, zI_neg, zI_add, Int.mul_neg, Int.mul_one]
            · rw [if_neg (fun e => c7 ((i6 (by omega)).mp e)), if_neg c7, zI_add, Int.mul_one]
      by_cases c : o = d
      · rw [if_pos (show nI o = nI d by rw [c]), if_pos c]
        exact tail _ _ (by rw [nI_zI x, zI_add])
      · rw [if_neg (show ¬ nI o = nI d from fun e => c ((nI_eq (by omega) (by omega)).mp e)), if_neg c]
        exact tail _ _ (by rw [Int.add_zero, add0])
    have hout : b_X8_greatestWith_18 u (nI d) (nI x) (nI (mx (fun w => (tilt (aL A) w + (x : Int) * side d w).natAbs) w), nI w) ((fun o => (zI (sn (fun o => (ld (aL A) o + (if o = d then (x : Int) else 0)) * side o w) o), nI o)) 12) = some (.inr (zI (tilt (aL A) w + (x : Int) * side d w))) := by
      unfold b_X8_greatestWith_18
      dsimp only
      rw [if_pos e12, sn_with (fun y hy => (hw.wt hy).2.2) hd]
    have h1 := hmx w
    have h2 := hb w
    unfold b_X8_greatestWith_5
    dsimp only
    rw [if_neg (g12 hwk), lp_st (s := (0, 0)) _ _ _ _ hin hout (by omega) rfl, Option.bind_some]
    have h3 : f_X8_size (zI (tilt (aL A) w + (x : Int) * side d w)) = nI (tilt (aL A) w + (x : Int) * side d w).natAbs := by
      unfold f_X8_size
      generalize tilt (aL A) w + (x : Int) * side d w = z at h2
      by_cases c : 0 ≤ z
      · rw [if_pos (show (0 : Int32) ≤ _ from (zI_le (a := 0) (by omega) (by omega) (by omega) (by omega)).mpr c), nI_zI]
        congr 1
        omega
      · rw [if_neg (show ¬ (0 : Int32) ≤ _ from fun e => c ((zI_le (a := 0) (by omega) (by omega) (by omega) (by omega)).mp e)), nI_zI, zI_neg]
        congr 1
        omega
    rw [h3, nI_1]
    show _ = some (Sum.inl (nI (max (mx (fun w => (tilt (aL A) w + (x : Int) * side d w).natAbs) w) (tilt (aL A) w + (x : Int) * side d w).natAbs), nI (w + 1)))
    by_cases c : (tilt (aL A) w + (x : Int) * side d w).natAbs ≤ mx (fun w => (tilt (aL A) w + (x : Int) * side d w).natAbs) w
    · rw [if_pos (nI_le c (by omega)), Nat.max_eq_left c]
    · rw [if_neg (nI_ge (by omega) (by omega)), Nat.max_eq_right (by omega)]
  have hen : b_X8_greatestWith_5 u (nI d) (nI x) ((fun k => (nI (mx (fun w => (tilt (aL A) w + (x : Int) * side d w).natAbs) k), nI k)) 12) = some (.inr (nI (gw (tilt (aL A)) d x))) := by
    unfold b_X8_greatestWith_5
    dsimp only
    rw [if_pos e12]
    rfl
  rw [lp_st (s := (0, 0)) _ _ _ _ hst hen (by omega) rfl]
  rfl
theorem gA_gw (L : List It) : gA L = gw (tilt L) 0 0 := mx_congr (fun k _ => by
  show (tilt L k).natAbs = (tilt L k + ((0 : Nat) : Int) * side 0 k).natAbs
  rw [show ((0 : Nat) : Int) = 0 from rfl, Int.zero_mul, Int.add_zero])
theorem gw_lt {L : List It} {G : Nat} (hw : Wf L G) (d : Nat) {x : Nat} (hx : x < 1000) : gw (tilt L) d x < 200000 := mx_lt (by omega) (fun j _ => by
  have h1 := hw.Tb j
  have h2 := side_mul x d j
  omega)
/-- the drawer in which an item lies best -/
def canB (A : AS) (x d : Nat) : Bool := decide (aJ A d = false ∧ ld (aL A) d + x ≤ aCap A)
def betB (A : AS) (x d b : Nat) : Bool := decide (gw (tilt (aL A)) d x < gw (tilt (aL A)) b x ∨ (gw (tilt (aL A)) d x = gw (tilt (aL A)) b x ∧ lod (aL A) d < lod (aL A) b))
def bb (A : AS) (x : Nat) : Nat → Option Nat
  | 0 => none
  | k + 1 => if canB A x k = true then (match bb A x k with
    | none => some k
    | some b => if betB A x k b = true then some k else some b) else bb A x k
theorem bb_lt {A : AS} {x : Nat} : ∀ {n b : Nat}, bb A x n = some b → b < n := by
  intro n
  induction n with
  | zero => intro b h; cases h
  | succ n ih =>
    intro b h
    unfold bb at h
    by_cases c : canB A x n = true
    · rw [if_pos c] at h
      cases e : bb A x n with
      | none => rw [e] at h; cases h; omega
      | some y =>
        rw [e] at h
        have := ih e
        dsimp only at h
        by_cases c2 : betB A x n y = true
        · rw [if_pos c2] at h; cases h; omega
        · rw [if_neg c2] at h; cases h; omega
    · rw [if_neg c] at h
      have := ih h
      omega
def fB (q : Option Nat) : Int32 := match q with
  | none => -1
  | some b => nI b
theorem x6_better {u : tX6} {A : AS} (h : R6 u A) (hi : Inv A) {d b x : Nat} (hd : d < 12) (hb : b < 12) (hx : x < 1000) : f_X6_isBetter u (nI d) (nI b) (nI x) = some (betB A x d b) := by
  have g1 := gw_lt hi.1 d hx
  have g2 := gw_lt hi.1 b hx
  have g3 := lod_le hi.1 d
  have g4 := lod_le hi.1 b
  unfold f_X6_isBetter betB
  rw [x0_great h.1 hi.1.Tb hd x hx, x0_great h.1 hi.1.Tb hb x hx, Option.bind_some, Option.bind_some, at_n hd (by omega), at_n hb (by omega), h.1.1 d hd, h.1.1 b hb, lod_ld, lod_ld, ← nI_zI, ← nI_zI]
  by_cases c : gw (tilt (aL A)) d x = gw (tilt (aL A)) b x
  · rw [if_pos (by rw [c])]
    by_cases c2 : lod (aL A) b ≤ lod (aL A) d
    · rw [if_pos (nI_le c2 (by omega)), decide_eq_false (by omega)]
    · rw [if_neg (nI_ge (by omega) (by omega)), decide_eq_true (by omega)]
  · rw [if_neg (fun e => c ((nI_eq (by omega) (by omega)).mp e))]
    by_cases c2 : gw (tilt (aL A)) b x ≤ gw (tilt (aL A)) d x
    · rw [if_pos (nI_le c2 (by omega)), decide_eq_false (by omega)]
    · rw [if_neg (nI_ge (by omega) (by omega)), decide_eq_true (by omega)]
theorem x6_best {u : tX6} {A : AS} (h : R6 u A) (hi : Inv A) {x : Nat} (hx : x < 1000) : f_X6_bestFor u (nI x) = some (fB (bb A x 12)) := by
  unfold f_X6_bestFor
  have hst : ∀ k, k < 12 → b_X6_bestFor_4 u (nI x) ((fun k => (fB (bb A x k), nI k)) k) = some (.inl ((fun k => (fB (bb A x k), nI k)) (k + 1))) := by
    intro k hk
    show b_X6_bestFor_4 u (nI x) (fB (bb A x k), nI k) = some (Sum.inl (fB (if canB A x k = true then (match bb A x k with | none => some k | some b => if betB A x k b = true then some k else some b) else bb A x k), nI (k + 1)))
    have hq : ∀ b, bb A x k = some b → b < k := fun b e => bb_lt e
    generalize bb A x k = q at hq ⊢
    have a2 := ld_nn (aL A) k
    have a3 := hi.2.2.1 k hk
    have a4 := hi.2.2.2.2.2.1
    unfold b_X6_bestFor_4 canB
    dsimp only
    rw [if_neg (g12 hk), x6_jam h hk, x6_space h hk, nI_1]
    have e3 : (nI x ≤ zI ((aCap A : Int) - ld (aL A) k)) ↔ ((x : Int) ≤ (aCap A : Int) - ld (aL A) k) := by
      rw [nI_zI]
      exact zI_le (by omega) (by omega) (by omega) (by omega)
    cases j : aJ A k with
    | true => rw [if_pos rfl, if_neg (by simp)]
    | false =>
      rw [if_neg (show ¬ (false = true) by decide)]
      by_cases c : (x : Int) ≤ (aCap A : Int) - ld (aL A) k
      · rw [if_pos (e3.mpr c), if_pos (decide_eq_true ⟨rfl, by omega⟩)]
        cases q with
        | none =>
          rw [if_pos (show fB none = -1 from rfl)]
          rfl
        | some b =>
          have hb := hq b rfl
          rw [if_neg (show ¬ fB (some b) = -1 from nI_nm1 (by omega)), show fB (some b) = nI b from rfl, x6_better h hi hk (by omega) hx, Option.bind_some]
          dsimp only
          by_cases c2 : betB A x k b = true
          · rw [if_pos c2, if_pos c2]
            rfl
          · rw [if_neg c2, if_neg c2]
            rfl
      · rw [if_neg (fun e => c (e3.mp e)), if_neg (fun e => by have := (of_decide_eq_true e).2; omega)]
  have hen : b_X6_bestFor_4 u (nI x) ((fun k => (fB (bb A x k), nI k)) 12) = some (.inr (fB (bb A x 12))) := by
    unfold b_X6_bestFor_4
    dsimp only
    rw [if_pos e12]
  rw [lp_st (s := (-1, 0)) _ _ _ _ hst hen (by omega) rfl]
  rfl
def fG (A : AS) (x : Nat) (q : Option Nat) : Int32 := match q with
  | none => 0
  | some b => nI (gw (tilt (aL A)) b x)
theorem x8_best {u : tX8} {A : AS} (h : R8 u.2.1 A) (hi : Inv A) {x : Nat} (hx : x < 1000) : f_X8_drawerFor u (nI x) = some (fB (bb A x 12)) := by
  have hw := hi.1
  unfold f_X8_drawerFor
  have hst : ∀ k, k < 12 → b_X8_drawerFor_7 u (nI x) ((fun k => (fB (bb A x k), fG A x (bb A x k), nI k)) k) = some (.inl ((fun k => (fB (bb A x k), fG A x (bb A x k), nI k)) (k + 1))) := by
    intro k hk
    show b_X8_drawerFor_7 u (nI x) (fB (bb A x k), fG A x (bb A x k), nI k) = some (Sum.inl (fB (if canB A x k = true then (match bb A x k with | none => some k | some b => if betB A x k b = true then some k else some b) else bb A x k), fG A x (if canB A x k = true then (match bb A x k with | none => some k | some b => if betB A x k b = true then some k else some b) else bb A x k), nI (k + 1)))
    have hq : ∀ b, bb A x k = some b → b < k := fun b e => bb_lt e
    generalize bb A x k = q at hq ⊢
    have a2 := lod_le hw k
    have a4 := hi.2.2.2.2.2.1
    have g1 := gw_lt hw k hx
    unfold b_X8_drawerFor_7 canB
    dsimp only
    rw [if_neg (g12 hk), x8_gw h hw hk hx, Option.bind_some, pos10, aget_n (by omega) (by omega), Option.bind_some, h.2.2.2.1 k hk, nI_1, x8_loadN h hw hk, q1, Option.bind_some, Option.bind_some, h.2.2.2.2.1.2.1, nI_add]
    have e3 : (nI (aCap A) < nI (lod (aL A) k + x)) ↔ aCap A < lod (aL A) k + x := nI_ltI (by omega) (by omega)
    cases j : aJ A k with
    | true =>
      rw [if_neg (show ¬ bI true = 0 by decide), if_pos rfl, if_neg (by simp)]
    | false =>
      rw [if_pos (show bI false = 0 from rfl)]
      by_cases c : aCap A < lod (aL A) k + x
      · rw [if_pos (e3.mpr c), if_pos rfl, if_neg (fun e => by have := (of_decide_eq_true e).2; rw [lod_ld] at this; omega)]
      · rw [if_neg (fun e => c (e3.mp e)), if_neg (show ¬ (1 : Int32) = 0 by decide), if_pos (decide_eq_true ⟨rfl, by rw [lod_ld]; omega⟩)]
        cases q with
        | none =>
          rw [if_pos (show fB none = -1 from rfl)]
          rfl
        | some b =>
          have hb := hq b rfl
          have g2 := gw_lt hw b hx
          have g4 := lod_le hw b
          rw [if_neg (show ¬ fB (some b) = -1 from nI_nm1 (by omega)), show fB (some b) = nI b from rfl, show fG A x (some b) = nI (gw (tilt (aL A)) b x) from rfl, Option.bind_some, x8_loadN h hw (show b < 12 by omega), Option.bind_some]
          dsimp only
          unfold betB
          by_cases c1 : gw (tilt (aL A)) k x < gw (tilt (aL A)) b x
          · rw [if_pos (nI_lt c1 (by omega)), if_pos (decide_eq_true (Or.inl c1))]
            rfl
          · rw [if_neg (nI_nlt (by omega) (by omega))]
            by_cases c2 : gw (tilt (aL A)) k x = gw (tilt (aL A)) b x
            · rw [if_pos (show nI (gw (tilt (aL A)) k x) = nI (gw (tilt (aL A)) b x) by rw [c2])]
              by_cases c3 : lod (aL A) b ≤ lod (aL A) k
              · rw [if_pos (nI_le c3 (by omega)), if_neg (fun e => by have := of_decide_eq_true e; omega)]
                rfl
              · rw [if_neg (nI_ge (by omega) (by omega)), if_pos (decide_eq_true (Or.inr ⟨c2, by omega⟩))]
                rfl
            · rw [if_neg (show ¬ nI (gw (tilt (aL A)) k x) = nI (gw (tilt (aL A)) b x) from fun e => c2 ((nI_eq (by omega) (by omega)).mp e)), if_neg (fun e => by have := of_decide_eq_true e; omega)]
              rfl
  have hen : b_X8_drawerFor_7 u (nI x) ((fun k => (fB (bb A x k), fG A x (bb A x k), nI k)) 12) = some (.inr (fB (bb A x 12))) := by
    unfold b_X8_drawerFor_7
    dsimp only
    rw [if_pos e12]
  rw [lp_st (s := (-1, 0, 0)) _ _ _ _ hst hen (by omega) rfl]
  rfl
/-- a drawer's properties -/
def propD (A : AS) (d what : Nat) : Int32 :=
  if what = 0 then zI (ld (aL A) d) else
  if what = 1 then zI (cn (aL A) d) else
  if what = 2 then nI (pl d (aW A)) else
  if what = 3 then bI (aJ A d) else
  if what = 4 then nI (tilt (aL A) d).natAbs else zI ((aCap A : Int) - ld (aL A) d)
theorem lit_e {k j : Nat} (hk : k < 2 ^ 31) (hj : j < 2 ^ 31) : (nI k = nI j) ↔ k = j := nI_eq hk hj
theorem x6_prop {u : tX6} {A : AS} (h : R6 u A) (hi : Inv A) {d what : Nat} (hd : d < 12) (hw : what < 6) : f_X6_drawerProperty u (nI d) (nI what) = some (propD A d what) := by
  unfold f_X6_drawerProperty propD
  rw [at_n hd (by omega), h.1.1 d hd, x3_lie h.2.1 hi.1 hd, Option.bind_some, h.2.2.2.2.1, x7_place d hd _ hi.2.2.2.2.2.2.2, at_n hd (by omega), h.2.2.1 d hd, x0_imb h.1 hi.1.Tb hd, x6_space h hd]
  rcases (show what = 0 ∨ what = 1 ∨ what = 2 ∨ what = 3 ∨ what = 4 ∨ what = 5 by omega) with rfl | rfl | rfl | rfl | rfl | rfl <;> rfl
theorem x8_prop {u : tX8} {A : AS} (h : R8 u.2.1 A) (hi : Inv A) {d what : Nat} (hd : d < 12) (hw : what < 6) : f_X8_tellsDrawer u (nI d) (nI what) = some (propD A d what) := by
  unfold f_X8_tellsDrawer propD
  rw [x8_load h hi.1 hd, x8_items h hi.1 hd, q3, q1, Option.bind_some, Option.bind_some, Option.bind_some, h.2.2.2.2.2.1, x8_place d hd _ hi.2.2.2.2.2.2.2, pos10, aget_n (by omega) (by omega), h.2.2.2.1 d hd, Option.bind_some, x8_imb h hi.1 hd, Option.bind_some, Option.bind_some, Option.bind_some, h.2.2.2.2.1.2.1, nI_zI (aCap A), zI_sub]
  rcases (show what = 0 ∨ what = 1 ∨ what = 2 ∨ what = 3 ∨ what = 4 ∨ what = 5 by omega) with rfl | rfl | rfl | rfl | rfl | rfl <;> rfl
/-- the counts -/
def cntA (A : AS) (many : Int32) (what : Nat) : Int32 :=
  if what = 0 then nI (aW A) else
  if what = 1 then nI (aL A).length else
  if what = 2 then zI (sn (ld (aL A)) 12) else
  if what = 3 then nI (tilt (aL A) (aW A)).natAbs else
  if what = 4 then nI (gw (tilt (aL A)) 0 0) else
  if what = 5 then (aC A).1 else
  if what = 6 then (aC A).2.1 else
  if what = 7 then (aC A).2.2.1 else
  if what = 8 then (aC A).2.2.2 else
  if what = 9 then jn (aJ A) 12 else many
theorem x7_count {u : tX7} {A : AS} (h : R6 u.1 A) (hi : Inv A) {what : Nat} (hw : what < 11) : f_X7_numberOf u (nI what) = some (cntA A u.2.2.1.2.2 what) := by
  have hc : u.1.2.2.2.2.2 = aC A := h.2.2.2.2.2
  unfold f_X7_numberOf cntA
  rw [show (f_X0_greatestWith u.1.1 0 0) = some (nI (gw (tilt (aL A)) 0 0)) from x0_great h.1 hi.1.Tb (d := 0) (by omega) 0 (by omega), x0_whole h.1, x6_jams h, Option.bind_some, Option.bind_some, Option.bind_some, h.2.2.2.2.1, x0_imb h.1 hi.1.Tb hi.2.2.2.2.2.2.2, h.2.1.2.1, ← hc]
  rcases (show what = 0 ∨ what = 1 ∨ what = 2 ∨ what = 3 ∨ what = 4 ∨ what = 5 ∨ what = 6 ∨ what = 7 ∨ what = 8 ∨ what = 9 ∨ what = 10 by omega) with rfl | rfl | rfl | rfl | rfl | rfl | rfl | rfl | rfl | rfl | rfl <;> rfl
theorem x8_count {u : tX8} {A : AS} (h : R8 u.2.1 A) (hi : Inv A) {what : Nat} (hw : what < 11) : f_X8_counts u (nI what) = some (cntA A u.2.2.2.2.1 what) := by
  have hc : (u.2.1 4, u.2.1 5, u.2.1 6, u.2.1 7) = aC A := h.2.2.2.2.2.2
  unfold f_X8_counts cntA
  rw [x8_great h hi.1, gA_gw, x8_whole h hi.1, x8_jams h, q3, q9, Option.bind_some, Option.bind_some, Option.bind_some, Option.bind_some, Option.bind_some, Option.bind_some, h.2.2.2.2.2.1, x8_imb h hi.1 hi.2.2.2.2.2.2.2, Option.bind_some, h.2.1, ← hc]
  have hk : ∀ k, k < 4 → aget u.2.1 142 (4 + nI (5 + k) - 5) = some (u.2.1 (4 + k)) := by
    intro k hk
    have : (4 : Int32) + nI (5 + k) - 5 = nI (4 + k) := by
      rw [show (4 : Int32) = nI 4 from rfl, nI_add, show (5 : Int32) = nI 5 from rfl, pk_sub (by omega)]
      congr 1
      omega
    rw [this, aget_n (by omega) (by omega)]
  rcases (show what = 0 ∨ what = 1 ∨ what = 2 ∨ what = 3 ∨ what = 4 ∨ what = 5 ∨ what = 6 ∨ what = 7 ∨ what = 8 ∨ what = 9 ∨ what = 10 by omega) with rfl | rfl | rfl | rfl | rfl | rfl | rfl | rfl | rfl | rfl | rfl
  · rfl
  · rfl
  · rfl
  · rfl
  · rfl
  · rw [hk 0 (by omega)]; rfl
  · rw [hk 1 (by omega)]; rfl
  · rw [hk 2 (by omega)]; rfl
  · rw [hk 3 (by omega)]; rfl
  · rfl
  · rfl
