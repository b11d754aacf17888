/-! the hash of the whole state, on both sides -/
def chn (h v : Int64) : Int64 := (31 * h) + v
def itg (g : Nat → Int64 → Int64) : Nat → Int64 → Int64
  | 0, h => h
  | n + 1, h => g n (itg g n h)
theorem itg_congr {g g' : Nat → Int64 → Int64} : ∀ {n : Nat} {h : Int64}, (∀ k h, k < n → g k h = g' k h) → itg g n h = itg g' n h := by
  intro n
  induction n with
  | zero => intro h _; rfl
  | succ n ih =>
    intro h H
    show g n (itg g n h) = g' n (itg g' n h)
    rw [ih (fun k h hk => H k h (by omega)), H n _ (by omega)]
theorem cloop {f : Int64 × Int32 → Option ((Int64 × Int32) ⊕ Int64)} (g : Nat → Int64 → Int64) (n : Nat) (hn : n < 5000) (hs : ∀ k h, k < n → f (h, nI k) = some (.inl (g k h, nI (k + 1)))) (he : ∀ h, f (h, nI n) = some (.inr h)) (h : Int64) : lp 5000 f (h, 0) = some (itg g n h) :=
  lp_st f n (fun k => (itg g k h, nI k)) (itg g n h) (fun k hk => hs k _ hk) (he _) hn rfl
def Hd (v z : tX8) (A : AS) (h : Int64) : Prop := z.1 = 0 ∧ R8 z.2.1 A ∧ z.2.2.2.1 = v.2.2.2.1 ∧ z.2.2.2.2.1 = v.2.2.2.2.1 ∧ z.2.2.2.2.2.1 = v.2.2.2.2.2.1 ∧ z.2.2.2.2.2.2.1 = v.2.2.2.2.2.2.1 ∧ z.2.2.2.2.2.2.2.2.2.2.2.2.2.2.2 = h
theorem Hd.hash {v z : tX8} {A : AS} {h : Int64} (H : Hd v z A h) (x : Int64) : Hd v (f_X8_hashes z x) A (chn h x) := by
  obtain ⟨h1, h2, h3, h4, h5, h6, h7⟩ := H
  refine ⟨h1, h2, h3, h4, h5, h6, ?_⟩
  rw [← h7]
  rfl
theorem hloop {v : tX8} {A : AS} {f : Int32 × tX8 → Option ((Int32 × tX8) ⊕ tX8)} (g : Nat → Int64 → Int64) (n : Nat) (hn : n < 5000) (hs : ∀ k z h, k < n → Hd v z A h → ∃ z', f (nI k, z) = some (.inl (nI (k + 1), z')) ∧ Hd v z' A (g k h)) (he : ∀ z h, Hd v z A h → f (nI n, z) = some (.inr z)) {z : tX8} {h : Int64} (hz : Hd v z A h) : ∃ z', lp 5000 f (0, z) = some z' ∧ Hd v z' A (itg g n h) := by
  refine lp_run f n (fun k s => s.1 = nI k ∧ Hd v s.2 A (itg g k h)) _ (fun k s hk hs' => ?_) 5000 0 (0, z) (by omega) (by omega) ⟨rfl, hz⟩
  obtain ⟨s1, s2⟩ := s
  obtain ⟨a1, a2⟩ := hs'
  dsimp only at a1 a2
  subst a1
  rcases Nat.lt_or_ge k n with c | c
  · right
    obtain ⟨z', e1, e2⟩ := hs k s2 _ c a2
    exact ⟨c, _, e1, rfl, e2⟩
  · left
    have : k = n := by omega
    subst this
    exact ⟨_, he s2 _ a2, a2⟩
def g1 (A : AS) (m : Int32) (k : Nat) (h : Int64) : Int64 := chn h (Int32.toInt64 (cntA A m k))
def stg (A : AS) (k : Nat) : Int32 := if k = 0 then nI (aLim A) else if k = 1 then nI (aCap A) else nI (aRule A)
def g2 (A : AS) (k : Nat) (h : Int64) : Int64 := chn h (Int32.toInt64 (stg A k))
def gp (A : AS) (d k : Nat) (h : Int64) : Int64 := chn h (Int32.toInt64 (propD A d k))
def g3 (A : AS) (d : Nat) (h : Int64) : Int64 := chn (chn (itg (gp A d) 6 h) (Int32.toInt64 (zI (wayA A d)))) (Int32.toInt64 (nI (gw (tilt (aL A)) d 5)))
def num (A : AS) (k : Nat) : Int32 := ((aL A).getD k (0, 0, 0)).1
def gq (A : AS) (k w : Nat) (h : Int64) : Int64 := chn h (Int32.toInt64 (propA (aL A) (num A k) w))
def g4 (A : AS) (k : Nat) (h : Int64) : Int64 := chn (itg (gq A k) 2 (chn h (Int32.toInt64 (num A k)))) (Int32.toInt64 (nI (reasonA A (num A k))))
def go (A : AS) (t : List Nat) (rule k : Nat) (h : Int64) : Int64 := chn h (Int32.toInt64 (outA A t rule k))
def g6 (A : AS) (t : List Nat) (rule : Nat) (h : Int64) : Int64 := itg (go A t rule) 4 h
def g6m (A : AS) (t : List Nat) (k : Nat) (h : Int64) : Int64 := chn h (Int32.toInt64 (outA A t (k / 4) (k % 4)))
def g8 (t : List Nat) (k : Nat) (h : Int64) : Int64 := chn h (Int32.toInt64 (nI (t.getD k 0)))
theorem g6_eq (A : AS) (t : List Nat) (h : Int64) : itg (g6m A t) 12 h = itg (g6 A t) 3 h := by
  unfold g6m g6 go
  generalize outA A t = F
  rfl
theorem stg_at {s : zF} {A : AS} (h : R8 s A) {k : Nat} (hk : k < 3) : s k = stg A k := by
  rcases (show k = 0 ∨ k = 1 ∨ k = 2 by omega) with rfl | rfl | rfl
  · exact h.2.2.2.2.1.1
  · exact h.2.2.2.2.1.2.1
  · exact h.2.2.2.2.1.2.2
/-! the class -/
theorem x7_h1 {u : tX7} {A : AS} {H : List AS} (hu : R6 u.1 A) (hi : Inv A) (hx : u.2.2.1.2.2 = nI H.length) {s : zF} (hv : R8 s A) (h : Int64) : f_X7_hashNumbers u h = some (itg (g2 A) 3 (itg (g1 A (nI H.length)) 11 h)) := by
  unfold f_X7_hashNumbers
  rw [cloop (g1 A (nI H.length)) 11 (by omega) (fun k h hk => by
    unfold b_X7_hashNumbers_5
    dsimp only
    rw [if_neg (show ¬ (11 : Int32) ≤ nI k from nI_ge (b := 11) hk (by omega)), x7_count hu hi hk, hx, Option.bind_some, nI_1]
    rfl) (fun h => by
    unfold b_X7_hashNumbers_5
    dsimp only
    rw [if_pos (show (11 : Int32) ≤ nI 11 by decide)]), Option.bind_some, cloop (g2 A) 3 (by omega) (fun k h hk => by
    unfold b_X7_hashNumbers_33
    dsimp only
    rw [if_neg (show ¬ (3 : Int32) ≤ nI k from nI_ge (b := 3) hk (by omega)), at_n hk (by omega), set_at hu hv hk, stg_at hv hk, nI_1]
    rfl) (fun h => by
    unfold b_X7_hashNumbers_33
    dsimp only
    rw [if_pos (show (3 : Int32) ≤ nI 3 by decide)])]
  rfl
theorem x7_h3 {u : tX7} {A : AS} (hu : R6 u.1 A) (hi : Inv A) (h : Int64) : f_X7_hashDrawers u h = some (itg (g3 A) 12 h) := by
  unfold f_X7_hashDrawers
  rw [cloop (g3 A) 12 (by omega) (fun d h hd => by
    unfold b_X7_hashDrawers_5
    dsimp only
    rw [if_neg (g12 hd), cloop (gp A d) 6 (by omega) (fun k h hk => by
      unfold b_X7_hashDrawers_15
      dsimp only
      rw [if_neg (show ¬ (6 : Int32) ≤ nI k from nI_ge (b := 6) hk (by omega)), x6_prop hu hi hd hk, Option.bind_some, nI_1]
      rfl) (fun h => by
      unfold b_X7_hashDrawers_15
      dsimp only
      rw [if_pos (show (6 : Int32) ≤ nI 6 by decide)]), Option.bind_some, x6_way hu hi hd, Option.bind_some, show f_X0_greatestWith u.1.1 (nI d) 5 = some (nI (gw (tilt (aL A)) d 5)) from x0_great hu.1 hi.1.Tb hd 5 (by omega), Option.bind_some, nI_1]
    rfl) (fun h => by
    unfold b_X7_hashDrawers_5
    dsimp only
    rw [if_pos e12])]
  rfl
theorem num_at {A : AS} {k : Nat} (hk : k < (aL A).length) : num A k = (aL A)[k].1 := by
  unfold num
  rw [List.getD_eq_getElem?_getD, List.getElem?_eq_getElem hk]
  rfl
theorem x7_h4 {u : tX7} {A : AS} (hu : R6 u.1 A) (hi : Inv A) (h : Int64) : f_X7_hashItems u h = some (itg (g4 A) (aL A).length h) := by
  have hl := hi.1.1
  unfold f_X7_hashItems
  rw [cloop (g4 A) (aL A).length (by omega) (fun k h hk => by
    have hn : u.1.2.1.1 k = num A k := by
      rw [num_at hk]
      exact (hu.2.1.1 k _ (List.getElem?_eq_getElem hk)).1
    unfold b_X7_hashItems_5
    dsimp only
    rw [hu.2.1.2.1, if_neg (nI_ge hk (by omega)), at_n (by omega) (by omega), hn, cloop (gq A k) 2 (by omega) (fun w h hw => by
      unfold b_X7_hashItems_48
      dsimp only
      rw [if_neg (show ¬ (2 : Int32) ≤ nI w from nI_ge (b := 2) hw (by omega)), at_n (by omega) (by omega), hn, x3_prop hu.2.1 hl _ (by omega), Option.bind_some, nI_1]
      rfl) (fun h => by
      unfold b_X7_hashItems_48
      dsimp only
      rw [if_pos (show (2 : Int32) ≤ nI 2 by decide)]), Option.bind_some, x6_reason hu hi, Option.bind_some, nI_1]
    rfl) (fun h => by
    unfold b_X7_hashItems_5
    dsimp only
    rw [hu.2.1.2.1, if_pos (nI_le (Nat.le_refl _) (by omega))])]
  rfl
theorem x7_h8 {u : tX7} {t : List Nat} (ht : Rt u.2.2.2.1 t) (hl : t.length ≤ 60) (h : Int64) : f_X7_hashText u h = some (itg (g8 t) t.length (chn h (Int32.toInt64 (nI t.length)))) := by
  unfold f_X7_hashText
  rw [ht.2, cloop (g8 t) t.length (by omega) (fun k h hk => by
    unfold b_X7_hashText_16
    dsimp only
    rw [ht.2, if_neg (nI_ge hk (by omega)), at_n (by omega) (by omega), ht.1 k _ (List.getElem?_eq_getElem hk), nI_1]
    unfold g8
    rw [List.getD_eq_getElem?_getD, List.getElem?_eq_getElem hk]
    rfl) (fun h => by
    unfold b_X7_hashText_16
    dsimp only
    rw [ht.2, if_pos (nI_le (Nat.le_refl _) (by omega))])]
  rfl
theorem x7_h6 {u : tX7} {A : AS} {t : List Nat} (hu : R6 u.1 A) (hi : Inv A) (ht : Rt u.2.2.2.1 t) (hl : t.length ≤ 60) (hc : ∀ x ∈ t, x < 1000) (h : Int64) : ∃ u', lp 5000 b_X7_digest_37 (h, 0, u) = some (itg (g6 A t) 3 h, u') ∧ u'.1 = u.1 ∧ u'.2.2.1 = u.2.2.1 ∧ Rt u'.2.2.2.1 t := by
  obtain ⟨e, e1, e2, e3, e4, e5⟩ := lp_run b_X7_digest_37 3 (fun k s => s.1 = itg (g6 A t) k h ∧ s.2.1 = nI k ∧ s.2.2.1 = u.1 ∧ s.2.2.2.2.1 = u.2.2.1 ∧ Rt s.2.2.2.2.2.1 t) (fun e => e.1 = itg (g6 A t) 3 h ∧ e.2.1 = u.1 ∧ e.2.2.2.1 = u.2.2.1 ∧ Rt e.2.2.2.2.1 t) (fun k s hk hs => by
    obtain ⟨s1, s2, s3⟩ := s
    obtain ⟨a1, a2, a3, a4, a5⟩ := hs
    dsimp only at a1 a2 a3 a4 a5
    subst a1 a2
    unfold b_X7_digest_37
    dsimp only
    rcases Nat.lt_or_ge k 3 with c | c
    · right
      refine ⟨c, ?_⟩
      obtain ⟨r, r1, r2, r3, r4, r5⟩ := x7_try (u := s3) (by rw [a3]; exact hu) hi a5 hl hc (rule := k) (by omega)
      rw [if_neg (show ¬ (2 : Int32) < nI k from nI_nlt (a := 2) (by omega) (by omega)), r1, Option.bind_some, cloop (go A t k) 4 (by omega) (fun w h hw => by
        unfold b_X7_digest_52
        dsimp only
        rw [if_neg (show ¬ (4 : Int32) ≤ nI w from nI_ge (b := 4) hw (by omega)), r5 w hw, Option.bind_some, nI_1]
        rfl) (fun h => by
        unfold b_X7_digest_52
        dsimp only
        rw [if_pos (show (4 : Int32) ≤ nI 4 by decide)]), Option.bind_some, nI_1]
      exact ⟨_, rfl, rfl, rfl, r2.trans a3, r3.trans a4, r4⟩
    · left
      have : k = 3 := by omega
      subst this
      rw [if_pos (show (2 : Int32) < nI 3 by decide)]
      exact ⟨_, rfl, rfl, a3, a4, a5⟩) 5000 0 (h, 0, u) (by omega) (by omega) ⟨rfl, rfl, rfl, rfl, ht⟩
  obtain ⟨x1, x2⟩ := e
  dsimp only at e2 e3 e4 e5
  subst e2
  exact ⟨x2, e1, e3, e4, e5⟩
def hA (A : AS) (m : Int32) (t : List Nat) : Int64 := itg (g8 t) t.length (chn (chn (itg (g6 A t) 3 (chn (itg (g4 A) (aL A).length (itg (g3 A) 12 (itg (g2 A) 3 (itg (g1 A m) 11 2963)))) (Int32.toInt64 (fB (bb A 7 12))))) (UInt64.toInt64 (evA A))) (Int32.toInt64 (nI t.length)))
theorem x7_digest {u : tX7} {A : AS} {H : List AS} {t : List Nat} (hu : R6 u.1 A) (hi : Inv A) (hx : u.2.2.1.2.2 = nI H.length) (ht : Rt u.2.2.2.1 t) (hl : t.length ≤ 60) (hc : ∀ x ∈ t, x < 1000) {s : zF} (hv : R8 s A) : ∃ u', f_X7_digest u = some (hA A (nI H.length) t, u') ∧ u'.1 = u.1 ∧ u'.2.2.1 = u.2.2.1 ∧ Rt u'.2.2.2.1 t := by
  obtain ⟨u', e1, e2, e3, e4⟩ := x7_h6 hu hi ht hl hc (f_X7_chained (itg (g4 A) (aL A).length (itg (g3 A) 12 (itg (g2 A) 3 (itg (g1 A (nI H.length)) 11 2963)))) (Int32.toInt64 (fB (bb A 7 12))))
  have hok := okd_use (evA_ok hi)
  unfold f_X7_digest
  rw [x7_h1 hu hi hx hv, Option.bind_some, x7_h3 hu hi, Option.bind_some, x7_h4 hu hi, Option.bind_some, show f_X6_bestFor u.1 7 = some (fB (bb A 7 12)) from x6_best hu hi (x := 7) (by omega), Option.bind_some, e1, Option.bind_some]
  dsimp only
  rw [x7_even (u := u') (by rw [e2]; exact hu) hi, Option.bind_some, hok.2.1, Option.bind_some, x7_h8 e4 hl, Option.bind_some]
  exact ⟨u', rfl, e2, e3, e4⟩
/-! the reference -/
theorem fd_self {L : List It} (hp : L.Pairwise (fun x y => x.1 ≠ y.1)) {k : Nat} {x : It} (hx : L[k]? = some x) : fd L x.1 = some x := by
  obtain ⟨hk, e⟩ := List.getElem?_eq_some_iff.mp hx
  have hix : ix L x.1 = some k := ix_some.mpr ⟨hk, by rw [e], fun j hj e2 => by
    rw [← e] at e2
    exact List.pairwise_iff_getElem.mp hp j k (by omega) hk hj e2⟩
  rw [fd_ix, hix, Option.bind_some, hx]
theorem o_digest : op_digest RR := by
  intro u v hR
  obtain ⟨A, H, t, ⟨hu, hv, hi⟩, ⟨hx, hm, hk⟩, ⟨ht, hmt, hl, hc⟩⟩ := id hR
  obtain ⟨u', q1, q2, q3, q4⟩ := x7_digest (H := H) hu hi hx.1 ht hl hc hv
  have hi1 := hi.1
  have hll := hi1.1
  have hok := okd_use (evA_ok hi)
  have hmany : ∀ {z : tX8} {h : Int64}, Hd v z A h → z.2.2.2.2.1 = nI H.length := fun hz => hz.2.2.2.1.trans hm.1
  have z0 : Hd v (0, v.2.1, v.2.2.1, v.2.2.2.1, v.2.2.2.2.1, v.2.2.2.2.2.1, v.2.2.2.2.2.2.1, v.2.2.2.2.2.2.2.1, v.2.2.2.2.2.2.2.2.1, v.2.2.2.2.2.2.2.2.2.1, v.2.2.2.2.2.2.2.2.2.2.1, v.2.2.2.2.2.2.2.2.2.2.2.1, v.2.2.2.2.2.2.2.2.2.2.2.2.1, v.2.2.2.2.2.2.2.2.2.2.2.2.2.1, v.2.2.2.2.2.2.2.2.2.2.2.2.2.2.1, 2963) A 2963 := ⟨rfl, hv, rfl, rfl, rfl, rfl, rfl⟩
  obtain ⟨z1, a1, b1⟩ := hloop (f := b_X8_digest_14) (g1 A (nI H.length)) 11 (by omega) (fun k z h hk hz => by
    unfold b_X8_digest_14
    dsimp only
    rw [if_neg (show ¬ (11 : Int32) ≤ nI k from nI_ge (b := 11) hk (by omega)), x8_count hz.2.1 hi hk, hmany hz, Option.bind_some, Option.bind_some, nI_1]
    exact ⟨_, rfl, hz.hash _⟩) (fun z h hz => by
    unfold b_X8_digest_14
    dsimp only
    rw [if_pos (show (11 : Int32) ≤ nI 11 by decide)]) z0
  obtain ⟨z2, a2, b2⟩ := hloop (f := b_X8_digest_38) (g2 A) 3 (by omega) (fun k z h hk hz => by
    unfold b_X8_digest_38
    dsimp only
    rw [if_neg (show ¬ (3 : Int32) ≤ nI k from nI_ge (b := 3) hk (by omega)), aget_n (by omega) (by omega), stg_at hz.2.1 hk, Option.bind_some, Option.bind_some, nI_1]
    exact ⟨_, rfl, hz.hash _⟩) (fun z h hz => by
    unfold b_X8_digest_38
    dsimp only
    rw [if_pos (show (3 : Int32) ≤ nI 3 by decide)]) b1
  obtain ⟨z3, a3, b3⟩ := hloop (f := b_X8_digest_62) (g3 A) 12 (by omega) (fun d z h hd hz => by
    obtain ⟨y, c1, c2⟩ := hloop (f := b_X8_digest_70 (nI d, z)) (gp A d) 6 (by omega) (fun k z' h hk hz' => by
      unfold b_X8_digest_70
      dsimp only
      rw [if_neg (show ¬ (6 : Int32) ≤ nI k from nI_ge (b := 6) hk (by omega)), x8_prop hz'.2.1 hi hd hk, Option.bind_some, Option.bind_some, nI_1]
      exact ⟨_, rfl, hz'.hash _⟩) (fun z' h hz' => by
      unfold b_X8_digest_70
      dsimp only
      rw [if_pos (show (6 : Int32) ≤ nI 6 by decide)]) hz
    have c3 := c2.hash (Int32.toInt64 (zI (wayA A d)))
    unfold b_X8_digest_62
    dsimp only
    rw [if_neg (g12 hd), c1, Option.bind_some, x8_way c2.2.1 hi hd, Option.bind_some, Option.bind_some, show f_X8_greatestWith (f_X8_hashes y (Int32.toInt64 (zI (wayA A d)))) (nI d) 5 = some (nI (gw (tilt (aL A)) d 5)) from x8_gw (x := 5) c3.2.1 hi1 hd (by omega), Option.bind_some, Option.bind_some, nI_1]
    exact ⟨_, rfl, c3.hash _⟩) (fun z h hz => by
    unfold b_X8_digest_62
    dsimp only
    rw [if_pos e12]) b2
  obtain ⟨z4, a4, b4⟩ := hloop (f := b_X8_digest_122) (g4 A) (aL A).length (by omega) (fun k z h hk hz => by
    have hxk := List.getElem?_eq_getElem hk
    have hf := fd_self hi1.2.2 hxk
    have hn := num_at hk
    have hp : ∀ w, propA (aL A) (num A k) w = if w = 0 then nI (aL A)[k].2.1 else nI (aL A)[k].2.2 := by
      intro w
      unfold propA
      rw [hn, hf]
    obtain ⟨y, c1, c2⟩ := hloop (f := b_X8_digest_135 (nI k, z)) (fun w h => chn h (Int32.toInt64 (if w = 0 then num A k else if w = 1 then nI (aL A)[k].2.1 else nI (aL A)[k].2.2))) 3 (by omega) (fun w z' h hw hz' => by
      have hof := hz'.2.1.1 k _ hxk
      have hv3 : z'.2.1 (22 + 3 * k + w) = (if w = 0 then num A k else if w = 1 then nI (aL A)[k].2.1 else nI (aL A)[k].2.2) := by
        rcases (show w = 0 ∨ w = 1 ∨ w = 2 by omega) with rfl | rfl | rfl
        · rw [hn]
          exact hof.1
        · exact hof.2.1
        · exact hof.2.2
      unfold b_X8_digest_135
      dsimp only
      rw [if_neg (show ¬ (3 : Int32) ≤ nI w from nI_ge (b := 3) hw (by omega)), x8_of z' (by omega) (by omega), hv3, Option.bind_some, Option.bind_some, nI_1]
      exact ⟨_, rfl, hz'.hash _⟩) (fun z' h hz' => by
      unfold b_X8_digest_135
      dsimp only
      rw [if_pos (show (3 : Int32) ≤ nI 3 by decide)]) hz
    have e4 : itg (fun w h => chn h (Int32.toInt64 (if w = 0 then num A k else if w = 1 then nI (aL A)[k].2.1 else nI (aL A)[k].2.2))) 3 h = itg (gq A k) 2 (chn h (Int32.toInt64 (num A k))) := by
      unfold gq
      have p0 := hp 0
      have p1 := hp 1
      rw [if_pos rfl] at p0
      rw [if_neg (by decide)] at p1
      show chn (chn (chn h _) _) _ = chn (chn (chn h _) (Int32.toInt64 (propA (aL A) (num A k) 0))) (Int32.toInt64 (propA (aL A) (num A k) 1))
      rw [p0, p1]
      rfl
    rw [e4] at c2
    unfold b_X8_digest_122
    dsimp only
    rw [q9, Option.bind_some, hz.2.1.2.1, if_neg (nI_ge hk (by omega)), c1, Option.bind_some, x8_of0 c2.2.1 (by omega) hxk, Option.bind_some, x8_reason c2.2.1 hi, Option.bind_some, Option.bind_some, nI_1, ← hn]
    exact ⟨_, rfl, c2.hash _⟩) (fun z h hz => by
    unfold b_X8_digest_122
    dsimp only
    rw [q9, Option.bind_some, hz.2.1.2.1, if_pos (nI_le (Nat.le_refl _) (by omega))]) b3
  have b5 := b4.hash (Int32.toInt64 (fB (bb A 7 12)))
  obtain ⟨z6, a6, b6⟩ := hloop (f := b_X8_digest_191) (g6m A t) 12 (by omega) (fun k z h hk hz => by
    have hmt' : Mt z t := ⟨fun j x hj => by rw [hz.2.2.2.2.1]; exact hmt.1 j x hj, hz.2.2.2.2.2.1.trans hmt.2⟩
    obtain ⟨y, c1, c2, c3, c4, c5, c6, c7, c8⟩ := x8_picked hz.2.1 hi hmt' hl hc (rule := k / 4) (what := k % 4) (by omega) (by omega)
    have hy : Hd v y A h := ⟨c2.trans hz.1, c3, c4.trans hz.2.2.1, c5.trans hz.2.2.2.1, c6.trans hz.2.2.2.2.1, c7.trans hz.2.2.2.2.2.1, c8.trans hz.2.2.2.2.2.2⟩
    have r1 : nI k / 4 = nI (k / 4) := pk_div (d := 4) (by omega) (by omega) (by omega)
    have r2 : i_rem (nI k) 4 = nI (k % 4) := by
      unfold i_rem
      exact pk_rem (d := 4) (by omega) (by omega) (by omega)
    unfold b_X8_digest_191
    dsimp only
    rw [if_neg (g12 hk), r1, r2, c1, Option.bind_some, Option.bind_some, nI_1]
    exact ⟨_, rfl, hy.hash _⟩) (fun z h hz => by
    unfold b_X8_digest_191
    dsimp only
    rw [if_pos e12]) b5
  rw [g6_eq] at b6
  have b7 := b6.hash (UInt64.toInt64 (evA A))
  have b8 := b7.hash (Int32.toInt64 (nI t.length))
  obtain ⟨z9, a9, b9⟩ := hloop (f := b_X8_digest_240) (g8 t) t.length (by omega) (fun k z h hk hz => by
    have hbuf : z.2.2.2.2.2.1 k = nI (t.getD k 0) := by
      rw [hz.2.2.2.2.1, hmt.1 k _ (List.getElem?_eq_getElem hk), List.getD_eq_getElem?_getD, List.getElem?_eq_getElem hk]
      rfl
    unfold b_X8_digest_240
    dsimp only
    rw [hz.2.2.2.2.2.1, hmt.2, if_neg (nI_ge hk (by omega)), aget_n (by omega) (by omega), hbuf, Option.bind_some, Option.bind_some, nI_1]
    exact ⟨_, rfl, hz.hash _⟩) (fun z h hz => by
    unfold b_X8_digest_240
    dsimp only
    rw [hz.2.2.2.2.2.1, hmt.2, if_pos (nI_le (Nat.le_refl _) (by omega))]) b8
  have h8 : f_X8_digest v = some (hA A (nI H.length) t, z9) := by
    unfold f_X8_digest
    rw [a1, Option.bind_some, a2, Option.bind_some, a3, Option.bind_some, a4, Option.bind_some, show f_X8_drawerFor z4 7 = some (fB (bb A 7 12)) from x8_best b4.2.1 hi (x := 7) (by omega), Option.bind_some, Option.bind_some, a6, Option.bind_some, x8_even b6.2.1 hi, Option.bind_some, hok.2.2, Option.bind_some, Option.bind_some, show (f_X8_hashes z6 (UInt64.toInt64 (evA A))).2.2.2.2.2.2.1 = nI t.length from b7.2.2.2.2.2.1.trans hmt.2, a9, Option.bind_some, b9.2.2.2.2.2.2]
    rfl
  obtain ⟨y1, y2, y3, y4, y5, y6, _⟩ := b9
  generalize hA A (nI H.length) t = y at q1 h8
  refine ⟨_, _, q1, h8, rfl, A, H, t, ⟨?_, y2, hi⟩, ⟨?_, ?_, hk⟩, ⟨q4, ⟨?_, ?_⟩, hl, hc⟩⟩
  · show R6 u'.1 A
    rw [q2]
    exact hu
  · show HX u'.2.2.1 H
    rw [q3]
    exact hx
  · show HM z9.2.2.2.1 z9.2.2.2.2.1 H
    rw [y3, y4]
    exact hm
  · show ∀ k x, t[k]? = some x → z9.2.2.2.2.2.1 k = nI x
    rw [y5]
    exact hmt.1
  · show z9.2.2.2.2.2.2.1 = nI t.length
    rw [y6]
    exact hmt.2
theorem ops_RR : zOps RR := ⟨o_put, o_move, o_pick, o_turn, o_jam, o_set, o_append, o_clearBuffer, o_firstError, o_pickAll, o_undo, o_drawer, o_item, o_count, o_setting, o_refusal, o_way, o_ifPut, o_bestDrawer, o_ifPicked, o_evenness, o_digest⟩
