/-! batches in the buffer, on both sides -/
theorem gb_map {b : List Nat} {k : Nat} (h : k < b.length) : gb (b.map nI) k = nI b[k] := gb_get (by rw [List.getElem?_map, List.getElem?_eq_getElem h]; rfl)
theorem Bx_of {t b : List Nat} (h : bt t = some b) : Bx (b.map nI) := by
  obtain ⟨h1, h2, h3, h4⟩ := bt_ok h
  refine ⟨by rw [List.length_map]; exact h1, by rw [List.length_map]; exact h2, fun i j hi hj e => ?_, fun k hk => ?_⟩
  · rw [List.length_map] at hi hj
    rw [gb_map hi, gb_map hj] at e
    have e2 := (nI_eq (by have := h4 _ (List.getElem_mem hi); omega) (by have := h4 _ (List.getElem_mem hj); omega)).mp e
    rcases Nat.lt_trichotomy i j with c | c | c
    · exact absurd e2 (List.pairwise_iff_getElem.mp h3 i j hi hj c)
    · exact c
    · exact absurd e2.symm (List.pairwise_iff_getElem.mp h3 j i hj hi c)
  · rw [List.length_map] at hk
    rw [gb_map hk]
    exact nI_nm1 (by have := h4 _ (List.getElem_mem hk); omega)
theorem told_gb {b : List Nat} {f : zF} (h : ∀ k x, b[k]? = some x → f k = nI x) : ∀ k, k < (b.map nI).length → f k = gb (b.map nI) k := by
  intro k hk
  rw [List.length_map] at hk
  rw [gb_map hk]
  exact h k _ (List.getElem?_eq_getElem hk)
def outA (A : AS) (t : List Nat) (rule what : Nat) : Int32 := match bt t with
  | none => -1
  | some b => if what = 0 then nI (batA A (b.map nI) rule).1 else if what = 1 then (aC (batA A (b.map nI) rule).2).1 - (aC A).1 else if what = 2 then nI (aW (batA A (b.map nI) rule).2) else nI (gw (tilt (aL (batA A (b.map nI) rule).2)) 0 0)
theorem x7_try {u : tX7} {A : AS} {t : List Nat} (hu : R6 u.1 A) (hi : Inv A) (ht : Rt u.2.2.2.1 t) (hl : t.length ≤ 60) (hc : ∀ x ∈ t, x < 1000) {rule : Nat} (hr : rule ≤ 2) : ∃ e, f_X7_tryBatch u (nI rule) = some e ∧ e.2.1 = u.1 ∧ e.2.2.2.1 = u.2.2.1 ∧ Rt e.2.2.2.2.1 t ∧ ∀ what, what < 4 → f_X7_outcomeOf e.2 e.1 (nI what) = some (outA A t rule what) := by
  obtain ⟨e, e1, e2, e3⟩ := x1_batch ht hl hc
  unfold f_X7_tryBatch outA
  rw [e1, Option.bind_some]
  cases q : bt t with
  | none =>
    rw [q] at e3
    dsimp only at e3
    rw [e3, if_neg (by decide)]
    exact ⟨_, rfl, rfl, rfl, e2, fun what hw => rfl⟩
  | some b =>
    rw [q] at e3
    obtain ⟨f1, f2, f3⟩ := e3
    have hb := Bx_of q
    obtain ⟨w, w1, w2⟩ := x6_copy (u := u.2.1) hu hi
    obtain ⟨s', v', g1, g2⟩ := x5_batch (u := u.2.2.2.2) w2 hi hb (told_gb f2) hr
    rw [List.length_map] at g1
    have hi' := batA_Inv hi (b.map nI) rule
    have hbl := batA_le (A := A) hb.2.1 rule
    have hb6 := hb.2.1
    rw [f1, if_pos rfl, w1, Option.bind_some, f3, g1, Option.bind_some]
    refine ⟨_, rfl, rfl, rfl, e2, fun what hw => ?_⟩
    dsimp only
    generalize hB : batA A (b.map nI) rule = B at g1 g2 hi' hbl ⊢
    unfold f_X7_outcomeOf
    dsimp only
    rw [if_neg (nI_nm1 (by omega)), show (0 : Int32) = nI 0 from rfl, x0_great g2.1 hi'.1.Tb (d := 0) (by omega) 0 (by omega), Option.bind_some]
    have c1 : v'.2.2.2.2.2.1 = (aC B.2).1 := congrArg Prod.fst g2.2.2.2.2.2
    have c2 : u.1.2.2.2.2.2.1 = (aC A).1 := congrArg Prod.fst hu.2.2.2.2.2
    rw [c1, c2, g2.2.2.2.2.1]
    generalize nI (gw (tilt (aL B.2)) 0 0) = z
    rcases (show what = 0 ∨ what = 1 ∨ what = 2 ∨ what = 3 by omega) with rfl | rfl | rfl | rfl <;> rfl
theorem x8_picked {v : tX8} {A : AS} {t : List Nat} (hv : R8 v.2.1 A) (hi : Inv A) (hmt : Mt v t) (hl : t.length ≤ 60) (hc : ∀ x ∈ t, x < 1000) {rule what : Nat} (hr : rule ≤ 2) (hw : what < 4) : ∃ z, f_X8_picked v (nI rule) (nI what) = some (outA A t rule what, z) ∧ z.1 = v.1 ∧ R8 z.2.1 A ∧ z.2.2.2.1 = v.2.2.2.1 ∧ z.2.2.2.2.1 = v.2.2.2.2.1 ∧ z.2.2.2.2.2.1 = v.2.2.2.2.2.1 ∧ z.2.2.2.2.2.2.1 = v.2.2.2.2.2.2.1 ∧ z.2.2.2.2.2.2.2.2.2.2.2.2.2.2.2 = v.2.2.2.2.2.2.2.2.2.2.2.2.2.2.2 := by
  obtain ⟨a, w, f, m, e1, e2, e3⟩ := x8_reads hmt hl hc
  unfold f_X8_picked outA
  rw [e1, Option.bind_some]
  cases q : bt t with
  | none =>
    rw [q] at e3
    dsimp only at e3
    subst e3
    dsimp only
    rw [if_neg (by decide)]
    exact ⟨_, rfl, rfl, hv, rfl, rfl, rfl, rfl, rfl⟩
  | some b =>
    rw [q] at e3
    obtain ⟨f1, f2, f3⟩ := e3
    subst f1
    have hb := Bx_of q
    have hb6 := hb.2.1
    dsimp only
    rw [if_pos rfl, show b_X8_picked_15 (v.1, v.2.1, v.2.2.1, v.2.2.2.1, v.2.2.2.2.1, v.2.2.2.2.2.1, v.2.2.2.2.2.2.1, a, true, f, m, v.2.2.2.2.2.2.2.2.2.2.2.1, v.2.2.2.2.2.2.2.2.2.2.2.2.1, v.2.2.2.2.2.2.2.2.2.2.2.2.2.1, v.2.2.2.2.2.2.2.2.2.2.2.2.2.2.1, v.2.2.2.2.2.2.2.2.2.2.2.2.2.2.2) = cpl v.2.1 142 142 from rfl, cpl_run (Nat.le_refl 142) (by omega) (show (142 : Int32) = nI 142 from rfl), Option.bind_some]
    obtain ⟨z, g1, g2, g3⟩ := x8_batch (u := (v.1, v.2.1, (cpy 142 v.2.1 v.2.2.1), v.2.2.2.1, v.2.2.2.2.1, v.2.2.2.2.2.1, v.2.2.2.2.2.2.1, a, true, f, m, v.2.2.2.2.2.2.2.2.2.2.2.1, v.2.2.2.2.2.2.2.2.2.2.2.2.1, v.2.2.2.2.2.2.2.2.2.2.2.2.2.1, v.2.2.2.2.2.2.2.2.2.2.2.2.2.2.1, v.2.2.2.2.2.2.2.2.2.2.2.2.2.2.2)) hv hi hb (by rw [List.length_map]; exact f3) (told_gb f2) hr
    replace g1 : f_X8_picksBatch (v.1, v.2.1, (cpy 142 v.2.1 v.2.2.1), v.2.2.2.1, v.2.2.2.2.1, v.2.2.2.2.2.1, v.2.2.2.2.2.2.1, a, true, f, m, v.2.2.2.2.2.2.2.2.2.2.2.1, v.2.2.2.2.2.2.2.2.2.2.2.2.1, v.2.2.2.2.2.2.2.2.2.2.2.2.2.1, v.2.2.2.2.2.2.2.2.2.2.2.2.2.2.1, v.2.2.2.2.2.2.2.2.2.2.2.2.2.2.2) (nI rule) = some (nI (batA A (b.map nI) rule).1, z) := g1
    have hi' := batA_Inv hi (b.map nI) rule
    rw [g1, Option.bind_some]
    generalize hB : batA A (b.map nI) rule = B at g1 g2 hi' ⊢
    obtain ⟨k1, k2, k3, k4, k5, k6, k7⟩ := g3
    have k2' : z.2.2.1 = cpy 142 v.2.1 v.2.2.1 := k2
    have hgr := x8_great g2 hi'.1
    rw [gA_gw] at hgr
    have c1 : z.2.1 4 = (aC B.2).1 := row_steps g2
    have c2 : z.2.2.1 4 = (aC A).1 := by
      rw [k2', cpy_at (by omega)]
      exact row_steps hv
    have hj : (if nI what = (0 : Int32) then some (nI B.1) else if nI what = (1 : Int32) then (aget z.2.1 142 4).bind fun r12 => (aget z.2.2.1 142 4).bind fun r13 => some (r12 - r13) else if nI what = (2 : Int32) then (aget z.2.1 142 3).bind fun r11 => some r11 else (f_X8_greatest z).bind fun r10 => some r10) = some (if what = 0 then nI B.1 else if what = 1 then (aC B.2).1 - (aC A).1 else if what = 2 then nI (aW B.2) else nI (gw (tilt (aL B.2)) 0 0)) := by
      rw [q4, q4, q3, hgr, Option.bind_some, Option.bind_some, Option.bind_some, Option.bind_some, c1, c2, g2.2.2.2.2.2.1]
      generalize nI (gw (tilt (aL B.2)) 0 0) = y
      rcases (show what = 0 ∨ what = 1 ∨ what = 2 ∨ what = 3 by omega) with rfl | rfl | rfl | rfl <;> rfl
    dsimp only
    rw [hj, Option.bind_some, show b_X8_picked_98 (nI B.1, z) = cpl z.2.2.1 142 142 from rfl, cpl_run (Nat.le_refl 142) (by omega) (show (142 : Int32) = nI 142 from rfl), Option.bind_some]
    refine ⟨_, rfl, k1, ?_, k3, k4, k5, k6, k7⟩
    refine hv.congr hi.1.1 (fun k hk => ?_)
    show cpy 142 z.2.2.1 z.2.1 k = v.2.1 k
    rw [cpy_at hk, k2', cpy_at hk]
theorem o_pickAll : op_pickAll RR := by
  intro u v hR
  obtain ⟨A, H, t, ⟨hu, hv, hi⟩, ⟨hx, hm, hk⟩, ⟨ht, hmt, hl, hc⟩⟩ := id hR
  obtain ⟨e, e1, e2, e3⟩ := x1_batch ht hl hc
  obtain ⟨a, w, f, m, e4, e5, e6⟩ := x8_reads (u := (0, v.2.1, v.2.2.1, v.2.2.2.1, v.2.2.2.2.1, v.2.2.2.2.2.1, v.2.2.2.2.2.2.1, v.2.2.2.2.2.2.2.1, v.2.2.2.2.2.2.2.2.1, v.2.2.2.2.2.2.2.2.2.1, v.2.2.2.2.2.2.2.2.2.2.1, v.2.2.2.2.2.2.2.2.2.2.2.1, v.2.2.2.2.2.2.2.2.2.2.2.2.1, v.2.2.2.2.2.2.2.2.2.2.2.2.2.1, v.2.2.2.2.2.2.2.2.2.2.2.2.2.2.1, v.2.2.2.2.2.2.2.2.2.2.2.2.2.2.2)) hmt hl hc
  replace e4 : f_X8_readsAll (0, v.2.1, v.2.2.1, v.2.2.2.1, v.2.2.2.2.1, v.2.2.2.2.2.1, v.2.2.2.2.2.2.1, v.2.2.2.2.2.2.2.1, v.2.2.2.2.2.2.2.2.1, v.2.2.2.2.2.2.2.2.2.1, v.2.2.2.2.2.2.2.2.2.2.1, v.2.2.2.2.2.2.2.2.2.2.2.1, v.2.2.2.2.2.2.2.2.2.2.2.2.1, v.2.2.2.2.2.2.2.2.2.2.2.2.2.1, v.2.2.2.2.2.2.2.2.2.2.2.2.2.2.1, v.2.2.2.2.2.2.2.2.2.2.2.2.2.2.2) = some (0, v.2.1, v.2.2.1, v.2.2.2.1, v.2.2.2.2.1, v.2.2.2.2.2.1, v.2.2.2.2.2.2.1, a, w, f, m, v.2.2.2.2.2.2.2.2.2.2.2.1, v.2.2.2.2.2.2.2.2.2.2.2.2.1, v.2.2.2.2.2.2.2.2.2.2.2.2.2.1, v.2.2.2.2.2.2.2.2.2.2.2.2.2.2.1, v.2.2.2.2.2.2.2.2.2.2.2.2.2.2.2) := e4
  cases q : bt t with
  | none =>
    rw [q] at e3 e6
    dsimp only at e3 e6
    subst e6
    have h7 : f_X7_pickAll u = some (.inr 1, (u.1, u.2.1, u.2.2.1, e.2, u.2.2.2.2)) := by
      unfold f_X7_pickAll
      rw [e1, Option.bind_some, e3, if_neg (by decide)]
    have h8 : f_X8_pickAll v = some (0, (1, v.2.1, v.2.2.1, v.2.2.2.1, v.2.2.2.2.1, v.2.2.2.2.2.1, v.2.2.2.2.2.2.1, a, false, f, m, v.2.2.2.2.2.2.2.2.2.2.2.1, v.2.2.2.2.2.2.2.2.2.2.2.2.1, v.2.2.2.2.2.2.2.2.2.2.2.2.2.1, v.2.2.2.2.2.2.2.2.2.2.2.2.2.2.1, v.2.2.2.2.2.2.2.2.2.2.2.2.2.2.2)) := by
      unfold f_X8_pickAll
      rw [e4, Option.bind_some]
      dsimp only
      rw [if_neg (by decide)]
      rfl
    exact ⟨_, _, h7, h8, rfl, fun x hx => (by cases hx), A, H, t, ⟨hu, hv, hi⟩, ⟨hx, hm, hk⟩, ⟨e2, hmt, hl, hc⟩⟩
  | some b =>
    rw [q] at e3 e6
    obtain ⟨f1, f2, f3⟩ := e3
    obtain ⟨f4, f5, f6⟩ := e6
    subst f4
    have hb := Bx_of q
    have hrule := hi.2.2.2.2.2.2.1
    obtain ⟨h', k1, k2⟩ := x2_keep hx hk hu hi
    obtain ⟨s', v', g1, g2⟩ := x5_batch (u := u.2.2.2.2) hu hi hb (told_gb f2) hrule
    rw [List.length_map] at g1
    have h7 : f_X7_pickAll u = some (.inl (nI (batA A (b.map nI) (aRule A)).1), (v', u.2.1, h', (e.2.1, 0, e.2.2.2.1, e.2.2.2.2.1, e.2.2.2.2.2.1, e.2.2.2.2.2.2), s')) := by
      unfold f_X7_pickAll
      rw [e1, Option.bind_some, f1, if_pos rfl, k1, Option.bind_some, f3, show (2 : Int32) = nI 2 from rfl, at_n (by omega) (by omega), hu.2.2.2.1.2.2, g1, Option.bind_some]
    obtain ⟨sv, p1, p2⟩ := x8_saves (v := (0, v.2.1, v.2.2.1, v.2.2.2.1, v.2.2.2.2.1, v.2.2.2.2.2.1, v.2.2.2.2.2.2.1, a, true, f, m, v.2.2.2.2.2.2.2.2.2.2.2.1, v.2.2.2.2.2.2.2.2.2.2.2.2.1, v.2.2.2.2.2.2.2.2.2.2.2.2.2.1, v.2.2.2.2.2.2.2.2.2.2.2.2.2.2.1, v.2.2.2.2.2.2.2.2.2.2.2.2.2.2.2)) (H := H) (A := A) hm hk hv hi
    replace p1 : f_X8_saves (0, v.2.1, v.2.2.1, v.2.2.2.1, v.2.2.2.2.1, v.2.2.2.2.2.1, v.2.2.2.2.2.2.1, a, true, f, m, v.2.2.2.2.2.2.2.2.2.2.2.1, v.2.2.2.2.2.2.2.2.2.2.2.2.1, v.2.2.2.2.2.2.2.2.2.2.2.2.2.1, v.2.2.2.2.2.2.2.2.2.2.2.2.2.2.1, v.2.2.2.2.2.2.2.2.2.2.2.2.2.2.2) = some (0, v.2.1, v.2.2.1, sv, (nI (pushH H A).length), v.2.2.2.2.2.1, v.2.2.2.2.2.2.1, a, true, f, m, v.2.2.2.2.2.2.2.2.2.2.2.1, v.2.2.2.2.2.2.2.2.2.2.2.2.1, v.2.2.2.2.2.2.2.2.2.2.2.2.2.1, v.2.2.2.2.2.2.2.2.2.2.2.2.2.2.1, v.2.2.2.2.2.2.2.2.2.2.2.2.2.2.2) := p1
    obtain ⟨z, p3, p4, ⟨y1, y2, y3, y4, y5, y6, y7⟩⟩ := x8_batch (u := (0, v.2.1, v.2.2.1, sv, (nI (pushH H A).length), v.2.2.2.2.2.1, 0, a, true, f, m, v.2.2.2.2.2.2.2.2.2.2.2.1, v.2.2.2.2.2.2.2.2.2.2.2.2.1, v.2.2.2.2.2.2.2.2.2.2.2.2.2.1, v.2.2.2.2.2.2.2.2.2.2.2.2.2.2.1, v.2.2.2.2.2.2.2.2.2.2.2.2.2.2.2)) hv hi hb (by rw [List.length_map]; exact f6) (told_gb f5) hrule
    replace p3 : f_X8_picksBatch (0, v.2.1, v.2.2.1, sv, (nI (pushH H A).length), v.2.2.2.2.2.1, 0, a, true, f, m, v.2.2.2.2.2.2.2.2.2.2.2.1, v.2.2.2.2.2.2.2.2.2.2.2.2.1, v.2.2.2.2.2.2.2.2.2.2.2.2.2.1, v.2.2.2.2.2.2.2.2.2.2.2.2.2.2.1, v.2.2.2.2.2.2.2.2.2.2.2.2.2.2.2) (nI (aRule A)) = some (nI (batA A (b.map nI) (aRule A)).1, z) := p3
    have h8 : f_X8_pickAll v = some (nI (batA A (b.map nI) (aRule A)).1, z) := by
      unfold f_X8_pickAll
      rw [e4, Option.bind_some]
      dsimp only
      rw [if_pos rfl, p1, Option.bind_some]
      dsimp only
      rw [show aget v.2.1 142 2 = some (v.2.1 2) from aget_n (k := 2) (by omega) (by omega), Option.bind_some, hv.2.2.2.2.1.2.2, p3, Option.bind_some]
    have hi' := batA_Inv hi (b.map nI) (aRule A)
    generalize batA A (b.map nI) (aRule A) = B at h7 h8 g2 p4 hi'
    refine ⟨_, _, h7, h8, y1.symm, fun x hx => (Sum.inl.inj hx).symm, B.2, pushH H A, [], ⟨g2, p4, hi'⟩, ⟨k2, ?_, pushH_ok hk hi⟩, ⟨fun k y hy => (by cases hy), rfl⟩, ⟨fun k y hy => (by cases hy), y6⟩, Nat.zero_le _, fun y hy => (by cases hy)⟩
    show HM z.2.2.2.1 z.2.2.2.2.1 (pushH H A)
    rw [y3, y4]
    exact p2
theorem o_ifPicked : op_ifPicked RR := by
  intro u v hR p0 p1
  obtain ⟨A, H, t, ⟨hu, hv, hi⟩, ⟨hx, hm, hk⟩, ⟨ht, hmt, hl, hc⟩⟩ := id hR
  rcases lt_in (p := p0) (b := 2) (by omega) with ⟨a1, a2⟩ | ⟨rule, hr, rfl, a1, a2, a3⟩
  · have h7 : f_X7_ifPicked u p0 p1 = some (.inr 1, u) := by
      unfold f_X7_ifPicked
      rcases a2 with a2 | ⟨a2, a3⟩
      · rw [if_pos a2]
      · obtain ⟨j, hj, rfl⟩ := nI_of a2
        rw [if_neg a2, if_neg (show ¬ nI j ≤ 2 from nI_ge (a := 2) (by
          have : ¬ j < 3 := fun e => a3 (nI_lt e (by omega))
          omega) hj)]
    have h8 : f_X8_ifPicked v p0 p1 = some (0, (1, v.2)) := by
      unfold f_X8_ifPicked
      rw [if_neg (show ¬ f_X8_in p0 0 2 = true from fun e => by rw [show f_X8_in p0 0 2 = false from a1] at e; cases e)]
      rfl
    exact ⟨_, _, h7, h8, rfl, fun x hx => (by cases hx), hR.th 1⟩
  rcases lt_in (p := p1) (b := 3) (by omega) with ⟨b1, b2⟩ | ⟨what, hw, rfl, b1, b2, b3⟩
  · have h7 : f_X7_ifPicked u (nI rule) p1 = some (.inr 1, u) := by
      unfold f_X7_ifPicked
      rw [if_neg a2, if_pos (show nI rule ≤ 2 from nI_le (b := 2) hr (by omega))]
      rcases b2 with b2 | ⟨b2, b3⟩
      · rw [if_pos b2]
      · rw [if_neg b2, if_neg (show ¬ p1 < 4 from b3)]
    have h8 : f_X8_ifPicked v (nI rule) p1 = some (0, (1, v.2)) := by
      unfold f_X8_ifPicked
      rw [if_pos (show f_X8_in (nI rule) 0 2 = true from a1), if_neg (show ¬ f_X8_in p1 0 3 = true from fun e => by rw [show f_X8_in p1 0 3 = false from b1] at e; cases e)]
      rfl
    exact ⟨_, _, h7, h8, rfl, fun x hx => (by cases hx), hR.th 1⟩
  obtain ⟨e, e1, e2, e3, e4, e5⟩ := x7_try hu hi ht hl hc hr
  obtain ⟨z, g1, hth, g2, y3, y4, y5, y6, _⟩ := x8_picked (v := (0, v.2.1, v.2.2.1, v.2.2.2.1, v.2.2.2.2.1, v.2.2.2.2.2.1, v.2.2.2.2.2.2.1, v.2.2.2.2.2.2.2.1, v.2.2.2.2.2.2.2.2.1, v.2.2.2.2.2.2.2.2.2.1, v.2.2.2.2.2.2.2.2.2.2.1, v.2.2.2.2.2.2.2.2.2.2.2.1, v.2.2.2.2.2.2.2.2.2.2.2.2.1, v.2.2.2.2.2.2.2.2.2.2.2.2.2.1, v.2.2.2.2.2.2.2.2.2.2.2.2.2.2.1, v.2.2.2.2.2.2.2.2.2.2.2.2.2.2.2)) hv hi hmt hl hc hr (show what < 4 by omega)
  have e6 := e5 what (by omega)
  replace g1 : f_X8_picked (0, v.2.1, v.2.2.1, v.2.2.2.1, v.2.2.2.2.1, v.2.2.2.2.2.1, v.2.2.2.2.2.2.1, v.2.2.2.2.2.2.2.1, v.2.2.2.2.2.2.2.2.1, v.2.2.2.2.2.2.2.2.2.1, v.2.2.2.2.2.2.2.2.2.2.1, v.2.2.2.2.2.2.2.2.2.2.2.1, v.2.2.2.2.2.2.2.2.2.2.2.2.1, v.2.2.2.2.2.2.2.2.2.2.2.2.2.1, v.2.2.2.2.2.2.2.2.2.2.2.2.2.2.1, v.2.2.2.2.2.2.2.2.2.2.2.2.2.2.2) (nI rule) (nI what) = some (outA A t rule what, z) := g1
  generalize outA A t rule what = y at e6 g1
  have h7 : f_X7_ifPicked u (nI rule) (nI what) = some (.inl y, e.2) := by
    unfold f_X7_ifPicked
    rw [if_neg a2, if_pos (show nI rule ≤ 2 from nI_le (b := 2) hr (by omega)), if_neg b2, if_pos (show nI what < 4 from b3), e1, Option.bind_some, e6, Option.bind_some]
  have h8 : f_X8_ifPicked v (nI rule) (nI what) = some (y, z) := by
    unfold f_X8_ifPicked
    rw [if_pos (show f_X8_in (nI rule) 0 2 = true from a1), if_pos (show f_X8_in (nI what) 0 3 = true from b1), g1, Option.bind_some]
  refine ⟨_, _, h7, h8, hth.symm, fun x hx => (Sum.inl.inj hx).symm, A, H, t, ⟨?_, g2, hi⟩, ⟨?_, ?_, hk⟩, ⟨e4, ⟨?_, ?_⟩, hl, hc⟩⟩
  · show R6 e.2.1 A
    rw [e2]
    exact hu
  · show HX e.2.2.2.1 H
    rw [e3]
    exact hx
  · show HM z.2.2.2.1 z.2.2.2.2.1 H
    rw [y3, y4]
    exact hm
  · show ∀ k x, t[k]? = some x → z.2.2.2.2.2.1 k = nI x
    rw [y5]
    exact hmt.1
  · show z.2.2.2.2.2.2.1 = nI t.length
    rw [y6]
    exact hmt.2
