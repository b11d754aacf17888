/-! move, pick, turn, jam, set, undo, append and the small ones of the buffer -/
theorem canMove_iff {A : AS} {k : Nat} {x : It} (hx : (aL A)[k]? = some x) (d : Nat) : canMove A x d = true ↔ aJ A x.2.2 = false ∧ aJ A d = false ∧ lod ((aL A).set k (x.1, x.2.1, d)) d ≤ aCap A ∧ (tilt ((aL A).set k (x.1, x.2.1, d)) (aW A)).natAbs ≤ aLim A := by
  have h1 := ld_set hx (x.1, x.2.1, d) d
  have h2 := tilt_set hx (x.1, x.2.1, d) (aW A)
  have h3 := Int.mul_sub (x.2.1 : Int) (side d (aW A)) (side x.2.2 (aW A))
  rw [lod_ld, if_pos rfl] at h1
  dsimp only at h1 h2
  unfold canMove
  rw [decide_eq_true_iff, h2, h3]
  have e1 : (if x.2.2 = d then 0 else (x.2.1 : Int)) + ld (aL A) d = (lod ((aL A).set k (x.1, x.2.1, d)) d : Int) := by
    rw [h1]
    by_cases c : x.2.2 = d
    · rw [if_pos c, if_pos c]
      omega
    · rw [if_neg c, if_neg c]
      omega
  have e2 : tilt (aL A) (aW A) + ((x.2.1 : Int) * side d (aW A) - (x.2.1 : Int) * side x.2.2 (aW A)) = tilt (aL A) (aW A) - (x.2.1 : Int) * side x.2.2 (aW A) + (x.2.1 : Int) * side d (aW A) := by omega
  rw [e1, e2]
  constructor
  · rintro ⟨a, b, c, d⟩
    exact ⟨a, b, by omega, d⟩
  · rintro ⟨a, b, c, d⟩
    exact ⟨a, b, by omega, d⟩
theorem R8_move {s : zF} {A : AS} (h : R8 s A) (hl : (aL A).length ≤ 40) {k : Nat} {x : It} (hx : (aL A)[k]? = some x) (d : Nat) : R8 (upd s (22 + 3 * k + 2) (nI d)) (moveA A k x d) := by
  obtain ⟨h1, h2, h3, h4, h5, h6, h7⟩ := h
  have hk := (List.getElem?_eq_some_iff.mp hx).1
  refine ⟨fun j y hy => ?_, ?_, ?_, fun d hd => ?_, ⟨?_, ?_, ?_⟩, ?_, ?_⟩
  · replace hy : ((aL A).set k (x.1, x.2.1, d))[j]? = some y := hy
    rw [List.getElem?_set] at hy
    by_cases c : k = j
    · subst c
      rw [if_pos rfl, if_pos hk] at hy
      cases hy
      have := h1 k x hx
      rw [upd_n (by omega), upd_n (by omega), upd_s]
      exact ⟨this.1, this.2.1, rfl⟩
    · rw [if_neg c] at hy
      rw [upd_n (by omega), upd_n (by omega), upd_n (by omega)]
      exact h1 j y hy
  · show _ = nI ((aL A).set k (x.1, x.2.1, d)).length
    rw [upd_n (by omega), List.length_set]; exact h2
  · rw [upd_n (by omega)]; exact h3
  · rw [upd_n (by omega)]; exact h4 d hd
  · rw [upd_n (by omega)]; exact h5.1
  · rw [upd_n (by omega)]; exact h5.2.1
  · rw [upd_n (by omega)]; exact h5.2.2
  · rw [upd_n (by omega)]; exact h6
  · rw [upd_n (by omega), upd_n (by omega), upd_n (by omega), upd_n (by omega)]; exact h7
theorem o_move : op_move RR := by
  intro u v hR p0 p1
  obtain ⟨A, H, t, ⟨hu, hv, hi⟩, ⟨hx, hm, hk⟩, ht⟩ := id hR
  have hl := hi.1.1
  have e8 : f_X8_placeOfItem (0, v.2.1, v.2.2.1, v.2.2.2.1, v.2.2.2.2.1, v.2.2.2.2.2.1, v.2.2.2.2.2.2.1, v.2.2.2.2.2.2.2.1, v.2.2.2.2.2.2.2.2.1, v.2.2.2.2.2.2.2.2.2.1, v.2.2.2.2.2.2.2.2.2.2.1, v.2.2.2.2.2.2.2.2.2.2.2.1, v.2.2.2.2.2.2.2.2.2.2.2.2.1, v.2.2.2.2.2.2.2.2.2.2.2.2.2.1, v.2.2.2.2.2.2.2.2.2.2.2.2.2.2.1, v.2.2.2.2.2.2.2.2.2.2.2.2.2.2.2) p0 = some (sl (aL A) p0) := x8_place_of (u := (0, v.2.1, v.2.2.1, v.2.2.2.1, v.2.2.2.2.1, v.2.2.2.2.2.1, v.2.2.2.2.2.2.1, v.2.2.2.2.2.2.2.1, v.2.2.2.2.2.2.2.2.1, v.2.2.2.2.2.2.2.2.2.1, v.2.2.2.2.2.2.2.2.2.2.1, v.2.2.2.2.2.2.2.2.2.2.2.1, v.2.2.2.2.2.2.2.2.2.2.2.2.1, v.2.2.2.2.2.2.2.2.2.2.2.2.2.1, v.2.2.2.2.2.2.2.2.2.2.2.2.2.2.1, v.2.2.2.2.2.2.2.2.2.2.2.2.2.2.2)) hv hl p0
  cases e : ix (aL A) p0 with
  | none =>
    have h7 : f_X7_move u p0 p1 = some (.inr 0, u) := by
      unfold f_X7_move
      rw [x3_has hu.2.1 hl, e, Option.bind_some, if_neg (by decide)]
    have h8 : f_X8_move v p0 p1 = some (0, (1, v.2)) := by
      unfold f_X8_move
      rw [e8, Option.bind_some, if_pos (by unfold sl; rw [e])]
      rfl
    exact ⟨_, _, h7, h8, rfl, fun x hx => (by cases hx), hR.th 1⟩
  | some k =>
    obtain ⟨x, hxk, f1, f2, f3⟩ := fd_of e
    have hkl := ix_lt e
    have hwt := hi.1.wt f3
    have es : sl (aL A) p0 = nI k := by
      unfold sl
      rw [e]
    rcases isDr p1 with ⟨a1, a2⟩ | ⟨d, hd, rfl, a1, a2⟩
    · have h7 : f_X7_move u p0 p1 = some (.inr 0, u) := by
        unfold f_X7_move
        rw [x3_has hu.2.1 hl, e, Option.bind_some, if_pos (show (some k).isSome = true from rfl), if_neg (by rw [a1]; decide)]
      have h8 : f_X8_move v p0 p1 = some (0, (1, v.2)) := by
        unfold f_X8_move
        rw [e8, Option.bind_some, es, if_neg (nI_nm1 (by omega)), if_neg (by rw [a2]; decide)]
        rfl
      exact ⟨_, _, h7, h8, rfl, fun x hx => (by cases hx), hR.th 1⟩
    · have g0 := R8_move hv hl hxk d
      have hWs := Wf_set hi.1 hxk hd
      have g1 : f_X8_loadOf (0, (upd v.2.1 (22 + 3 * k + 2) (nI d)), v.2.2.1, v.2.2.2.1, v.2.2.2.2.1, v.2.2.2.2.2.1, v.2.2.2.2.2.2.1, v.2.2.2.2.2.2.2.1, v.2.2.2.2.2.2.2.2.1, v.2.2.2.2.2.2.2.2.2.1, v.2.2.2.2.2.2.2.2.2.2.1, v.2.2.2.2.2.2.2.2.2.2.2.1, v.2.2.2.2.2.2.2.2.2.2.2.2.1, v.2.2.2.2.2.2.2.2.2.2.2.2.2.1, v.2.2.2.2.2.2.2.2.2.2.2.2.2.2.1, v.2.2.2.2.2.2.2.2.2.2.2.2.2.2.2) (nI d) = some (nI (lod ((aL A).set k (x.1, x.2.1, d)) d)) := x8_loadN (u := (0, (upd v.2.1 (22 + 3 * k + 2) (nI d)), v.2.2.1, v.2.2.2.1, v.2.2.2.2.1, v.2.2.2.2.2.1, v.2.2.2.2.2.2.1, v.2.2.2.2.2.2.2.1, v.2.2.2.2.2.2.2.2.1, v.2.2.2.2.2.2.2.2.2.1, v.2.2.2.2.2.2.2.2.2.2.1, v.2.2.2.2.2.2.2.2.2.2.2.1, v.2.2.2.2.2.2.2.2.2.2.2.2.1, v.2.2.2.2.2.2.2.2.2.2.2.2.2.1, v.2.2.2.2.2.2.2.2.2.2.2.2.2.2.1, v.2.2.2.2.2.2.2.2.2.2.2.2.2.2.2)) g0 hWs hd
      have g2 : f_X8_imbalance (0, (upd v.2.1 (22 + 3 * k + 2) (nI d)), v.2.2.1, v.2.2.2.1, v.2.2.2.2.1, v.2.2.2.2.2.1, v.2.2.2.2.2.2.1, v.2.2.2.2.2.2.2.1, v.2.2.2.2.2.2.2.2.1, v.2.2.2.2.2.2.2.2.2.1, v.2.2.2.2.2.2.2.2.2.2.1, v.2.2.2.2.2.2.2.2.2.2.2.1, v.2.2.2.2.2.2.2.2.2.2.2.2.1, v.2.2.2.2.2.2.2.2.2.2.2.2.2.1, v.2.2.2.2.2.2.2.2.2.2.2.2.2.2.1, v.2.2.2.2.2.2.2.2.2.2.2.2.2.2.2) (nI (aW A)) = some (nI (tilt ((aL A).set k (x.1, x.2.1, d)) (aW A)).natAbs) := x8_imb (u := (0, (upd v.2.1 (22 + 3 * k + 2) (nI d)), v.2.2.1, v.2.2.2.1, v.2.2.2.2.1, v.2.2.2.2.2.1, v.2.2.2.2.2.2.1, v.2.2.2.2.2.2.2.1, v.2.2.2.2.2.2.2.2.1, v.2.2.2.2.2.2.2.2.2.1, v.2.2.2.2.2.2.2.2.2.2.1, v.2.2.2.2.2.2.2.2.2.2.2.1, v.2.2.2.2.2.2.2.2.2.2.2.2.1, v.2.2.2.2.2.2.2.2.2.2.2.2.2.1, v.2.2.2.2.2.2.2.2.2.2.2.2.2.2.1, v.2.2.2.2.2.2.2.2.2.2.2.2.2.2.2)) g0 hWs hi.2.2.2.2.2.2.2
      have gof : f_X8_of (0, v.2.1, v.2.2.1, v.2.2.2.1, v.2.2.2.2.1, v.2.2.2.2.2.1, v.2.2.2.2.2.2.1, v.2.2.2.2.2.2.2.1, v.2.2.2.2.2.2.2.2.1, v.2.2.2.2.2.2.2.2.2.1, v.2.2.2.2.2.2.2.2.2.2.1, v.2.2.2.2.2.2.2.2.2.2.2.1, v.2.2.2.2.2.2.2.2.2.2.2.2.1, v.2.2.2.2.2.2.2.2.2.2.2.2.2.1, v.2.2.2.2.2.2.2.2.2.2.2.2.2.2.1, v.2.2.2.2.2.2.2.2.2.2.2.2.2.2.2) (nI k) 2 = some (nI x.2.2) := x8_of2 (u := (0, v.2.1, v.2.2.1, v.2.2.2.1, v.2.2.2.2.1, v.2.2.2.2.2.1, v.2.2.2.2.2.2.1, v.2.2.2.2.2.2.2.1, v.2.2.2.2.2.2.2.2.1, v.2.2.2.2.2.2.2.2.2.1, v.2.2.2.2.2.2.2.2.2.2.1, v.2.2.2.2.2.2.2.2.2.2.2.1, v.2.2.2.2.2.2.2.2.2.2.2.2.1, v.2.2.2.2.2.2.2.2.2.2.2.2.2.1, v.2.2.2.2.2.2.2.2.2.2.2.2.2.2.1, v.2.2.2.2.2.2.2.2.2.2.2.2.2.2.2)) hv (by omega) hxk
      have hcm := canMove_iff hxk d
      have hb1 := lod_le hWs d
      have hb2 := hWs.Tb (aW A)
      have hcap := hi.2.2.2.2.2.1
      have hlim := hi.2.2.2.1
      have hbe : upd (upd v.2.1 (22 + 3 * k + 2) (nI d)) (22 + 3 * k + 2) (nI x.2.2) = v.2.1 := by
        funext j
        rw [upd_if, upd_if]
        by_cases c : j = 22 + 3 * k + 2
        · rw [if_pos c, c]
          exact ((hv.1 k x hxk).2.2).symm
        · rw [if_neg c, if_neg c]
      -- the reference's test
      have hj : (if upd v.2.1 (22 + 3 * k + 2) (nI d) (10 + x.2.2) = 0 then (aget (upd v.2.1 (22 + 3 * k + 2) (nI d)) 142 (10 + nI d)).bind fun r11 => if r11 = 0 then (f_X8_loadOf (0, (upd v.2.1 (22 + 3 * k + 2) (nI d)), v.2.2.1, v.2.2.2.1, v.2.2.2.2.1, v.2.2.2.2.2.1, v.2.2.2.2.2.2.1, v.2.2.2.2.2.2.2.1, v.2.2.2.2.2.2.2.2.1, v.2.2.2.2.2.2.2.2.2.1, v.2.2.2.2.2.2.2.2.2.2.1, v.2.2.2.2.2.2.2.2.2.2.2.1, v.2.2.2.2.2.2.2.2.2.2.2.2.1, v.2.2.2.2.2.2.2.2.2.2.2.2.2.1, v.2.2.2.2.2.2.2.2.2.2.2.2.2.2.1, v.2.2.2.2.2.2.2.2.2.2.2.2.2.2.2) (nI d)).bind fun r12 => (aget (upd v.2.1 (22 + 3 * k + 2) (nI d)) 142 1).bind fun r13 => if r13 < r12 then some (0 : Int32) else (aget (upd v.2.1 (22 + 3 * k + 2) (nI d)) 142 3).bind fun r14 => (f_X8_imbalance (0, (upd v.2.1 (22 + 3 * k + 2) (nI d)), v.2.2.1, v.2.2.2.1, v.2.2.2.2.1, v.2.2.2.2.2.1, v.2.2.2.2.2.2.1, v.2.2.2.2.2.2.2.1, v.2.2.2.2.2.2.2.2.1, v.2.2.2.2.2.2.2.2.2.1, v.2.2.2.2.2.2.2.2.2.2.1, v.2.2.2.2.2.2.2.2.2.2.2.1, v.2.2.2.2.2.2.2.2.2.2.2.2.1, v.2.2.2.2.2.2.2.2.2.2.2.2.2.1, v.2.2.2.2.2.2.2.2.2.2.2.2.2.2.1, v.2.2.2.2.2.2.2.2.2.2.2.2.2.2.2) r14).bind fun r15 => (aget (upd v.2.1 (22 + 3 * k + 2) (nI d)) 142 0).bind fun r16 => if r16 < r15 then some (0 : Int32) else some (1 : Int32) else some (0 : Int32) else some (0 : Int32)) = some (bI (canMove A x d)) := by
        have j1 : upd v.2.1 (22 + 3 * k + 2) (nI d) (10 + x.2.2) = bI (aJ A x.2.2) := g0.2.2.2.1 _ hwt.2.2
        have j2 : upd v.2.1 (22 + 3 * k + 2) (nI d) (10 + d) = bI (aJ A d) := g0.2.2.2.1 _ hd
        have j3 : upd v.2.1 (22 + 3 * k + 2) (nI d) 1 = nI (aCap A) := g0.2.2.2.2.1.2.1
        have j4 : upd v.2.1 (22 + 3 * k + 2) (nI d) 3 = nI (aW A) := g0.2.2.2.2.2.1
        have j5 : upd v.2.1 (22 + 3 * k + 2) (nI d) 0 = nI (aLim A) := g0.2.2.2.2.1.1
        rw [j1, pos10, aget_n (by omega) (by omega), j2, q1, j3, q3, j4, q0, j5, g1]
        have b0 : ∀ b : Bool, b = true → ¬ bI b = 0 := fun b hb => by rw [hb]; decide
        have b1 : ∀ b : Bool, ¬ b = true → bI b = 0 := fun b hb => by rw [jam_f hb]; rfl
        by_cases c1 : aJ A x.2.2 = true
        · rw [if_neg (b0 _ c1), jam_f (b := canMove A x d) (fun e => by have := (hcm.mp e).1; rw [c1] at this; cases this)]
          rfl
        · rw [if_pos (b1 _ c1), Option.bind_some]
          by_cases c2 : aJ A d = true
          · rw [if_neg (b0 _ c2), jam_f (b := canMove A x d) (fun e => by have := (hcm.mp e).2.1; rw [c2] at this; cases this)]
            rfl
          · rw [if_pos (b1 _ c2), Option.bind_some, Option.bind_some]
            by_cases c3 : aCap A < lod ((aL A).set k (x.1, x.2.1, d)) d
            · rw [if_pos (nI_lt c3 (by omega)), jam_f (b := canMove A x d) (fun e => by have := (hcm.mp e).2.2.1; omega)]
              rfl
            · rw [if_neg (nI_nlt (by omega) (by omega)), Option.bind_some, g2, Option.bind_some, Option.bind_some]
              by_cases c4 : aLim A < (tilt ((aL A).set k (x.1, x.2.1, d)) (aW A)).natAbs
              · rw [if_pos (nI_lt c4 (by omega)), jam_f (b := canMove A x d) (fun e => by have := (hcm.mp e).2.2.2; omega)]
                rfl
              · rw [if_neg (nI_nlt (by omega) (by omega)), hcm.mpr ⟨jam_f c1, jam_f c2, by omega, by omega⟩]
                rfl
      have hidx : (22 : Int32) + 3 * nI k + 2 = nI (22 + 3 * k + 2) := by
        rw [pos3, show (2 : Int32) = nI 2 from rfl, nI_add]
      have h8a : f_X8_move v p0 (nI d) = (some (bI (canMove A x d))).bind fun j6 => if j6 = 0 then some (0, (2, v.2)) else (f_X8_saves (0, v.2.1, v.2.2.1, v.2.2.2.1, v.2.2.2.2.1, v.2.2.2.2.2.1, v.2.2.2.2.2.2.1, v.2.2.2.2.2.2.2.1, v.2.2.2.2.2.2.2.2.1, v.2.2.2.2.2.2.2.2.2.1, v.2.2.2.2.2.2.2.2.2.2.1, v.2.2.2.2.2.2.2.2.2.2.2.1, v.2.2.2.2.2.2.2.2.2.2.2.2.1, v.2.2.2.2.2.2.2.2.2.2.2.2.2.1, v.2.2.2.2.2.2.2.2.2.2.2.2.2.2.1, v.2.2.2.2.2.2.2.2.2.2.2.2.2.2.2)).bind fun r8 => (aset r8.2.1 142 (22 + 3 * nI k + 2) (nI d)).bind fun r9 => some (nI x.2.2, (r8.1, r9, r8.2.2)) := by
        unfold f_X8_move
        rw [e8, Option.bind_some, es, if_neg (nI_nm1 (by omega)), if_pos a2, gof, Option.bind_some, hidx, aset_n (by omega) (by omega), Option.bind_some, pos10, aget_n (by omega) (by omega), Option.bind_some, hj, Option.bind_some, aset_n (by omega) (by omega), Option.bind_some, hbe]
        rfl
      by_cases c : canMove A x d = true
      · obtain ⟨h', k1, k2⟩ := x2_keep hx hk hu hi
        obtain ⟨u', k3, k4⟩ := x6_move hu hi e hxk hd
        have h7 : f_X7_move u p0 (nI d) = some (.inl (nI x.2.2), (u', u.2.1, h', u.2.2.2.1, u.2.2.2.2)) := by
          unfold f_X7_move
          rw [x3_has hu.2.1 hl, e, Option.bind_some, if_pos (show (some k).isSome = true from rfl), if_pos a1, x6_mayMove hu hi e hxk hd, Option.bind_some, if_pos c, k1, Option.bind_some, k3, Option.bind_some]
        obtain ⟨sv, p1, p2⟩ := x8_saves (v := (0, v.2.1, v.2.2.1, v.2.2.2.1, v.2.2.2.2.1, v.2.2.2.2.2.1, v.2.2.2.2.2.2.1, v.2.2.2.2.2.2.2.1, v.2.2.2.2.2.2.2.2.1, v.2.2.2.2.2.2.2.2.2.1, v.2.2.2.2.2.2.2.2.2.2.1, v.2.2.2.2.2.2.2.2.2.2.2.1, v.2.2.2.2.2.2.2.2.2.2.2.2.1, v.2.2.2.2.2.2.2.2.2.2.2.2.2.1, v.2.2.2.2.2.2.2.2.2.2.2.2.2.2.1, v.2.2.2.2.2.2.2.2.2.2.2.2.2.2.2)) (H := H) (A := A) hm hk hv hi
        replace p1 : f_X8_saves (0, v.2.1, v.2.2.1, v.2.2.2.1, v.2.2.2.2.1, v.2.2.2.2.2.1, v.2.2.2.2.2.2.1, v.2.2.2.2.2.2.2.1, v.2.2.2.2.2.2.2.2.1, v.2.2.2.2.2.2.2.2.2.1, v.2.2.2.2.2.2.2.2.2.2.1, v.2.2.2.2.2.2.2.2.2.2.2.1, v.2.2.2.2.2.2.2.2.2.2.2.2.1, v.2.2.2.2.2.2.2.2.2.2.2.2.2.1, v.2.2.2.2.2.2.2.2.2.2.2.2.2.2.1, v.2.2.2.2.2.2.2.2.2.2.2.2.2.2.2) = some (0, v.2.1, v.2.2.1, sv, (nI (pushH H A).length), v.2.2.2.2.2.1, v.2.2.2.2.2.2.1, v.2.2.2.2.2.2.2.1, v.2.2.2.2.2.2.2.2.1, v.2.2.2.2.2.2.2.2.2.1, v.2.2.2.2.2.2.2.2.2.2.1, v.2.2.2.2.2.2.2.2.2.2.2.1, v.2.2.2.2.2.2.2.2.2.2.2.2.1, v.2.2.2.2.2.2.2.2.2.2.2.2.2.1, v.2.2.2.2.2.2.2.2.2.2.2.2.2.2.1, v.2.2.2.2.2.2.2.2.2.2.2.2.2.2.2) := p1
        have h8 : f_X8_move v p0 (nI d) = some (nI x.2.2, (0, (upd v.2.1 (22 + 3 * k + 2) (nI d)), v.2.2.1, sv, (nI (pushH H A).length), v.2.2.2.2.2.1, v.2.2.2.2.2.2.1, v.2.2.2.2.2.2.2.1, v.2.2.2.2.2.2.2.2.1, v.2.2.2.2.2.2.2.2.2.1, v.2.2.2.2.2.2.2.2.2.2.1, v.2.2.2.2.2.2.2.2.2.2.2.1, v.2.2.2.2.2.2.2.2.2.2.2.2.1, v.2.2.2.2.2.2.2.2.2.2.2.2.2.1, v.2.2.2.2.2.2.2.2.2.2.2.2.2.2.1, v.2.2.2.2.2.2.2.2.2.2.2.2.2.2.2)) := by
          rw [h8a, Option.bind_some, c, if_neg (by decide), p1, Option.bind_some]
          dsimp only
          rw [hidx, aset_n (by omega) (by omega), Option.bind_some]
        exact ⟨_, _, h7, h8, rfl, fun x hx => (Sum.inl.inj hx).symm, moveA A k x d, pushH H A, t, ⟨k4, g0, hi.move hxk hd c⟩, ⟨k2, p2, pushH_ok hk hi⟩, ht⟩
      · have h7 : f_X7_move u p0 (nI d) = some (.inr 2, u) := by
          unfold f_X7_move
          rw [x3_has hu.2.1 hl, e, Option.bind_some, if_pos (show (some k).isSome = true from rfl), if_pos a1, x6_mayMove hu hi e hxk hd, Option.bind_some, if_neg c]
        have h8 : f_X8_move v p0 (nI d) = some (0, (2, v.2)) := by
          rw [h8a, Option.bind_some, jam_f c, if_pos (by decide)]
        exact ⟨_, _, h7, h8, rfl, fun x hx => (by cases hx), hR.th 2⟩
theorem o_pick : op_pick RR := by
  intro u v hR p0
  obtain ⟨A, H, t, ⟨hu, hv, hi⟩, ⟨hx, hm, hk⟩, ht⟩ := id hR
  have hl := hi.1.1
  have e7 := x6_reason hu hi p0
  have e8 : f_X8_reason (0, v.2.1, v.2.2.1, v.2.2.2.1, v.2.2.2.2.1, v.2.2.2.2.2.1, v.2.2.2.2.2.2.1, v.2.2.2.2.2.2.2.1, v.2.2.2.2.2.2.2.2.1, v.2.2.2.2.2.2.2.2.2.1, v.2.2.2.2.2.2.2.2.2.2.1, v.2.2.2.2.2.2.2.2.2.2.2.1, v.2.2.2.2.2.2.2.2.2.2.2.2.1, v.2.2.2.2.2.2.2.2.2.2.2.2.2.1, v.2.2.2.2.2.2.2.2.2.2.2.2.2.2.1, v.2.2.2.2.2.2.2.2.2.2.2.2.2.2.2) p0 = some (nI (reasonA A p0)) := x8_reason (u := (0, v.2.1, v.2.2.1, v.2.2.2.1, v.2.2.2.2.1, v.2.2.2.2.2.1, v.2.2.2.2.2.2.1, v.2.2.2.2.2.2.2.1, v.2.2.2.2.2.2.2.2.1, v.2.2.2.2.2.2.2.2.2.1, v.2.2.2.2.2.2.2.2.2.2.1, v.2.2.2.2.2.2.2.2.2.2.2.1, v.2.2.2.2.2.2.2.2.2.2.2.2.1, v.2.2.2.2.2.2.2.2.2.2.2.2.2.1, v.2.2.2.2.2.2.2.2.2.2.2.2.2.2.1, v.2.2.2.2.2.2.2.2.2.2.2.2.2.2.2)) hv hi p0
  have hr := reason_lt A p0
  by_cases c : reasonA A p0 = 0
  · obtain ⟨x, f1, f2, f3⟩ := reason0 c
    obtain ⟨h', k1, k2⟩ := x2_keep hx hk hu hi
    obtain ⟨u', k3, k4⟩ := x6_take hu hi f1 f3
    obtain ⟨sv, p1, p2⟩ := x8_saves (v := (0, v.2.1, v.2.2.1, v.2.2.2.1, v.2.2.2.2.1, v.2.2.2.2.2.1, v.2.2.2.2.2.2.1, v.2.2.2.2.2.2.2.1, v.2.2.2.2.2.2.2.2.1, v.2.2.2.2.2.2.2.2.2.1, v.2.2.2.2.2.2.2.2.2.2.1, v.2.2.2.2.2.2.2.2.2.2.2.1, v.2.2.2.2.2.2.2.2.2.2.2.2.1, v.2.2.2.2.2.2.2.2.2.2.2.2.2.1, v.2.2.2.2.2.2.2.2.2.2.2.2.2.2.1, v.2.2.2.2.2.2.2.2.2.2.2.2.2.2.2)) (H := H) (A := A) hm hk hv hi
    replace p1 : f_X8_saves (0, v.2.1, v.2.2.1, v.2.2.2.1, v.2.2.2.2.1, v.2.2.2.2.2.1, v.2.2.2.2.2.2.1, v.2.2.2.2.2.2.2.1, v.2.2.2.2.2.2.2.2.1, v.2.2.2.2.2.2.2.2.2.1, v.2.2.2.2.2.2.2.2.2.2.1, v.2.2.2.2.2.2.2.2.2.2.2.1, v.2.2.2.2.2.2.2.2.2.2.2.2.1, v.2.2.2.2.2.2.2.2.2.2.2.2.2.1, v.2.2.2.2.2.2.2.2.2.2.2.2.2.2.1, v.2.2.2.2.2.2.2.2.2.2.2.2.2.2.2) = some (0, v.2.1, v.2.2.1, sv, (nI (pushH H A).length), v.2.2.2.2.2.1, v.2.2.2.2.2.2.1, v.2.2.2.2.2.2.2.1, v.2.2.2.2.2.2.2.2.1, v.2.2.2.2.2.2.2.2.2.1, v.2.2.2.2.2.2.2.2.2.2.1, v.2.2.2.2.2.2.2.2.2.2.2.1, v.2.2.2.2.2.2.2.2.2.2.2.2.1, v.2.2.2.2.2.2.2.2.2.2.2.2.2.1, v.2.2.2.2.2.2.2.2.2.2.2.2.2.2.1, v.2.2.2.2.2.2.2.2.2.2.2.2.2.2.2) := p1
    obtain ⟨s', p3, p4⟩ := x8_picks (u := (0, v.2.1, v.2.2.1, sv, (nI (pushH H A).length), v.2.2.2.2.2.1, v.2.2.2.2.2.2.1, v.2.2.2.2.2.2.2.1, v.2.2.2.2.2.2.2.2.1, v.2.2.2.2.2.2.2.2.2.1, v.2.2.2.2.2.2.2.2.2.2.1, v.2.2.2.2.2.2.2.2.2.2.2.1, v.2.2.2.2.2.2.2.2.2.2.2.2.1, v.2.2.2.2.2.2.2.2.2.2.2.2.2.1, v.2.2.2.2.2.2.2.2.2.2.2.2.2.2.1, v.2.2.2.2.2.2.2.2.2.2.2.2.2.2.2)) hv hi f1 f3
    replace p3 : f_X8_picks (0, v.2.1, v.2.2.1, sv, (nI (pushH H A).length), v.2.2.2.2.2.1, v.2.2.2.2.2.2.1, v.2.2.2.2.2.2.2.1, v.2.2.2.2.2.2.2.2.1, v.2.2.2.2.2.2.2.2.2.1, v.2.2.2.2.2.2.2.2.2.2.1, v.2.2.2.2.2.2.2.2.2.2.2.1, v.2.2.2.2.2.2.2.2.2.2.2.2.1, v.2.2.2.2.2.2.2.2.2.2.2.2.2.1, v.2.2.2.2.2.2.2.2.2.2.2.2.2.2.1, v.2.2.2.2.2.2.2.2.2.2.2.2.2.2.2) p0 = some (nI (wayA A x.2.2).natAbs, (0, s', v.2.2.1, sv, (nI (pushH H A).length), v.2.2.2.2.2.1, v.2.2.2.2.2.2.1, v.2.2.2.2.2.2.2.1, v.2.2.2.2.2.2.2.2.1, v.2.2.2.2.2.2.2.2.2.1, v.2.2.2.2.2.2.2.2.2.2.1, v.2.2.2.2.2.2.2.2.2.2.2.1, v.2.2.2.2.2.2.2.2.2.2.2.2.1, v.2.2.2.2.2.2.2.2.2.2.2.2.2.1, v.2.2.2.2.2.2.2.2.2.2.2.2.2.2.1, v.2.2.2.2.2.2.2.2.2.2.2.2.2.2.2)) := p3
    have hix : (ix (aL A) p0).isSome = true := by
      cases e : ix (aL A) p0 with
      | none => rw [fd_no e] at f1; cases f1
      | some k => rfl
    have h7 : f_X7_pick u p0 = some (.inl (nI (wayA A x.2.2).natAbs), (u', u.2.1, h', u.2.2.2.1, u.2.2.2.2)) := by
      unfold f_X7_pick
      rw [x3_has hu.2.1 hl, Option.bind_some, if_pos hix, e7, c, Option.bind_some, if_pos (show nI 0 = 0 from rfl), k1, Option.bind_some, k3, Option.bind_some]
    have h8 : f_X8_pick v p0 = some (nI (wayA A x.2.2).natAbs, (0, s', v.2.2.1, sv, (nI (pushH H A).length), v.2.2.2.2.2.1, v.2.2.2.2.2.2.1, v.2.2.2.2.2.2.2.1, v.2.2.2.2.2.2.2.2.1, v.2.2.2.2.2.2.2.2.2.1, v.2.2.2.2.2.2.2.2.2.2.1, v.2.2.2.2.2.2.2.2.2.2.2.1, v.2.2.2.2.2.2.2.2.2.2.2.2.1, v.2.2.2.2.2.2.2.2.2.2.2.2.2.1, v.2.2.2.2.2.2.2.2.2.2.2.2.2.2.1, v.2.2.2.2.2.2.2.2.2.2.2.2.2.2.2)) := by
      unfold f_X8_pick
      rw [e8, c, Option.bind_some, if_pos (show nI 0 = 0 from rfl), p1, Option.bind_some, p3, Option.bind_some]
    exact ⟨_, _, h7, h8, rfl, fun x hx => (Sum.inl.inj hx).symm, takeA A p0, pushH H A, t, ⟨k4, p4, hi.take p0⟩, ⟨k2, p2, pushH_ok hk hi⟩, ht⟩
  · by_cases c1 : reasonA A p0 = 1
    · have hix : ix (aL A) p0 = none := by
        cases e : ix (aL A) p0 with
        | none => rfl
        | some k =>
          obtain ⟨x, _, f1, _, _⟩ := fd_of e
          rw [reason_x f1] at c1
          split at c1
          · cases c1
          · split at c1 <;> cases c1
      have h7 : f_X7_pick u p0 = some (.inr 0, u) := by
        unfold f_X7_pick
        rw [x3_has hu.2.1 hl, hix, Option.bind_some, if_neg (by decide)]
      have h8 : f_X8_pick v p0 = some (0, (1, v.2)) := by
        unfold f_X8_pick
        rw [e8, c1, Option.bind_some, if_neg (by decide), if_pos (show nI 1 = 1 from rfl)]
        rfl
      exact ⟨_, _, h7, h8, rfl, fun x hx => (by cases hx), hR.th 1⟩
    · have hix : (ix (aL A) p0).isSome = true := by
        cases e : ix (aL A) p0 with
        | none => exact absurd (reason_no (fd_no e)) c1
        | some k => rfl
      have h7 : f_X7_pick u p0 = some (.inr 2, u) := by
        unfold f_X7_pick
        rw [x3_has hu.2.1 hl, Option.bind_some, if_pos hix, e7, Option.bind_some, if_neg (nz (by omega) (by omega))]
      have h8 : f_X8_pick v p0 = some (0, (2, v.2)) := by
        unfold f_X8_pick
        rw [e8, Option.bind_some, if_neg (nz (by omega) (by omega)), if_neg (fun e => c1 ((i1e (by omega)).mp e))]
        rfl
      exact ⟨_, _, h7, h8, rfl, fun x hx => (by cases hx), hR.th 2⟩
theorem o_turn : op_turn RR := by
  intro u v hR p0
  obtain ⟨A, H, t, ⟨hu, hv, hi⟩, ⟨hx, hm, hk⟩, ht⟩ := id hR
  rcases isDr p0 with ⟨a1, a2⟩ | ⟨d, hd, rfl, a1, a2⟩
  · have h7 : f_X7_turn u p0 = some (.inr 0, u) := by
      unfold f_X7_turn
      rw [if_neg (by rw [a1]; decide)]
    have h8 : f_X8_turn v p0 = some (0, (1, v.2)) := by
      unfold f_X8_turn
      rw [if_neg (by rw [a2]; decide)]
      rfl
    exact ⟨_, _, h7, h8, rfl, fun x hx => (by cases hx), hR.th 1⟩
  have e7 := x6_way hu hi hd
  have e8 : f_X8_wayTo (0, v.2.1, v.2.2.1, v.2.2.2.1, v.2.2.2.2.1, v.2.2.2.2.2.1, v.2.2.2.2.2.2.1, v.2.2.2.2.2.2.2.1, v.2.2.2.2.2.2.2.2.1, v.2.2.2.2.2.2.2.2.2.1, v.2.2.2.2.2.2.2.2.2.2.1, v.2.2.2.2.2.2.2.2.2.2.2.1, v.2.2.2.2.2.2.2.2.2.2.2.2.1, v.2.2.2.2.2.2.2.2.2.2.2.2.2.1, v.2.2.2.2.2.2.2.2.2.2.2.2.2.2.1, v.2.2.2.2.2.2.2.2.2.2.2.2.2.2.2) (nI d) = some (zI (wayA A d)) := x8_way (u := (0, v.2.1, v.2.2.1, v.2.2.2.1, v.2.2.2.2.1, v.2.2.2.2.2.1, v.2.2.2.2.2.2.1, v.2.2.2.2.2.2.2.1, v.2.2.2.2.2.2.2.2.1, v.2.2.2.2.2.2.2.2.2.1, v.2.2.2.2.2.2.2.2.2.2.1, v.2.2.2.2.2.2.2.2.2.2.2.1, v.2.2.2.2.2.2.2.2.2.2.2.2.1, v.2.2.2.2.2.2.2.2.2.2.2.2.2.1, v.2.2.2.2.2.2.2.2.2.2.2.2.2.2.1, v.2.2.2.2.2.2.2.2.2.2.2.2.2.2.2)) hv hi hd
  by_cases c : wayA A d = 99
  · have h7 : f_X7_turn u (nI d) = some (.inr 2, u) := by
      unfold f_X7_turn
      rw [if_pos a1, e7, Option.bind_some, if_pos ((way_99 _ _).mpr c)]
    have h8 : f_X8_turn v (nI d) = some (0, (2, v.2)) := by
      unfold f_X8_turn
      rw [if_pos a2, e8, Option.bind_some, if_pos ((way_99 _ _).mpr c)]
      rfl
    exact ⟨_, _, h7, h8, rfl, fun x hx => (by cases hx), hR.th 2⟩
  · have hwr : -12 < wayA A d ∧ wayA A d < 12 := by
      rcases wy_range (okA A) (aW A) d with c1 | c1
      · exact absurd c1 c
      · exact c1
    obtain ⟨h', k1, k2⟩ := x2_keep hx hk hu hi
    have k3 := x6_go hu (d := d) hwr
    obtain ⟨sv, p1, p2⟩ := x8_saves (v := (0, v.2.1, v.2.2.1, v.2.2.2.1, v.2.2.2.2.1, v.2.2.2.2.2.1, v.2.2.2.2.2.2.1, v.2.2.2.2.2.2.2.1, v.2.2.2.2.2.2.2.2.1, v.2.2.2.2.2.2.2.2.2.1, v.2.2.2.2.2.2.2.2.2.2.1, v.2.2.2.2.2.2.2.2.2.2.2.1, v.2.2.2.2.2.2.2.2.2.2.2.2.1, v.2.2.2.2.2.2.2.2.2.2.2.2.2.1, v.2.2.2.2.2.2.2.2.2.2.2.2.2.2.1, v.2.2.2.2.2.2.2.2.2.2.2.2.2.2.2)) (H := H) (A := A) hm hk hv hi
    replace p1 : f_X8_saves (0, v.2.1, v.2.2.1, v.2.2.2.1, v.2.2.2.2.1, v.2.2.2.2.2.1, v.2.2.2.2.2.2.1, v.2.2.2.2.2.2.2.1, v.2.2.2.2.2.2.2.2.1, v.2.2.2.2.2.2.2.2.2.1, v.2.2.2.2.2.2.2.2.2.2.1, v.2.2.2.2.2.2.2.2.2.2.2.1, v.2.2.2.2.2.2.2.2.2.2.2.2.1, v.2.2.2.2.2.2.2.2.2.2.2.2.2.1, v.2.2.2.2.2.2.2.2.2.2.2.2.2.2.1, v.2.2.2.2.2.2.2.2.2.2.2.2.2.2.2) = some (0, v.2.1, v.2.2.1, sv, (nI (pushH H A).length), v.2.2.2.2.2.1, v.2.2.2.2.2.2.1, v.2.2.2.2.2.2.2.1, v.2.2.2.2.2.2.2.2.1, v.2.2.2.2.2.2.2.2.2.1, v.2.2.2.2.2.2.2.2.2.2.1, v.2.2.2.2.2.2.2.2.2.2.2.1, v.2.2.2.2.2.2.2.2.2.2.2.2.1, v.2.2.2.2.2.2.2.2.2.2.2.2.2.1, v.2.2.2.2.2.2.2.2.2.2.2.2.2.2.1, v.2.2.2.2.2.2.2.2.2.2.2.2.2.2.2) := p1
    obtain ⟨s', p3, p4, _⟩ := x8_turns (u := (0, v.2.1, v.2.2.1, sv, (nI (pushH H A).length), v.2.2.2.2.2.1, v.2.2.2.2.2.2.1, v.2.2.2.2.2.2.2.1, v.2.2.2.2.2.2.2.2.1, v.2.2.2.2.2.2.2.2.2.1, v.2.2.2.2.2.2.2.2.2.2.1, v.2.2.2.2.2.2.2.2.2.2.2.1, v.2.2.2.2.2.2.2.2.2.2.2.2.1, v.2.2.2.2.2.2.2.2.2.2.2.2.2.1, v.2.2.2.2.2.2.2.2.2.2.2.2.2.2.1, v.2.2.2.2.2.2.2.2.2.2.2.2.2.2.2)) hv hi hd c
    replace p3 : f_X8_turns (0, v.2.1, v.2.2.1, sv, (nI (pushH H A).length), v.2.2.2.2.2.1, v.2.2.2.2.2.2.1, v.2.2.2.2.2.2.2.1, v.2.2.2.2.2.2.2.2.1, v.2.2.2.2.2.2.2.2.2.1, v.2.2.2.2.2.2.2.2.2.2.1, v.2.2.2.2.2.2.2.2.2.2.2.1, v.2.2.2.2.2.2.2.2.2.2.2.2.1, v.2.2.2.2.2.2.2.2.2.2.2.2.2.1, v.2.2.2.2.2.2.2.2.2.2.2.2.2.2.1, v.2.2.2.2.2.2.2.2.2.2.2.2.2.2.2) (nI d) = some (0, s', v.2.2.1, sv, (nI (pushH H A).length), v.2.2.2.2.2.1, v.2.2.2.2.2.2.1, v.2.2.2.2.2.2.2.1, v.2.2.2.2.2.2.2.2.1, v.2.2.2.2.2.2.2.2.2.1, v.2.2.2.2.2.2.2.2.2.2.1, v.2.2.2.2.2.2.2.2.2.2.2.1, v.2.2.2.2.2.2.2.2.2.2.2.2.1, v.2.2.2.2.2.2.2.2.2.2.2.2.2.1, v.2.2.2.2.2.2.2.2.2.2.2.2.2.2.1, v.2.2.2.2.2.2.2.2.2.2.2.2.2.2.2) := p3
    have h7 : f_X7_turn u (nI d) = some (.inl (zI (wayA A d)), (f_X6_goTo u.1 (nI d) (zI (wayA A d)), u.2.1, h', u.2.2.2.1, u.2.2.2.2)) := by
      unfold f_X7_turn
      rw [if_pos a1, e7, Option.bind_some, if_neg (fun e => c ((way_99 _ _).mp e)), k1, Option.bind_some, Option.bind_some]
    have h8 : f_X8_turn v (nI d) = some (zI (wayA A d), (0, s', v.2.2.1, sv, (nI (pushH H A).length), v.2.2.2.2.2.1, v.2.2.2.2.2.2.1, v.2.2.2.2.2.2.2.1, v.2.2.2.2.2.2.2.2.1, v.2.2.2.2.2.2.2.2.2.1, v.2.2.2.2.2.2.2.2.2.2.1, v.2.2.2.2.2.2.2.2.2.2.2.1, v.2.2.2.2.2.2.2.2.2.2.2.2.1, v.2.2.2.2.2.2.2.2.2.2.2.2.2.1, v.2.2.2.2.2.2.2.2.2.2.2.2.2.2.1, v.2.2.2.2.2.2.2.2.2.2.2.2.2.2.2)) := by
      unfold f_X8_turn
      rw [if_pos a2, e8, Option.bind_some, if_neg (fun e => c ((way_99 _ _).mp e)), p1, Option.bind_some, p3, Option.bind_some]
    have hit : Inv (turnA A d) := by
      obtain ⟨h1, h2, h3, h4, h5, h6, h7, h8⟩ := hi
      exact ⟨h1, h2, h3, h4, h5, h6, h7, hd⟩
    exact ⟨_, _, h7, h8, rfl, fun x hx => (Sum.inl.inj hx).symm, turnA A d, pushH H A, t, ⟨k3, p4, hit⟩, ⟨k2, p2, pushH_ok hk hi⟩, ht⟩
def jamA (A : AS) (d : Nat) (b : Bool) : AS := (aL A, (fun j => if j = d then b else aJ A j), A.2.2.1, aW A, aC A, aG A)
theorem R6_jam {u : tX6} {A : AS} (h : R6 u A) (d : Nat) (b : Bool) : R6 (u.1, u.2.1, upd u.2.2.1 d (bI b), u.2.2.2) (jamA A d b) := by
  obtain ⟨h1, h2, h3, h4, h5, h6⟩ := h
  refine ⟨h1, h2, fun j hj => ?_, h4, h5, h6⟩
  show upd u.2.2.1 d (bI b) j = bI (if j = d then b else aJ A j)
  rw [upd_if]
  by_cases c : j = d
  · rw [if_pos c, if_pos c]
  · rw [if_neg c, if_neg c]
    exact h3 j hj
theorem R8_jam {s : zF} {A : AS} (h : R8 s A) {d : Nat} (hd : d < 12) (b : Bool) : R8 (upd s (10 + d) (bI b)) (jamA A d b) := by
  obtain ⟨h1, h2, h3, h4, h5, h6, h7⟩ := h
  refine ⟨fun k x hx => ?_, ?_, ?_, fun j hj => ?_, ⟨?_, ?_, ?_⟩, ?_, ?_⟩
  · rw [upd_n (by omega), upd_n (by omega), upd_n (by omega)]
    exact h1 k x hx
  · rw [upd_n (by omega)]; exact h2
  · rw [upd_n (by omega)]; exact h3
  · show upd s (10 + d) (bI b) (10 + j) = bI (if j = d then b else aJ A j)
    by_cases c : j = d
    · subst c
      rw [upd_s, if_pos rfl]
    · rw [upd_n (by omega), if_neg c]
      exact h4 j hj
  · rw [upd_n (by omega)]; exact h5.1
  · rw [upd_n (by omega)]; exact h5.2.1
  · rw [upd_n (by omega)]; exact h5.2.2
  · rw [upd_n (by omega)]; exact h6
  · rw [upd_n (by omega), upd_n (by omega), upd_n (by omega), upd_n (by omega)]; exact h7
theorem o_jam : op_jam RR := by
  intro u v hR p0 b
  obtain ⟨A, H, t, ⟨hu, hv, hi⟩, ⟨hx, hm, hk⟩, ht⟩ := id hR
  rcases isDr p0 with ⟨a1, a2⟩ | ⟨d, hd, rfl, a1, a2⟩
  · have h7 : f_X7_jam u p0 b = some (.inr 0, u) := by
      unfold f_X7_jam
      rw [if_neg (by rw [a1]; decide)]
    have h8 : f_X8_jam v p0 b = some (0, (1, v.2)) := by
      unfold f_X8_jam
      rw [if_neg (by rw [a2]; decide)]
      rfl
    exact ⟨_, _, h7, h8, rfl, fun x hx => (by cases hx), hR.th 1⟩
  obtain ⟨h', k1, k2⟩ := x2_keep hx hk hu hi
  have k3 := R6_jam hu d b
  obtain ⟨sv, p1, p2⟩ := x8_saves (v := (0, v.2.1, v.2.2.1, v.2.2.2.1, v.2.2.2.2.1, v.2.2.2.2.2.1, v.2.2.2.2.2.2.1, v.2.2.2.2.2.2.2.1, v.2.2.2.2.2.2.2.2.1, v.2.2.2.2.2.2.2.2.2.1, v.2.2.2.2.2.2.2.2.2.2.1, v.2.2.2.2.2.2.2.2.2.2.2.1, v.2.2.2.2.2.2.2.2.2.2.2.2.1, v.2.2.2.2.2.2.2.2.2.2.2.2.2.1, v.2.2.2.2.2.2.2.2.2.2.2.2.2.2.1, v.2.2.2.2.2.2.2.2.2.2.2.2.2.2.2)) (H := H) (A := A) hm hk hv hi
  replace p1 : f_X8_saves (0, v.2.1, v.2.2.1, v.2.2.2.1, v.2.2.2.2.1, v.2.2.2.2.2.1, v.2.2.2.2.2.2.1, v.2.2.2.2.2.2.2.1, v.2.2.2.2.2.2.2.2.1, v.2.2.2.2.2.2.2.2.2.1, v.2.2.2.2.2.2.2.2.2.2.1, v.2.2.2.2.2.2.2.2.2.2.2.1, v.2.2.2.2.2.2.2.2.2.2.2.2.1, v.2.2.2.2.2.2.2.2.2.2.2.2.2.1, v.2.2.2.2.2.2.2.2.2.2.2.2.2.2.1, v.2.2.2.2.2.2.2.2.2.2.2.2.2.2.2) = some (0, v.2.1, v.2.2.1, sv, (nI (pushH H A).length), v.2.2.2.2.2.1, v.2.2.2.2.2.2.1, v.2.2.2.2.2.2.2.1, v.2.2.2.2.2.2.2.2.1, v.2.2.2.2.2.2.2.2.2.1, v.2.2.2.2.2.2.2.2.2.2.1, v.2.2.2.2.2.2.2.2.2.2.2.1, v.2.2.2.2.2.2.2.2.2.2.2.2.1, v.2.2.2.2.2.2.2.2.2.2.2.2.2.1, v.2.2.2.2.2.2.2.2.2.2.2.2.2.2.1, v.2.2.2.2.2.2.2.2.2.2.2.2.2.2.2) := p1
  have h7 : f_X7_jam u (nI d) b = some (.inl (bI (aJ A d)), ((u.1.1, u.1.2.1, upd u.1.2.2.1 d (bI b), u.1.2.2.2), u.2.1, h', u.2.2.2.1, u.2.2.2.2)) := by
    unfold f_X7_jam
    rw [if_pos a1, k1, Option.bind_some, at_n hd (by omega), hu.2.2.1 d hd, wr_n hd (by omega), wr_n hd (by omega), Option.bind_some, Option.bind_some]
    cases b with
    | true => rw [if_pos rfl]; rfl
    | false => rw [if_neg (by decide)]; rfl
  have h8 : f_X8_jam v (nI d) b = some (bI (aJ A d), (0, (upd v.2.1 (10 + d) (bI b)), v.2.2.1, sv, (nI (pushH H A).length), v.2.2.2.2.2.1, v.2.2.2.2.2.2.1, v.2.2.2.2.2.2.2.1, v.2.2.2.2.2.2.2.2.1, v.2.2.2.2.2.2.2.2.2.1, v.2.2.2.2.2.2.2.2.2.2.1, v.2.2.2.2.2.2.2.2.2.2.2.1, v.2.2.2.2.2.2.2.2.2.2.2.2.1, v.2.2.2.2.2.2.2.2.2.2.2.2.2.1, v.2.2.2.2.2.2.2.2.2.2.2.2.2.2.1, v.2.2.2.2.2.2.2.2.2.2.2.2.2.2.2)) := by
    unfold f_X8_jam
    rw [if_pos a2, p1, Option.bind_some]
    dsimp only
    rw [pos10, aget_n (by omega) (by omega), Option.bind_some, hv.2.2.2.1 d hd, aset_n (by omega) (by omega), aset_n (by omega) (by omega), Option.bind_some, Option.bind_some]
    cases b with
    | true => rw [if_pos rfl]; rfl
    | false => rw [if_neg (by decide)]; rfl
  exact ⟨_, _, h7, h8, rfl, fun x hx => (Sum.inl.inj hx).symm, jamA A d b, pushH H A, t, ⟨k3, R8_jam hv hd b, hi⟩, ⟨k2, p2, pushH_ok hk hi⟩, ht⟩
def setA (A : AS) (k x : Nat) : AS := (aL A, aJ A, (if k = 0 then x else aLim A, if k = 1 then x else aCap A, if k = 2 then x else aRule A), aW A, aC A, aG A)
theorem R6_set {u : tX6} {A : AS} (h : R6 u A) {k : Nat} (hk : k < 3) (x : Nat) : R6 (u.1, u.2.1, u.2.2.1, upd u.2.2.2.1 k (nI x), u.2.2.2.2) (setA A k x) := by
  obtain ⟨h1, h2, h3, h4, h5, h6⟩ := h
  refine ⟨h1, h2, h3, ?_, h5, h6⟩
  rcases (show k = 0 ∨ k = 1 ∨ k = 2 by omega) with rfl | rfl | rfl
  · exact ⟨rfl, h4.2.1, h4.2.2⟩
  · exact ⟨h4.1, rfl, h4.2.2⟩
  · exact ⟨h4.1, h4.2.1, rfl⟩
theorem R8_set {s : zF} {A : AS} (h : R8 s A) {k : Nat} (hk : k < 3) (x : Nat) : R8 (upd s k (nI x)) (setA A k x) := by
  obtain ⟨h1, h2, h3, h4, h5, h6, h7⟩ := h
  refine ⟨fun k x hx => ?_, ?_, ?_, fun j hj => ?_, ?_, ?_, ?_⟩
  · rw [upd_n (by omega), upd_n (by omega), upd_n (by omega)]
    exact h1 k x hx
  · rw [upd_n (by omega)]; exact h2
  · rw [upd_n (by omega)]; exact h3
  · rw [upd_n (by omega)]; exact h4 j hj
  · rcases (show k = 0 ∨ k = 1 ∨ k = 2 by omega) with rfl | rfl | rfl
    · exact ⟨rfl, h5.2.1, h5.2.2⟩
    · exact ⟨h5.1, rfl, h5.2.2⟩
    · exact ⟨h5.1, h5.2.1, rfl⟩
  · rw [upd_n (by omega)]; exact h6
  · rw [upd_n (by omega), upd_n (by omega), upd_n (by omega), upd_n (by omega)]; exact h7
def sLo (k : Nat) : Nat := if k = 1 then 10 else 0
def sHi (k : Nat) : Nat := if k = 0 then 300 else if k = 1 then 100 else 2
theorem o_set : op_set RR := by
  intro u v hR p0 p1
  obtain ⟨A, H, t, ⟨hu, hv, hi⟩, ⟨hx, hm, hk⟩, ht⟩ := id hR
  rcases isSet p0 with ⟨a1, a2⟩ | ⟨k, hk3, rfl, a1, a2⟩
  · have h7 : f_X7_set u p0 p1 = some (.inr 0, u) := by
      unfold f_X7_set
      rw [if_neg (by rw [a1]; decide)]
    have h8 : f_X8_set v p0 p1 = some (0, (1, v.2)) := by
      unfold f_X8_set
      rw [if_neg (by rw [a2]; decide)]
      rfl
    exact ⟨_, _, h7, h8, rfl, fun x hx => (by cases hx), hR.th 1⟩
  have hlo : f_X7_at 3 zLeast (nI k) = nI (sLo k) := by
    rw [at_n hk3 (by omega)]
    rcases (show k = 0 ∨ k = 1 ∨ k = 2 by omega) with rfl | rfl | rfl <;> rfl
  have hhi : f_X7_at 3 zGreatest (nI k) = nI (sHi k) := by
    rw [at_n hk3 (by omega)]
    rcases (show k = 0 ∨ k = 1 ∨ k = 2 by omega) with rfl | rfl | rfl <;> rfl
  have hin : (if nI k = (0 : Int32) then some (f_X8_in p1 0 300) else if nI k = (1 : Int32) then some (f_X8_in p1 10 100) else some (f_X8_in p1 0 2)) = some (f_X8_in p1 (nI (sLo k)) (nI (sHi k))) := by
    rcases (show k = 0 ∨ k = 1 ∨ k = 2 by omega) with rfl | rfl | rfl
    · rw [if_pos (by decide)]; rfl
    · rw [if_neg (by decide), if_pos (by decide)]; rfl
    · rw [if_neg (by decide), if_neg (by decide)]; rfl
  have hslo : sLo k < 2 ^ 31 := by
    unfold sLo
    split <;> omega
  have hshi : sHi k ≤ 300 := by
    unfold sHi
    split
    · omega
    · split <;> omega
  rcases in_cases p1 (a := sLo k) (b := sHi k) hslo (by omega) with ⟨b1, b2⟩ | ⟨x, b1, b2, rfl, b3⟩
  · have h7 : f_X7_set u (nI k) p1 = some (.inr 1, u) := by
      unfold f_X7_set
      rw [if_pos a1, hlo, hhi]
      rcases b2 with b2 | ⟨b2, b3⟩
      · rw [if_pos b2]
      · rw [if_neg b2, if_neg (fun e => Int32.not_lt.mpr e b3)]
    have h8 : f_X8_set v (nI k) p1 = some (0, (2, v.2)) := by
      unfold f_X8_set
      rw [if_pos a2, hin, Option.bind_some, if_neg (by rw [b1]; decide)]
      rfl
    exact ⟨_, _, h7, h8, rfl, fun x hx => (by cases hx), hR.th 2⟩
  have g7 := x0_greatL hu.1 hi.1
  have g8 : f_X8_greatestLoad (0, v.2.1, v.2.2.1, v.2.2.2.1, v.2.2.2.2.1, v.2.2.2.2.2.1, v.2.2.2.2.2.2.1, v.2.2.2.2.2.2.2.1, v.2.2.2.2.2.2.2.2.1, v.2.2.2.2.2.2.2.2.2.1, v.2.2.2.2.2.2.2.2.2.2.1, v.2.2.2.2.2.2.2.2.2.2.2.1, v.2.2.2.2.2.2.2.2.2.2.2.2.1, v.2.2.2.2.2.2.2.2.2.2.2.2.2.1, v.2.2.2.2.2.2.2.2.2.2.2.2.2.2.1, v.2.2.2.2.2.2.2.2.2.2.2.2.2.2.2) = some (nI (gl (aL A))) := x8_greatL (u := (0, v.2.1, v.2.2.1, v.2.2.2.1, v.2.2.2.2.1, v.2.2.2.2.2.1, v.2.2.2.2.2.2.1, v.2.2.2.2.2.2.2.1, v.2.2.2.2.2.2.2.2.1, v.2.2.2.2.2.2.2.2.2.1, v.2.2.2.2.2.2.2.2.2.2.1, v.2.2.2.2.2.2.2.2.2.2.2.1, v.2.2.2.2.2.2.2.2.2.2.2.2.1, v.2.2.2.2.2.2.2.2.2.2.2.2.2.1, v.2.2.2.2.2.2.2.2.2.2.2.2.2.2.1, v.2.2.2.2.2.2.2.2.2.2.2.2.2.2.2)) hv hi.1
  have hgl := gl_le hi
  obtain ⟨h', k1, k2⟩ := x2_keep hx hk hu hi
  obtain ⟨sv, p1, p2⟩ := x8_saves (v := (0, v.2.1, v.2.2.1, v.2.2.2.1, v.2.2.2.2.1, v.2.2.2.2.2.1, v.2.2.2.2.2.2.1, v.2.2.2.2.2.2.2.1, v.2.2.2.2.2.2.2.2.1, v.2.2.2.2.2.2.2.2.2.1, v.2.2.2.2.2.2.2.2.2.2.1, v.2.2.2.2.2.2.2.2.2.2.2.1, v.2.2.2.2.2.2.2.2.2.2.2.2.1, v.2.2.2.2.2.2.2.2.2.2.2.2.2.1, v.2.2.2.2.2.2.2.2.2.2.2.2.2.2.1, v.2.2.2.2.2.2.2.2.2.2.2.2.2.2.2)) (H := H) (A := A) hm hk hv hi
  replace p1 : f_X8_saves (0, v.2.1, v.2.2.1, v.2.2.2.1, v.2.2.2.2.1, v.2.2.2.2.2.1, v.2.2.2.2.2.2.1, v.2.2.2.2.2.2.2.1, v.2.2.2.2.2.2.2.2.1, v.2.2.2.2.2.2.2.2.2.1, v.2.2.2.2.2.2.2.2.2.2.1, v.2.2.2.2.2.2.2.2.2.2.2.1, v.2.2.2.2.2.2.2.2.2.2.2.2.1, v.2.2.2.2.2.2.2.2.2.2.2.2.2.1, v.2.2.2.2.2.2.2.2.2.2.2.2.2.2.1, v.2.2.2.2.2.2.2.2.2.2.2.2.2.2.2) = some (0, v.2.1, v.2.2.1, sv, (nI (pushH H A).length), v.2.2.2.2.2.1, v.2.2.2.2.2.2.1, v.2.2.2.2.2.2.2.1, v.2.2.2.2.2.2.2.2.1, v.2.2.2.2.2.2.2.2.2.1, v.2.2.2.2.2.2.2.2.2.2.1, v.2.2.2.2.2.2.2.2.2.2.2.1, v.2.2.2.2.2.2.2.2.2.2.2.2.1, v.2.2.2.2.2.2.2.2.2.2.2.2.2.1, v.2.2.2.2.2.2.2.2.2.2.2.2.2.2.1, v.2.2.2.2.2.2.2.2.2.2.2.2.2.2.2) := p1
  have good : (k = 1 → gl (aL A) ≤ x) → ∃ r r8, f_X7_set u (nI k) (nI x) = some r ∧ f_X8_set v (nI k) (nI x) = some r8 ∧ zLc 1 2 3 r.1 = r8.2.1 ∧ (∀ x, r.1 = .inl x → x = r8.1) ∧ RR r.2 r8.2 := by
    intro hg
    have h7 : f_X7_set u (nI k) (nI x) = some (.inl (v.2.1 k), ((u.1.1, u.1.2.1, u.1.2.2.1, upd u.1.2.2.2.1 k (nI x), u.1.2.2.2.2), u.2.1, h', u.2.2.2.1, u.2.2.2.2)) := by
      unfold f_X7_set
      rw [if_pos a1, hlo, hhi, if_neg (nI_nlt b1 (by omega)), if_pos (nI_le b2 (by omega)), k1, g7, Option.bind_some, Option.bind_some, at_n hk3 (by omega), set_at hu hv hk3, wr_n hk3 (by omega), Option.bind_some]
      by_cases c : k = 1
      · rw [if_pos ((i1e (by omega)).mpr c), if_pos (nI_le (hg c) (by omega))]
      · rw [if_neg (fun e => c ((i1e (by omega)).mp e))]
    have h8 : f_X8_set v (nI k) (nI x) = some (v.2.1 k, (0, (upd v.2.1 k (nI x)), v.2.2.1, sv, (nI (pushH H A).length), v.2.2.2.2.2.1, v.2.2.2.2.2.2.1, v.2.2.2.2.2.2.2.1, v.2.2.2.2.2.2.2.2.1, v.2.2.2.2.2.2.2.2.2.1, v.2.2.2.2.2.2.2.2.2.2.1, v.2.2.2.2.2.2.2.2.2.2.2.1, v.2.2.2.2.2.2.2.2.2.2.2.2.1, v.2.2.2.2.2.2.2.2.2.2.2.2.2.1, v.2.2.2.2.2.2.2.2.2.2.2.2.2.2.1, v.2.2.2.2.2.2.2.2.2.2.2.2.2.2.2)) := by
      unfold f_X8_set
      rw [if_pos a2, hin, Option.bind_some, if_pos b3, g8, Option.bind_some, p1, Option.bind_some]
      dsimp only
      rw [aget_n (by omega) (by omega), Option.bind_some, aset_n (by omega) (by omega), Option.bind_some]
      by_cases c : k = 1
      · rw [if_pos ((i1e (by omega)).mpr c), if_pos (nI_le (hg c) (by omega))]
      · rw [if_neg (fun e => c ((i1e (by omega)).mp e))]
    have hit : Inv (setA A k x) := by
      clear h7 h8
      obtain ⟨i1, i2, i3, i4, i5, i6, i7, i8⟩ := hi
      rcases (show k = 0 ∨ k = 1 ∨ k = 2 by omega) with rfl | rfl | rfl
      · exact ⟨i1, i2, i3, b2, i5, i6, i7, i8⟩
      · refine ⟨i1, i2, fun d hd => ?_, i4, b1, b2, i7, i8⟩
        have hg1 := hg rfl
        have h9 : lod (aL A) d ≤ gl (aL A) := mx_ge hd
        show ld (aL A) d ≤ (x : Int)
        rw [lod_ld]
        omega
      · exact ⟨i1, i2, i3, i4, i5, i6, b2, i8⟩
    exact ⟨_, _, h7, h8, rfl, fun x hx => (Sum.inl.inj hx).symm, setA A k x, pushH H A, t, ⟨R6_set hu hk3 x, R8_set hv hk3 x, hit⟩, ⟨k2, p2, pushH_ok hk hi⟩, ht⟩
  by_cases c : k = 1
  · by_cases c2 : gl (aL A) ≤ x
    · exact good (fun _ => c2)
    · have h7 : f_X7_set u (nI k) (nI x) = some (.inr 2, u) := by
        unfold f_X7_set
        rw [if_pos a1, hlo, hhi, if_neg (nI_nlt b1 (by omega)), if_pos (nI_le b2 (by omega)), if_pos ((i1e (by omega)).mpr c), g7, Option.bind_some, if_neg (nI_ge (by omega) (by omega))]
      have h8 : f_X8_set v (nI k) (nI x) = some (0, (3, v.2)) := by
        unfold f_X8_set
        rw [if_pos a2, hin, Option.bind_some, if_pos b3, if_pos ((i1e (by omega)).mpr c), g8, Option.bind_some, if_neg (nI_ge (by omega) (by omega))]
        rfl
      exact ⟨_, _, h7, h8, rfl, fun x hx => (by cases hx), hR.th 3⟩
  · exact good (fun e => absurd e c)
theorem o_undo : op_undo RR := by
  intro u v hR
  obtain ⟨A, H, t, ⟨hu, hv, hi⟩, ⟨hx, hm, hk⟩, ht⟩ := id hR
  have hkl := hk.1
  by_cases c : H.length = 0
  · have h7 : f_X7_undo u = some (.inr 2, u) := by
      unfold f_X7_undo
      rw [if_pos (by rw [hx.1, c]; rfl)]
    have h8 : f_X8_undo v = some (0, (1, v.2)) := by
      unfold f_X8_undo
      rw [if_pos (by rw [hm.1, c]; rfl)]
      rfl
    exact ⟨_, _, h7, h8, rfl, fun x hx => (by cases hx), hR.th 1⟩
  · obtain ⟨h', v', B, k1, k2, k3, k4, k5, k6⟩ := x2_back (v := u.1) hx hk (by omega)
    have hm1 : v.2.2.2.2.1 - 1 = nI (H.length - 1) := by
      rw [hm.1, show (1 : Int32) = nI 1 from rfl, pk_sub (by omega)]
    obtain ⟨z, h1, h2⟩ := lp_run (b_X8_undo_30 v) 142 (fun k s => s.1 = nI k ∧ ∀ j, j < k → s.2 j = v.2.2.2.1 (142 * (H.length - 1) + j)) (fun e => ∀ j, j < 142 → e j = v.2.2.2.1 (142 * (H.length - 1) + j)) (fun k s hk' hs => by
      obtain ⟨s1, s2⟩ := s
      obtain ⟨b1, b2⟩ := hs
      dsimp only at b1 b2
      subst b1
      unfold b_X8_undo_30
      dsimp only
      rcases Nat.lt_or_ge k 142 with h5 | h5
      · right
        refine ⟨h5, ?_⟩
        rw [if_neg (show ¬ (142 : Int32) ≤ nI k from nI_ge (b := 142) h5 (by omega)), hm1, show (142 : Int32) = nI 142 from rfl, pk_mul, nI_add, aget_n (by omega) (by omega), Option.bind_some, aset_n (by omega) (by omega), Option.bind_some, nI_1]
        refine ⟨_, rfl, rfl, fun j hj => ?_⟩
        dsimp only
        rw [upd_if]
        by_cases c : j = k
        · subst c
          rw [if_pos rfl]
        · rw [if_neg c]
          exact b2 j (by omega)
      · left
        have : k = 142 := by omega
        subst this
        rw [if_pos (show (142 : Int32) ≤ nI 142 by decide)]
        exact ⟨_, rfl, b2⟩) 5000 0 (0, v.2.1) (by omega) (by omega) ⟨rfl, fun j hj => absurd hj (Nat.not_lt_zero _)⟩
    have hB8 : R8 z B := (hm.2 _ B k2).congr k3.1.1 h2
    have h7 : f_X7_undo u = some (.inl (nI (H.length - 1)), (v', u.2.1, h', u.2.2.2.1, u.2.2.2.2)) := by
      unfold f_X7_undo
      rw [if_neg (by rw [hx.1]; exact nz (by omega) (by omega)), k1, Option.bind_some]
      dsimp only
      rw [k6]
    have h8 : f_X8_undo v = some (nI (H.length - 1), (0, z, v.2.2.1, v.2.2.2.1, (nI (H.length - 1)), v.2.2.2.2.2.1, v.2.2.2.2.2.2.1, v.2.2.2.2.2.2.2.1, v.2.2.2.2.2.2.2.2.1, v.2.2.2.2.2.2.2.2.2.1, v.2.2.2.2.2.2.2.2.2.2.1, v.2.2.2.2.2.2.2.2.2.2.2.1, v.2.2.2.2.2.2.2.2.2.2.2.2.1, v.2.2.2.2.2.2.2.2.2.2.2.2.2.1, v.2.2.2.2.2.2.2.2.2.2.2.2.2.2.1, v.2.2.2.2.2.2.2.2.2.2.2.2.2.2.2)) := by
      unfold f_X8_undo
      rw [if_neg (by rw [hm.1]; exact nz (by omega) (by omega)), h1, Option.bind_some, hm1]
    have hmd : HM v.2.2.2.1 (nI (H.length - 1)) H.dropLast := by
      refine ⟨by rw [List.length_dropLast], fun j C hC => ?_⟩
      have hj := (List.getElem?_eq_some_iff.mp hC).1
      rw [List.length_dropLast] at hj
      rw [List.getElem?_dropLast, if_pos hj] at hC
      exact hm.2 j C hC
    exact ⟨_, _, h7, h8, rfl, fun x hx => (Sum.inl.inj hx).symm, B, H.dropLast, t, ⟨k4, hB8, k3⟩, ⟨k5, hmd, dropLast_ok hk⟩, ht⟩
theorem o_append : op_append RR := by
  intro u v hR p0
  obtain ⟨A, H, t, ha, hh, ⟨ht, hmt, hl, hc⟩⟩ := id hR
  rcases in_cases p0 (a := 33) (b := 126) (by omega) (by omega) with ⟨b1, b2⟩ | ⟨x, b1, b2, rfl, b3⟩
  · have h7 : f_X7_append u p0 = some (.inr 1, u) := by
      unfold f_X7_append
      rcases b2 with b2 | ⟨b2, b3⟩
      · rw [if_pos (show p0 < 33 from b2)]
      · rw [if_neg (show ¬ p0 < 33 from b2), if_neg (show ¬ p0 ≤ 126 from fun e => Int32.not_lt.mpr e b3)]
    have h8 : f_X8_append v p0 = some (0, (1, v.2)) := by
      unfold f_X8_append
      rw [if_neg (show ¬ f_X8_in p0 33 126 = true from fun e => by rw [show f_X8_in p0 33 126 = false from b1] at e; cases e)]
      rfl
    exact ⟨_, _, h7, h8, rfl, fun x hx => (by cases hx), hR.th 1⟩
  have g1 : ¬ nI x < 33 := nI_nlt (b := 33) b1 (by omega)
  have g2 : nI x ≤ 126 := nI_le (b := 126) b2 (by omega)
  by_cases c : t.length = 60
  · have h7 : f_X7_append u (nI x) = some (.inr 2, u) := by
      unfold f_X7_append
      rw [if_neg g1, if_pos g2, ht.2, c, if_neg (show ¬ nI 60 < 60 by decide)]
    have h8 : f_X8_append v (nI x) = some (0, (2, v.2)) := by
      unfold f_X8_append
      rw [if_pos (show f_X8_in (nI x) 33 126 = true from b3), if_pos (by rw [hmt.2, c]; rfl)]
      rfl
    exact ⟨_, _, h7, h8, rfl, fun x hx => (by cases hx), hR.th 2⟩
  · have h7 : f_X7_append u (nI x) = some (.inl (nI (t.length + 1)), (u.1, u.2.1, u.2.2.1, (upd u.2.2.2.1.1 t.length (nI x), nI (t.length + 1), u.2.2.2.1.2.2), u.2.2.2.2)) := by
      unfold f_X7_append f_X1_addSign
      rw [if_neg g1, if_pos g2, ht.2, if_pos (show nI t.length < 60 from nI_lt (b := 60) (by omega) (by omega)), wr_n (by omega) (by omega), Option.bind_some, Option.bind_some, nI_1]
    have h8 : f_X8_append v (nI x) = some (nI (t.length + 1), (0, v.2.1, v.2.2.1, v.2.2.2.1, v.2.2.2.2.1, (upd v.2.2.2.2.2.1 t.length (nI x)), (nI (t.length + 1)), v.2.2.2.2.2.2.2.1, v.2.2.2.2.2.2.2.2.1, v.2.2.2.2.2.2.2.2.2.1, v.2.2.2.2.2.2.2.2.2.2.1, v.2.2.2.2.2.2.2.2.2.2.2.1, v.2.2.2.2.2.2.2.2.2.2.2.2.1, v.2.2.2.2.2.2.2.2.2.2.2.2.2.1, v.2.2.2.2.2.2.2.2.2.2.2.2.2.2.1, v.2.2.2.2.2.2.2.2.2.2.2.2.2.2.2)) := by
      unfold f_X8_append
      rw [if_pos (show f_X8_in (nI x) 33 126 = true from b3), if_neg (fun e => c ((nI_eq (by omega) (by omega)).mp (hmt.2.symm.trans (e.trans (show (60 : Int32) = nI 60 from rfl))))), hmt.2, aset_n (by omega) (by omega), Option.bind_some, nI_1]
    have key : ∀ f : zF, (∀ k y, t[k]? = some y → f k = nI y) → ∀ k y, (t ++ [x])[k]? = some y → upd f t.length (nI x) k = nI y := by
      intro f hf k y hy
      rcases Nat.lt_trichotomy k t.length with d | d | d
      · rw [upd_n (by omega)]
        refine hf k y ?_
        rw [← hy]
        exact (List.getElem?_append_left d).symm
      · subst d
        rw [upd_s]
        rw [List.getElem?_append_right (Nat.le_refl _), Nat.sub_self] at hy
        cases hy
        rfl
      · rw [List.getElem?_eq_none (by rw [List.length_append, List.length_singleton]; omega)] at hy
        cases hy
    have hll : nI (t.length + 1) = nI (t ++ [x]).length := by rw [List.length_append, List.length_singleton]
    refine ⟨_, _, h7, h8, rfl, fun x hx => (Sum.inl.inj hx).symm, A, H, t ++ [x], ha, hh, ⟨key _ ht.1, hll⟩, ⟨key _ hmt.1, hll⟩, ?_, fun y hy => ?_⟩
    · rw [List.length_append, List.length_singleton]
      omega
    · rcases List.mem_append.mp hy with e | e
      · exact hc y e
      · rw [List.mem_singleton.mp e]
        omega
theorem o_clearBuffer : op_clearBuffer RR := by
  intro u v hR
  obtain ⟨A, H, t, ha, hh, ⟨ht, hmt, hl, hc⟩⟩ := id hR
  refine ⟨_, _, rfl, rfl, ?_, A, H, [], ha, hh, ⟨fun k y hy => (by cases hy), rfl⟩, ⟨fun k y hy => (by cases hy), rfl⟩, Nat.zero_le _, fun y hy => (by cases hy)⟩
  exact ht.2.trans hmt.2.symm
theorem o_firstError : op_firstError RR := by
  intro u v hR
  obtain ⟨A, H, t, ha, hh, ⟨ht, hmt, hl, hc⟩⟩ := id hR
  obtain ⟨u', e1, e2, _⟩ := x1_read ht hl hc
  obtain ⟨a, w, f, m, e3, e4, _⟩ := x8_reads (u := (0, v.2.1, v.2.2.1, v.2.2.2.1, v.2.2.2.2.1, v.2.2.2.2.2.1, v.2.2.2.2.2.2.1, v.2.2.2.2.2.2.2.1, v.2.2.2.2.2.2.2.2.1, v.2.2.2.2.2.2.2.2.2.1, v.2.2.2.2.2.2.2.2.2.2.1, v.2.2.2.2.2.2.2.2.2.2.2.1, v.2.2.2.2.2.2.2.2.2.2.2.2.1, v.2.2.2.2.2.2.2.2.2.2.2.2.2.1, v.2.2.2.2.2.2.2.2.2.2.2.2.2.2.1, v.2.2.2.2.2.2.2.2.2.2.2.2.2.2.2)) hmt hl hc
  have h7 : f_X7_firstError u = some (nI (er t), (u.1, u.2.1, u.2.2.1, u', u.2.2.2.2)) := by
    unfold f_X7_firstError
    rw [e1, Option.bind_some]
  subst e4
  have h8 : ∃ z, f_X8_firstError v = some (nI (er t), z) ∧ z.2.1 = v.2.1 ∧ z.2.2.2.1 = v.2.2.2.1 ∧ z.2.2.2.2.1 = v.2.2.2.2.1 ∧ z.2.2.2.2.2.1 = v.2.2.2.2.2.1 ∧ z.2.2.2.2.2.2.1 = v.2.2.2.2.2.2.1 := by
    unfold f_X8_firstError
    rw [show f_X8_readsAll (0, v.2.1, v.2.2.1, v.2.2.2.1, v.2.2.2.2.1, v.2.2.2.2.2.1, v.2.2.2.2.2.2.1, v.2.2.2.2.2.2.2.1, v.2.2.2.2.2.2.2.2.1, v.2.2.2.2.2.2.2.2.2.1, v.2.2.2.2.2.2.2.2.2.2.1, v.2.2.2.2.2.2.2.2.2.2.2.1, v.2.2.2.2.2.2.2.2.2.2.2.2.1, v.2.2.2.2.2.2.2.2.2.2.2.2.2.1, v.2.2.2.2.2.2.2.2.2.2.2.2.2.2.1, v.2.2.2.2.2.2.2.2.2.2.2.2.2.2.2) = _ from e3, Option.bind_some]
    exact ⟨_, rfl, rfl, rfl, rfl, rfl, rfl⟩
  obtain ⟨z, h8, z1, z2, z3, z4, z5⟩ := h8
  refine ⟨_, _, h7, h8, rfl, A, H, t, ⟨ha.1, ?_, ha.2.2⟩, ⟨hh.1, ?_, hh.2.2⟩, ⟨e2, ⟨?_, ?_⟩, hl, hc⟩⟩
  · show R8 z.2.1 A
    rw [z1]
    exact ha.2.1
  · show HM z.2.2.2.1 z.2.2.2.2.1 H
    rw [z2, z3]
    exact hh.2.1
  · show ∀ k x, t[k]? = some x → z.2.2.2.2.2.1 k = nI x
    rw [z4]
    exact hmt.1
  · show z.2.2.2.2.2.2.1 = nI t.length
    rw [z5]
    exact hmt.2
