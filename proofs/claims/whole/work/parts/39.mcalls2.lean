/-! the calls that change something -/
theorem x8_comes {u : tX8} {A : AS} (h : R8 u.2.1 A) (hl : (aL A).length < 40) (n : Int32) (w d : Nat) : ∃ s', f_X8_comes u n (nI w) (nI d) = some (u.1, s', u.2.2) ∧ R8 s' (aL A ++ [(n, w, d)], A.2) := by
  obtain ⟨h1, h2, h3, h4, h5, h6, h7⟩ := h
  unfold f_X8_comes
  rw [q9, Option.bind_some, h2, pos3, add0, aset_n (by omega) (by omega), Option.bind_some, nI_1, aset_n (by omega) (by omega), Option.bind_some, show (2 : Int32) = nI 2 from rfl, nI_add, aset_n (by omega) (by omega), Option.bind_some, q9, Option.bind_some, upd_n (by omega), upd_n (by omega), upd_n (by omega), h2, nI_1, qs9, Option.bind_some]
  refine ⟨_, rfl, ?_⟩
  have hz : ∀ k, k ≠ 9 → k < 22 + 3 * (aL A).length → (upd (upd (upd (upd u.2.1 (22 + 3 * (aL A).length) n) (22 + 3 * (aL A).length + 1) (nI w)) (22 + 3 * (aL A).length + 2) (nI d)) 9 (nI ((aL A).length + 1))) k = u.2.1 k := by
    intro k a b
    rw [upd_n a, upd_n (by omega), upd_n (by omega), upd_n (by omega)]
  refine ⟨fun k x hx => ?_, ?_, ?_, fun d hd => ?_, ⟨?_, ?_, ?_⟩, ?_, ?_⟩
  · replace hx : (aL A ++ [(n, w, d)])[k]? = some x := hx
    rcases Nat.lt_trichotomy k (aL A).length with c | c | c
    · rw [List.getElem?_append_left c] at hx
      rw [hz _ (by omega) (by omega), hz _ (by omega) (by omega), hz _ (by omega) (by omega)]
      exact h1 k x hx
    · subst c
      rw [List.getElem?_append_right (Nat.le_refl _), Nat.sub_self] at hx
      cases hx
      refine ⟨?_, ?_, ?_⟩
      · rw [upd_n (by omega), upd_n (by omega), upd_n (by omega), upd_s]
      · rw [upd_n (by omega), upd_n (by omega), upd_s]
      · rw [upd_n (by omega), upd_s]
    · rw [List.getElem?_eq_none (by rw [List.length_append, List.length_singleton]; omega)] at hx
      cases hx
  · show _ = nI (aL A ++ [(n, w, d)]).length
    rw [upd_s, List.length_append, List.length_singleton]
  · rw [hz _ (by omega) (by omega)]; exact h3
  · rw [hz _ (by omega) (by omega)]; exact h4 d hd
  · rw [hz _ (by omega) (by omega)]; exact h5.1
  · rw [hz _ (by omega) (by omega)]; exact h5.2.1
  · rw [hz _ (by omega) (by omega)]; exact h5.2.2
  · rw [hz _ (by omega) (by omega)]; exact h6
  · rw [hz _ (by omega) (by omega), hz _ (by omega) (by omega), hz _ (by omega) (by omega), hz _ (by omega) (by omega)]; exact h7
theorem Wf.put {L : List It} {G : Nat} (h : Wf L G) (hG : G ≤ 1000) (hl : L.length < 40) {w d : Nat} (w1 : 1 ≤ w) (w2 : w ≤ 20) (hd : d < 12) : Wf (L ++ [(nI G, w, d)]) (G + 1) := by
  refine ⟨?_, fun x hx => ?_, ?_⟩
  · rw [List.length_append, List.length_singleton]; omega
  · rcases List.mem_append.mp hx with y | y
    · obtain ⟨a, b, c, j, hj, e⟩ := h.2.1 x y
      exact ⟨a, b, c, j, by omega, e⟩
    · rw [List.mem_singleton.mp y]
      exact ⟨w1, w2, hd, G, by omega, rfl⟩
  · refine List.pairwise_append.mpr ⟨h.2.2, List.pairwise_singleton _ _, fun a ha b hb e => ?_⟩
    rw [List.mem_singleton.mp hb] at e
    obtain ⟨_, _, _, j, hj, e2⟩ := h.2.1 a ha
    rw [e2] at e
    have := (nI_eq (by omega) (by omega)).mp e
    omega
theorem tilt_app (L : List It) (x : It) (w : Nat) : tilt (L ++ [x]) w = tilt L w + (x.2.1 : Int) * side x.2.2 w := by
  unfold tilt
  rw [sm_app, sm_cons, sm_nil, Int.add_zero]
theorem ld_app (L : List It) (x : It) (d : Nat) : ld (L ++ [x]) d = ld L d + (if x.2.2 = d then (x.2.1 : Int) else 0) := by
  unfold ld
  rw [sm_app, sm_cons, sm_nil, Int.add_zero]
theorem Inv.put {A : AS} (h : Inv A) {w d : Nat} (w1 : 1 ≤ w) (w2 : w ≤ 20) (hd : d < 12) (hc : canAdd A d w = true) : Inv (putA A d w) := by
  obtain ⟨c1, c2, c3, c4⟩ := of_decide_eq_true hc
  obtain ⟨h1, h2, h3, h4, h5, h6, h7, h8⟩ := h
  refine ⟨h1.put h2 c1 w1 w2 hd, ?_, fun d' hd' => ?_, h4, h5, h6, h7, h8⟩
  · show aG A + 1 ≤ 1000
    omega
  · show ld (aL A ++ [(nI (aG A), w, d)]) d' ≤ aCap A
    rw [ld_app]
    dsimp only
    by_cases c : d = d'
    · rw [if_pos c, ← c]
      exact c3
    · rw [if_neg c, Int.add_zero]
      exact h3 d' hd'
theorem R8_given {s : zF} {A : AS} {L : List It} {g : Nat} (h : R8 s (L, A.2)) (hl : L.length ≤ 40) : R8 (upd s 8 (nI g)) (L, aJ A, A.2.2.1, aW A, aC A, g) := by
  obtain ⟨h1, h2, h3, h4, h5, h6, h7⟩ := h
  refine ⟨fun k x hx => ?_, ?_, ?_, fun d hd => ?_, ⟨?_, ?_, ?_⟩, ?_, ?_⟩
  · rw [upd_n (by omega), upd_n (by omega), upd_n (by omega)]
    exact h1 k x hx
  · rw [upd_n (by omega)]; exact h2
  · exact upd_s
  · rw [upd_n (by omega)]; exact h4 d hd
  · rw [upd_n (by omega)]; exact h5.1
  · rw [upd_n (by omega)]; exact h5.2.1
  · rw [upd_n (by omega)]; exact h5.2.2
  · rw [upd_n (by omega)]; exact h6
  · rw [upd_n (by omega), upd_n (by omega), upd_n (by omega), upd_n (by omega)]; exact h7
theorem x8_put {v : tX8} {A : AS} {H : List AS} (hv : R8 v.2.1 A) (hi : Inv A) (hm : HM v.2.2.2.1 v.2.2.2.2.1 H) (hk : HOk H) {d w : Nat} (hd : d < 12) (w1 : 1 ≤ w) (w2 : w ≤ 20) (a2 : f_X8_isDrawer (nI d) = true) (b2 : f_X8_in (nI w) 1 20 = true) : (canAdd A d w = false ∧ ∃ s, f_X8_put v (nI d) (nI w) = some (0, (3, s, v.2.2.1, v.2.2.2.1, v.2.2.2.2.1, v.2.2.2.2.2.1, v.2.2.2.2.2.2.1, v.2.2.2.2.2.2.2.1, v.2.2.2.2.2.2.2.2.1, v.2.2.2.2.2.2.2.2.2.1, v.2.2.2.2.2.2.2.2.2.2.1, v.2.2.2.2.2.2.2.2.2.2.2.1, v.2.2.2.2.2.2.2.2.2.2.2.2.1, v.2.2.2.2.2.2.2.2.2.2.2.2.2.1, v.2.2.2.2.2.2.2.2.2.2.2.2.2.2.1, v.2.2.2.2.2.2.2.2.2.2.2.2.2.2.2)) ∧ R8 s A) ∨ (canAdd A d w = true ∧ ∃ s sv, f_X8_put v (nI d) (nI w) = some (nI (aG A), (0, s, v.2.2.1, sv, (nI (pushH H A).length), v.2.2.2.2.2.1, v.2.2.2.2.2.2.1, v.2.2.2.2.2.2.2.1, v.2.2.2.2.2.2.2.2.1, v.2.2.2.2.2.2.2.2.2.1, v.2.2.2.2.2.2.2.2.2.2.1, v.2.2.2.2.2.2.2.2.2.2.2.1, v.2.2.2.2.2.2.2.2.2.2.2.2.1, v.2.2.2.2.2.2.2.2.2.2.2.2.2.1, v.2.2.2.2.2.2.2.2.2.2.2.2.2.2.1, v.2.2.2.2.2.2.2.2.2.2.2.2.2.2.2)) ∧ R8 s (putA A d w) ∧ HM sv (nI (pushH H A).length) (pushH H A)) := by
  obtain ⟨h1, h2, h3, h4, h5, h6, h7, h8⟩ := id hi
  have hl := h1.1
  have a3 := h3 d hd
  rw [lod_ld] at a3
  have c40 : (nI (aL A).length = (40 : Int32)) ↔ (aL A).length = 40 := nI_eq (b := 40) (by omega) (by omega)
  have c1000 : (nI (aG A) = (1000 : Int32)) ↔ aG A = 1000 := nI_eq (b := 1000) (by omega) (by omega)
  unfold f_X8_put
  rw [if_pos a2, if_pos b2, q9, Option.bind_some, hv.2.1]
  by_cases k1 : (aL A).length = 40
  · left
    rw [if_pos (c40.mpr k1)]
    exact ⟨decide_eq_false (by omega), v.2.1, rfl, hv⟩
  rw [if_neg (fun e => k1 (c40.mp e)), q8, Option.bind_some, hv.2.2.1]
  by_cases k2 : aG A = 1000
  · left
    rw [if_pos (c1000.mpr k2)]
    exact ⟨decide_eq_false (by omega), v.2.1, rfl, hv⟩
  rw [if_neg (fun e => k2 (c1000.mp e)), show f_X8_loadOf (0, v.2.1, v.2.2.1, v.2.2.2.1, v.2.2.2.2.1, v.2.2.2.2.2.1, v.2.2.2.2.2.2.1, v.2.2.2.2.2.2.2.1, v.2.2.2.2.2.2.2.2.1, v.2.2.2.2.2.2.2.2.2.1, v.2.2.2.2.2.2.2.2.2.2.1, v.2.2.2.2.2.2.2.2.2.2.2.1, v.2.2.2.2.2.2.2.2.2.2.2.2.1, v.2.2.2.2.2.2.2.2.2.2.2.2.2.1, v.2.2.2.2.2.2.2.2.2.2.2.2.2.2.1, v.2.2.2.2.2.2.2.2.2.2.2.2.2.2.2) (nI d) = some (nI (lod (aL A) d)) from x8_loadN (u := (0, v.2.1, v.2.2.1, v.2.2.2.1, v.2.2.2.2.1, v.2.2.2.2.2.1, v.2.2.2.2.2.2.1, v.2.2.2.2.2.2.2.1, v.2.2.2.2.2.2.2.2.1, v.2.2.2.2.2.2.2.2.2.1, v.2.2.2.2.2.2.2.2.2.2.1, v.2.2.2.2.2.2.2.2.2.2.2.1, v.2.2.2.2.2.2.2.2.2.2.2.2.1, v.2.2.2.2.2.2.2.2.2.2.2.2.2.1, v.2.2.2.2.2.2.2.2.2.2.2.2.2.2.1, v.2.2.2.2.2.2.2.2.2.2.2.2.2.2.2)) hv h1 hd, Option.bind_some, q1, Option.bind_some, hv.2.2.2.2.1.2.1, nI_add]
  by_cases k3 : lod (aL A) d + w ≤ aCap A
  · obtain ⟨s1, g1, g2⟩ := x8_comes (u := (0, v.2.1, v.2.2.1, v.2.2.2.1, v.2.2.2.2.1, v.2.2.2.2.2.1, v.2.2.2.2.2.2.1, v.2.2.2.2.2.2.2.1, v.2.2.2.2.2.2.2.2.1, v.2.2.2.2.2.2.2.2.2.1, v.2.2.2.2.2.2.2.2.2.2.1, v.2.2.2.2.2.2.2.2.2.2.2.1, v.2.2.2.2.2.2.2.2.2.2.2.2.1, v.2.2.2.2.2.2.2.2.2.2.2.2.2.1, v.2.2.2.2.2.2.2.2.2.2.2.2.2.2.1, v.2.2.2.2.2.2.2.2.2.2.2.2.2.2.2)) (A := A) hv (by omega) (nI (aG A)) w d
    replace g1 : f_X8_comes (0, v.2.1, v.2.2.1, v.2.2.2.1, v.2.2.2.2.1, v.2.2.2.2.2.1, v.2.2.2.2.2.2.1, v.2.2.2.2.2.2.2.1, v.2.2.2.2.2.2.2.2.1, v.2.2.2.2.2.2.2.2.2.1, v.2.2.2.2.2.2.2.2.2.2.1, v.2.2.2.2.2.2.2.2.2.2.2.1, v.2.2.2.2.2.2.2.2.2.2.2.2.1, v.2.2.2.2.2.2.2.2.2.2.2.2.2.1, v.2.2.2.2.2.2.2.2.2.2.2.2.2.2.1, v.2.2.2.2.2.2.2.2.2.2.2.2.2.2.2) (nI (aG A)) (nI w) (nI d) = some (0, s1, v.2.2.1, v.2.2.2.1, v.2.2.2.2.1, v.2.2.2.2.2.1, v.2.2.2.2.2.2.1, v.2.2.2.2.2.2.2.1, v.2.2.2.2.2.2.2.2.1, v.2.2.2.2.2.2.2.2.2.1, v.2.2.2.2.2.2.2.2.2.2.1, v.2.2.2.2.2.2.2.2.2.2.2.1, v.2.2.2.2.2.2.2.2.2.2.2.2.1, v.2.2.2.2.2.2.2.2.2.2.2.2.2.1, v.2.2.2.2.2.2.2.2.2.2.2.2.2.2.1, v.2.2.2.2.2.2.2.2.2.2.2.2.2.2.2) := g1
    have hW := h1.put h2 (by omega) w1 w2 hd
    have g3 : f_X8_imbalance (0, s1, v.2.2.1, v.2.2.2.1, v.2.2.2.2.1, v.2.2.2.2.2.1, v.2.2.2.2.2.2.1, v.2.2.2.2.2.2.2.1, v.2.2.2.2.2.2.2.2.1, v.2.2.2.2.2.2.2.2.2.1, v.2.2.2.2.2.2.2.2.2.2.1, v.2.2.2.2.2.2.2.2.2.2.2.1, v.2.2.2.2.2.2.2.2.2.2.2.2.1, v.2.2.2.2.2.2.2.2.2.2.2.2.2.1, v.2.2.2.2.2.2.2.2.2.2.2.2.2.2.1, v.2.2.2.2.2.2.2.2.2.2.2.2.2.2.2) (nI (aW A)) = some (nI (tilt (aL A ++ [(nI (aG A), w, d)]) (aW A)).natAbs) := x8_imb (u := (0, s1, v.2.2.1, v.2.2.2.1, v.2.2.2.2.1, v.2.2.2.2.2.1, v.2.2.2.2.2.2.1, v.2.2.2.2.2.2.2.1, v.2.2.2.2.2.2.2.2.1, v.2.2.2.2.2.2.2.2.2.1, v.2.2.2.2.2.2.2.2.2.2.1, v.2.2.2.2.2.2.2.2.2.2.2.1, v.2.2.2.2.2.2.2.2.2.2.2.2.1, v.2.2.2.2.2.2.2.2.2.2.2.2.2.1, v.2.2.2.2.2.2.2.2.2.2.2.2.2.2.1, v.2.2.2.2.2.2.2.2.2.2.2.2.2.2.2)) (A := (aL A ++ [(nI (aG A), w, d)], A.2)) g2 hW h8
    rw [tilt_app] at g3
    dsimp only at g3
    have hT := h1.Tb (aW A)
    have hs := side_mul w d (aW A)
    have g9 : s1 9 = nI ((aL A).length + 1) := by
      have := g2.2.1
      rw [show (aL ((aL A ++ [(nI (aG A), w, d)], A.2) : AS)).length = (aL A).length + 1 by rw [List.length_append, List.length_singleton]] at this
      exact this
    obtain ⟨s2, g4, g5, g6, g7⟩ := x8_goes (u := (0, s1, v.2.2.1, v.2.2.2.1, v.2.2.2.2.1, v.2.2.2.2.2.1, v.2.2.2.2.2.2.1, v.2.2.2.2.2.2.2.1, v.2.2.2.2.2.2.2.2.1, v.2.2.2.2.2.2.2.2.2.1, v.2.2.2.2.2.2.2.2.2.2.1, v.2.2.2.2.2.2.2.2.2.2.2.1, v.2.2.2.2.2.2.2.2.2.2.2.2.1, v.2.2.2.2.2.2.2.2.2.2.2.2.2.1, v.2.2.2.2.2.2.2.2.2.2.2.2.2.2.1, v.2.2.2.2.2.2.2.2.2.2.2.2.2.2.2)) (N := (aL A).length) (k0 := (aL A).length) g9 (by omega) (Nat.le_refl _)
    replace g4 : f_X8_goes (0, s1, v.2.2.1, v.2.2.2.1, v.2.2.2.2.1, v.2.2.2.2.2.1, v.2.2.2.2.2.2.1, v.2.2.2.2.2.2.2.1, v.2.2.2.2.2.2.2.2.1, v.2.2.2.2.2.2.2.2.2.1, v.2.2.2.2.2.2.2.2.2.2.1, v.2.2.2.2.2.2.2.2.2.2.2.1, v.2.2.2.2.2.2.2.2.2.2.2.2.1, v.2.2.2.2.2.2.2.2.2.2.2.2.2.1, v.2.2.2.2.2.2.2.2.2.2.2.2.2.2.1, v.2.2.2.2.2.2.2.2.2.2.2.2.2.2.2) (nI (aL A).length) = some (0, s2, v.2.2.1, v.2.2.2.1, v.2.2.2.2.1, v.2.2.2.2.2.1, v.2.2.2.2.2.2.1, v.2.2.2.2.2.2.2.1, v.2.2.2.2.2.2.2.2.1, v.2.2.2.2.2.2.2.2.2.1, v.2.2.2.2.2.2.2.2.2.2.1, v.2.2.2.2.2.2.2.2.2.2.2.1, v.2.2.2.2.2.2.2.2.2.2.2.2.1, v.2.2.2.2.2.2.2.2.2.2.2.2.2.1, v.2.2.2.2.2.2.2.2.2.2.2.2.2.2.1, v.2.2.2.2.2.2.2.2.2.2.2.2.2.2.2) := g4
    have g8 : R8 s2 A := by
      have := R8_erase (A := (aL A ++ [(nI (aG A), w, d)], A.2)) (k0 := (aL A).length) (N := (aL A).length) g2 (by rw [List.length_append, List.length_singleton]) (Nat.le_refl _) g5 g6 g7
      have he : (aL A ++ [(nI (aG A), w, d)]).eraseIdx (aL A).length = aL A := by
        rw [List.eraseIdx_append_of_length_le (Nat.le_refl _), Nat.sub_self]
        exact List.append_nil _
      rw [show (aL ((aL A ++ [(nI (aG A), w, d)], A.2) : AS)) = aL A ++ [(nI (aG A), w, d)] from rfl, he] at this
      exact this
    have c4 : (nI (aLim A) < nI (tilt (aL A) (aW A) + (w : Int) * side d (aW A)).natAbs) ↔ aLim A < (tilt (aL A) (aW A) + (w : Int) * side d (aW A)).natAbs := nI_ltI (by omega) (by omega)
    rw [if_pos (nI_le k3 (by omega)), Option.bind_some, g1, Option.bind_some]
    dsimp only
    rw [q3, Option.bind_some, show s1 3 = nI (aW A) from g2.2.2.2.2.2.1, g3, Option.bind_some, q0, Option.bind_some, show s1 0 = nI (aLim A) from g2.2.2.2.2.1.1]
    by_cases k4 : aLim A < (tilt (aL A) (aW A) + (w : Int) * side d (aW A)).natAbs
    · left
      rw [if_pos (c4.mpr k4), Option.bind_some, q9, Option.bind_some, g9, nI_pred, g4, Option.bind_some, if_pos rfl]
      exact ⟨decide_eq_false (by rw [lod_ld]; omega), s2, rfl, g8⟩
    · right
      rw [if_neg (fun e => k4 (c4.mp e)), Option.bind_some, q9, Option.bind_some, g9, nI_pred, g4, Option.bind_some, if_neg (show ¬ (1 : Int32) = 0 by decide)]
      obtain ⟨sv, p1, p2⟩ := x8_saves (v := (0, s2, v.2.2.1, v.2.2.2.1, v.2.2.2.2.1, v.2.2.2.2.2.1, v.2.2.2.2.2.2.1, v.2.2.2.2.2.2.2.1, v.2.2.2.2.2.2.2.2.1, v.2.2.2.2.2.2.2.2.2.1, v.2.2.2.2.2.2.2.2.2.2.1, v.2.2.2.2.2.2.2.2.2.2.2.1, v.2.2.2.2.2.2.2.2.2.2.2.2.1, v.2.2.2.2.2.2.2.2.2.2.2.2.2.1, v.2.2.2.2.2.2.2.2.2.2.2.2.2.2.1, v.2.2.2.2.2.2.2.2.2.2.2.2.2.2.2)) (H := H) (A := A) hm hk g8 hi
      replace p1 : f_X8_saves (0, s2, v.2.2.1, v.2.2.2.1, v.2.2.2.2.1, v.2.2.2.2.2.1, v.2.2.2.2.2.2.1, v.2.2.2.2.2.2.2.1, v.2.2.2.2.2.2.2.2.1, v.2.2.2.2.2.2.2.2.2.1, v.2.2.2.2.2.2.2.2.2.2.1, v.2.2.2.2.2.2.2.2.2.2.2.1, v.2.2.2.2.2.2.2.2.2.2.2.2.1, v.2.2.2.2.2.2.2.2.2.2.2.2.2.1, v.2.2.2.2.2.2.2.2.2.2.2.2.2.2.1, v.2.2.2.2.2.2.2.2.2.2.2.2.2.2.2) = some (0, s2, v.2.2.1, sv, (nI (pushH H A).length), v.2.2.2.2.2.1, v.2.2.2.2.2.2.1, v.2.2.2.2.2.2.2.1, v.2.2.2.2.2.2.2.2.1, v.2.2.2.2.2.2.2.2.2.1, v.2.2.2.2.2.2.2.2.2.2.1, v.2.2.2.2.2.2.2.2.2.2.2.1, v.2.2.2.2.2.2.2.2.2.2.2.2.1, v.2.2.2.2.2.2.2.2.2.2.2.2.2.1, v.2.2.2.2.2.2.2.2.2.2.2.2.2.2.1, v.2.2.2.2.2.2.2.2.2.2.2.2.2.2.2) := p1
      obtain ⟨s3, p3, p4⟩ := x8_comes (u := (0, s2, v.2.2.1, sv, (nI (pushH H A).length), v.2.2.2.2.2.1, v.2.2.2.2.2.2.1, v.2.2.2.2.2.2.2.1, v.2.2.2.2.2.2.2.2.1, v.2.2.2.2.2.2.2.2.2.1, v.2.2.2.2.2.2.2.2.2.2.1, v.2.2.2.2.2.2.2.2.2.2.2.1, v.2.2.2.2.2.2.2.2.2.2.2.2.1, v.2.2.2.2.2.2.2.2.2.2.2.2.2.1, v.2.2.2.2.2.2.2.2.2.2.2.2.2.2.1, v.2.2.2.2.2.2.2.2.2.2.2.2.2.2.2)) (A := A) g8 (by omega) (nI (aG A)) w d
      replace p3 : f_X8_comes (0, s2, v.2.2.1, sv, (nI (pushH H A).length), v.2.2.2.2.2.1, v.2.2.2.2.2.2.1, v.2.2.2.2.2.2.2.1, v.2.2.2.2.2.2.2.2.1, v.2.2.2.2.2.2.2.2.2.1, v.2.2.2.2.2.2.2.2.2.2.1, v.2.2.2.2.2.2.2.2.2.2.2.1, v.2.2.2.2.2.2.2.2.2.2.2.2.1, v.2.2.2.2.2.2.2.2.2.2.2.2.2.1, v.2.2.2.2.2.2.2.2.2.2.2.2.2.2.1, v.2.2.2.2.2.2.2.2.2.2.2.2.2.2.2) (nI (aG A)) (nI w) (nI d) = some (0, s3, v.2.2.1, sv, (nI (pushH H A).length), v.2.2.2.2.2.1, v.2.2.2.2.2.2.1, v.2.2.2.2.2.2.2.1, v.2.2.2.2.2.2.2.2.1, v.2.2.2.2.2.2.2.2.2.1, v.2.2.2.2.2.2.2.2.2.2.1, v.2.2.2.2.2.2.2.2.2.2.2.1, v.2.2.2.2.2.2.2.2.2.2.2.2.1, v.2.2.2.2.2.2.2.2.2.2.2.2.2.1, v.2.2.2.2.2.2.2.2.2.2.2.2.2.2.1, v.2.2.2.2.2.2.2.2.2.2.2.2.2.2.2) := p3
      rw [p1, Option.bind_some]
      dsimp only
      rw [q8, Option.bind_some, g8.2.2.1, p3, Option.bind_some]
      dsimp only
      rw [q8, Option.bind_some, show s3 8 = nI (aG A) from p4.2.2.1, nI_1, qs8, Option.bind_some, q8, Option.bind_some, upd_s, nI_pred]
      refine ⟨decide_eq_true ⟨by omega, by omega, by rw [lod_ld]; omega, by omega⟩, _, sv, rfl, ?_, p2⟩
      exact R8_given (g := aG A + 1) p4 (by rw [List.length_append, List.length_singleton]; omega)
  · left
    rw [if_neg (nI_ge (by omega) (by omega))]
    exact ⟨decide_eq_false (by rw [lod_ld]; omega), v.2.1, rfl, hv⟩
theorem o_put : op_put RR := by
  intro u v hR p0 p1
  obtain ⟨A, H, t, ⟨hu, hv, hi⟩, ⟨hx, hm, hk⟩, ht⟩ := id hR
  rcases isDr p0 with ⟨a1, a2⟩ | ⟨d, hd, rfl, a1, a2⟩
  · have h7 : f_X7_put u p0 p1 = some (.inr 0, u) := by
      unfold f_X7_put
      rw [if_neg (by rw [a1]; decide)]
    have h8 : f_X8_put v p0 p1 = some (0, (1, v.2)) := by
      unfold f_X8_put
      rw [if_neg (by rw [a2]; decide)]
      rfl
    exact ⟨_, _, h7, h8, rfl, fun x hx => (by cases hx), hR.th 1⟩
  rcases isWt p1 with ⟨b1, b2⟩ | ⟨w, w1, w2, rfl, b1, b2⟩
  · have h7 : f_X7_put u (nI d) p1 = some (.inr 1, u) := by
      unfold f_X7_put
      rw [if_pos a1, if_neg (by rw [b1]; decide)]
    have h8 : f_X8_put v (nI d) p1 = some (0, (2, v.2)) := by
      unfold f_X8_put
      rw [if_pos a2, if_neg (by rw [b2]; decide)]
      rfl
    exact ⟨_, _, h7, h8, rfl, fun x hx => (by cases hx), hR.th 2⟩
  rcases x8_put hv hi hm hk hd w1 w2 a2 b2 with ⟨c, s, e8, g8⟩ | ⟨c, s, sv, e8, g8, g9⟩
  · have h7 : f_X7_put u (nI d) (nI w) = some (.inr 2, u) := by
      unfold f_X7_put
      rw [if_pos a1, if_pos b1, x6_mayAdd hu hi hd w2, if_neg (by rw [c]; decide)]
    exact ⟨_, _, h7, e8, rfl, fun x hx => (by cases hx), A, H, t, ⟨hu, g8, hi⟩, ⟨hx, hm, hk⟩, ht⟩
  · obtain ⟨h', k1, k2⟩ := x2_keep hx hk hu hi
    obtain ⟨u', k3, k4⟩ := x6_add (w := w) hu hd (of_decide_eq_true c).1
    have h7 : f_X7_put u (nI d) (nI w) = some (.inl (nI (aG A)), (u', u.2.1, h', u.2.2.2.1, u.2.2.2.2)) := by
      unfold f_X7_put
      rw [if_pos a1, if_pos b1, x6_mayAdd hu hi hd w2, if_pos c, k1, Option.bind_some, k3, Option.bind_some]
    exact ⟨_, _, h7, e8, rfl, fun x hx => (Sum.inl.inj hx).symm, putA A d w, pushH H A, t, ⟨k4, g8, hi.put w1 w2 hd c⟩, ⟨k2, g9, pushH_ok hk hi⟩, ht⟩
theorem Wf_set {L : List It} {G : Nat} (h : Wf L G) {k : Nat} {x : It} (hx : L[k]? = some x) {d : Nat} (hd : d < 12) : Wf (L.set k (x.1, x.2.1, d)) G := by
  obtain ⟨h1, h2, h3⟩ := h
  have hk := (List.getElem?_eq_some_iff.mp hx).1
  refine ⟨by rw [List.length_set]; exact h1, fun y hy => ?_, ?_⟩
  · rcases List.mem_or_eq_of_mem_set hy with e | e
    · exact h2 y e
    · subst e
      obtain ⟨a, b, _, c⟩ := h2 x (List.mem_of_getElem? hx)
      exact ⟨a, b, hd, c⟩
  · have hm : (L.set k (x.1, x.2.1, d)).map (·.1) = L.map (·.1) := by
      refine List.ext_getElem? (fun j => ?_)
      rw [List.getElem?_map, List.getElem?_map, List.getElem?_set]
      by_cases c : k = j
      · subst c
        rw [if_pos rfl, if_pos hk, hx]
        rfl
      · rw [if_neg c]
    exact List.pairwise_map.mp (by rw [hm]; exact List.pairwise_map.mpr h3)
theorem Inv.move {A : AS} (h : Inv A) {k : Nat} {x : It} (hx : (aL A)[k]? = some x) {d : Nat} (hd : d < 12) (hc : canMove A x d = true) : Inv (moveA A k x d) := by
  obtain ⟨c1, c2, c3, c4⟩ := of_decide_eq_true hc
  obtain ⟨h1, h2, h3, h4, h5, h6, h7, h8⟩ := h
  refine ⟨?_, h2, fun d' hd' => ?_, h4, h5, h6, h7, h8⟩
  · exact Wf_set h1 hx hd
  · show ld ((aL A).set k (x.1, x.2.1, d)) d' ≤ aCap A
    have h9 := h3 d' hd'
    rw [ld_set hx]
    dsimp only
    by_cases e1 : d = d'
    · subst e1
      rw [if_pos rfl]
      by_cases e2 : x.2.2 = d
      · rw [if_pos e2]
        omega
      · rw [if_neg e2] at c3 ⊢
        omega
    · rw [if_neg e1]
      by_cases e2 : x.2.2 = d'
      · rw [if_pos e2]
        omega
      · rw [if_neg e2]
        omega
