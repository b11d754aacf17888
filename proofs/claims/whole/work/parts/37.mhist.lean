/-! saved states, on both sides -/
theorem x3_copy {u v : tX3} {L : List It} {G : Nat} (h : R3 v L G) (hl : L.length ≤ 40) : ∃ u', f_X3_copyFrom u v = some u' ∧ R3 u' L G := by
  unfold f_X3_copyFrom f_X7_copyRow
  rw [Option.bind_some, Option.bind_some, Option.bind_some]
  refine ⟨_, rfl, fun k x hx => ?_, h.2.1, h.2.2⟩
  have hk := (List.getElem?_eq_some_iff.mp hx).1
  show cpy 40 v.1 u.1 k = _ ∧ cpy 40 v.2.1 u.2.1 k = _ ∧ cpy 40 v.2.2.1 u.2.2.1 k = _
  rw [cpy_at (by omega), cpy_at (by omega), cpy_at (by omega)]
  exact h.1 k x hx
theorem x6_copy {u v : tX6} {A : AS} (h : R6 v A) (hi : Inv A) : ∃ u', f_X6_copyFrom u v = some u' ∧ R6 u' A := by
  obtain ⟨h1, h2, h3, h4, h5, h6⟩ := h
  obtain ⟨a, ha, ha2⟩ := x0_copy (u := u.1) h1
  obtain ⟨b, hb, hb2⟩ := x3_copy (u := u.2.1) h2 hi.1.1
  unfold f_X6_copyFrom f_X7_copyRow
  rw [ha, hb, Option.bind_some, Option.bind_some, Option.bind_some, Option.bind_some]
  refine ⟨_, rfl, ha2, hb2, fun d hd => ?_, ⟨?_, ?_, ?_⟩, h5, h6⟩
  · show cpy 12 v.2.2.1 u.2.2.1 d = _
    rw [cpy_at hd]
    exact h3 d hd
  · show cpy 3 v.2.2.2.1 u.2.2.2.1 0 = _
    rw [cpy_at (by omega)]
    exact h4.1
  · show cpy 3 v.2.2.2.1 u.2.2.2.1 1 = _
    rw [cpy_at (by omega)]
    exact h4.2.1
  · show cpy 3 v.2.2.2.1 u.2.2.2.1 2 = _
    rw [cpy_at (by omega)]
    exact h4.2.2
def HX (h : tX2) (H : List AS) : Prop := h.2.2 = nI H.length ∧ ∃ o, o < 6 ∧ h.2.1 = nI o ∧ ∀ j B, H[j]? = some B → R6 (h.1 ((o + j) % 6)) B
def HM (sv : zF) (m : Int32) (H : List AS) : Prop := m = nI H.length ∧ ∀ j B, H[j]? = some B → R8 (fun k => sv (142 * j + k)) B
def HOk (H : List AS) : Prop := H.length ≤ 6 ∧ ∀ B ∈ H, Inv B
def cutH (H : List AS) : List AS := if H.length = 6 then H.tail else H
def pushH (H : List AS) (A : AS) : List AS := cutH H ++ [A]
theorem cutH_len {H : List AS} (h : HOk H) : (cutH H).length ≤ 5 := by
  unfold cutH
  have := h.1
  split
  · rw [List.length_tail]; omega
  · omega
theorem pushH_ok {H : List AS} {A : AS} (h : HOk H) (hi : Inv A) : HOk (pushH H A) := by
  have hl := cutH_len h
  refine ⟨?_, fun B hB => ?_⟩
  · unfold pushH
    rw [List.length_append, List.length_singleton]
    omega
  · rcases List.mem_append.mp hB with y | y
    · refine h.2 B ?_
      unfold cutH at y
      split at y
      · exact List.mem_of_mem_tail y
      · exact y
    · rw [List.mem_singleton.mp y]
      exact hi
theorem rem6 {a : Nat} (ha : a < 2 ^ 31) : i_rem (nI a) 6 = nI (a % 6) := by
  unfold i_rem
  exact pk_rem (d := 6) ha (by omega) (by omega)
theorem x2_at (f : Nat → tX6) {o s : Nat} (ho : o < 6) (hs : s ≤ 6) : f_X2_stateAt (f, nI o, nI s) (nI s) = some ((o + s) % 6) := by
  have hm : (o + s) % 6 < 6 := Nat.mod_lt _ (by omega)
  unfold f_X2_stateAt
  dsimp only
  rw [nI_add, rem6 (by omega), if_neg (nI_pos (by omega)), if_neg (show ¬ (6 : Int32) ≤ nI ((o + s) % 6) from nI_ge (b := 6) hm (by omega)), nI_clamp (by omega)]
theorem zup_s (f : Nat → tX6) (k : Nat) (x : tX6) : zup f k x k = x := by
  unfold zup
  rw [show Nat.beq k k = true from Nat.beq_refl k]
  rfl
theorem zup_n {f : Nat → tX6} {k j : Nat} {x : tX6} (h : j ≠ k) : zup f k x j = f j := by
  unfold zup
  rw [show Nat.beq j k = false from by
    cases e : Nat.beq j k with
    | false => rfl
    | true => exact absurd (Nat.eq_of_beq_eq_true e) h]
  rfl
theorem x2_keep {h : tX2} {v : tX6} {H : List AS} {A : AS} (hx : HX h H) (hk : HOk H) (hv : R6 v A) (hi : Inv A) : ∃ h', f_X2_keep h v = some h' ∧ HX h' (pushH H A) := by
  obtain ⟨h1, o, ho, h2, h3⟩ := hx
  have hl := cutH_len hk
  have key : ∃ o', o' < 6 ∧ (if h.2.2 = 6 then some ((i_rem (h.2.1 + 1) 6), (h.2.2 - 1)) else some (h.2.1, h.2.2)) = some (nI o', nI (cutH H).length) ∧ ∀ j B, (cutH H)[j]? = some B → R6 (h.1 ((o' + j) % 6)) B := by
    rw [h1, h2]
    by_cases c : H.length = 6
    · refine ⟨(o + 1) % 6, Nat.mod_lt _ (by omega), ?_, fun j B hB => ?_⟩
      · unfold cutH
        rw [if_pos (by rw [c]; rfl), if_pos c, nI_1, rem6 (by omega), List.length_tail, c, show (1 : Int32) = nI 1 from rfl, pk_sub (by omega)]
      · unfold cutH at hB
        rw [if_pos c, List.getElem?_tail] at hB
        have := h3 (j + 1) B hB
        rwa [show (o + (j + 1)) % 6 = ((o + 1) % 6 + j) % 6 by omega] at this
    · refine ⟨o, ho, ?_, fun j B hB => ?_⟩
      · unfold cutH
        rw [if_neg (fun e => c ((i6e (by have := hk.1; omega)).mp e)), if_neg c]
      · unfold cutH at hB
        rw [if_neg c] at hB
        exact h3 j B hB
  obtain ⟨o', ho', k1, k2⟩ := key
  obtain ⟨r, hr, hr2⟩ := x6_copy (u := h.1 ((o' + (cutH H).length) % 6)) hv hi
  unfold f_X2_keep
  rw [k1, Option.bind_some]
  dsimp only
  rw [x2_at _ ho' (by omega), Option.bind_some, hr, Option.bind_some, nI_1]
  refine ⟨_, rfl, ?_, o', ho', rfl, fun j B hB => ?_⟩
  · show nI ((cutH H).length + 1) = _
    unfold pushH
    rw [List.length_append, List.length_singleton]
  · dsimp only
    have hj := (List.getElem?_eq_some_iff.mp hB).1
    unfold pushH at hB hj
    rw [List.length_append, List.length_singleton] at hj
    by_cases c : j = (cutH H).length
    · subst c
      rw [List.getElem?_append_right (Nat.le_refl _), Nat.sub_self] at hB
      cases hB
      rw [zup_s]
      exact hr2
    · rw [List.getElem?_append_left (by omega)] at hB
      rw [zup_n (by omega)]
      exact k2 j B hB
theorem dropLast_ok {H : List AS} (h : HOk H) : HOk H.dropLast := ⟨by rw [List.length_dropLast]; have := h.1; omega, fun B hB => h.2 B ((List.dropLast_sublist H).mem hB)⟩
theorem x2_back {h : tX2} {v : tX6} {H : List AS} (hx : HX h H) (hk : HOk H) (h0 : 0 < H.length) : ∃ h' v' B, f_X2_restoreTo h v = some (h', v') ∧ H[H.length - 1]? = some B ∧ Inv B ∧ R6 v' B ∧ HX h' H.dropLast ∧ h'.2.2 = nI (H.length - 1) := by
  obtain ⟨h1, o, ho, h2, h3⟩ := hx
  have hb := List.getElem?_eq_getElem (show H.length - 1 < H.length by omega)
  have hib := hk.2 _ (List.getElem_mem (show H.length - 1 < H.length by omega))
  obtain ⟨r, hr, hr2⟩ := x6_copy (u := v) (h3 _ _ hb) hib
  have hs : h.2.2 - 1 = nI (H.length - 1) := by
    rw [h1, show (1 : Int32) = nI 1 from rfl, pk_sub (by omega)]
  unfold f_X2_restoreTo
  rw [hs, h2, x2_at _ ho (by have := hk.1; omega), Option.bind_some, hr, Option.bind_some]
  refine ⟨_, _, _, rfl, hb, hib, hr2, ⟨?_, o, ho, rfl, fun j B hB => ?_⟩, rfl⟩
  · rw [List.length_dropLast]
  · have hj := (List.getElem?_eq_some_iff.mp hB).1
    rw [List.length_dropLast] at hj
    rw [List.getElem?_dropLast, if_pos hj] at hB
    exact h3 j B hB
/-- a row copied to a place -/
def cpo (src : zF) (m : Nat) (n : Nat) (dst : zF) : zF := fun k => if m ≤ k ∧ k < m + n then src (k - m) else dst k
def cpp (src : zF) (m : Int32) (s : Int32 × zF) : Option ((Int32 × zF) ⊕ zF) := if 142 ≤ s.1 then some (.inr s.2) else (aget src 142 s.1).bind fun r => (aset s.2 852 ((142 * m) + s.1) r).bind fun r' => some (.inl ((s.1 + 1), r'))
theorem cpp_run {src dst : zF} {m : Nat} (hm : m < 6) : lp 5000 (cpp src (nI m)) (0, dst) = some (cpo src (142 * m) 142 dst) := by
  have hst : ∀ k, k < 142 → cpp src (nI m) ((fun k => (nI k, cpo src (142 * m) k dst)) k) = some (.inl ((fun k => (nI k, cpo src (142 * m) k dst)) (k + 1))) := by
    intro k hk
    unfold cpp
    dsimp only
    rw [if_neg (show ¬ (142 : Int32) ≤ nI k from nI_ge (b := 142) hk (by omega)), aget_n hk (by omega), Option.bind_some, show (142 : Int32) = nI 142 from rfl, pk_mul, nI_add, aset_n (by omega) (by omega), Option.bind_some, nI_1]
    have : upd (cpo src (142 * m) k dst) (142 * m + k) (src k) = cpo src (142 * m) (k + 1) dst := by
      funext j
      rw [upd_if]
      unfold cpo
      by_cases c : j = 142 * m + k
      · subst c
        rw [if_pos rfl, if_pos (by omega), Nat.add_sub_cancel_left]
      · rw [if_neg c]
        by_cases c2 : 142 * m ≤ j ∧ j < 142 * m + k
        · rw [if_pos c2, if_pos (by omega)]
        · rw [if_neg c2, if_neg (by omega)]
    rw [this]
  have hen : cpp src (nI m) ((fun k => (nI k, cpo src (142 * m) k dst)) 142) = some (.inr (cpo src (142 * m) 142 dst)) := by
    unfold cpp
    dsimp only
    rw [if_pos (show (142 : Int32) ≤ nI 142 by decide)]
  refine lp_st _ 142 _ _ hst hen (by omega) ?_
  show (0, dst) = (nI 0, cpo src (142 * m) 0 dst)
  have : cpo src (142 * m) 0 dst = dst := by
    funext j
    unfold cpo
    rw [if_neg (by omega)]
  rw [this]
  rfl
theorem x8_shift (sv : zF) : ∃ z, lp 5000 b_X8_saves_11 (0, sv) = some z ∧ ∀ j, j < 710 → z j = sv (j + 142) := by
  obtain ⟨e, h1, h2⟩ := lp_run b_X8_saves_11 710 (fun k s => s.1 = nI k ∧ ∀ j, s.2 j = if j < k then sv (j + 142) else sv j) (fun e => ∀ j, j < 710 → e j = sv (j + 142)) (fun k s hk hs => by
    obtain ⟨s1, s2⟩ := s
    obtain ⟨a1, a2⟩ := hs
    dsimp only at a1 a2
    subst a1
    unfold b_X8_saves_11
    dsimp only
    rcases Nat.lt_or_ge k 710 with h5 | h5
    · right
      refine ⟨h5, ?_⟩
      rw [if_neg (show ¬ (710 : Int32) ≤ nI k from nI_ge (b := 710) h5 (by omega)), show (142 : Int32) = nI 142 from rfl, nI_add, aget_n (by omega) (by omega), Option.bind_some, aset_n (by omega) (by omega), Option.bind_some, nI_1]
      refine ⟨_, rfl, rfl, fun j => ?_⟩
      dsimp only
      rw [upd_if]
      by_cases c : j = k
      · subst c
        rw [if_pos rfl, a2 (j + 142), if_neg (by omega), if_pos (by omega)]
      · rw [if_neg c, a2 j]
        by_cases c2 : j < k
        · rw [if_pos c2, if_pos (by omega)]
        · rw [if_neg c2, if_neg (by omega)]
    · left
      have : k = 710 := by omega
      subst this
      rw [if_pos (show (710 : Int32) ≤ nI 710 by decide)]
      exact ⟨_, rfl, fun j hj => by rw [a2 j, if_pos hj]⟩) 5000 0 (0, sv) (by omega) (by omega) ⟨rfl, fun j => by rw [if_neg (Nat.not_lt_zero _)]⟩
  exact ⟨e, h1, h2⟩
theorem HM_push {z s : zF} {H : List AS} {A : AS} (hl : (cutH H).length ≤ 5) (hz : ∀ j B, (cutH H)[j]? = some B → R8 (fun k => z (142 * j + k)) B ∧ (aL B).length ≤ 40) (hs : R8 s A) (hA : (aL A).length ≤ 40) : HM (cpo s (142 * (cutH H).length) 142 z) (nI ((cutH H).length + 1)) (pushH H A) := by
  refine ⟨?_, fun j B hB => ?_⟩
  · unfold pushH
    rw [List.length_append, List.length_singleton]
  · have hj := (List.getElem?_eq_some_iff.mp hB).1
    unfold pushH at hB hj
    rw [List.length_append, List.length_singleton] at hj
    by_cases c : j = (cutH H).length
    · subst c
      rw [List.getElem?_append_right (Nat.le_refl _), Nat.sub_self] at hB
      cases hB
      refine hs.congr hA (fun k hk => ?_)
      unfold cpo
      rw [if_pos (by omega), Nat.add_sub_cancel_left]
    · rw [List.getElem?_append_left (by omega)] at hB
      obtain ⟨h1, h2⟩ := hz j B hB
      refine h1.congr h2 (fun k hk => ?_)
      unfold cpo
      rw [if_neg (by omega)]
theorem x8_saves {v : tX8} {H : List AS} {A : AS} (hm : HM v.2.2.2.1 v.2.2.2.2.1 H) (hk : HOk H) (hv : R8 v.2.1 A) (hi : Inv A) : ∃ sv, f_X8_saves v = some (v.1, v.2.1, v.2.2.1, sv, nI (pushH H A).length, v.2.2.2.2.2) ∧ HM sv (nI (pushH H A).length) (pushH H A) := by
  have hl := cutH_len hk
  have hpl : (pushH H A).length = (cutH H).length + 1 := by
    unfold pushH
    rw [List.length_append, List.length_singleton]
  rw [hpl]
  unfold f_X8_saves
  by_cases c : H.length = 6
  · have hc5 : (cutH H).length = 5 := by
      unfold cutH
      rw [if_pos c, List.length_tail, c]
    obtain ⟨z, hz, hz2⟩ := x8_shift v.2.2.2.1
    have hm5 : v.2.2.2.2.1 - 1 = nI 5 := by
      rw [hm.1, c]
      decide
    rw [if_pos (show v.2.2.2.2.1 = 6 by rw [hm.1, c]; rfl), hz, Option.bind_some, show b_X8_saves_52_2 v = cpp v.2.1 (v.2.2.2.2.1 - 1) from rfl, hm5, cpp_run (by omega), Option.bind_some, nI_1, hc5]
    refine ⟨_, rfl, ?_⟩
    have := HM_push (z := z) (s := v.2.1) (H := H) (A := A) hl (fun j B hB => ?_) hv hi.1.1
    · rw [hc5] at this
      exact this
    · have hjl := (List.getElem?_eq_some_iff.mp hB).1
      rw [hc5] at hjl
      unfold cutH at hB
      rw [if_pos c, List.getElem?_tail] at hB
      have hB2 := (hk.2 B (List.mem_of_getElem? hB)).1.1
      refine ⟨(hm.2 (j + 1) B hB).congr hB2 (fun k hk => ?_), hB2⟩
      rw [hz2 _ (by omega), show 142 * (j + 1) + k = 142 * j + k + 142 by omega]
  · have hcu : cutH H = H := by
      unfold cutH
      rw [if_neg c]
    rw [if_neg (fun e => c ((i6e (by have := hk.1; omega)).mp (hm.1.symm.trans e))), show b_X8_saves_52 v = cpp v.2.1 v.2.2.2.2.1 from rfl, hm.1]
    have hlt : H.length < 6 := by
      rw [hcu] at hl
      omega
    rw [cpp_run hlt, Option.bind_some, nI_1, hcu]
    refine ⟨_, rfl, ?_⟩
    have := HM_push (z := v.2.2.2.1) (s := v.2.1) (H := H) (A := A) hl (fun j B hB => by
      rw [hcu] at hB
      exact ⟨hm.2 j B hB, (hk.2 B (List.mem_of_getElem? hB)).1.1⟩) hv hi.1.1
    rw [hcu] at this
    exact this
/-- THE RELATION: the class and the reference show one picture -/
def RRc (u : tX7) (v : tX8) (A : AS) (H : List AS) (t : List Nat) : Prop := (R6 u.1 A ∧ R8 v.2.1 A ∧ Inv A) ∧ (HX u.2.2.1 H ∧ HM v.2.2.2.1 v.2.2.2.2.1 H ∧ HOk H) ∧ (Rt u.2.2.2.1 t ∧ Mt v t ∧ t.length ≤ 60 ∧ ∀ x ∈ t, x < 1000)
def RR (u : tX7) (v : tX8) : Prop := ∃ A H t, RRc u v A H t
