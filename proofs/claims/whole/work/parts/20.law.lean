def op_put (R : tX7 → tX8 → Prop) : Prop := ∀ u v, R u v → ∀ (p0 : Int32) (p1 : Int32), ∃ r r8, f_X7_put u p0 p1 = some r ∧ f_X8_put v p0 p1 = some r8 ∧ zLc 1 2 3 r.1 = r8.2.1 ∧ (∀ x, r.1 = .inl x → x = r8.1) ∧ R r.2 r8.2
def op_move (R : tX7 → tX8 → Prop) : Prop := ∀ u v, R u v → ∀ (p0 : Int32) (p1 : Int32), ∃ r r8, f_X7_move u p0 p1 = some r ∧ f_X8_move v p0 p1 = some r8 ∧ zLc 1 0 2 r.1 = r8.2.1 ∧ (∀ x, r.1 = .inl x → x = r8.1) ∧ R r.2 r8.2
def op_pick (R : tX7 → tX8 → Prop) : Prop := ∀ u v, R u v → ∀ (p0 : Int32), ∃ r r8, f_X7_pick u p0 = some r ∧ f_X8_pick v p0 = some r8 ∧ zLc 1 0 2 r.1 = r8.2.1 ∧ (∀ x, r.1 = .inl x → x = r8.1) ∧ R r.2 r8.2
def op_turn (R : tX7 → tX8 → Prop) : Prop := ∀ u v, R u v → ∀ (p0 : Int32), ∃ r r8, f_X7_turn u p0 = some r ∧ f_X8_turn v p0 = some r8 ∧ zLc 1 0 2 r.1 = r8.2.1 ∧ (∀ x, r.1 = .inl x → x = r8.1) ∧ R r.2 r8.2
def op_jam (R : tX7 → tX8 → Prop) : Prop := ∀ u v, R u v → ∀ (p0 : Int32) (p1 : Bool), ∃ r r8, f_X7_jam u p0 p1 = some r ∧ f_X8_jam v p0 p1 = some r8 ∧ zLc 1 0 0 r.1 = r8.2.1 ∧ (∀ x, r.1 = .inl x → x = r8.1) ∧ R r.2 r8.2
def op_set (R : tX7 → tX8 → Prop) : Prop := ∀ u v, R u v → ∀ (p0 : Int32) (p1 : Int32), ∃ r r8, f_X7_set u p0 p1 = some r ∧ f_X8_set v p0 p1 = some r8 ∧ zLc 1 2 3 r.1 = r8.2.1 ∧ (∀ x, r.1 = .inl x → x = r8.1) ∧ R r.2 r8.2
def op_append (R : tX7 → tX8 → Prop) : Prop := ∀ u v, R u v → ∀ (p0 : Int32), ∃ r r8, f_X7_append u p0 = some r ∧ f_X8_append v p0 = some r8 ∧ zLc 0 1 2 r.1 = r8.2.1 ∧ (∀ x, r.1 = .inl x → x = r8.1) ∧ R r.2 r8.2
def op_clearBuffer (R : tX7 → tX8 → Prop) : Prop := ∀ u v, R u v → ∃ r r8, f_X7_clearBuffer u = r ∧ f_X8_clearBuffer v = r8 ∧ r.1 = r8.1 ∧ R r.2 r8.2
def op_firstError (R : tX7 → tX8 → Prop) : Prop := ∀ u v, R u v → ∃ r r8, f_X7_firstError u = some r ∧ f_X8_firstError v = some r8 ∧ r.1 = r8.1 ∧ R r.2 r8.2
def op_pickAll (R : tX7 → tX8 → Prop) : Prop := ∀ u v, R u v → ∃ r r8, f_X7_pickAll u = some r ∧ f_X8_pickAll v = some r8 ∧ zLc 0 1 0 r.1 = r8.2.1 ∧ (∀ x, r.1 = .inl x → x = r8.1) ∧ R r.2 r8.2
def op_undo (R : tX7 → tX8 → Prop) : Prop := ∀ u v, R u v → ∃ r r8, f_X7_undo u = some r ∧ f_X8_undo v = some r8 ∧ zLc 0 0 1 r.1 = r8.2.1 ∧ (∀ x, r.1 = .inl x → x = r8.1) ∧ R r.2 r8.2
def op_drawer (R : tX7 → tX8 → Prop) : Prop := ∀ u v, R u v → ∀ (p0 : Int32) (p1 : Int32), ∃ r r8, f_X7_drawer u p0 p1 = some r ∧ f_X8_drawer v p0 p1 = some r8 ∧ zLc 1 2 0 r = r8.2.1 ∧ (∀ x, r = .inl x → x = r8.1) ∧ R u r8.2
def op_item (R : tX7 → tX8 → Prop) : Prop := ∀ u v, R u v → ∀ (p0 : Int32) (p1 : Int32), ∃ r r8, f_X7_item u p0 p1 = some r ∧ f_X8_item v p0 p1 = some r8 ∧ zLc 1 2 0 r = r8.2.1 ∧ (∀ x, r = .inl x → x = r8.1) ∧ R u r8.2
def op_count (R : tX7 → tX8 → Prop) : Prop := ∀ u v, R u v → ∀ (p0 : Int32), ∃ r r8, f_X7_count u p0 = some r ∧ f_X8_count v p0 = some r8 ∧ zLc 0 1 0 r = r8.2.1 ∧ (∀ x, r = .inl x → x = r8.1) ∧ R u r8.2
def op_setting (R : tX7 → tX8 → Prop) : Prop := ∀ u v, R u v → ∀ (p0 : Int32), ∃ r r8, f_X7_setting u p0 = r ∧ f_X8_setting v p0 = some r8 ∧ zLc 1 0 0 r = r8.2.1 ∧ (∀ x, r = .inl x → x = r8.1) ∧ R u r8.2
def op_refusal (R : tX7 → tX8 → Prop) : Prop := ∀ u v, R u v → ∀ (p0 : Int32), ∃ r r8, f_X7_refusal u p0 = some r ∧ f_X8_refusal v p0 = some r8 ∧ r = r8.1 ∧ R u r8.2
def op_way (R : tX7 → tX8 → Prop) : Prop := ∀ u v, R u v → ∀ (p0 : Int32), ∃ r r8, f_X7_way u p0 = some r ∧ f_X8_way v p0 = some r8 ∧ zLc 1 0 0 r = r8.2.1 ∧ (∀ x, r = .inl x → x = r8.1) ∧ R u r8.2
def op_ifPut (R : tX7 → tX8 → Prop) : Prop := ∀ u v, R u v → ∀ (p0 : Int32) (p1 : Int32), ∃ r r8, f_X7_ifPut u p0 p1 = some r ∧ f_X8_ifPut v p0 p1 = some r8 ∧ zLc 1 2 0 r = r8.2.1 ∧ (∀ x, r = .inl x → x = r8.1) ∧ R u r8.2
def op_bestDrawer (R : tX7 → tX8 → Prop) : Prop := ∀ u v, R u v → ∀ (p0 : Int32), ∃ r r8, f_X7_bestDrawer u p0 = some r ∧ f_X8_bestDrawer v p0 = some r8 ∧ zLc 0 1 0 r = r8.2.1 ∧ (∀ x, r = .inl x → x = r8.1) ∧ R u r8.2
def op_ifPicked (R : tX7 → tX8 → Prop) : Prop := ∀ u v, R u v → ∀ (p0 : Int32) (p1 : Int32), ∃ r r8, f_X7_ifPicked u p0 p1 = some r ∧ f_X8_ifPicked v p0 p1 = some r8 ∧ zLc 0 1 0 r.1 = r8.2.1 ∧ (∀ x, r.1 = .inl x → x = r8.1) ∧ R r.2 r8.2
def op_evenness (R : tX7 → tX8 → Prop) : Prop := ∀ u v, R u v → ∃ r r8, f_X7_evenness u = some r ∧ f_X8_evenness v = some r8 ∧ r = r8.1 ∧ R u r8.2
def op_digest (R : tX7 → tX8 → Prop) : Prop := ∀ u v, R u v → ∃ r r8, f_X7_digest u = some r ∧ f_X8_digest v = some r8 ∧ r.1 = r8.1 ∧ R r.2 r8.2
def zOps (R : tX7 → tX8 → Prop) : Prop := op_put R ∧ op_move R ∧ op_pick R ∧ op_turn R ∧ op_jam R ∧ op_set R ∧ op_append R ∧ op_clearBuffer R ∧ op_firstError R ∧ op_pickAll R ∧ op_undo R ∧ op_drawer R ∧ op_item R ∧ op_count R ∧ op_setting R ∧ op_refusal R ∧ op_way R ∧ op_ifPut R ∧ op_bestDrawer R ∧ op_ifPicked R ∧ op_evenness R ∧ op_digest R
theorem lg_self (x : Int64) : lg_cmp x x = 0 := by
  unfold lg_cmp
  rw [if_neg (by intro h; exact absurd h (Int64.lt_irrefl)), if_pos rfl]
theorem zLo_at {o : Nat → Int64} {x : Int32} : zLo o (.inl x) (0 : Int32).toNatClampNeg = x.toInt64 := by
  show vp_updL o (0 : Int32).toNatClampNeg x.toInt64 (0 : Int32).toNatClampNeg = _
  simp [vp_updL]
theorem law_lt {L i : Nat} (hL : L ≤ 1536) (hi : i ≤ 5000) : nI L - 3 < nI i ↔ L < i + 3 := by
  rcases Nat.lt_or_ge L 3 with h | h
  · have h2 : (nI L - 3).toInt < 0 := by
      rcases (show L = 0 ∨ L = 1 ∨ L = 2 by omega) with rfl | rfl | rfl <;> decide
    constructor
    · intro _
      omega
    · intro _
      rw [Int32.lt_iff_toInt_lt, nI_toInt (by omega)]
      omega
  · have h2 : nI L - 3 = nI (L - 3) := by
      have h3 : nI L = nI (L - 3) + 3 := by
        have h4 := nI_add (L - 3) 3
        rw [show L - 3 + 3 = L by omega] at h4
        exact h4.symm
      rw [h3, Int32.add_sub_cancel]
    rw [h2, nI_ltI (by omega) (by omega)]
    omega
theorem nI_2 (a : Nat) : nI a + 2 = nI (a + 2) := nI_add a 2
theorem nI_3 (a : Nat) : nI a + 3 = nI (a + 3) := nI_add a 3
set_option maxHeartbeats 400000 in
theorem law_put {X : zX} {g : zG} (l : Launch) (hls : l.stackTraces = false) (hl : xl X = l) (hR1 : (xR X).cells = 601024) (hR2 : (xR X).slots = 7293034) (hE : zEx (xA X) (xs X) (xs X).heap) {c L : Nat} {ys : Nat → Int32} (hL : L ≤ 1536) (hX : va_X c L ys (xs X) (xs X).heap) (hbl : c < (xs X).heap.size) (hbA : ¬ xA X c) {a b : Nat → Nat} {ao : Nat} {R : tX7 → tX8 → Prop} (hop : op_put R) {i k n : Nat} (hi : i + 2 < L) (hk : k + 1 ≤ 601024) (hn : n + 6 ≤ 7293034) (u : tX7) (v : tX8) (o : Nat → Int64) (hRel : R u v) (hnext : ∀ (u : tX7) (v : tX8) (o : Nat → Int64) (k1 n1 : Nat), R u v → k1 ≤ k + 1 → n1 ≤ n + 6 → Z true RL cL_law 9 13 510 g X k1 n1 (kX7 g a u ++ [cX8 g b v, [(ao, .inl (g.2.2.2.1, 1, .inr (.inl o)))]]) [(4, .int (nI i)), (0, .ref c), (1, .ref (a 0)), (2, .ref (b 0)), (3, .ref ao)] 1286 []) : Z true RL cL_law 9 13 510 g X k n (kX7 g a u ++ [cX8 g b v, [(ao, .inl (g.2.2.2.1, 1, .inr (.inl o)))]]) [(4, .int (nI i)), (0, .ref c), (1, .ref (a 0)), (2, .ref (b 0)), (3, .ref ao)] 140 [] := by
  refine z_aload_n 2 rfl rfl dL_law_140 ?_
  refine z_aload_n 1 rfl rfl dL_law_141 ?_
  refine z_iload 0 rfl dL_law_142 ?_
  refine z_iconst (v := 1) (by decide) dL_law_144 ?_
  refine z_iadd dL_law_145 ?_
  refine z_sld hX hbl hbA (by rw [nI_1]; exact vp_in_nI (by omega) (by omega)) dL_law_146 ?_
  refine z_aload_n 1 rfl rfl dL_law_147 ?_
  refine z_iload 0 rfl dL_law_148 ?_
  refine z_iconst (v := 2) (by decide) dL_law_150 ?_
  refine z_iadd dL_law_151 ?_
  refine z_sld hX hbl hbA (by rw [nI_2]; exact vp_in_nI (by omega) (by omega)) dL_law_152 ?_
  refine z_aload_n 4 rfl rfl dL_law_153 ?_
  obtain ⟨r, r8, e7, e8, ec, ev, hR⟩ := hop u v hRel (ys ((nI i) + 1).toNatClampNeg) (ys ((nI i) + 2).toNatClampNeg)
  have hz : zLc 1 2 3 r.1 = 0 → ∃ x, r.1 = .inl x := by
    intro hz
    generalize hg : r.1 = y at hz
    rcases y with x | (_ | _ | x)
    · exact ⟨x, rfl⟩
    · exact absurd hz (by decide)
    · exact absurd hz (by decide)
    · exact absurd (show (3 : Int32) = 0 from hz) (by decide)
  refine z_callH (rest := []) zEx_st hE hl (c_L_put l hls g a u ao o (ys ((nI i) + 1).toNatClampNeg) (ys ((nI i) + 2).toNatClampNeg) r e7) zyHL_put zsL_put zlL_74 [(0, none), (1, none), (2, none), (3, none), (4, none), (5, none), (6, none), (7, none), (8, none), (9, none), (10, none), (11, none), (12, none), (14, none)] rfl rfl rfl (w' := kX7 g a r.2 ++ [cX8 g b v, [(ao, .inl (g.2.2.2.1, 1, .inr (.inl (zLo o r.1))))]]) rfl rfl rfl (by decide) (Nat.le_of_ble_eq_true rfl) ⟨by rw [hR1]; omega, by rw [hR2]; omega⟩ dL_law_154 (st2 := [.int (zLc 1 2 3 r.1)]) rfl ?_
  refine z_istore [(5, .int (zLc 1 2 3 r.1)), (4, .int (nI i)), (0, .ref c), (1, .ref (a 0)), (2, .ref (b 0)), (3, .ref ao)] (Nat.le_of_ble_eq_true rfl) rfl dL_law_157 ?_
  refine z_aload_n 4 rfl rfl dL_law_159 ?_
  refine z_aload_n 2 rfl rfl dL_law_160 ?_
  refine z_iload 1 rfl dL_law_161 ?_
  refine z_iconst (v := 1) (by decide) dL_law_163 ?_
  refine z_iadd dL_law_164 ?_
  refine z_sld hX hbl hbA (by rw [nI_1]; exact vp_in_nI (by omega) (by omega)) dL_law_165 ?_
  refine z_aload_n 2 rfl rfl dL_law_166 ?_
  refine z_iload 1 rfl dL_law_167 ?_
  refine z_iconst (v := 2) (by decide) dL_law_169 ?_
  refine z_iadd dL_law_170 ?_
  refine z_sld hX hbl hbA (by rw [nI_2]; exact vp_in_nI (by omega) (by omega)) dL_law_171 ?_
  refine z_callVW (rest := []) hl (c_X8_put l g b v (ys ((nI i) + 1).toNatClampNeg) (ys ((nI i) + 2).toNatClampNeg) _ e8) zyX8_put zvX8_put rfl zlL_79 zcX8.1 ⟨_, _, rfl⟩ [(13, none)] rfl (by decide) rfl (w' := kX7 g a r.2 ++ [cX8 g b r8.2, [(ao, .inl (g.2.2.2.1, 1, .inr (.inl (zLo o r.1))))]]) rfl rfl rfl (by decide) (Nat.le_of_ble_eq_true rfl) ⟨by rw [hR1]; omega, by rw [hR2]; omega⟩ dL_law_172 (st2 := [.int r8.1]) rfl ?_
  refine z_istore [(6, .int r8.1), (5, .int (zLc 1 2 3 r.1)), (4, .int (nI i)), (0, .ref c), (1, .ref (a 0)), (2, .ref (b 0)), (3, .ref ao)] (Nat.le_of_ble_eq_true rfl) rfl dL_law_175 ?_
  refine z_aload_n 5 rfl rfl dL_law_177 ?_
  refine z_callVR (rest := []) hl (c_X8_thrown l g b r8.2 _ rfl) zyX8_thrown zvX8_thrown rfl zlL_80 zcX8.1 ⟨_, _, rfl⟩ [(13, none)] rfl rfl rfl (by decide) (Nat.le_of_ble_eq_true rfl) ⟨by rw [hR1]; omega, by rw [hR2]; omega⟩ dL_law_178 (st2 := [.int r8.2.1]) rfl ?_
  refine z_iload 1 rfl dL_law_181 ?_
  refine z_icmp_eq (tgt := 188) rfl dL_law_183 (fun _ => ?_) (fun h => absurd ec.symm h)
  refine z_iload 1 rfl dL_law_188 ?_
  refine z_if_ne (tgt := 205) rfl dL_law_190 (fun _ => ?_) (fun h => ?_)
  · skip
    refine z_goto (tgt := 1286) rfl dL_law_205 ?_
    exact z_lv [2, 3, 4, 5, 6] rfl (hnext r.2 r8.2 (zLo o r.1) _ _ hR (by omega) (by omega))
  · obtain ⟨x, hx⟩ := hz h
    have hv := ev x hx
    refine z_aload_n 6 rfl rfl dL_law_193 ?_
    refine z_iconst (v := 0) (by decide) dL_law_194 ?_
    refine z_laldI 14 rfl 0 rfl zin0 dL_law_195 ?_
    refine z_iload 0 rfl dL_law_196 ?_
    refine z_i2l dL_law_198 ?_
    refine z_lcmp dL_law_199 ?_
    refine z_if_eq (tgt := 205) rfl dL_law_200 (fun _ => ?_) (fun h => absurd (by rw [hx, zLo_at, hv]; exact lg_self _) h)
    refine z_goto (tgt := 1286) rfl dL_law_205 ?_
    exact z_lv [2, 3, 4, 5, 6] rfl (hnext r.2 r8.2 (zLo o r.1) _ _ hR (by omega) (by omega))
set_option maxHeartbeats 400000 in
theorem law_move {X : zX} {g : zG} (l : Launch) (hls : l.stackTraces = false) (hl : xl X = l) (hR1 : (xR X).cells = 601024) (hR2 : (xR X).slots = 7293034) (hE : zEx (xA X) (xs X) (xs X).heap) {c L : Nat} {ys : Nat → Int32} (hL : L ≤ 1536) (hX : va_X c L ys (xs X) (xs X).heap) (hbl : c < (xs X).heap.size) (hbA : ¬ xA X c) {a b : Nat → Nat} {ao : Nat} {R : tX7 → tX8 → Prop} (hop : op_move R) {i k n : Nat} (hi : i + 2 < L) (hk : k + 1 ≤ 601024) (hn : n + 6 ≤ 7293034) (u : tX7) (v : tX8) (o : Nat → Int64) (hRel : R u v) (hnext : ∀ (u : tX7) (v : tX8) (o : Nat → Int64) (k1 n1 : Nat), R u v → k1 ≤ k + 1 → n1 ≤ n + 6 → Z true RL cL_law 9 13 510 g X k1 n1 (kX7 g a u ++ [cX8 g b v, [(ao, .inl (g.2.2.2.1, 1, .inr (.inl o)))]]) [(4, .int (nI i)), (0, .ref c), (1, .ref (a 0)), (2, .ref (b 0)), (3, .ref ao)] 1286 []) : Z true RL cL_law 9 13 510 g X k n (kX7 g a u ++ [cX8 g b v, [(ao, .inl (g.2.2.2.1, 1, .inr (.inl o)))]]) [(4, .int (nI i)), (0, .ref c), (1, .ref (a 0)), (2, .ref (b 0)), (3, .ref ao)] 208 [] := by
  refine z_aload_n 2 rfl rfl dL_law_208 ?_
  refine z_aload_n 1 rfl rfl dL_law_209 ?_
  refine z_iload 0 rfl dL_law_210 ?_
  refine z_iconst (v := 1) (by decide) dL_law_212 ?_
  refine z_iadd dL_law_213 ?_
  refine z_sld hX hbl hbA (by rw [nI_1]; exact vp_in_nI (by omega) (by omega)) dL_law_214 ?_
  refine z_aload_n 1 rfl rfl dL_law_215 ?_
  refine z_iload 0 rfl dL_law_216 ?_
  refine z_iconst (v := 2) (by decide) dL_law_218 ?_
  refine z_iadd dL_law_219 ?_
  refine z_sld hX hbl hbA (by rw [nI_2]; exact vp_in_nI (by omega) (by omega)) dL_law_220 ?_
  refine z_aload_n 4 rfl rfl dL_law_221 ?_
  obtain ⟨r, r8, e7, e8, ec, ev, hR⟩ := hop u v hRel (ys ((nI i) + 1).toNatClampNeg) (ys ((nI i) + 2).toNatClampNeg)
  have hz : zLc 1 0 2 r.1 = 0 → ∃ x, r.1 = .inl x := by
    intro hz
    generalize hg : r.1 = y at hz
    rcases y with x | (_ | _ | x)
    · exact ⟨x, rfl⟩
    · exact absurd hz (by decide)
    · have hx := ex_X7_move u (ys ((nI i) + 1).toNatClampNeg) (ys ((nI i) + 2).toNatClampNeg) r e7 (0 + 1) hg
      dsimp only at hx
      omega
    · exact absurd (show (2 : Int32) = 0 from hz) (by decide)
  refine z_callH (rest := []) zEx_st hE hl (c_L_move l hls g a u ao o (ys ((nI i) + 1).toNatClampNeg) (ys ((nI i) + 2).toNatClampNeg) r e7) zyHL_move zsL_move zlL_83 [(0, none), (1, none), (2, none), (3, none), (4, none), (5, none), (6, none), (7, none), (8, none), (9, none), (10, none), (11, none), (12, none), (14, none)] rfl rfl rfl (w' := kX7 g a r.2 ++ [cX8 g b v, [(ao, .inl (g.2.2.2.1, 1, .inr (.inl (zLo o r.1))))]]) rfl rfl rfl (by decide) (Nat.le_of_ble_eq_true rfl) ⟨by rw [hR1]; omega, by rw [hR2]; omega⟩ dL_law_222 (st2 := [.int (zLc 1 0 2 r.1)]) rfl ?_
  refine z_istore [(5, .int (zLc 1 0 2 r.1)), (4, .int (nI i)), (0, .ref c), (1, .ref (a 0)), (2, .ref (b 0)), (3, .ref ao)] (Nat.le_of_ble_eq_true rfl) rfl dL_law_225 ?_
  refine z_aload_n 4 rfl rfl dL_law_227 ?_
  refine z_aload_n 2 rfl rfl dL_law_228 ?_
  refine z_iload 1 rfl dL_law_229 ?_
  refine z_iconst (v := 1) (by decide) dL_law_231 ?_
  refine z_iadd dL_law_232 ?_
  refine z_sld hX hbl hbA (by rw [nI_1]; exact vp_in_nI (by omega) (by omega)) dL_law_233 ?_
  refine z_aload_n 2 rfl rfl dL_law_234 ?_
  refine z_iload 1 rfl dL_law_235 ?_
  refine z_iconst (v := 2) (by decide) dL_law_237 ?_
  refine z_iadd dL_law_238 ?_
  refine z_sld hX hbl hbA (by rw [nI_2]; exact vp_in_nI (by omega) (by omega)) dL_law_239 ?_
  refine z_callVW (rest := []) hl (c_X8_move l g b v (ys ((nI i) + 1).toNatClampNeg) (ys ((nI i) + 2).toNatClampNeg) _ e8) zyX8_move zvX8_move rfl zlL_85 zcX8.1 ⟨_, _, rfl⟩ [(13, none)] rfl (by decide) rfl (w' := kX7 g a r.2 ++ [cX8 g b r8.2, [(ao, .inl (g.2.2.2.1, 1, .inr (.inl (zLo o r.1))))]]) rfl rfl rfl (by decide) (Nat.le_of_ble_eq_true rfl) ⟨by rw [hR1]; omega, by rw [hR2]; omega⟩ dL_law_240 (st2 := [.int r8.1]) rfl ?_
  refine z_istore [(6, .int r8.1), (5, .int (zLc 1 0 2 r.1)), (4, .int (nI i)), (0, .ref c), (1, .ref (a 0)), (2, .ref (b 0)), (3, .ref ao)] (Nat.le_of_ble_eq_true rfl) rfl dL_law_243 ?_
  refine z_aload_n 5 rfl rfl dL_law_245 ?_
  refine z_callVR (rest := []) hl (c_X8_thrown l g b r8.2 _ rfl) zyX8_thrown zvX8_thrown rfl zlL_80 zcX8.1 ⟨_, _, rfl⟩ [(13, none)] rfl rfl rfl (by decide) (Nat.le_of_ble_eq_true rfl) ⟨by rw [hR1]; omega, by rw [hR2]; omega⟩ dL_law_246 (st2 := [.int r8.2.1]) rfl ?_
  refine z_iload 1 rfl dL_law_249 ?_
  refine z_icmp_eq (tgt := 256) rfl dL_law_251 (fun _ => ?_) (fun h => absurd ec.symm h)
  refine z_iload 1 rfl dL_law_256 ?_
  refine z_if_ne (tgt := 273) rfl dL_law_258 (fun _ => ?_) (fun h => ?_)
  · skip
    refine z_goto (tgt := 1286) rfl dL_law_273 ?_
    exact z_lv [2, 3, 4, 5, 6] rfl (hnext r.2 r8.2 (zLo o r.1) _ _ hR (by omega) (by omega))
  · obtain ⟨x, hx⟩ := hz h
    have hv := ev x hx
    refine z_aload_n 6 rfl rfl dL_law_261 ?_
    refine z_iconst (v := 0) (by decide) dL_law_262 ?_
    refine z_laldI 14 rfl 0 rfl zin0 dL_law_263 ?_
    refine z_iload 0 rfl dL_law_264 ?_
    refine z_i2l dL_law_266 ?_
    refine z_lcmp dL_law_267 ?_
    refine z_if_eq (tgt := 273) rfl dL_law_268 (fun _ => ?_) (fun h => absurd (by rw [hx, zLo_at, hv]; exact lg_self _) h)
    refine z_goto (tgt := 1286) rfl dL_law_273 ?_
    exact z_lv [2, 3, 4, 5, 6] rfl (hnext r.2 r8.2 (zLo o r.1) _ _ hR (by omega) (by omega))
set_option maxHeartbeats 400000 in
theorem law_pick {X : zX} {g : zG} (l : Launch) (hls : l.stackTraces = false) (hl : xl X = l) (hR1 : (xR X).cells = 601024) (hR2 : (xR X).slots = 7293034) (hE : zEx (xA X) (xs X) (xs X).heap) {c L : Nat} {ys : Nat → Int32} (hL : L ≤ 1536) (hX : va_X c L ys (xs X) (xs X).heap) (hbl : c < (xs X).heap.size) (hbA : ¬ xA X c) {a b : Nat → Nat} {ao : Nat} {R : tX7 → tX8 → Prop} (hop : op_pick R) {i k n : Nat} (hi : i + 2 < L) (hk : k + 1 ≤ 601024) (hn : n + 6 ≤ 7293034) (u : tX7) (v : tX8) (o : Nat → Int64) (hRel : R u v) (hnext : ∀ (u : tX7) (v : tX8) (o : Nat → Int64) (k1 n1 : Nat), R u v → k1 ≤ k + 1 → n1 ≤ n + 6 → Z true RL cL_law 9 13 510 g X k1 n1 (kX7 g a u ++ [cX8 g b v, [(ao, .inl (g.2.2.2.1, 1, .inr (.inl o)))]]) [(4, .int (nI i)), (0, .ref c), (1, .ref (a 0)), (2, .ref (b 0)), (3, .ref ao)] 1286 []) : Z true RL cL_law 9 13 510 g X k n (kX7 g a u ++ [cX8 g b v, [(ao, .inl (g.2.2.2.1, 1, .inr (.inl o)))]]) [(4, .int (nI i)), (0, .ref c), (1, .ref (a 0)), (2, .ref (b 0)), (3, .ref ao)] 276 [] := by
  refine z_aload_n 2 rfl rfl dL_law_276 ?_
  refine z_aload_n 1 rfl rfl dL_law_277 ?_
  refine z_iload 0 rfl dL_law_278 ?_
  refine z_iconst (v := 1) (by decide) dL_law_280 ?_
  refine z_iadd dL_law_281 ?_
  refine z_sld hX hbl hbA (by rw [nI_1]; exact vp_in_nI (by omega) (by omega)) dL_law_282 ?_
  refine z_aload_n 4 rfl rfl dL_law_283 ?_
  obtain ⟨r, r8, e7, e8, ec, ev, hR⟩ := hop u v hRel (ys ((nI i) + 1).toNatClampNeg)
  have hz : zLc 1 0 2 r.1 = 0 → ∃ x, r.1 = .inl x := by
    intro hz
    generalize hg : r.1 = y at hz
    rcases y with x | (_ | _ | x)
    · exact ⟨x, rfl⟩
    · exact absurd hz (by decide)
    · have hx := ex_X7_pick u (ys ((nI i) + 1).toNatClampNeg) r e7 (0 + 1) hg
      dsimp only at hx
      omega
    · exact absurd (show (2 : Int32) = 0 from hz) (by decide)
  refine z_callH (rest := []) zEx_st hE hl (c_L_pick l hls g a u ao o (ys ((nI i) + 1).toNatClampNeg) r e7) zyHL_pick zsL_pick zlL_86 [(0, none), (1, none), (2, none), (3, none), (4, none), (5, none), (6, none), (7, none), (8, none), (9, none), (10, none), (11, none), (12, none), (14, none)] rfl rfl rfl (w' := kX7 g a r.2 ++ [cX8 g b v, [(ao, .inl (g.2.2.2.1, 1, .inr (.inl (zLo o r.1))))]]) rfl rfl rfl (by decide) (Nat.le_of_ble_eq_true rfl) ⟨by rw [hR1]; omega, by rw [hR2]; omega⟩ dL_law_284 (st2 := [.int (zLc 1 0 2 r.1)]) rfl ?_
  refine z_istore [(5, .int (zLc 1 0 2 r.1)), (4, .int (nI i)), (0, .ref c), (1, .ref (a 0)), (2, .ref (b 0)), (3, .ref ao)] (Nat.le_of_ble_eq_true rfl) rfl dL_law_287 ?_
  refine z_aload_n 4 rfl rfl dL_law_289 ?_
  refine z_aload_n 2 rfl rfl dL_law_290 ?_
  refine z_iload 1 rfl dL_law_291 ?_
  refine z_iconst (v := 1) (by decide) dL_law_293 ?_
  refine z_iadd dL_law_294 ?_
  refine z_sld hX hbl hbA (by rw [nI_1]; exact vp_in_nI (by omega) (by omega)) dL_law_295 ?_
  refine z_callVW (rest := []) hl (c_X8_pick l g b v (ys ((nI i) + 1).toNatClampNeg) _ e8) zyX8_pick zvX8_pick rfl zlL_89 zcX8.1 ⟨_, _, rfl⟩ [(13, none)] rfl (by decide) rfl (w' := kX7 g a r.2 ++ [cX8 g b r8.2, [(ao, .inl (g.2.2.2.1, 1, .inr (.inl (zLo o r.1))))]]) rfl rfl rfl (by decide) (Nat.le_of_ble_eq_true rfl) ⟨by rw [hR1]; omega, by rw [hR2]; omega⟩ dL_law_296 (st2 := [.int r8.1]) rfl ?_
  refine z_istore [(6, .int r8.1), (5, .int (zLc 1 0 2 r.1)), (4, .int (nI i)), (0, .ref c), (1, .ref (a 0)), (2, .ref (b 0)), (3, .ref ao)] (Nat.le_of_ble_eq_true rfl) rfl dL_law_299 ?_
  refine z_aload_n 5 rfl rfl dL_law_301 ?_
  refine z_callVR (rest := []) hl (c_X8_thrown l g b r8.2 _ rfl) zyX8_thrown zvX8_thrown rfl zlL_80 zcX8.1 ⟨_, _, rfl⟩ [(13, none)] rfl rfl rfl (by decide) (Nat.le_of_ble_eq_true rfl) ⟨by rw [hR1]; omega, by rw [hR2]; omega⟩ dL_law_302 (st2 := [.int r8.2.1]) rfl ?_
  refine z_iload 1 rfl dL_law_305 ?_
  refine z_icmp_eq (tgt := 312) rfl dL_law_307 (fun _ => ?_) (fun h => absurd ec.symm h)
  refine z_iload 1 rfl dL_law_312 ?_
  refine z_if_ne (tgt := 329) rfl dL_law_314 (fun _ => ?_) (fun h => ?_)
  · skip
    refine z_goto (tgt := 1286) rfl dL_law_329 ?_
    exact z_lv [2, 3, 4, 5, 6] rfl (hnext r.2 r8.2 (zLo o r.1) _ _ hR (by omega) (by omega))
  · obtain ⟨x, hx⟩ := hz h
    have hv := ev x hx
    refine z_aload_n 6 rfl rfl dL_law_317 ?_
    refine z_iconst (v := 0) (by decide) dL_law_318 ?_
    refine z_laldI 14 rfl 0 rfl zin0 dL_law_319 ?_
    refine z_iload 0 rfl dL_law_320 ?_
    refine z_i2l dL_law_322 ?_
    refine z_lcmp dL_law_323 ?_
    refine z_if_eq (tgt := 329) rfl dL_law_324 (fun _ => ?_) (fun h => absurd (by rw [hx, zLo_at, hv]; exact lg_self _) h)
    refine z_goto (tgt := 1286) rfl dL_law_329 ?_
    exact z_lv [2, 3, 4, 5, 6] rfl (hnext r.2 r8.2 (zLo o r.1) _ _ hR (by omega) (by omega))
set_option maxHeartbeats 400000 in
theorem law_turn {X : zX} {g : zG} (l : Launch) (hls : l.stackTraces = false) (hl : xl X = l) (hR1 : (xR X).cells = 601024) (hR2 : (xR X).slots = 7293034) (hE : zEx (xA X) (xs X) (xs X).heap) {c L : Nat} {ys : Nat → Int32} (hL : L ≤ 1536) (hX : va_X c L ys (xs X) (xs X).heap) (hbl : c < (xs X).heap.size) (hbA : ¬ xA X c) {a b : Nat → Nat} {ao : Nat} {R : tX7 → tX8 → Prop} (hop : op_turn R) {i k n : Nat} (hi : i + 2 < L) (hk : k + 1 ≤ 601024) (hn : n + 6 ≤ 7293034) (u : tX7) (v : tX8) (o : Nat → Int64) (hRel : R u v) (hnext : ∀ (u : tX7) (v : tX8) (o : Nat → Int64) (k1 n1 : Nat), R u v → k1 ≤ k + 1 → n1 ≤ n + 6 → Z true RL cL_law 9 13 510 g X k1 n1 (kX7 g a u ++ [cX8 g b v, [(ao, .inl (g.2.2.2.1, 1, .inr (.inl o)))]]) [(4, .int (nI i)), (0, .ref c), (1, .ref (a 0)), (2, .ref (b 0)), (3, .ref ao)] 1286 []) : Z true RL cL_law 9 13 510 g X k n (kX7 g a u ++ [cX8 g b v, [(ao, .inl (g.2.2.2.1, 1, .inr (.inl o)))]]) [(4, .int (nI i)), (0, .ref c), (1, .ref (a 0)), (2, .ref (b 0)), (3, .ref ao)] 332 [] := by
  refine z_aload_n 2 rfl rfl dL_law_332 ?_
  refine z_aload_n 1 rfl rfl dL_law_333 ?_
  refine z_iload 0 rfl dL_law_334 ?_
  refine z_iconst (v := 1) (by decide) dL_law_336 ?_
  refine z_iadd dL_law_337 ?_
  refine z_sld hX hbl hbA (by rw [nI_1]; exact vp_in_nI (by omega) (by omega)) dL_law_338 ?_
  refine z_aload_n 4 rfl rfl dL_law_339 ?_
  obtain ⟨r, r8, e7, e8, ec, ev, hR⟩ := hop u v hRel (ys ((nI i) + 1).toNatClampNeg)
  have hz : zLc 1 0 2 r.1 = 0 → ∃ x, r.1 = .inl x := by
    intro hz
    generalize hg : r.1 = y at hz
    rcases y with x | (_ | _ | x)
    · exact ⟨x, rfl⟩
    · exact absurd hz (by decide)
    · have hx := ex_X7_turn u (ys ((nI i) + 1).toNatClampNeg) r e7 (0 + 1) hg
      dsimp only at hx
      omega
    · exact absurd (show (2 : Int32) = 0 from hz) (by decide)
  refine z_callH (rest := []) zEx_st hE hl (c_L_turn l hls g a u ao o (ys ((nI i) + 1).toNatClampNeg) r e7) zyHL_turn zsL_turn zlL_90 [(0, none), (1, none), (2, none), (3, none), (4, none), (5, none), (6, none), (7, none), (8, none), (9, none), (10, none), (11, none), (12, none), (14, none)] rfl rfl rfl (w' := kX7 g a r.2 ++ [cX8 g b v, [(ao, .inl (g.2.2.2.1, 1, .inr (.inl (zLo o r.1))))]]) rfl rfl rfl (by decide) (Nat.le_of_ble_eq_true rfl) ⟨by rw [hR1]; omega, by rw [hR2]; omega⟩ dL_law_340 (st2 := [.int (zLc 1 0 2 r.1)]) rfl ?_
  refine z_istore [(5, .int (zLc 1 0 2 r.1)), (4, .int (nI i)), (0, .ref c), (1, .ref (a 0)), (2, .ref (b 0)), (3, .ref ao)] (Nat.le_of_ble_eq_true rfl) rfl dL_law_343 ?_
  refine z_aload_n 4 rfl rfl dL_law_345 ?_
  refine z_aload_n 2 rfl rfl dL_law_346 ?_
  refine z_iload 1 rfl dL_law_347 ?_
  refine z_iconst (v := 1) (by decide) dL_law_349 ?_
  refine z_iadd dL_law_350 ?_
  refine z_sld hX hbl hbA (by rw [nI_1]; exact vp_in_nI (by omega) (by omega)) dL_law_351 ?_
  refine z_callVW (rest := []) hl (c_X8_turn l g b v (ys ((nI i) + 1).toNatClampNeg) _ e8) zyX8_turn zvX8_turn rfl zlL_92 zcX8.1 ⟨_, _, rfl⟩ [(13, none)] rfl (by decide) rfl (w' := kX7 g a r.2 ++ [cX8 g b r8.2, [(ao, .inl (g.2.2.2.1, 1, .inr (.inl (zLo o r.1))))]]) rfl rfl rfl (by decide) (Nat.le_of_ble_eq_true rfl) ⟨by rw [hR1]; omega, by rw [hR2]; omega⟩ dL_law_352 (st2 := [.int r8.1]) rfl ?_
  refine z_istore [(6, .int r8.1), (5, .int (zLc 1 0 2 r.1)), (4, .int (nI i)), (0, .ref c), (1, .ref (a 0)), (2, .ref (b 0)), (3, .ref ao)] (Nat.le_of_ble_eq_true rfl) rfl dL_law_355 ?_
  refine z_aload_n 5 rfl rfl dL_law_357 ?_
  refine z_callVR (rest := []) hl (c_X8_thrown l g b r8.2 _ rfl) zyX8_thrown zvX8_thrown rfl zlL_80 zcX8.1 ⟨_, _, rfl⟩ [(13, none)] rfl rfl rfl (by decide) (Nat.le_of_ble_eq_true rfl) ⟨by rw [hR1]; omega, by rw [hR2]; omega⟩ dL_law_358 (st2 := [.int r8.2.1]) rfl ?_
  refine z_iload 1 rfl dL_law_361 ?_
  refine z_icmp_eq (tgt := 368) rfl dL_law_363 (fun _ => ?_) (fun h => absurd ec.symm h)
  refine z_iload 1 rfl dL_law_368 ?_
  refine z_if_ne (tgt := 385) rfl dL_law_370 (fun _ => ?_) (fun h => ?_)
  · skip
    refine z_goto (tgt := 1286) rfl dL_law_385 ?_
    exact z_lv [2, 3, 4, 5, 6] rfl (hnext r.2 r8.2 (zLo o r.1) _ _ hR (by omega) (by omega))
  · obtain ⟨x, hx⟩ := hz h
    have hv := ev x hx
    refine z_aload_n 6 rfl rfl dL_law_373 ?_
    refine z_iconst (v := 0) (by decide) dL_law_374 ?_
    refine z_laldI 14 rfl 0 rfl zin0 dL_law_375 ?_
    refine z_iload 0 rfl dL_law_376 ?_
    refine z_i2l dL_law_378 ?_
    refine z_lcmp dL_law_379 ?_
    refine z_if_eq (tgt := 385) rfl dL_law_380 (fun _ => ?_) (fun h => absurd (by rw [hx, zLo_at, hv]; exact lg_self _) h)
    refine z_goto (tgt := 1286) rfl dL_law_385 ?_
    exact z_lv [2, 3, 4, 5, 6] rfl (hnext r.2 r8.2 (zLo o r.1) _ _ hR (by omega) (by omega))
set_option maxHeartbeats 400000 in
theorem law_jam {X : zX} {g : zG} (l : Launch) (hls : l.stackTraces = false) (hl : xl X = l) (hR1 : (xR X).cells = 601024) (hR2 : (xR X).slots = 7293034) (hE : zEx (xA X) (xs X) (xs X).heap) {c L : Nat} {ys : Nat → Int32} (hL : L ≤ 1536) (hX : va_X c L ys (xs X) (xs X).heap) (hbl : c < (xs X).heap.size) (hbA : ¬ xA X c) {a b : Nat → Nat} {ao : Nat} {R : tX7 → tX8 → Prop} (hop : op_jam R) {i k n : Nat} (hi : i + 2 < L) (hk : k + 1 ≤ 601024) (hn : n + 6 ≤ 7293034) (u : tX7) (v : tX8) (o : Nat → Int64) (hRel : R u v) (hnext : ∀ (u : tX7) (v : tX8) (o : Nat → Int64) (k1 n1 : Nat), R u v → k1 ≤ k + 1 → n1 ≤ n + 6 → Z true RL cL_law 9 13 510 g X k1 n1 (kX7 g a u ++ [cX8 g b v, [(ao, .inl (g.2.2.2.1, 1, .inr (.inl o)))]]) [(4, .int (nI i)), (0, .ref c), (1, .ref (a 0)), (2, .ref (b 0)), (3, .ref ao)] 1286 []) : Z true RL cL_law 9 13 510 g X k n (kX7 g a u ++ [cX8 g b v, [(ao, .inl (g.2.2.2.1, 1, .inr (.inl o)))]]) [(4, .int (nI i)), (0, .ref c), (1, .ref (a 0)), (2, .ref (b 0)), (3, .ref ao)] 388 [] := by
  refine z_aload_n 2 rfl rfl dL_law_388 ?_
  refine z_aload_n 1 rfl rfl dL_law_389 ?_
  refine z_iload 0 rfl dL_law_390 ?_
  refine z_iconst (v := 1) (by decide) dL_law_392 ?_
  refine z_iadd dL_law_393 ?_
  refine z_sld hX hbl hbA (by rw [nI_1]; exact vp_in_nI (by omega) (by omega)) dL_law_394 ?_
  refine z_aload_n 1 rfl rfl dL_law_395 ?_
  refine z_iload 0 rfl dL_law_396 ?_
  refine z_iconst (v := 2) (by decide) dL_law_398 ?_
  refine z_iadd dL_law_399 ?_
  refine z_sld hX hbl hbA (by rw [nI_2]; exact vp_in_nI (by omega) (by omega)) dL_law_400 ?_
  refine z_if_eq (tgt := 408) rfl dL_law_401 (fun h0 => ?_) (fun h0 => ?_)
  · skip
    refine z_iconst (v := 0) (by decide) dL_law_408 ?_
    refine z_aload_n 4 rfl rfl dL_law_409 ?_
    obtain ⟨r, r8, e7, e8, ec, ev, hR⟩ := hop u v hRel (ys ((nI i) + 1).toNatClampNeg) false
    have hz : zLc 1 0 0 r.1 = 0 → ∃ x, r.1 = .inl x := by
      intro hz
      generalize hg : r.1 = y at hz
      rcases y with x | (_ | _ | x)
      · exact ⟨x, rfl⟩
      · exact absurd hz (by decide)
      · have hx := ex_X7_jam u (ys ((nI i) + 1).toNatClampNeg) false r e7 (0 + 1) hg
        dsimp only at hx
        omega
      · have hx := ex_X7_jam u (ys ((nI i) + 1).toNatClampNeg) false r e7 (x + 1 + 1) hg
        dsimp only at hx
        omega
    refine z_callH (rest := []) zEx_st hE hl (c_L_jam l hls g a u ao o (ys ((nI i) + 1).toNatClampNeg) false r e7) zyHL_jam zsL_jam zlL_93 [(0, none), (1, none), (2, none), (3, none), (4, none), (5, none), (6, none), (7, none), (8, none), (9, none), (10, none), (11, none), (12, none), (14, none)] rfl rfl rfl (w' := kX7 g a r.2 ++ [cX8 g b v, [(ao, .inl (g.2.2.2.1, 1, .inr (.inl (zLo o r.1))))]]) rfl rfl rfl (by decide) (Nat.le_of_ble_eq_true rfl) ⟨by rw [hR1]; omega, by rw [hR2]; omega⟩ dL_law_410 (st2 := [.int (zLc 1 0 0 r.1)]) rfl ?_
    refine z_istore [(5, .int (zLc 1 0 0 r.1)), (4, .int (nI i)), (0, .ref c), (1, .ref (a 0)), (2, .ref (b 0)), (3, .ref ao)] (Nat.le_of_ble_eq_true rfl) rfl dL_law_413 ?_
    refine z_aload_n 4 rfl rfl dL_law_415 ?_
    refine z_aload_n 2 rfl rfl dL_law_416 ?_
    refine z_iload 1 rfl dL_law_417 ?_
    refine z_iconst (v := 1) (by decide) dL_law_419 ?_
    refine z_iadd dL_law_420 ?_
    refine z_sld hX hbl hbA (by rw [nI_1]; exact vp_in_nI (by omega) (by omega)) dL_law_421 ?_
    refine z_aload_n 2 rfl rfl dL_law_422 ?_
    refine z_iload 1 rfl dL_law_423 ?_
    refine z_iconst (v := 2) (by decide) dL_law_425 ?_
    refine z_iadd dL_law_426 ?_
    refine z_sld hX hbl hbA (by rw [nI_2]; exact vp_in_nI (by omega) (by omega)) dL_law_427 ?_
    refine z_if_eq (tgt := 435) rfl dL_law_428 (fun _ => ?_) (fun h => absurd h0 h)
    refine z_iconst (v := 0) (by decide) dL_law_435 ?_
    refine z_callVW (rest := []) hl (c_X8_jam l g b v (ys ((nI i) + 1).toNatClampNeg) false _ e8) zyX8_jam zvX8_jam rfl zlL_96 zcX8.1 ⟨_, _, rfl⟩ [(13, none)] rfl (by decide) rfl (w' := kX7 g a r.2 ++ [cX8 g b r8.2, [(ao, .inl (g.2.2.2.1, 1, .inr (.inl (zLo o r.1))))]]) rfl rfl rfl (by decide) (Nat.le_of_ble_eq_true rfl) ⟨by rw [hR1]; omega, by rw [hR2]; omega⟩ dL_law_436 (st2 := [.int r8.1]) rfl ?_
    refine z_istore [(6, .int r8.1), (5, .int (zLc 1 0 0 r.1)), (4, .int (nI i)), (0, .ref c), (1, .ref (a 0)), (2, .ref (b 0)), (3, .ref ao)] (Nat.le_of_ble_eq_true rfl) rfl dL_law_439 ?_
    refine z_aload_n 5 rfl rfl dL_law_441 ?_
    refine z_callVR (rest := []) hl (c_X8_thrown l g b r8.2 _ rfl) zyX8_thrown zvX8_thrown rfl zlL_80 zcX8.1 ⟨_, _, rfl⟩ [(13, none)] rfl rfl rfl (by decide) (Nat.le_of_ble_eq_true rfl) ⟨by rw [hR1]; omega, by rw [hR2]; omega⟩ dL_law_442 (st2 := [.int r8.2.1]) rfl ?_
    refine z_iload 1 rfl dL_law_445 ?_
    refine z_icmp_eq (tgt := 452) rfl dL_law_447 (fun _ => ?_) (fun h => absurd ec.symm h)
    refine z_iload 1 rfl dL_law_452 ?_
    refine z_if_ne (tgt := 469) rfl dL_law_454 (fun _ => ?_) (fun h => ?_)
    · skip
      refine z_goto (tgt := 1286) rfl dL_law_469 ?_
      exact z_lv [2, 3, 4, 5, 6] rfl (hnext r.2 r8.2 (zLo o r.1) _ _ hR (by omega) (by omega))
    · obtain ⟨x, hx⟩ := hz h
      have hv := ev x hx
      refine z_aload_n 6 rfl rfl dL_law_457 ?_
      refine z_iconst (v := 0) (by decide) dL_law_458 ?_
      refine z_laldI 14 rfl 0 rfl zin0 dL_law_459 ?_
      refine z_iload 0 rfl dL_law_460 ?_
      refine z_i2l dL_law_462 ?_
      refine z_lcmp dL_law_463 ?_
      refine z_if_eq (tgt := 469) rfl dL_law_464 (fun _ => ?_) (fun h => absurd (by rw [hx, zLo_at, hv]; exact lg_self _) h)
      refine z_goto (tgt := 1286) rfl dL_law_469 ?_
      exact z_lv [2, 3, 4, 5, 6] rfl (hnext r.2 r8.2 (zLo o r.1) _ _ hR (by omega) (by omega))
  · skip
    refine z_iconst (v := 1) (by decide) dL_law_404 ?_
    refine z_goto (tgt := 409) rfl dL_law_405 ?_
    refine z_aload_n 4 rfl rfl dL_law_409 ?_
    obtain ⟨r, r8, e7, e8, ec, ev, hR⟩ := hop u v hRel (ys ((nI i) + 1).toNatClampNeg) true
    have hz : zLc 1 0 0 r.1 = 0 → ∃ x, r.1 = .inl x := by
      intro hz
      generalize hg : r.1 = y at hz
      rcases y with x | (_ | _ | x)
      · exact ⟨x, rfl⟩
      · exact absurd hz (by decide)
      · have hx := ex_X7_jam u (ys ((nI i) + 1).toNatClampNeg) true r e7 (0 + 1) hg
        dsimp only at hx
        omega
      · have hx := ex_X7_jam u (ys ((nI i) + 1).toNatClampNeg) true r e7 (x + 1 + 1) hg
        dsimp only at hx
        omega
    refine z_callH (rest := []) zEx_st hE hl (c_L_jam l hls g a u ao o (ys ((nI i) + 1).toNatClampNeg) true r e7) zyHL_jam zsL_jam zlL_93 [(0, none), (1, none), (2, none), (3, none), (4, none), (5, none), (6, none), (7, none), (8, none), (9, none), (10, none), (11, none), (12, none), (14, none)] rfl rfl rfl (w' := kX7 g a r.2 ++ [cX8 g b v, [(ao, .inl (g.2.2.2.1, 1, .inr (.inl (zLo o r.1))))]]) rfl rfl rfl (by decide) (Nat.le_of_ble_eq_true rfl) ⟨by rw [hR1]; omega, by rw [hR2]; omega⟩ dL_law_410 (st2 := [.int (zLc 1 0 0 r.1)]) rfl ?_
    refine z_istore [(5, .int (zLc 1 0 0 r.1)), (4, .int (nI i)), (0, .ref c), (1, .ref (a 0)), (2, .ref (b 0)), (3, .ref ao)] (Nat.le_of_ble_eq_true rfl) rfl dL_law_413 ?_
    refine z_aload_n 4 rfl rfl dL_law_415 ?_
    refine z_aload_n 2 rfl rfl dL_law_416 ?_
    refine z_iload 1 rfl dL_law_417 ?_
    refine z_iconst (v := 1) (by decide) dL_law_419 ?_
    refine z_iadd dL_law_420 ?_
    refine z_sld hX hbl hbA (by rw [nI_1]; exact vp_in_nI (by omega) (by omega)) dL_law_421 ?_
    refine z_aload_n 2 rfl rfl dL_law_422 ?_
    refine z_iload 1 rfl dL_law_423 ?_
    refine z_iconst (v := 2) (by decide) dL_law_425 ?_
    refine z_iadd dL_law_426 ?_
    refine z_sld hX hbl hbA (by rw [nI_2]; exact vp_in_nI (by omega) (by omega)) dL_law_427 ?_
    refine z_if_eq (tgt := 435) rfl dL_law_428 (fun h => absurd h h0) (fun _ => ?_)
    refine z_iconst (v := 1) (by decide) dL_law_431 ?_
    refine z_goto (tgt := 436) rfl dL_law_432 ?_
    refine z_callVW (rest := []) hl (c_X8_jam l g b v (ys ((nI i) + 1).toNatClampNeg) true _ e8) zyX8_jam zvX8_jam rfl zlL_96 zcX8.1 ⟨_, _, rfl⟩ [(13, none)] rfl (by decide) rfl (w' := kX7 g a r.2 ++ [cX8 g b r8.2, [(ao, .inl (g.2.2.2.1, 1, .inr (.inl (zLo o r.1))))]]) rfl rfl rfl (by decide) (Nat.le_of_ble_eq_true rfl) ⟨by rw [hR1]; omega, by rw [hR2]; omega⟩ dL_law_436 (st2 := [.int r8.1]) rfl ?_
    refine z_istore [(6, .int r8.1), (5, .int (zLc 1 0 0 r.1)), (4, .int (nI i)), (0, .ref c), (1, .ref (a 0)), (2, .ref (b 0)), (3, .ref ao)] (Nat.le_of_ble_eq_true rfl) rfl dL_law_439 ?_
    refine z_aload_n 5 rfl rfl dL_law_441 ?_
    refine z_callVR (rest := []) hl (c_X8_thrown l g b r8.2 _ rfl) zyX8_thrown zvX8_thrown rfl zlL_80 zcX8.1 ⟨_, _, rfl⟩ [(13, none)] rfl rfl rfl (by decide) (Nat.le_of_ble_eq_true rfl) ⟨by rw [hR1]; omega, by rw [hR2]; omega⟩ dL_law_442 (st2 := [.int r8.2.1]) rfl ?_
    refine z_iload 1 rfl dL_law_445 ?_
    refine z_icmp_eq (tgt := 452) rfl dL_law_447 (fun _ => ?_) (fun h => absurd ec.symm h)
    refine z_iload 1 rfl dL_law_452 ?_
    refine z_if_ne (tgt := 469) rfl dL_law_454 (fun _ => ?_) (fun h => ?_)
    · skip
      refine z_goto (tgt := 1286) rfl dL_law_469 ?_
      exact z_lv [2, 3, 4, 5, 6] rfl (hnext r.2 r8.2 (zLo o r.1) _ _ hR (by omega) (by omega))
    · obtain ⟨x, hx⟩ := hz h
      have hv := ev x hx
      refine z_aload_n 6 rfl rfl dL_law_457 ?_
      refine z_iconst (v := 0) (by decide) dL_law_458 ?_
      refine z_laldI 14 rfl 0 rfl zin0 dL_law_459 ?_
      refine z_iload 0 rfl dL_law_460 ?_
      refine z_i2l dL_law_462 ?_
      refine z_lcmp dL_law_463 ?_
      refine z_if_eq (tgt := 469) rfl dL_law_464 (fun _ => ?_) (fun h => absurd (by rw [hx, zLo_at, hv]; exact lg_self _) h)
      refine z_goto (tgt := 1286) rfl dL_law_469 ?_
      exact z_lv [2, 3, 4, 5, 6] rfl (hnext r.2 r8.2 (zLo o r.1) _ _ hR (by omega) (by omega))
set_option maxHeartbeats 400000 in
theorem law_set {X : zX} {g : zG} (l : Launch) (hls : l.stackTraces = false) (hl : xl X = l) (hR1 : (xR X).cells = 601024) (hR2 : (xR X).slots = 7293034) (hE : zEx (xA X) (xs X) (xs X).heap) {c L : Nat} {ys : Nat → Int32} (hL : L ≤ 1536) (hX : va_X c L ys (xs X) (xs X).heap) (hbl : c < (xs X).heap.size) (hbA : ¬ xA X c) {a b : Nat → Nat} {ao : Nat} {R : tX7 → tX8 → Prop} (hop : op_set R) {i k n : Nat} (hi : i + 2 < L) (hk : k + 1 ≤ 601024) (hn : n + 6 ≤ 7293034) (u : tX7) (v : tX8) (o : Nat → Int64) (hRel : R u v) (hnext : ∀ (u : tX7) (v : tX8) (o : Nat → Int64) (k1 n1 : Nat), R u v → k1 ≤ k + 1 → n1 ≤ n + 6 → Z true RL cL_law 9 13 510 g X k1 n1 (kX7 g a u ++ [cX8 g b v, [(ao, .inl (g.2.2.2.1, 1, .inr (.inl o)))]]) [(4, .int (nI i)), (0, .ref c), (1, .ref (a 0)), (2, .ref (b 0)), (3, .ref ao)] 1286 []) : Z true RL cL_law 9 13 510 g X k n (kX7 g a u ++ [cX8 g b v, [(ao, .inl (g.2.2.2.1, 1, .inr (.inl o)))]]) [(4, .int (nI i)), (0, .ref c), (1, .ref (a 0)), (2, .ref (b 0)), (3, .ref ao)] 472 [] := by
  refine z_aload_n 2 rfl rfl dL_law_472 ?_
  refine z_aload_n 1 rfl rfl dL_law_473 ?_
  refine z_iload 0 rfl dL_law_474 ?_
  refine z_iconst (v := 1) (by decide) dL_law_476 ?_
  refine z_iadd dL_law_477 ?_
  refine z_sld hX hbl hbA (by rw [nI_1]; exact vp_in_nI (by omega) (by omega)) dL_law_478 ?_
  refine z_aload_n 1 rfl rfl dL_law_479 ?_
  refine z_iload 0 rfl dL_law_480 ?_
  refine z_iconst (v := 2) (by decide) dL_law_482 ?_
  refine z_iadd dL_law_483 ?_
  refine z_sld hX hbl hbA (by rw [nI_2]; exact vp_in_nI (by omega) (by omega)) dL_law_484 ?_
  refine z_aload_n 4 rfl rfl dL_law_485 ?_
  obtain ⟨r, r8, e7, e8, ec, ev, hR⟩ := hop u v hRel (ys ((nI i) + 1).toNatClampNeg) (ys ((nI i) + 2).toNatClampNeg)
  have hz : zLc 1 2 3 r.1 = 0 → ∃ x, r.1 = .inl x := by
    intro hz
    generalize hg : r.1 = y at hz
    rcases y with x | (_ | _ | x)
    · exact ⟨x, rfl⟩
    · exact absurd hz (by decide)
    · exact absurd hz (by decide)
    · exact absurd (show (3 : Int32) = 0 from hz) (by decide)
  refine z_callH (rest := []) zEx_st hE hl (c_L_set l hls g a u ao o (ys ((nI i) + 1).toNatClampNeg) (ys ((nI i) + 2).toNatClampNeg) r e7) zyHL_set zsL_set zlL_97 [(0, none), (1, none), (2, none), (3, none), (4, none), (5, none), (6, none), (7, none), (8, none), (9, none), (10, none), (11, none), (12, none), (14, none)] rfl rfl rfl (w' := kX7 g a r.2 ++ [cX8 g b v, [(ao, .inl (g.2.2.2.1, 1, .inr (.inl (zLo o r.1))))]]) rfl rfl rfl (by decide) (Nat.le_of_ble_eq_true rfl) ⟨by rw [hR1]; omega, by rw [hR2]; omega⟩ dL_law_486 (st2 := [.int (zLc 1 2 3 r.1)]) rfl ?_
  refine z_istore [(5, .int (zLc 1 2 3 r.1)), (4, .int (nI i)), (0, .ref c), (1, .ref (a 0)), (2, .ref (b 0)), (3, .ref ao)] (Nat.le_of_ble_eq_true rfl) rfl dL_law_489 ?_
  refine z_aload_n 4 rfl rfl dL_law_491 ?_
  refine z_aload_n 2 rfl rfl dL_law_492 ?_
  refine z_iload 1 rfl dL_law_493 ?_
  refine z_iconst (v := 1) (by decide) dL_law_495 ?_
  refine z_iadd dL_law_496 ?_
  refine z_sld hX hbl hbA (by rw [nI_1]; exact vp_in_nI (by omega) (by omega)) dL_law_497 ?_
  refine z_aload_n 2 rfl rfl dL_law_498 ?_
  refine z_iload 1 rfl dL_law_499 ?_
  refine z_iconst (v := 2) (by decide) dL_law_501 ?_
  refine z_iadd dL_law_502 ?_
  refine z_sld hX hbl hbA (by rw [nI_2]; exact vp_in_nI (by omega) (by omega)) dL_law_503 ?_
  refine z_callVW (rest := []) hl (c_X8_set l g b v (ys ((nI i) + 1).toNatClampNeg) (ys ((nI i) + 2).toNatClampNeg) _ e8) zyX8_set zvX8_set rfl zlL_99 zcX8.1 ⟨_, _, rfl⟩ [(13, none)] rfl (by decide) rfl (w' := kX7 g a r.2 ++ [cX8 g b r8.2, [(ao, .inl (g.2.2.2.1, 1, .inr (.inl (zLo o r.1))))]]) rfl rfl rfl (by decide) (Nat.le_of_ble_eq_true rfl) ⟨by rw [hR1]; omega, by rw [hR2]; omega⟩ dL_law_504 (st2 := [.int r8.1]) rfl ?_
  refine z_istore [(6, .int r8.1), (5, .int (zLc 1 2 3 r.1)), (4, .int (nI i)), (0, .ref c), (1, .ref (a 0)), (2, .ref (b 0)), (3, .ref ao)] (Nat.le_of_ble_eq_true rfl) rfl dL_law_507 ?_
  refine z_aload_n 5 rfl rfl dL_law_509 ?_
  refine z_callVR (rest := []) hl (c_X8_thrown l g b r8.2 _ rfl) zyX8_thrown zvX8_thrown rfl zlL_80 zcX8.1 ⟨_, _, rfl⟩ [(13, none)] rfl rfl rfl (by decide) (Nat.le_of_ble_eq_true rfl) ⟨by rw [hR1]; omega, by rw [hR2]; omega⟩ dL_law_510 (st2 := [.int r8.2.1]) rfl ?_
  refine z_iload 1 rfl dL_law_513 ?_
  refine z_icmp_eq (tgt := 520) rfl dL_law_515 (fun _ => ?_) (fun h => absurd ec.symm h)
  refine z_iload 1 rfl dL_law_520 ?_
  refine z_if_ne (tgt := 537) rfl dL_law_522 (fun _ => ?_) (fun h => ?_)
  · skip
    refine z_goto (tgt := 1286) rfl dL_law_537 ?_
    exact z_lv [2, 3, 4, 5, 6] rfl (hnext r.2 r8.2 (zLo o r.1) _ _ hR (by omega) (by omega))
  · obtain ⟨x, hx⟩ := hz h
    have hv := ev x hx
    refine z_aload_n 6 rfl rfl dL_law_525 ?_
    refine z_iconst (v := 0) (by decide) dL_law_526 ?_
    refine z_laldI 14 rfl 0 rfl zin0 dL_law_527 ?_
    refine z_iload 0 rfl dL_law_528 ?_
    refine z_i2l dL_law_530 ?_
    refine z_lcmp dL_law_531 ?_
    refine z_if_eq (tgt := 537) rfl dL_law_532 (fun _ => ?_) (fun h => absurd (by rw [hx, zLo_at, hv]; exact lg_self _) h)
    refine z_goto (tgt := 1286) rfl dL_law_537 ?_
    exact z_lv [2, 3, 4, 5, 6] rfl (hnext r.2 r8.2 (zLo o r.1) _ _ hR (by omega) (by omega))
set_option maxHeartbeats 400000 in
theorem law_append {X : zX} {g : zG} (l : Launch) (hls : l.stackTraces = false) (hl : xl X = l) (hR1 : (xR X).cells = 601024) (hR2 : (xR X).slots = 7293034) (hE : zEx (xA X) (xs X) (xs X).heap) {c L : Nat} {ys : Nat → Int32} (hL : L ≤ 1536) (hX : va_X c L ys (xs X) (xs X).heap) (hbl : c < (xs X).heap.size) (hbA : ¬ xA X c) {a b : Nat → Nat} {ao : Nat} {R : tX7 → tX8 → Prop} (hop : op_append R) {i k n : Nat} (hi : i + 2 < L) (hk : k + 1 ≤ 601024) (hn : n + 6 ≤ 7293034) (u : tX7) (v : tX8) (o : Nat → Int64) (hRel : R u v) (hnext : ∀ (u : tX7) (v : tX8) (o : Nat → Int64) (k1 n1 : Nat), R u v → k1 ≤ k + 1 → n1 ≤ n + 6 → Z true RL cL_law 9 13 510 g X k1 n1 (kX7 g a u ++ [cX8 g b v, [(ao, .inl (g.2.2.2.1, 1, .inr (.inl o)))]]) [(4, .int (nI i)), (0, .ref c), (1, .ref (a 0)), (2, .ref (b 0)), (3, .ref ao)] 1286 []) : Z true RL cL_law 9 13 510 g X k n (kX7 g a u ++ [cX8 g b v, [(ao, .inl (g.2.2.2.1, 1, .inr (.inl o)))]]) [(4, .int (nI i)), (0, .ref c), (1, .ref (a 0)), (2, .ref (b 0)), (3, .ref ao)] 540 [] := by
  refine z_aload_n 2 rfl rfl dL_law_540 ?_
  refine z_aload_n 1 rfl rfl dL_law_541 ?_
  refine z_iload 0 rfl dL_law_542 ?_
  refine z_iconst (v := 1) (by decide) dL_law_544 ?_
  refine z_iadd dL_law_545 ?_
  refine z_sld hX hbl hbA (by rw [nI_1]; exact vp_in_nI (by omega) (by omega)) dL_law_546 ?_
  refine z_aload_n 4 rfl rfl dL_law_547 ?_
  obtain ⟨r, r8, e7, e8, ec, ev, hR⟩ := hop u v hRel (ys ((nI i) + 1).toNatClampNeg)
  have hz : zLc 0 1 2 r.1 = 0 → ∃ x, r.1 = .inl x := by
    intro hz
    generalize hg : r.1 = y at hz
    rcases y with x | (_ | _ | x)
    · exact ⟨x, rfl⟩
    · have hx := ex_X7_append u (ys ((nI i) + 1).toNatClampNeg) r e7 0 hg
      dsimp only at hx
      omega
    · exact absurd hz (by decide)
    · exact absurd (show (2 : Int32) = 0 from hz) (by decide)
  refine z_callH (rest := []) zEx_st hE hl (c_L_append l hls g a u ao o (ys ((nI i) + 1).toNatClampNeg) r e7) zyHL_append zsL_append zlL_100 [(0, none), (1, none), (2, none), (3, none), (4, none), (5, none), (6, none), (7, none), (8, none), (9, none), (10, none), (11, none), (12, none), (14, none)] rfl rfl rfl (w' := kX7 g a r.2 ++ [cX8 g b v, [(ao, .inl (g.2.2.2.1, 1, .inr (.inl (zLo o r.1))))]]) rfl rfl rfl (by decide) (Nat.le_of_ble_eq_true rfl) ⟨by rw [hR1]; omega, by rw [hR2]; omega⟩ dL_law_548 (st2 := [.int (zLc 0 1 2 r.1)]) rfl ?_
  refine z_istore [(5, .int (zLc 0 1 2 r.1)), (4, .int (nI i)), (0, .ref c), (1, .ref (a 0)), (2, .ref (b 0)), (3, .ref ao)] (Nat.le_of_ble_eq_true rfl) rfl dL_law_551 ?_
  refine z_aload_n 4 rfl rfl dL_law_553 ?_
  refine z_aload_n 2 rfl rfl dL_law_554 ?_
  refine z_iload 1 rfl dL_law_555 ?_
  refine z_iconst (v := 1) (by decide) dL_law_557 ?_
  refine z_iadd dL_law_558 ?_
  refine z_sld hX hbl hbA (by rw [nI_1]; exact vp_in_nI (by omega) (by omega)) dL_law_559 ?_
  refine z_callVW (rest := []) hl (c_X8_append l g b v (ys ((nI i) + 1).toNatClampNeg) _ e8) zyX8_append zvX8_append rfl zlL_102 zcX8.1 ⟨_, _, rfl⟩ [(13, none)] rfl (by decide) rfl (w' := kX7 g a r.2 ++ [cX8 g b r8.2, [(ao, .inl (g.2.2.2.1, 1, .inr (.inl (zLo o r.1))))]]) rfl rfl rfl (by decide) (Nat.le_of_ble_eq_true rfl) ⟨by rw [hR1]; omega, by rw [hR2]; omega⟩ dL_law_560 (st2 := [.int r8.1]) rfl ?_
  refine z_istore [(6, .int r8.1), (5, .int (zLc 0 1 2 r.1)), (4, .int (nI i)), (0, .ref c), (1, .ref (a 0)), (2, .ref (b 0)), (3, .ref ao)] (Nat.le_of_ble_eq_true rfl) rfl dL_law_563 ?_
  refine z_aload_n 5 rfl rfl dL_law_565 ?_
  refine z_callVR (rest := []) hl (c_X8_thrown l g b r8.2 _ rfl) zyX8_thrown zvX8_thrown rfl zlL_80 zcX8.1 ⟨_, _, rfl⟩ [(13, none)] rfl rfl rfl (by decide) (Nat.le_of_ble_eq_true rfl) ⟨by rw [hR1]; omega, by rw [hR2]; omega⟩ dL_law_566 (st2 := [.int r8.2.1]) rfl ?_
  refine z_iload 1 rfl dL_law_569 ?_
  refine z_icmp_eq (tgt := 576) rfl dL_law_571 (fun _ => ?_) (fun h => absurd ec.symm h)
  refine z_iload 1 rfl dL_law_576 ?_
  refine z_if_ne (tgt := 593) rfl dL_law_578 (fun _ => ?_) (fun h => ?_)
  · skip
    refine z_goto (tgt := 1286) rfl dL_law_593 ?_
    exact z_lv [2, 3, 4, 5, 6] rfl (hnext r.2 r8.2 (zLo o r.1) _ _ hR (by omega) (by omega))
  · obtain ⟨x, hx⟩ := hz h
    have hv := ev x hx
    refine z_aload_n 6 rfl rfl dL_law_581 ?_
    refine z_iconst (v := 0) (by decide) dL_law_582 ?_
    refine z_laldI 14 rfl 0 rfl zin0 dL_law_583 ?_
    refine z_iload 0 rfl dL_law_584 ?_
    refine z_i2l dL_law_586 ?_
    refine z_lcmp dL_law_587 ?_
    refine z_if_eq (tgt := 593) rfl dL_law_588 (fun _ => ?_) (fun h => absurd (by rw [hx, zLo_at, hv]; exact lg_self _) h)
    refine z_goto (tgt := 1286) rfl dL_law_593 ?_
    exact z_lv [2, 3, 4, 5, 6] rfl (hnext r.2 r8.2 (zLo o r.1) _ _ hR (by omega) (by omega))
set_option maxHeartbeats 400000 in
theorem law_clearBuffer {X : zX} {g : zG} (l : Launch) (hls : l.stackTraces = false) (hl : xl X = l) (hR1 : (xR X).cells = 601024) (hR2 : (xR X).slots = 7293034) (hE : zEx (xA X) (xs X) (xs X).heap) {c L : Nat} {ys : Nat → Int32} (hL : L ≤ 1536) (hX : va_X c L ys (xs X) (xs X).heap) (hbl : c < (xs X).heap.size) (hbA : ¬ xA X c) {a b : Nat → Nat} {ao : Nat} {R : tX7 → tX8 → Prop} (hop : op_clearBuffer R) {i k n : Nat} (hi : i + 2 < L) (hk : k + 1 ≤ 601024) (hn : n + 6 ≤ 7293034) (u : tX7) (v : tX8) (o : Nat → Int64) (hRel : R u v) (hnext : ∀ (u : tX7) (v : tX8) (o : Nat → Int64) (k1 n1 : Nat), R u v → k1 ≤ k + 1 → n1 ≤ n + 6 → Z true RL cL_law 9 13 510 g X k1 n1 (kX7 g a u ++ [cX8 g b v, [(ao, .inl (g.2.2.2.1, 1, .inr (.inl o)))]]) [(4, .int (nI i)), (0, .ref c), (1, .ref (a 0)), (2, .ref (b 0)), (3, .ref ao)] 1286 []) : Z true RL cL_law 9 13 510 g X k n (kX7 g a u ++ [cX8 g b v, [(ao, .inl (g.2.2.2.1, 1, .inr (.inl o)))]]) [(4, .int (nI i)), (0, .ref c), (1, .ref (a 0)), (2, .ref (b 0)), (3, .ref ao)] 596 [] := by
  refine z_aload_n 2 rfl rfl dL_law_596 ?_
  obtain ⟨r, r8, e7, e8, ev, hR⟩ := hop u v hRel
  refine z_callVW (rest := []) hl (c_X7_clearBuffer l g a u _ e7) zyX7_clearBuffer zvX7_clearBuffer rfl zlL_103 zcX7.1 ⟨_, _, rfl⟩ [(0, none), (1, none), (2, none), (3, none), (4, none), (5, none), (6, none), (7, none), (8, none), (9, none), (10, none), (11, none), (12, none)] rfl (by decide) rfl (w' := kX7 g a r.2 ++ [cX8 g b v, [(ao, .inl (g.2.2.2.1, 1, .inr (.inl o)))]]) rfl rfl rfl (by decide) (Nat.le_of_ble_eq_true rfl) ⟨by rw [hR1]; omega, by rw [hR2]; omega⟩ dL_law_597 (st2 := [.int r.1]) rfl ?_
  refine z_aload_n 3 rfl rfl dL_law_600 ?_
  refine z_callVW (rest := [.int r.1]) hl (c_X8_clearBuffer l g b v _ e8) zyX8_clearBuffer zvX8_clearBuffer rfl zlL_106 zcX8.1 ⟨_, _, rfl⟩ [(13, none)] rfl (by decide) rfl (w' := kX7 g a r.2 ++ [cX8 g b r8.2, [(ao, .inl (g.2.2.2.1, 1, .inr (.inl o)))]]) rfl rfl rfl (by decide) (Nat.le_of_ble_eq_true rfl) ⟨by rw [hR1]; omega, by rw [hR2]; omega⟩ dL_law_601 (st2 := [.int r8.1, .int r.1]) rfl ?_
  refine z_icmp_eq (tgt := 1286) rfl dL_law_604 (fun _ => ?_) (fun h => absurd ev h)
  exact z_lv [0, 1, 2, 3, 4] rfl (hnext r.2 r8.2 o _ _ hR (by omega) (by omega))
set_option maxHeartbeats 400000 in
theorem law_firstError {X : zX} {g : zG} (l : Launch) (hls : l.stackTraces = false) (hl : xl X = l) (hR1 : (xR X).cells = 601024) (hR2 : (xR X).slots = 7293034) (hE : zEx (xA X) (xs X) (xs X).heap) {c L : Nat} {ys : Nat → Int32} (hL : L ≤ 1536) (hX : va_X c L ys (xs X) (xs X).heap) (hbl : c < (xs X).heap.size) (hbA : ¬ xA X c) {a b : Nat → Nat} {ao : Nat} {R : tX7 → tX8 → Prop} (hop : op_firstError R) {i k n : Nat} (hi : i + 2 < L) (hk : k + 1 ≤ 601024) (hn : n + 6 ≤ 7293034) (u : tX7) (v : tX8) (o : Nat → Int64) (hRel : R u v) (hnext : ∀ (u : tX7) (v : tX8) (o : Nat → Int64) (k1 n1 : Nat), R u v → k1 ≤ k + 1 → n1 ≤ n + 6 → Z true RL cL_law 9 13 510 g X k1 n1 (kX7 g a u ++ [cX8 g b v, [(ao, .inl (g.2.2.2.1, 1, .inr (.inl o)))]]) [(4, .int (nI i)), (0, .ref c), (1, .ref (a 0)), (2, .ref (b 0)), (3, .ref ao)] 1286 []) : Z true RL cL_law 9 13 510 g X k n (kX7 g a u ++ [cX8 g b v, [(ao, .inl (g.2.2.2.1, 1, .inr (.inl o)))]]) [(4, .int (nI i)), (0, .ref c), (1, .ref (a 0)), (2, .ref (b 0)), (3, .ref ao)] 609 [] := by
  refine z_aload_n 2 rfl rfl dL_law_609 ?_
  obtain ⟨r, r8, e7, e8, ev, hR⟩ := hop u v hRel
  refine z_callVW (rest := []) hl (c_X7_firstError l g a u _ e7) zyX7_firstError zvX7_firstError rfl zlL_107 zcX7.1 ⟨_, _, rfl⟩ [(0, none), (1, none), (2, none), (3, none), (4, none), (5, none), (6, none), (7, none), (8, none), (9, none), (10, none), (11, none), (12, none)] rfl (by decide) rfl (w' := kX7 g a r.2 ++ [cX8 g b v, [(ao, .inl (g.2.2.2.1, 1, .inr (.inl o)))]]) rfl rfl rfl (by decide) (Nat.le_of_ble_eq_true rfl) ⟨by rw [hR1]; omega, by rw [hR2]; omega⟩ dL_law_610 (st2 := [.int r.1]) rfl ?_
  refine z_aload_n 3 rfl rfl dL_law_613 ?_
  refine z_callVW (rest := [.int r.1]) hl (c_X8_firstError l g b v _ e8) zyX8_firstError zvX8_firstError rfl zlL_110 zcX8.1 ⟨_, _, rfl⟩ [(13, none)] rfl (by decide) rfl (w' := kX7 g a r.2 ++ [cX8 g b r8.2, [(ao, .inl (g.2.2.2.1, 1, .inr (.inl o)))]]) rfl rfl rfl (by decide) (Nat.le_of_ble_eq_true rfl) ⟨by rw [hR1]; omega, by rw [hR2]; omega⟩ dL_law_614 (st2 := [.int r8.1, .int r.1]) rfl ?_
  refine z_icmp_eq (tgt := 1286) rfl dL_law_617 (fun _ => ?_) (fun h => absurd ev h)
  exact z_lv [0, 1, 2, 3, 4] rfl (hnext r.2 r8.2 o _ _ hR (by omega) (by omega))
set_option maxHeartbeats 400000 in
theorem law_pickAll {X : zX} {g : zG} (l : Launch) (hls : l.stackTraces = false) (hl : xl X = l) (hR1 : (xR X).cells = 601024) (hR2 : (xR X).slots = 7293034) (hE : zEx (xA X) (xs X) (xs X).heap) {c L : Nat} {ys : Nat → Int32} (hL : L ≤ 1536) (hX : va_X c L ys (xs X) (xs X).heap) (hbl : c < (xs X).heap.size) (hbA : ¬ xA X c) {a b : Nat → Nat} {ao : Nat} {R : tX7 → tX8 → Prop} (hop : op_pickAll R) {i k n : Nat} (hi : i + 2 < L) (hk : k + 1 ≤ 601024) (hn : n + 6 ≤ 7293034) (u : tX7) (v : tX8) (o : Nat → Int64) (hRel : R u v) (hnext : ∀ (u : tX7) (v : tX8) (o : Nat → Int64) (k1 n1 : Nat), R u v → k1 ≤ k + 1 → n1 ≤ n + 6 → Z true RL cL_law 9 13 510 g X k1 n1 (kX7 g a u ++ [cX8 g b v, [(ao, .inl (g.2.2.2.1, 1, .inr (.inl o)))]]) [(4, .int (nI i)), (0, .ref c), (1, .ref (a 0)), (2, .ref (b 0)), (3, .ref ao)] 1286 []) : Z true RL cL_law 9 13 510 g X k n (kX7 g a u ++ [cX8 g b v, [(ao, .inl (g.2.2.2.1, 1, .inr (.inl o)))]]) [(4, .int (nI i)), (0, .ref c), (1, .ref (a 0)), (2, .ref (b 0)), (3, .ref ao)] 622 [] := by
  refine z_aload_n 2 rfl rfl dL_law_622 ?_
  refine z_aload_n 4 rfl rfl dL_law_623 ?_
  obtain ⟨r, r8, e7, e8, ec, ev, hR⟩ := hop u v hRel
  have hz : zLc 0 1 0 r.1 = 0 → ∃ x, r.1 = .inl x := by
    intro hz
    generalize hg : r.1 = y at hz
    rcases y with x | (_ | _ | x)
    · exact ⟨x, rfl⟩
    · have hx := ex_X7_pickAll u r e7 0 hg
      dsimp only at hx
      omega
    · exact absurd hz (by decide)
    · have hx := ex_X7_pickAll u r e7 (x + 1 + 1) hg
      dsimp only at hx
      omega
  refine z_callH (rest := []) zEx_st hE hl (c_L_pickAll l hls g a u ao o r e7) zyHL_pickAll zsL_pickAll zlL_111 [(0, none), (1, none), (2, none), (3, none), (4, none), (5, none), (6, none), (7, none), (8, none), (9, none), (10, none), (11, none), (12, none), (14, none)] rfl rfl rfl (w' := kX7 g a r.2 ++ [cX8 g b v, [(ao, .inl (g.2.2.2.1, 1, .inr (.inl (zLo o r.1))))]]) rfl rfl rfl (by decide) (Nat.le_of_ble_eq_true rfl) ⟨by rw [hR1]; omega, by rw [hR2]; omega⟩ dL_law_624 (st2 := [.int (zLc 0 1 0 r.1)]) rfl ?_
  refine z_istore [(5, .int (zLc 0 1 0 r.1)), (4, .int (nI i)), (0, .ref c), (1, .ref (a 0)), (2, .ref (b 0)), (3, .ref ao)] (Nat.le_of_ble_eq_true rfl) rfl dL_law_627 ?_
  refine z_aload_n 4 rfl rfl dL_law_629 ?_
  refine z_callVW (rest := []) hl (c_X8_pickAll l g b v _ e8) zyX8_pickAll zvX8_pickAll rfl zlL_114 zcX8.1 ⟨_, _, rfl⟩ [(13, none)] rfl (by decide) rfl (w' := kX7 g a r.2 ++ [cX8 g b r8.2, [(ao, .inl (g.2.2.2.1, 1, .inr (.inl (zLo o r.1))))]]) rfl rfl rfl (by decide) (Nat.le_of_ble_eq_true rfl) ⟨by rw [hR1]; omega, by rw [hR2]; omega⟩ dL_law_630 (st2 := [.int r8.1]) rfl ?_
  refine z_istore [(6, .int r8.1), (5, .int (zLc 0 1 0 r.1)), (4, .int (nI i)), (0, .ref c), (1, .ref (a 0)), (2, .ref (b 0)), (3, .ref ao)] (Nat.le_of_ble_eq_true rfl) rfl dL_law_633 ?_
  refine z_aload_n 5 rfl rfl dL_law_635 ?_
  refine z_callVR (rest := []) hl (c_X8_thrown l g b r8.2 _ rfl) zyX8_thrown zvX8_thrown rfl zlL_80 zcX8.1 ⟨_, _, rfl⟩ [(13, none)] rfl rfl rfl (by decide) (Nat.le_of_ble_eq_true rfl) ⟨by rw [hR1]; omega, by rw [hR2]; omega⟩ dL_law_636 (st2 := [.int r8.2.1]) rfl ?_
  refine z_iload 1 rfl dL_law_639 ?_
  refine z_icmp_eq (tgt := 646) rfl dL_law_641 (fun _ => ?_) (fun h => absurd ec.symm h)
  refine z_iload 1 rfl dL_law_646 ?_
  refine z_if_ne (tgt := 663) rfl dL_law_648 (fun _ => ?_) (fun h => ?_)
  · skip
    refine z_goto (tgt := 1286) rfl dL_law_663 ?_
    exact z_lv [2, 3, 4, 5, 6] rfl (hnext r.2 r8.2 (zLo o r.1) _ _ hR (by omega) (by omega))
  · obtain ⟨x, hx⟩ := hz h
    have hv := ev x hx
    refine z_aload_n 6 rfl rfl dL_law_651 ?_
    refine z_iconst (v := 0) (by decide) dL_law_652 ?_
    refine z_laldI 14 rfl 0 rfl zin0 dL_law_653 ?_
    refine z_iload 0 rfl dL_law_654 ?_
    refine z_i2l dL_law_656 ?_
    refine z_lcmp dL_law_657 ?_
    refine z_if_eq (tgt := 663) rfl dL_law_658 (fun _ => ?_) (fun h => absurd (by rw [hx, zLo_at, hv]; exact lg_self _) h)
    refine z_goto (tgt := 1286) rfl dL_law_663 ?_
    exact z_lv [2, 3, 4, 5, 6] rfl (hnext r.2 r8.2 (zLo o r.1) _ _ hR (by omega) (by omega))
set_option maxHeartbeats 400000 in
theorem law_undo {X : zX} {g : zG} (l : Launch) (hls : l.stackTraces = false) (hl : xl X = l) (hR1 : (xR X).cells = 601024) (hR2 : (xR X).slots = 7293034) (hE : zEx (xA X) (xs X) (xs X).heap) {c L : Nat} {ys : Nat → Int32} (hL : L ≤ 1536) (hX : va_X c L ys (xs X) (xs X).heap) (hbl : c < (xs X).heap.size) (hbA : ¬ xA X c) {a b : Nat → Nat} {ao : Nat} {R : tX7 → tX8 → Prop} (hop : op_undo R) {i k n : Nat} (hi : i + 2 < L) (hk : k + 1 ≤ 601024) (hn : n + 6 ≤ 7293034) (u : tX7) (v : tX8) (o : Nat → Int64) (hRel : R u v) (hnext : ∀ (u : tX7) (v : tX8) (o : Nat → Int64) (k1 n1 : Nat), R u v → k1 ≤ k + 1 → n1 ≤ n + 6 → Z true RL cL_law 9 13 510 g X k1 n1 (kX7 g a u ++ [cX8 g b v, [(ao, .inl (g.2.2.2.1, 1, .inr (.inl o)))]]) [(4, .int (nI i)), (0, .ref c), (1, .ref (a 0)), (2, .ref (b 0)), (3, .ref ao)] 1286 []) : Z true RL cL_law 9 13 510 g X k n (kX7 g a u ++ [cX8 g b v, [(ao, .inl (g.2.2.2.1, 1, .inr (.inl o)))]]) [(4, .int (nI i)), (0, .ref c), (1, .ref (a 0)), (2, .ref (b 0)), (3, .ref ao)] 666 [] := by
  refine z_aload_n 2 rfl rfl dL_law_666 ?_
  refine z_aload_n 4 rfl rfl dL_law_667 ?_
  obtain ⟨r, r8, e7, e8, ec, ev, hR⟩ := hop u v hRel
  have hz : zLc 0 0 1 r.1 = 0 → ∃ x, r.1 = .inl x := by
    intro hz
    generalize hg : r.1 = y at hz
    rcases y with x | (_ | _ | x)
    · exact ⟨x, rfl⟩
    · have hx := ex_X7_undo u r e7 0 hg
      dsimp only at hx
      omega
    · have hx := ex_X7_undo u r e7 (0 + 1) hg
      dsimp only at hx
      omega
    · exact absurd (show (1 : Int32) = 0 from hz) (by decide)
  refine z_callH (rest := []) zEx_st hE hl (c_L_undo l hls g a u ao o r e7) zyHL_undo zsL_undo zlL_115 [(0, none), (1, none), (2, none), (3, none), (4, none), (5, none), (6, none), (7, none), (8, none), (9, none), (10, none), (11, none), (12, none), (14, none)] rfl rfl rfl (w' := kX7 g a r.2 ++ [cX8 g b v, [(ao, .inl (g.2.2.2.1, 1, .inr (.inl (zLo o r.1))))]]) rfl rfl rfl (by decide) (Nat.le_of_ble_eq_true rfl) ⟨by rw [hR1]; omega, by rw [hR2]; omega⟩ dL_law_668 (st2 := [.int (zLc 0 0 1 r.1)]) rfl ?_
  refine z_istore [(5, .int (zLc 0 0 1 r.1)), (4, .int (nI i)), (0, .ref c), (1, .ref (a 0)), (2, .ref (b 0)), (3, .ref ao)] (Nat.le_of_ble_eq_true rfl) rfl dL_law_671 ?_
  refine z_aload_n 4 rfl rfl dL_law_673 ?_
  refine z_callVW (rest := []) hl (c_X8_undo l g b v _ e8) zyX8_undo zvX8_undo rfl zlL_117 zcX8.1 ⟨_, _, rfl⟩ [(13, none)] rfl (by decide) rfl (w' := kX7 g a r.2 ++ [cX8 g b r8.2, [(ao, .inl (g.2.2.2.1, 1, .inr (.inl (zLo o r.1))))]]) rfl rfl rfl (by decide) (Nat.le_of_ble_eq_true rfl) ⟨by rw [hR1]; omega, by rw [hR2]; omega⟩ dL_law_674 (st2 := [.int r8.1]) rfl ?_
  refine z_istore [(6, .int r8.1), (5, .int (zLc 0 0 1 r.1)), (4, .int (nI i)), (0, .ref c), (1, .ref (a 0)), (2, .ref (b 0)), (3, .ref ao)] (Nat.le_of_ble_eq_true rfl) rfl dL_law_677 ?_
  refine z_aload_n 5 rfl rfl dL_law_679 ?_
  refine z_callVR (rest := []) hl (c_X8_thrown l g b r8.2 _ rfl) zyX8_thrown zvX8_thrown rfl zlL_80 zcX8.1 ⟨_, _, rfl⟩ [(13, none)] rfl rfl rfl (by decide) (Nat.le_of_ble_eq_true rfl) ⟨by rw [hR1]; omega, by rw [hR2]; omega⟩ dL_law_680 (st2 := [.int r8.2.1]) rfl ?_
  refine z_iload 1 rfl dL_law_683 ?_
  refine z_icmp_eq (tgt := 690) rfl dL_law_685 (fun _ => ?_) (fun h => absurd ec.symm h)
  refine z_iload 1 rfl dL_law_690 ?_
  refine z_if_ne (tgt := 707) rfl dL_law_692 (fun _ => ?_) (fun h => ?_)
  · skip
    refine z_goto (tgt := 1286) rfl dL_law_707 ?_
    exact z_lv [2, 3, 4, 5, 6] rfl (hnext r.2 r8.2 (zLo o r.1) _ _ hR (by omega) (by omega))
  · obtain ⟨x, hx⟩ := hz h
    have hv := ev x hx
    refine z_aload_n 6 rfl rfl dL_law_695 ?_
    refine z_iconst (v := 0) (by decide) dL_law_696 ?_
    refine z_laldI 14 rfl 0 rfl zin0 dL_law_697 ?_
    refine z_iload 0 rfl dL_law_698 ?_
    refine z_i2l dL_law_700 ?_
    refine z_lcmp dL_law_701 ?_
    refine z_if_eq (tgt := 707) rfl dL_law_702 (fun _ => ?_) (fun h => absurd (by rw [hx, zLo_at, hv]; exact lg_self _) h)
    refine z_goto (tgt := 1286) rfl dL_law_707 ?_
    exact z_lv [2, 3, 4, 5, 6] rfl (hnext r.2 r8.2 (zLo o r.1) _ _ hR (by omega) (by omega))
set_option maxHeartbeats 400000 in
theorem law_drawer {X : zX} {g : zG} (l : Launch) (hls : l.stackTraces = false) (hl : xl X = l) (hR1 : (xR X).cells = 601024) (hR2 : (xR X).slots = 7293034) (hE : zEx (xA X) (xs X) (xs X).heap) {c L : Nat} {ys : Nat → Int32} (hL : L ≤ 1536) (hX : va_X c L ys (xs X) (xs X).heap) (hbl : c < (xs X).heap.size) (hbA : ¬ xA X c) {a b : Nat → Nat} {ao : Nat} {R : tX7 → tX8 → Prop} (hop : op_drawer R) {i k n : Nat} (hi : i + 2 < L) (hk : k + 1 ≤ 601024) (hn : n + 6 ≤ 7293034) (u : tX7) (v : tX8) (o : Nat → Int64) (hRel : R u v) (hnext : ∀ (u : tX7) (v : tX8) (o : Nat → Int64) (k1 n1 : Nat), R u v → k1 ≤ k + 1 → n1 ≤ n + 6 → Z true RL cL_law 9 13 510 g X k1 n1 (kX7 g a u ++ [cX8 g b v, [(ao, .inl (g.2.2.2.1, 1, .inr (.inl o)))]]) [(4, .int (nI i)), (0, .ref c), (1, .ref (a 0)), (2, .ref (b 0)), (3, .ref ao)] 1286 []) : Z true RL cL_law 9 13 510 g X k n (kX7 g a u ++ [cX8 g b v, [(ao, .inl (g.2.2.2.1, 1, .inr (.inl o)))]]) [(4, .int (nI i)), (0, .ref c), (1, .ref (a 0)), (2, .ref (b 0)), (3, .ref ao)] 710 [] := by
  refine z_aload_n 2 rfl rfl dL_law_710 ?_
  refine z_aload_n 1 rfl rfl dL_law_711 ?_
  refine z_iload 0 rfl dL_law_712 ?_
  refine z_iconst (v := 1) (by decide) dL_law_714 ?_
  refine z_iadd dL_law_715 ?_
  refine z_sld hX hbl hbA (by rw [nI_1]; exact vp_in_nI (by omega) (by omega)) dL_law_716 ?_
  refine z_aload_n 1 rfl rfl dL_law_717 ?_
  refine z_iload 0 rfl dL_law_718 ?_
  refine z_iconst (v := 2) (by decide) dL_law_720 ?_
  refine z_iadd dL_law_721 ?_
  refine z_sld hX hbl hbA (by rw [nI_2]; exact vp_in_nI (by omega) (by omega)) dL_law_722 ?_
  refine z_aload_n 4 rfl rfl dL_law_723 ?_
  obtain ⟨r, r8, e7, e8, ec, ev, hR⟩ := hop u v hRel (ys ((nI i) + 1).toNatClampNeg) (ys ((nI i) + 2).toNatClampNeg)
  have hz : zLc 1 2 0 r = 0 → ∃ x, r = .inl x := by
    intro hz
    generalize hg : r = y at hz
    rcases y with x | (_ | _ | x)
    · exact ⟨x, rfl⟩
    · exact absurd hz (by decide)
    · exact absurd hz (by decide)
    · have hx := ex_X7_drawer u (ys ((nI i) + 1).toNatClampNeg) (ys ((nI i) + 2).toNatClampNeg) r e7 (x + 1 + 1) hg
      dsimp only at hx
      omega
  refine z_callH (rest := []) zEx_st hE hl (c_L_drawer l hls g a u ao o (ys ((nI i) + 1).toNatClampNeg) (ys ((nI i) + 2).toNatClampNeg) r e7) zyHL_drawer zsL_drawer zlL_118 [(0, none), (1, none), (2, none), (3, none), (4, none), (5, none), (6, none), (7, none), (8, none), (9, none), (10, none), (11, none), (12, none), (14, none)] rfl rfl rfl (w' := kX7 g a u ++ [cX8 g b v, [(ao, .inl (g.2.2.2.1, 1, .inr (.inl (zLo o r))))]]) rfl rfl rfl (by decide) (Nat.le_of_ble_eq_true rfl) ⟨by rw [hR1]; omega, by rw [hR2]; omega⟩ dL_law_724 (st2 := [.int (zLc 1 2 0 r)]) rfl ?_
  refine z_istore [(5, .int (zLc 1 2 0 r)), (4, .int (nI i)), (0, .ref c), (1, .ref (a 0)), (2, .ref (b 0)), (3, .ref ao)] (Nat.le_of_ble_eq_true rfl) rfl dL_law_727 ?_
  refine z_aload_n 4 rfl rfl dL_law_729 ?_
  refine z_aload_n 2 rfl rfl dL_law_730 ?_
  refine z_iload 1 rfl dL_law_731 ?_
  refine z_iconst (v := 1) (by decide) dL_law_733 ?_
  refine z_iadd dL_law_734 ?_
  refine z_sld hX hbl hbA (by rw [nI_1]; exact vp_in_nI (by omega) (by omega)) dL_law_735 ?_
  refine z_aload_n 2 rfl rfl dL_law_736 ?_
  refine z_iload 1 rfl dL_law_737 ?_
  refine z_iconst (v := 2) (by decide) dL_law_739 ?_
  refine z_iadd dL_law_740 ?_
  refine z_sld hX hbl hbA (by rw [nI_2]; exact vp_in_nI (by omega) (by omega)) dL_law_741 ?_
  refine z_callVW (rest := []) hl (c_X8_drawer l g b v (ys ((nI i) + 1).toNatClampNeg) (ys ((nI i) + 2).toNatClampNeg) _ e8) zyX8_drawer zvX8_drawer rfl zlL_120 zcX8.1 ⟨_, _, rfl⟩ [(13, none)] rfl (by decide) rfl (w' := kX7 g a u ++ [cX8 g b r8.2, [(ao, .inl (g.2.2.2.1, 1, .inr (.inl (zLo o r))))]]) rfl rfl rfl (by decide) (Nat.le_of_ble_eq_true rfl) ⟨by rw [hR1]; omega, by rw [hR2]; omega⟩ dL_law_742 (st2 := [.int r8.1]) rfl ?_
  refine z_istore [(6, .int r8.1), (5, .int (zLc 1 2 0 r)), (4, .int (nI i)), (0, .ref c), (1, .ref (a 0)), (2, .ref (b 0)), (3, .ref ao)] (Nat.le_of_ble_eq_true rfl) rfl dL_law_745 ?_
  refine z_aload_n 5 rfl rfl dL_law_747 ?_
  refine z_callVR (rest := []) hl (c_X8_thrown l g b r8.2 _ rfl) zyX8_thrown zvX8_thrown rfl zlL_80 zcX8.1 ⟨_, _, rfl⟩ [(13, none)] rfl rfl rfl (by decide) (Nat.le_of_ble_eq_true rfl) ⟨by rw [hR1]; omega, by rw [hR2]; omega⟩ dL_law_748 (st2 := [.int r8.2.1]) rfl ?_
  refine z_iload 1 rfl dL_law_751 ?_
  refine z_icmp_eq (tgt := 758) rfl dL_law_753 (fun _ => ?_) (fun h => absurd ec.symm h)
  refine z_iload 1 rfl dL_law_758 ?_
  refine z_if_ne (tgt := 775) rfl dL_law_760 (fun _ => ?_) (fun h => ?_)
  · skip
    refine z_goto (tgt := 1286) rfl dL_law_775 ?_
    exact z_lv [2, 3, 4, 5, 6] rfl (hnext u r8.2 (zLo o r) _ _ hR (by omega) (by omega))
  · obtain ⟨x, hx⟩ := hz h
    have hv := ev x hx
    refine z_aload_n 6 rfl rfl dL_law_763 ?_
    refine z_iconst (v := 0) (by decide) dL_law_764 ?_
    refine z_laldI 14 rfl 0 rfl zin0 dL_law_765 ?_
    refine z_iload 0 rfl dL_law_766 ?_
    refine z_i2l dL_law_768 ?_
    refine z_lcmp dL_law_769 ?_
    refine z_if_eq (tgt := 775) rfl dL_law_770 (fun _ => ?_) (fun h => absurd (by rw [hx, zLo_at, hv]; exact lg_self _) h)
    refine z_goto (tgt := 1286) rfl dL_law_775 ?_
    exact z_lv [2, 3, 4, 5, 6] rfl (hnext u r8.2 (zLo o r) _ _ hR (by omega) (by omega))
set_option maxHeartbeats 400000 in
theorem law_item {X : zX} {g : zG} (l : Launch) (hls : l.stackTraces = false) (hl : xl X = l) (hR1 : (xR X).cells = 601024) (hR2 : (xR X).slots = 7293034) (hE : zEx (xA X) (xs X) (xs X).heap) {c L : Nat} {ys : Nat → Int32} (hL : L ≤ 1536) (hX : va_X c L ys (xs X) (xs X).heap) (hbl : c < (xs X).heap.size) (hbA : ¬ xA X c) {a b : Nat → Nat} {ao : Nat} {R : tX7 → tX8 → Prop} (hop : op_item R) {i k n : Nat} (hi : i + 2 < L) (hk : k + 1 ≤ 601024) (hn : n + 6 ≤ 7293034) (u : tX7) (v : tX8) (o : Nat → Int64) (hRel : R u v) (hnext : ∀ (u : tX7) (v : tX8) (o : Nat → Int64) (k1 n1 : Nat), R u v → k1 ≤ k + 1 → n1 ≤ n + 6 → Z true RL cL_law 9 13 510 g X k1 n1 (kX7 g a u ++ [cX8 g b v, [(ao, .inl (g.2.2.2.1, 1, .inr (.inl o)))]]) [(4, .int (nI i)), (0, .ref c), (1, .ref (a 0)), (2, .ref (b 0)), (3, .ref ao)] 1286 []) : Z true RL cL_law 9 13 510 g X k n (kX7 g a u ++ [cX8 g b v, [(ao, .inl (g.2.2.2.1, 1, .inr (.inl o)))]]) [(4, .int (nI i)), (0, .ref c), (1, .ref (a 0)), (2, .ref (b 0)), (3, .ref ao)] 778 [] := by
  refine z_aload_n 2 rfl rfl dL_law_778 ?_
  refine z_aload_n 1 rfl rfl dL_law_779 ?_
  refine z_iload 0 rfl dL_law_780 ?_
  refine z_iconst (v := 1) (by decide) dL_law_782 ?_
  refine z_iadd dL_law_783 ?_
  refine z_sld hX hbl hbA (by rw [nI_1]; exact vp_in_nI (by omega) (by omega)) dL_law_784 ?_
  refine z_aload_n 1 rfl rfl dL_law_785 ?_
  refine z_iload 0 rfl dL_law_786 ?_
  refine z_iconst (v := 2) (by decide) dL_law_788 ?_
  refine z_iadd dL_law_789 ?_
  refine z_sld hX hbl hbA (by rw [nI_2]; exact vp_in_nI (by omega) (by omega)) dL_law_790 ?_
  refine z_aload_n 4 rfl rfl dL_law_791 ?_
  obtain ⟨r, r8, e7, e8, ec, ev, hR⟩ := hop u v hRel (ys ((nI i) + 1).toNatClampNeg) (ys ((nI i) + 2).toNatClampNeg)
  have hz : zLc 1 2 0 r = 0 → ∃ x, r = .inl x := by
    intro hz
    generalize hg : r = y at hz
    rcases y with x | (_ | _ | x)
    · exact ⟨x, rfl⟩
    · exact absurd hz (by decide)
    · exact absurd hz (by decide)
    · have hx := ex_X7_item u (ys ((nI i) + 1).toNatClampNeg) (ys ((nI i) + 2).toNatClampNeg) r e7 (x + 1 + 1) hg
      dsimp only at hx
      omega
  refine z_callH (rest := []) zEx_st hE hl (c_L_item l hls g a u ao o (ys ((nI i) + 1).toNatClampNeg) (ys ((nI i) + 2).toNatClampNeg) r e7) zyHL_item zsL_item zlL_121 [(0, none), (1, none), (2, none), (3, none), (4, none), (5, none), (6, none), (7, none), (8, none), (9, none), (10, none), (11, none), (12, none), (14, none)] rfl rfl rfl (w' := kX7 g a u ++ [cX8 g b v, [(ao, .inl (g.2.2.2.1, 1, .inr (.inl (zLo o r))))]]) rfl rfl rfl (by decide) (Nat.le_of_ble_eq_true rfl) ⟨by rw [hR1]; omega, by rw [hR2]; omega⟩ dL_law_792 (st2 := [.int (zLc 1 2 0 r)]) rfl ?_
  refine z_istore [(5, .int (zLc 1 2 0 r)), (4, .int (nI i)), (0, .ref c), (1, .ref (a 0)), (2, .ref (b 0)), (3, .ref ao)] (Nat.le_of_ble_eq_true rfl) rfl dL_law_795 ?_
  refine z_aload_n 4 rfl rfl dL_law_797 ?_
  refine z_aload_n 2 rfl rfl dL_law_798 ?_
  refine z_iload 1 rfl dL_law_799 ?_
  refine z_iconst (v := 1) (by decide) dL_law_801 ?_
  refine z_iadd dL_law_802 ?_
  refine z_sld hX hbl hbA (by rw [nI_1]; exact vp_in_nI (by omega) (by omega)) dL_law_803 ?_
  refine z_aload_n 2 rfl rfl dL_law_804 ?_
  refine z_iload 1 rfl dL_law_805 ?_
  refine z_iconst (v := 2) (by decide) dL_law_807 ?_
  refine z_iadd dL_law_808 ?_
  refine z_sld hX hbl hbA (by rw [nI_2]; exact vp_in_nI (by omega) (by omega)) dL_law_809 ?_
  refine z_callVW (rest := []) hl (c_X8_item l g b v (ys ((nI i) + 1).toNatClampNeg) (ys ((nI i) + 2).toNatClampNeg) _ e8) zyX8_item zvX8_item rfl zlL_123 zcX8.1 ⟨_, _, rfl⟩ [(13, none)] rfl (by decide) rfl (w' := kX7 g a u ++ [cX8 g b r8.2, [(ao, .inl (g.2.2.2.1, 1, .inr (.inl (zLo o r))))]]) rfl rfl rfl (by decide) (Nat.le_of_ble_eq_true rfl) ⟨by rw [hR1]; omega, by rw [hR2]; omega⟩ dL_law_810 (st2 := [.int r8.1]) rfl ?_
  refine z_istore [(6, .int r8.1), (5, .int (zLc 1 2 0 r)), (4, .int (nI i)), (0, .ref c), (1, .ref (a 0)), (2, .ref (b 0)), (3, .ref ao)] (Nat.le_of_ble_eq_true rfl) rfl dL_law_813 ?_
  refine z_aload_n 5 rfl rfl dL_law_815 ?_
  refine z_callVR (rest := []) hl (c_X8_thrown l g b r8.2 _ rfl) zyX8_thrown zvX8_thrown rfl zlL_80 zcX8.1 ⟨_, _, rfl⟩ [(13, none)] rfl rfl rfl (by decide) (Nat.le_of_ble_eq_true rfl) ⟨by rw [hR1]; omega, by rw [hR2]; omega⟩ dL_law_816 (st2 := [.int r8.2.1]) rfl ?_
  refine z_iload 1 rfl dL_law_819 ?_
  refine z_icmp_eq (tgt := 826) rfl dL_law_821 (fun _ => ?_) (fun h => absurd ec.symm h)
  refine z_iload 1 rfl dL_law_826 ?_
  refine z_if_ne (tgt := 843) rfl dL_law_828 (fun _ => ?_) (fun h => ?_)
  · skip
    refine z_goto (tgt := 1286) rfl dL_law_843 ?_
    exact z_lv [2, 3, 4, 5, 6] rfl (hnext u r8.2 (zLo o r) _ _ hR (by omega) (by omega))
  · obtain ⟨x, hx⟩ := hz h
    have hv := ev x hx
    refine z_aload_n 6 rfl rfl dL_law_831 ?_
    refine z_iconst (v := 0) (by decide) dL_law_832 ?_
    refine z_laldI 14 rfl 0 rfl zin0 dL_law_833 ?_
    refine z_iload 0 rfl dL_law_834 ?_
    refine z_i2l dL_law_836 ?_
    refine z_lcmp dL_law_837 ?_
    refine z_if_eq (tgt := 843) rfl dL_law_838 (fun _ => ?_) (fun h => absurd (by rw [hx, zLo_at, hv]; exact lg_self _) h)
    refine z_goto (tgt := 1286) rfl dL_law_843 ?_
    exact z_lv [2, 3, 4, 5, 6] rfl (hnext u r8.2 (zLo o r) _ _ hR (by omega) (by omega))
set_option maxHeartbeats 400000 in
theorem law_count {X : zX} {g : zG} (l : Launch) (hls : l.stackTraces = false) (hl : xl X = l) (hR1 : (xR X).cells = 601024) (hR2 : (xR X).slots = 7293034) (hE : zEx (xA X) (xs X) (xs X).heap) {c L : Nat} {ys : Nat → Int32} (hL : L ≤ 1536) (hX : va_X c L ys (xs X) (xs X).heap) (hbl : c < (xs X).heap.size) (hbA : ¬ xA X c) {a b : Nat → Nat} {ao : Nat} {R : tX7 → tX8 → Prop} (hop : op_count R) {i k n : Nat} (hi : i + 2 < L) (hk : k + 1 ≤ 601024) (hn : n + 6 ≤ 7293034) (u : tX7) (v : tX8) (o : Nat → Int64) (hRel : R u v) (hnext : ∀ (u : tX7) (v : tX8) (o : Nat → Int64) (k1 n1 : Nat), R u v → k1 ≤ k + 1 → n1 ≤ n + 6 → Z true RL cL_law 9 13 510 g X k1 n1 (kX7 g a u ++ [cX8 g b v, [(ao, .inl (g.2.2.2.1, 1, .inr (.inl o)))]]) [(4, .int (nI i)), (0, .ref c), (1, .ref (a 0)), (2, .ref (b 0)), (3, .ref ao)] 1286 []) : Z true RL cL_law 9 13 510 g X k n (kX7 g a u ++ [cX8 g b v, [(ao, .inl (g.2.2.2.1, 1, .inr (.inl o)))]]) [(4, .int (nI i)), (0, .ref c), (1, .ref (a 0)), (2, .ref (b 0)), (3, .ref ao)] 846 [] := by
  refine z_aload_n 2 rfl rfl dL_law_846 ?_
  refine z_aload_n 1 rfl rfl dL_law_847 ?_
  refine z_iload 0 rfl dL_law_848 ?_
  refine z_iconst (v := 1) (by decide) dL_law_850 ?_
  refine z_iadd dL_law_851 ?_
  refine z_sld hX hbl hbA (by rw [nI_1]; exact vp_in_nI (by omega) (by omega)) dL_law_852 ?_
  refine z_aload_n 4 rfl rfl dL_law_853 ?_
  obtain ⟨r, r8, e7, e8, ec, ev, hR⟩ := hop u v hRel (ys ((nI i) + 1).toNatClampNeg)
  have hz : zLc 0 1 0 r = 0 → ∃ x, r = .inl x := by
    intro hz
    generalize hg : r = y at hz
    rcases y with x | (_ | _ | x)
    · exact ⟨x, rfl⟩
    · have hx := ex_X7_count u (ys ((nI i) + 1).toNatClampNeg) r e7 0 hg
      dsimp only at hx
      omega
    · exact absurd hz (by decide)
    · have hx := ex_X7_count u (ys ((nI i) + 1).toNatClampNeg) r e7 (x + 1 + 1) hg
      dsimp only at hx
      omega
  refine z_callH (rest := []) zEx_st hE hl (c_L_count l hls g a u ao o (ys ((nI i) + 1).toNatClampNeg) r e7) zyHL_count zsL_count zlL_124 [(0, none), (1, none), (2, none), (3, none), (4, none), (5, none), (6, none), (7, none), (8, none), (9, none), (10, none), (11, none), (12, none), (14, none)] rfl rfl rfl (w' := kX7 g a u ++ [cX8 g b v, [(ao, .inl (g.2.2.2.1, 1, .inr (.inl (zLo o r))))]]) rfl rfl rfl (by decide) (Nat.le_of_ble_eq_true rfl) ⟨by rw [hR1]; omega, by rw [hR2]; omega⟩ dL_law_854 (st2 := [.int (zLc 0 1 0 r)]) rfl ?_
  refine z_istore [(5, .int (zLc 0 1 0 r)), (4, .int (nI i)), (0, .ref c), (1, .ref (a 0)), (2, .ref (b 0)), (3, .ref ao)] (Nat.le_of_ble_eq_true rfl) rfl dL_law_857 ?_
  refine z_aload_n 4 rfl rfl dL_law_859 ?_
  refine z_aload_n 2 rfl rfl dL_law_860 ?_
  refine z_iload 1 rfl dL_law_861 ?_
  refine z_iconst (v := 1) (by decide) dL_law_863 ?_
  refine z_iadd dL_law_864 ?_
  refine z_sld hX hbl hbA (by rw [nI_1]; exact vp_in_nI (by omega) (by omega)) dL_law_865 ?_
  refine z_callVW (rest := []) hl (c_X8_count l g b v (ys ((nI i) + 1).toNatClampNeg) _ e8) zyX8_count zvX8_count rfl zlL_126 zcX8.1 ⟨_, _, rfl⟩ [(13, none)] rfl (by decide) rfl (w' := kX7 g a u ++ [cX8 g b r8.2, [(ao, .inl (g.2.2.2.1, 1, .inr (.inl (zLo o r))))]]) rfl rfl rfl (by decide) (Nat.le_of_ble_eq_true rfl) ⟨by rw [hR1]; omega, by rw [hR2]; omega⟩ dL_law_866 (st2 := [.int r8.1]) rfl ?_
  refine z_istore [(6, .int r8.1), (5, .int (zLc 0 1 0 r)), (4, .int (nI i)), (0, .ref c), (1, .ref (a 0)), (2, .ref (b 0)), (3, .ref ao)] (Nat.le_of_ble_eq_true rfl) rfl dL_law_869 ?_
  refine z_aload_n 5 rfl rfl dL_law_871 ?_
  refine z_callVR (rest := []) hl (c_X8_thrown l g b r8.2 _ rfl) zyX8_thrown zvX8_thrown rfl zlL_80 zcX8.1 ⟨_, _, rfl⟩ [(13, none)] rfl rfl rfl (by decide) (Nat.le_of_ble_eq_true rfl) ⟨by rw [hR1]; omega, by rw [hR2]; omega⟩ dL_law_872 (st2 := [.int r8.2.1]) rfl ?_
  refine z_iload 1 rfl dL_law_875 ?_
  refine z_icmp_eq (tgt := 882) rfl dL_law_877 (fun _ => ?_) (fun h => absurd ec.symm h)
  refine z_iload 1 rfl dL_law_882 ?_
  refine z_if_ne (tgt := 899) rfl dL_law_884 (fun _ => ?_) (fun h => ?_)
  · skip
    refine z_goto (tgt := 1286) rfl dL_law_899 ?_
    exact z_lv [2, 3, 4, 5, 6] rfl (hnext u r8.2 (zLo o r) _ _ hR (by omega) (by omega))
  · obtain ⟨x, hx⟩ := hz h
    have hv := ev x hx
    refine z_aload_n 6 rfl rfl dL_law_887 ?_
    refine z_iconst (v := 0) (by decide) dL_law_888 ?_
    refine z_laldI 14 rfl 0 rfl zin0 dL_law_889 ?_
    refine z_iload 0 rfl dL_law_890 ?_
    refine z_i2l dL_law_892 ?_
    refine z_lcmp dL_law_893 ?_
    refine z_if_eq (tgt := 899) rfl dL_law_894 (fun _ => ?_) (fun h => absurd (by rw [hx, zLo_at, hv]; exact lg_self _) h)
    refine z_goto (tgt := 1286) rfl dL_law_899 ?_
    exact z_lv [2, 3, 4, 5, 6] rfl (hnext u r8.2 (zLo o r) _ _ hR (by omega) (by omega))
set_option maxHeartbeats 400000 in
theorem law_setting {X : zX} {g : zG} (l : Launch) (hls : l.stackTraces = false) (hl : xl X = l) (hR1 : (xR X).cells = 601024) (hR2 : (xR X).slots = 7293034) (hE : zEx (xA X) (xs X) (xs X).heap) {c L : Nat} {ys : Nat → Int32} (hL : L ≤ 1536) (hX : va_X c L ys (xs X) (xs X).heap) (hbl : c < (xs X).heap.size) (hbA : ¬ xA X c) {a b : Nat → Nat} {ao : Nat} {R : tX7 → tX8 → Prop} (hop : op_setting R) {i k n : Nat} (hi : i + 2 < L) (hk : k + 1 ≤ 601024) (hn : n + 6 ≤ 7293034) (u : tX7) (v : tX8) (o : Nat → Int64) (hRel : R u v) (hnext : ∀ (u : tX7) (v : tX8) (o : Nat → Int64) (k1 n1 : Nat), R u v → k1 ≤ k + 1 → n1 ≤ n + 6 → Z true RL cL_law 9 13 510 g X k1 n1 (kX7 g a u ++ [cX8 g b v, [(ao, .inl (g.2.2.2.1, 1, .inr (.inl o)))]]) [(4, .int (nI i)), (0, .ref c), (1, .ref (a 0)), (2, .ref (b 0)), (3, .ref ao)] 1286 []) : Z true RL cL_law 9 13 510 g X k n (kX7 g a u ++ [cX8 g b v, [(ao, .inl (g.2.2.2.1, 1, .inr (.inl o)))]]) [(4, .int (nI i)), (0, .ref c), (1, .ref (a 0)), (2, .ref (b 0)), (3, .ref ao)] 902 [] := by
  refine z_aload_n 2 rfl rfl dL_law_902 ?_
  refine z_aload_n 1 rfl rfl dL_law_903 ?_
  refine z_iload 0 rfl dL_law_904 ?_
  refine z_iconst (v := 1) (by decide) dL_law_906 ?_
  refine z_iadd dL_law_907 ?_
  refine z_sld hX hbl hbA (by rw [nI_1]; exact vp_in_nI (by omega) (by omega)) dL_law_908 ?_
  refine z_aload_n 4 rfl rfl dL_law_909 ?_
  obtain ⟨r, r8, e7, e8, ec, ev, hR⟩ := hop u v hRel (ys ((nI i) + 1).toNatClampNeg)
  have hz : zLc 1 0 0 r = 0 → ∃ x, r = .inl x := by
    intro hz
    generalize hg : r = y at hz
    rcases y with x | (_ | _ | x)
    · exact ⟨x, rfl⟩
    · exact absurd hz (by decide)
    · have hx := ex_X7_setting u (ys ((nI i) + 1).toNatClampNeg) r e7 (0 + 1) hg
      dsimp only at hx
      omega
    · have hx := ex_X7_setting u (ys ((nI i) + 1).toNatClampNeg) r e7 (x + 1 + 1) hg
      dsimp only at hx
      omega
  refine z_callH (rest := []) zEx_st hE hl (c_L_setting l hls g a u ao o (ys ((nI i) + 1).toNatClampNeg) r e7) zyHL_setting zsL_setting zlL_127 [(0, none), (1, none), (2, none), (3, none), (4, none), (5, none), (6, none), (7, none), (8, none), (9, none), (10, none), (11, none), (12, none), (14, none)] rfl rfl rfl (w' := kX7 g a u ++ [cX8 g b v, [(ao, .inl (g.2.2.2.1, 1, .inr (.inl (zLo o r))))]]) rfl rfl rfl (by decide) (Nat.le_of_ble_eq_true rfl) ⟨by rw [hR1]; omega, by rw [hR2]; omega⟩ dL_law_910 (st2 := [.int (zLc 1 0 0 r)]) rfl ?_
  refine z_istore [(5, .int (zLc 1 0 0 r)), (4, .int (nI i)), (0, .ref c), (1, .ref (a 0)), (2, .ref (b 0)), (3, .ref ao)] (Nat.le_of_ble_eq_true rfl) rfl dL_law_913 ?_
  refine z_aload_n 4 rfl rfl dL_law_915 ?_
  refine z_aload_n 2 rfl rfl dL_law_916 ?_
  refine z_iload 1 rfl dL_law_917 ?_
  refine z_iconst (v := 1) (by decide) dL_law_919 ?_
  refine z_iadd dL_law_920 ?_
  refine z_sld hX hbl hbA (by rw [nI_1]; exact vp_in_nI (by omega) (by omega)) dL_law_921 ?_
  refine z_callVW (rest := []) hl (c_X8_setting l g b v (ys ((nI i) + 1).toNatClampNeg) _ e8) zyX8_setting zvX8_setting rfl zlL_129 zcX8.1 ⟨_, _, rfl⟩ [(13, none)] rfl (by decide) rfl (w' := kX7 g a u ++ [cX8 g b r8.2, [(ao, .inl (g.2.2.2.1, 1, .inr (.inl (zLo o r))))]]) rfl rfl rfl (by decide) (Nat.le_of_ble_eq_true rfl) ⟨by rw [hR1]; omega, by rw [hR2]; omega⟩ dL_law_922 (st2 := [.int r8.1]) rfl ?_
  refine z_istore [(6, .int r8.1), (5, .int (zLc 1 0 0 r)), (4, .int (nI i)), (0, .ref c), (1, .ref (a 0)), (2, .ref (b 0)), (3, .ref ao)] (Nat.le_of_ble_eq_true rfl) rfl dL_law_925 ?_
  refine z_aload_n 5 rfl rfl dL_law_927 ?_
  refine z_callVR (rest := []) hl (c_X8_thrown l g b r8.2 _ rfl) zyX8_thrown zvX8_thrown rfl zlL_80 zcX8.1 ⟨_, _, rfl⟩ [(13, none)] rfl rfl rfl (by decide) (Nat.le_of_ble_eq_true rfl) ⟨by rw [hR1]; omega, by rw [hR2]; omega⟩ dL_law_928 (st2 := [.int r8.2.1]) rfl ?_
  refine z_iload 1 rfl dL_law_931 ?_
  refine z_icmp_eq (tgt := 938) rfl dL_law_933 (fun _ => ?_) (fun h => absurd ec.symm h)
  refine z_iload 1 rfl dL_law_938 ?_
  refine z_if_ne (tgt := 955) rfl dL_law_940 (fun _ => ?_) (fun h => ?_)
  · skip
    refine z_goto (tgt := 1286) rfl dL_law_955 ?_
    exact z_lv [2, 3, 4, 5, 6] rfl (hnext u r8.2 (zLo o r) _ _ hR (by omega) (by omega))
  · obtain ⟨x, hx⟩ := hz h
    have hv := ev x hx
    refine z_aload_n 6 rfl rfl dL_law_943 ?_
    refine z_iconst (v := 0) (by decide) dL_law_944 ?_
    refine z_laldI 14 rfl 0 rfl zin0 dL_law_945 ?_
    refine z_iload 0 rfl dL_law_946 ?_
    refine z_i2l dL_law_948 ?_
    refine z_lcmp dL_law_949 ?_
    refine z_if_eq (tgt := 955) rfl dL_law_950 (fun _ => ?_) (fun h => absurd (by rw [hx, zLo_at, hv]; exact lg_self _) h)
    refine z_goto (tgt := 1286) rfl dL_law_955 ?_
    exact z_lv [2, 3, 4, 5, 6] rfl (hnext u r8.2 (zLo o r) _ _ hR (by omega) (by omega))
set_option maxHeartbeats 400000 in
theorem law_refusal {X : zX} {g : zG} (l : Launch) (hls : l.stackTraces = false) (hl : xl X = l) (hR1 : (xR X).cells = 601024) (hR2 : (xR X).slots = 7293034) (hE : zEx (xA X) (xs X) (xs X).heap) {c L : Nat} {ys : Nat → Int32} (hL : L ≤ 1536) (hX : va_X c L ys (xs X) (xs X).heap) (hbl : c < (xs X).heap.size) (hbA : ¬ xA X c) {a b : Nat → Nat} {ao : Nat} {R : tX7 → tX8 → Prop} (hop : op_refusal R) {i k n : Nat} (hi : i + 2 < L) (hk : k + 1 ≤ 601024) (hn : n + 6 ≤ 7293034) (u : tX7) (v : tX8) (o : Nat → Int64) (hRel : R u v) (hnext : ∀ (u : tX7) (v : tX8) (o : Nat → Int64) (k1 n1 : Nat), R u v → k1 ≤ k + 1 → n1 ≤ n + 6 → Z true RL cL_law 9 13 510 g X k1 n1 (kX7 g a u ++ [cX8 g b v, [(ao, .inl (g.2.2.2.1, 1, .inr (.inl o)))]]) [(4, .int (nI i)), (0, .ref c), (1, .ref (a 0)), (2, .ref (b 0)), (3, .ref ao)] 1286 []) : Z true RL cL_law 9 13 510 g X k n (kX7 g a u ++ [cX8 g b v, [(ao, .inl (g.2.2.2.1, 1, .inr (.inl o)))]]) [(4, .int (nI i)), (0, .ref c), (1, .ref (a 0)), (2, .ref (b 0)), (3, .ref ao)] 958 [] := by
  refine z_aload_n 2 rfl rfl dL_law_958 ?_
  refine z_aload_n 1 rfl rfl dL_law_959 ?_
  refine z_iload 0 rfl dL_law_960 ?_
  refine z_iconst (v := 1) (by decide) dL_law_962 ?_
  refine z_iadd dL_law_963 ?_
  refine z_sld hX hbl hbA (by rw [nI_1]; exact vp_in_nI (by omega) (by omega)) dL_law_964 ?_
  obtain ⟨r, r8, e7, e8, ev, hR⟩ := hop u v hRel (ys ((nI i) + 1).toNatClampNeg)
  refine z_callVR (rest := []) hl (c_X7_refusal l g a u (ys ((nI i) + 1).toNatClampNeg) _ e7) zyX7_refusal zvX7_refusal rfl zlL_130 zcX7.1 ⟨_, _, rfl⟩ [(0, none), (1, none), (2, none), (3, none), (4, none), (5, none), (6, none), (7, none), (8, none), (9, none), (10, none), (11, none), (12, none)] rfl rfl rfl (by decide) (Nat.le_of_ble_eq_true rfl) ⟨by rw [hR1]; omega, by rw [hR2]; omega⟩ dL_law_965 (st2 := [.int r]) rfl ?_
  refine z_aload_n 3 rfl rfl dL_law_968 ?_
  refine z_aload_n 1 rfl rfl dL_law_969 ?_
  refine z_iload 0 rfl dL_law_970 ?_
  refine z_iconst (v := 1) (by decide) dL_law_972 ?_
  refine z_iadd dL_law_973 ?_
  refine z_sld hX hbl hbA (by rw [nI_1]; exact vp_in_nI (by omega) (by omega)) dL_law_974 ?_
  refine z_callVW (rest := [.int r]) hl (c_X8_refusal l g b v (ys ((nI i) + 1).toNatClampNeg) _ e8) zyX8_refusal zvX8_refusal rfl zlL_133 zcX8.1 ⟨_, _, rfl⟩ [(13, none)] rfl (by decide) rfl (w' := kX7 g a u ++ [cX8 g b r8.2, [(ao, .inl (g.2.2.2.1, 1, .inr (.inl o)))]]) rfl rfl rfl (by decide) (Nat.le_of_ble_eq_true rfl) ⟨by rw [hR1]; omega, by rw [hR2]; omega⟩ dL_law_975 (st2 := [.int r8.1, .int r]) rfl ?_
  refine z_icmp_eq (tgt := 1286) rfl dL_law_978 (fun _ => ?_) (fun h => absurd ev h)
  exact z_lv [0, 1, 2, 3, 4] rfl (hnext u r8.2 o _ _ hR (by omega) (by omega))
set_option maxHeartbeats 400000 in
theorem law_way {X : zX} {g : zG} (l : Launch) (hls : l.stackTraces = false) (hl : xl X = l) (hR1 : (xR X).cells = 601024) (hR2 : (xR X).slots = 7293034) (hE : zEx (xA X) (xs X) (xs X).heap) {c L : Nat} {ys : Nat → Int32} (hL : L ≤ 1536) (hX : va_X c L ys (xs X) (xs X).heap) (hbl : c < (xs X).heap.size) (hbA : ¬ xA X c) {a b : Nat → Nat} {ao : Nat} {R : tX7 → tX8 → Prop} (hop : op_way R) {i k n : Nat} (hi : i + 2 < L) (hk : k + 1 ≤ 601024) (hn : n + 6 ≤ 7293034) (u : tX7) (v : tX8) (o : Nat → Int64) (hRel : R u v) (hnext : ∀ (u : tX7) (v : tX8) (o : Nat → Int64) (k1 n1 : Nat), R u v → k1 ≤ k + 1 → n1 ≤ n + 6 → Z true RL cL_law 9 13 510 g X k1 n1 (kX7 g a u ++ [cX8 g b v, [(ao, .inl (g.2.2.2.1, 1, .inr (.inl o)))]]) [(4, .int (nI i)), (0, .ref c), (1, .ref (a 0)), (2, .ref (b 0)), (3, .ref ao)] 1286 []) : Z true RL cL_law 9 13 510 g X k n (kX7 g a u ++ [cX8 g b v, [(ao, .inl (g.2.2.2.1, 1, .inr (.inl o)))]]) [(4, .int (nI i)), (0, .ref c), (1, .ref (a 0)), (2, .ref (b 0)), (3, .ref ao)] 983 [] := by
  refine z_aload_n 2 rfl rfl dL_law_983 ?_
  refine z_aload_n 1 rfl rfl dL_law_984 ?_
  refine z_iload 0 rfl dL_law_985 ?_
  refine z_iconst (v := 1) (by decide) dL_law_987 ?_
  refine z_iadd dL_law_988 ?_
  refine z_sld hX hbl hbA (by rw [nI_1]; exact vp_in_nI (by omega) (by omega)) dL_law_989 ?_
  refine z_aload_n 4 rfl rfl dL_law_990 ?_
  obtain ⟨r, r8, e7, e8, ec, ev, hR⟩ := hop u v hRel (ys ((nI i) + 1).toNatClampNeg)
  have hz : zLc 1 0 0 r = 0 → ∃ x, r = .inl x := by
    intro hz
    generalize hg : r = y at hz
    rcases y with x | (_ | _ | x)
    · exact ⟨x, rfl⟩
    · exact absurd hz (by decide)
    · have hx := ex_X7_way u (ys ((nI i) + 1).toNatClampNeg) r e7 (0 + 1) hg
      dsimp only at hx
      omega
    · have hx := ex_X7_way u (ys ((nI i) + 1).toNatClampNeg) r e7 (x + 1 + 1) hg
      dsimp only at hx
      omega
  refine z_callH (rest := []) zEx_st hE hl (c_L_way l hls g a u ao o (ys ((nI i) + 1).toNatClampNeg) r e7) zyHL_way zsL_way zlL_134 [(0, none), (1, none), (2, none), (3, none), (4, none), (5, none), (6, none), (7, none), (8, none), (9, none), (10, none), (11, none), (12, none), (14, none)] rfl rfl rfl (w' := kX7 g a u ++ [cX8 g b v, [(ao, .inl (g.2.2.2.1, 1, .inr (.inl (zLo o r))))]]) rfl rfl rfl (by decide) (Nat.le_of_ble_eq_true rfl) ⟨by rw [hR1]; omega, by rw [hR2]; omega⟩ dL_law_991 (st2 := [.int (zLc 1 0 0 r)]) rfl ?_
  refine z_istore [(5, .int (zLc 1 0 0 r)), (4, .int (nI i)), (0, .ref c), (1, .ref (a 0)), (2, .ref (b 0)), (3, .ref ao)] (Nat.le_of_ble_eq_true rfl) rfl dL_law_994 ?_
  refine z_aload_n 4 rfl rfl dL_law_996 ?_
  refine z_aload_n 2 rfl rfl dL_law_997 ?_
  refine z_iload 1 rfl dL_law_998 ?_
  refine z_iconst (v := 1) (by decide) dL_law_1000 ?_
  refine z_iadd dL_law_1001 ?_
  refine z_sld hX hbl hbA (by rw [nI_1]; exact vp_in_nI (by omega) (by omega)) dL_law_1002 ?_
  refine z_callVW (rest := []) hl (c_X8_way l g b v (ys ((nI i) + 1).toNatClampNeg) _ e8) zyX8_way zvX8_way rfl zlL_136 zcX8.1 ⟨_, _, rfl⟩ [(13, none)] rfl (by decide) rfl (w' := kX7 g a u ++ [cX8 g b r8.2, [(ao, .inl (g.2.2.2.1, 1, .inr (.inl (zLo o r))))]]) rfl rfl rfl (by decide) (Nat.le_of_ble_eq_true rfl) ⟨by rw [hR1]; omega, by rw [hR2]; omega⟩ dL_law_1003 (st2 := [.int r8.1]) rfl ?_
  refine z_istore [(6, .int r8.1), (5, .int (zLc 1 0 0 r)), (4, .int (nI i)), (0, .ref c), (1, .ref (a 0)), (2, .ref (b 0)), (3, .ref ao)] (Nat.le_of_ble_eq_true rfl) rfl dL_law_1006 ?_
  refine z_aload_n 5 rfl rfl dL_law_1008 ?_
  refine z_callVR (rest := []) hl (c_X8_thrown l g b r8.2 _ rfl) zyX8_thrown zvX8_thrown rfl zlL_80 zcX8.1 ⟨_, _, rfl⟩ [(13, none)] rfl rfl rfl (by decide) (Nat.le_of_ble_eq_true rfl) ⟨by rw [hR1]; omega, by rw [hR2]; omega⟩ dL_law_1009 (st2 := [.int r8.2.1]) rfl ?_
  refine z_iload 1 rfl dL_law_1012 ?_
  refine z_icmp_eq (tgt := 1019) rfl dL_law_1014 (fun _ => ?_) (fun h => absurd ec.symm h)
  refine z_iload 1 rfl dL_law_1019 ?_
  refine z_if_ne (tgt := 1036) rfl dL_law_1021 (fun _ => ?_) (fun h => ?_)
  · skip
    refine z_goto (tgt := 1286) rfl dL_law_1036 ?_
    exact z_lv [2, 3, 4, 5, 6] rfl (hnext u r8.2 (zLo o r) _ _ hR (by omega) (by omega))
  · obtain ⟨x, hx⟩ := hz h
    have hv := ev x hx
    refine z_aload_n 6 rfl rfl dL_law_1024 ?_
    refine z_iconst (v := 0) (by decide) dL_law_1025 ?_
    refine z_laldI 14 rfl 0 rfl zin0 dL_law_1026 ?_
    refine z_iload 0 rfl dL_law_1027 ?_
    refine z_i2l dL_law_1029 ?_
    refine z_lcmp dL_law_1030 ?_
    refine z_if_eq (tgt := 1036) rfl dL_law_1031 (fun _ => ?_) (fun h => absurd (by rw [hx, zLo_at, hv]; exact lg_self _) h)
    refine z_goto (tgt := 1286) rfl dL_law_1036 ?_
    exact z_lv [2, 3, 4, 5, 6] rfl (hnext u r8.2 (zLo o r) _ _ hR (by omega) (by omega))
set_option maxHeartbeats 400000 in
theorem law_ifPut {X : zX} {g : zG} (l : Launch) (hls : l.stackTraces = false) (hl : xl X = l) (hR1 : (xR X).cells = 601024) (hR2 : (xR X).slots = 7293034) (hE : zEx (xA X) (xs X) (xs X).heap) {c L : Nat} {ys : Nat → Int32} (hL : L ≤ 1536) (hX : va_X c L ys (xs X) (xs X).heap) (hbl : c < (xs X).heap.size) (hbA : ¬ xA X c) {a b : Nat → Nat} {ao : Nat} {R : tX7 → tX8 → Prop} (hop : op_ifPut R) {i k n : Nat} (hi : i + 2 < L) (hk : k + 1 ≤ 601024) (hn : n + 6 ≤ 7293034) (u : tX7) (v : tX8) (o : Nat → Int64) (hRel : R u v) (hnext : ∀ (u : tX7) (v : tX8) (o : Nat → Int64) (k1 n1 : Nat), R u v → k1 ≤ k + 1 → n1 ≤ n + 6 → Z true RL cL_law 9 13 510 g X k1 n1 (kX7 g a u ++ [cX8 g b v, [(ao, .inl (g.2.2.2.1, 1, .inr (.inl o)))]]) [(4, .int (nI i)), (0, .ref c), (1, .ref (a 0)), (2, .ref (b 0)), (3, .ref ao)] 1286 []) : Z true RL cL_law 9 13 510 g X k n (kX7 g a u ++ [cX8 g b v, [(ao, .inl (g.2.2.2.1, 1, .inr (.inl o)))]]) [(4, .int (nI i)), (0, .ref c), (1, .ref (a 0)), (2, .ref (b 0)), (3, .ref ao)] 1039 [] := by
  refine z_aload_n 2 rfl rfl dL_law_1039 ?_
  refine z_aload_n 1 rfl rfl dL_law_1040 ?_
  refine z_iload 0 rfl dL_law_1041 ?_
  refine z_iconst (v := 1) (by decide) dL_law_1043 ?_
  refine z_iadd dL_law_1044 ?_
  refine z_sld hX hbl hbA (by rw [nI_1]; exact vp_in_nI (by omega) (by omega)) dL_law_1045 ?_
  refine z_aload_n 1 rfl rfl dL_law_1046 ?_
  refine z_iload 0 rfl dL_law_1047 ?_
  refine z_iconst (v := 2) (by decide) dL_law_1049 ?_
  refine z_iadd dL_law_1050 ?_
  refine z_sld hX hbl hbA (by rw [nI_2]; exact vp_in_nI (by omega) (by omega)) dL_law_1051 ?_
  refine z_aload_n 4 rfl rfl dL_law_1052 ?_
  obtain ⟨r, r8, e7, e8, ec, ev, hR⟩ := hop u v hRel (ys ((nI i) + 1).toNatClampNeg) (ys ((nI i) + 2).toNatClampNeg)
  have hz : zLc 1 2 0 r = 0 → ∃ x, r = .inl x := by
    intro hz
    generalize hg : r = y at hz
    rcases y with x | (_ | _ | x)
    · exact ⟨x, rfl⟩
    · exact absurd hz (by decide)
    · exact absurd hz (by decide)
    · have hx := ex_X7_ifPut u (ys ((nI i) + 1).toNatClampNeg) (ys ((nI i) + 2).toNatClampNeg) r e7 (x + 1 + 1) hg
      dsimp only at hx
      omega
  refine z_callH (rest := []) zEx_st hE hl (c_L_ifPut l hls g a u ao o (ys ((nI i) + 1).toNatClampNeg) (ys ((nI i) + 2).toNatClampNeg) r e7) zyHL_ifPut zsL_ifPut zlL_137 [(0, none), (1, none), (2, none), (3, none), (4, none), (5, none), (6, none), (7, none), (8, none), (9, none), (10, none), (11, none), (12, none), (14, none)] rfl rfl rfl (w' := kX7 g a u ++ [cX8 g b v, [(ao, .inl (g.2.2.2.1, 1, .inr (.inl (zLo o r))))]]) rfl rfl rfl (by decide) (Nat.le_of_ble_eq_true rfl) ⟨by rw [hR1]; omega, by rw [hR2]; omega⟩ dL_law_1053 (st2 := [.int (zLc 1 2 0 r)]) rfl ?_
  refine z_istore [(5, .int (zLc 1 2 0 r)), (4, .int (nI i)), (0, .ref c), (1, .ref (a 0)), (2, .ref (b 0)), (3, .ref ao)] (Nat.le_of_ble_eq_true rfl) rfl dL_law_1056 ?_
  refine z_aload_n 4 rfl rfl dL_law_1058 ?_
  refine z_aload_n 2 rfl rfl dL_law_1059 ?_
  refine z_iload 1 rfl dL_law_1060 ?_
  refine z_iconst (v := 1) (by decide) dL_law_1062 ?_
  refine z_iadd dL_law_1063 ?_
  refine z_sld hX hbl hbA (by rw [nI_1]; exact vp_in_nI (by omega) (by omega)) dL_law_1064 ?_
  refine z_aload_n 2 rfl rfl dL_law_1065 ?_
  refine z_iload 1 rfl dL_law_1066 ?_
  refine z_iconst (v := 2) (by decide) dL_law_1068 ?_
  refine z_iadd dL_law_1069 ?_
  refine z_sld hX hbl hbA (by rw [nI_2]; exact vp_in_nI (by omega) (by omega)) dL_law_1070 ?_
  refine z_callVW (rest := []) hl (c_X8_ifPut l g b v (ys ((nI i) + 1).toNatClampNeg) (ys ((nI i) + 2).toNatClampNeg) _ e8) zyX8_ifPut zvX8_ifPut rfl zlL_139 zcX8.1 ⟨_, _, rfl⟩ [(13, none)] rfl (by decide) rfl (w' := kX7 g a u ++ [cX8 g b r8.2, [(ao, .inl (g.2.2.2.1, 1, .inr (.inl (zLo o r))))]]) rfl rfl rfl (by decide) (Nat.le_of_ble_eq_true rfl) ⟨by rw [hR1]; omega, by rw [hR2]; omega⟩ dL_law_1071 (st2 := [.int r8.1]) rfl ?_
  refine z_istore [(6, .int r8.1), (5, .int (zLc 1 2 0 r)), (4, .int (nI i)), (0, .ref c), (1, .ref (a 0)), (2, .ref (b 0)), (3, .ref ao)] (Nat.le_of_ble_eq_true rfl) rfl dL_law_1074 ?_
  refine z_aload_n 5 rfl rfl dL_law_1076 ?_
  refine z_callVR (rest := []) hl (c_X8_thrown l g b r8.2 _ rfl) zyX8_thrown zvX8_thrown rfl zlL_80 zcX8.1 ⟨_, _, rfl⟩ [(13, none)] rfl rfl rfl (by decide) (Nat.le_of_ble_eq_true rfl) ⟨by rw [hR1]; omega, by rw [hR2]; omega⟩ dL_law_1077 (st2 := [.int r8.2.1]) rfl ?_
  refine z_iload 1 rfl dL_law_1080 ?_
  refine z_icmp_eq (tgt := 1087) rfl dL_law_1082 (fun _ => ?_) (fun h => absurd ec.symm h)
  refine z_iload 1 rfl dL_law_1087 ?_
  refine z_if_ne (tgt := 1104) rfl dL_law_1089 (fun _ => ?_) (fun h => ?_)
  · skip
    refine z_goto (tgt := 1286) rfl dL_law_1104 ?_
    exact z_lv [2, 3, 4, 5, 6] rfl (hnext u r8.2 (zLo o r) _ _ hR (by omega) (by omega))
  · obtain ⟨x, hx⟩ := hz h
    have hv := ev x hx
    refine z_aload_n 6 rfl rfl dL_law_1092 ?_
    refine z_iconst (v := 0) (by decide) dL_law_1093 ?_
    refine z_laldI 14 rfl 0 rfl zin0 dL_law_1094 ?_
    refine z_iload 0 rfl dL_law_1095 ?_
    refine z_i2l dL_law_1097 ?_
    refine z_lcmp dL_law_1098 ?_
    refine z_if_eq (tgt := 1104) rfl dL_law_1099 (fun _ => ?_) (fun h => absurd (by rw [hx, zLo_at, hv]; exact lg_self _) h)
    refine z_goto (tgt := 1286) rfl dL_law_1104 ?_
    exact z_lv [2, 3, 4, 5, 6] rfl (hnext u r8.2 (zLo o r) _ _ hR (by omega) (by omega))
set_option maxHeartbeats 400000 in
theorem law_bestDrawer {X : zX} {g : zG} (l : Launch) (hls : l.stackTraces = false) (hl : xl X = l) (hR1 : (xR X).cells = 601024) (hR2 : (xR X).slots = 7293034) (hE : zEx (xA X) (xs X) (xs X).heap) {c L : Nat} {ys : Nat → Int32} (hL : L ≤ 1536) (hX : va_X c L ys (xs X) (xs X).heap) (hbl : c < (xs X).heap.size) (hbA : ¬ xA X c) {a b : Nat → Nat} {ao : Nat} {R : tX7 → tX8 → Prop} (hop : op_bestDrawer R) {i k n : Nat} (hi : i + 2 < L) (hk : k + 1 ≤ 601024) (hn : n + 6 ≤ 7293034) (u : tX7) (v : tX8) (o : Nat → Int64) (hRel : R u v) (hnext : ∀ (u : tX7) (v : tX8) (o : Nat → Int64) (k1 n1 : Nat), R u v → k1 ≤ k + 1 → n1 ≤ n + 6 → Z true RL cL_law 9 13 510 g X k1 n1 (kX7 g a u ++ [cX8 g b v, [(ao, .inl (g.2.2.2.1, 1, .inr (.inl o)))]]) [(4, .int (nI i)), (0, .ref c), (1, .ref (a 0)), (2, .ref (b 0)), (3, .ref ao)] 1286 []) : Z true RL cL_law 9 13 510 g X k n (kX7 g a u ++ [cX8 g b v, [(ao, .inl (g.2.2.2.1, 1, .inr (.inl o)))]]) [(4, .int (nI i)), (0, .ref c), (1, .ref (a 0)), (2, .ref (b 0)), (3, .ref ao)] 1107 [] := by
  refine z_aload_n 2 rfl rfl dL_law_1107 ?_
  refine z_aload_n 1 rfl rfl dL_law_1108 ?_
  refine z_iload 0 rfl dL_law_1109 ?_
  refine z_iconst (v := 1) (by decide) dL_law_1111 ?_
  refine z_iadd dL_law_1112 ?_
  refine z_sld hX hbl hbA (by rw [nI_1]; exact vp_in_nI (by omega) (by omega)) dL_law_1113 ?_
  refine z_aload_n 4 rfl rfl dL_law_1114 ?_
  obtain ⟨r, r8, e7, e8, ec, ev, hR⟩ := hop u v hRel (ys ((nI i) + 1).toNatClampNeg)
  have hz : zLc 0 1 0 r = 0 → ∃ x, r = .inl x := by
    intro hz
    generalize hg : r = y at hz
    rcases y with x | (_ | _ | x)
    · exact ⟨x, rfl⟩
    · have hx := ex_X7_bestDrawer u (ys ((nI i) + 1).toNatClampNeg) r e7 0 hg
      dsimp only at hx
      omega
    · exact absurd hz (by decide)
    · have hx := ex_X7_bestDrawer u (ys ((nI i) + 1).toNatClampNeg) r e7 (x + 1 + 1) hg
      dsimp only at hx
      omega
  refine z_callH (rest := []) zEx_st hE hl (c_L_bestDrawer l hls g a u ao o (ys ((nI i) + 1).toNatClampNeg) r e7) zyHL_bestDrawer zsL_bestDrawer zlL_140 [(0, none), (1, none), (2, none), (3, none), (4, none), (5, none), (6, none), (7, none), (8, none), (9, none), (10, none), (11, none), (12, none), (14, none)] rfl rfl rfl (w' := kX7 g a u ++ [cX8 g b v, [(ao, .inl (g.2.2.2.1, 1, .inr (.inl (zLo o r))))]]) rfl rfl rfl (by decide) (Nat.le_of_ble_eq_true rfl) ⟨by rw [hR1]; omega, by rw [hR2]; omega⟩ dL_law_1115 (st2 := [.int (zLc 0 1 0 r)]) rfl ?_
  refine z_istore [(5, .int (zLc 0 1 0 r)), (4, .int (nI i)), (0, .ref c), (1, .ref (a 0)), (2, .ref (b 0)), (3, .ref ao)] (Nat.le_of_ble_eq_true rfl) rfl dL_law_1118 ?_
  refine z_aload_n 4 rfl rfl dL_law_1120 ?_
  refine z_aload_n 2 rfl rfl dL_law_1121 ?_
  refine z_iload 1 rfl dL_law_1122 ?_
  refine z_iconst (v := 1) (by decide) dL_law_1124 ?_
  refine z_iadd dL_law_1125 ?_
  refine z_sld hX hbl hbA (by rw [nI_1]; exact vp_in_nI (by omega) (by omega)) dL_law_1126 ?_
  refine z_callVW (rest := []) hl (c_X8_bestDrawer l g b v (ys ((nI i) + 1).toNatClampNeg) _ e8) zyX8_bestDrawer zvX8_bestDrawer rfl zlL_142 zcX8.1 ⟨_, _, rfl⟩ [(13, none)] rfl (by decide) rfl (w' := kX7 g a u ++ [cX8 g b r8.2, [(ao, .inl (g.2.2.2.1, 1, .inr (.inl (zLo o r))))]]) rfl rfl rfl (by decide) (Nat.le_of_ble_eq_true rfl) ⟨by rw [hR1]; omega, by rw [hR2]; omega⟩ dL_law_1127 (st2 := [.int r8.1]) rfl ?_
  refine z_istore [(6, .int r8.1), (5, .int (zLc 0 1 0 r)), (4, .int (nI i)), (0, .ref c), (1, .ref (a 0)), (2, .ref (b 0)), (3, .ref ao)] (Nat.le_of_ble_eq_true rfl) rfl dL_law_1130 ?_
  refine z_aload_n 5 rfl rfl dL_law_1132 ?_
  refine z_callVR (rest := []) hl (c_X8_thrown l g b r8.2 _ rfl) zyX8_thrown zvX8_thrown rfl zlL_80 zcX8.1 ⟨_, _, rfl⟩ [(13, none)] rfl rfl rfl (by decide) (Nat.le_of_ble_eq_true rfl) ⟨by rw [hR1]; omega, by rw [hR2]; omega⟩ dL_law_1133 (st2 := [.int r8.2.1]) rfl ?_
  refine z_iload 1 rfl dL_law_1136 ?_
  refine z_icmp_eq (tgt := 1143) rfl dL_law_1138 (fun _ => ?_) (fun h => absurd ec.symm h)
  refine z_iload 1 rfl dL_law_1143 ?_
  refine z_if_ne (tgt := 1160) rfl dL_law_1145 (fun _ => ?_) (fun h => ?_)
  · skip
    refine z_goto (tgt := 1286) rfl dL_law_1160 ?_
    exact z_lv [2, 3, 4, 5, 6] rfl (hnext u r8.2 (zLo o r) _ _ hR (by omega) (by omega))
  · obtain ⟨x, hx⟩ := hz h
    have hv := ev x hx
    refine z_aload_n 6 rfl rfl dL_law_1148 ?_
    refine z_iconst (v := 0) (by decide) dL_law_1149 ?_
    refine z_laldI 14 rfl 0 rfl zin0 dL_law_1150 ?_
    refine z_iload 0 rfl dL_law_1151 ?_
    refine z_i2l dL_law_1153 ?_
    refine z_lcmp dL_law_1154 ?_
    refine z_if_eq (tgt := 1160) rfl dL_law_1155 (fun _ => ?_) (fun h => absurd (by rw [hx, zLo_at, hv]; exact lg_self _) h)
    refine z_goto (tgt := 1286) rfl dL_law_1160 ?_
    exact z_lv [2, 3, 4, 5, 6] rfl (hnext u r8.2 (zLo o r) _ _ hR (by omega) (by omega))
set_option maxHeartbeats 400000 in
theorem law_ifPicked {X : zX} {g : zG} (l : Launch) (hls : l.stackTraces = false) (hl : xl X = l) (hR1 : (xR X).cells = 601024) (hR2 : (xR X).slots = 7293034) (hE : zEx (xA X) (xs X) (xs X).heap) {c L : Nat} {ys : Nat → Int32} (hL : L ≤ 1536) (hX : va_X c L ys (xs X) (xs X).heap) (hbl : c < (xs X).heap.size) (hbA : ¬ xA X c) {a b : Nat → Nat} {ao : Nat} {R : tX7 → tX8 → Prop} (hop : op_ifPicked R) {i k n : Nat} (hi : i + 2 < L) (hk : k + 1 ≤ 601024) (hn : n + 6 ≤ 7293034) (u : tX7) (v : tX8) (o : Nat → Int64) (hRel : R u v) (hnext : ∀ (u : tX7) (v : tX8) (o : Nat → Int64) (k1 n1 : Nat), R u v → k1 ≤ k + 1 → n1 ≤ n + 6 → Z true RL cL_law 9 13 510 g X k1 n1 (kX7 g a u ++ [cX8 g b v, [(ao, .inl (g.2.2.2.1, 1, .inr (.inl o)))]]) [(4, .int (nI i)), (0, .ref c), (1, .ref (a 0)), (2, .ref (b 0)), (3, .ref ao)] 1286 []) : Z true RL cL_law 9 13 510 g X k n (kX7 g a u ++ [cX8 g b v, [(ao, .inl (g.2.2.2.1, 1, .inr (.inl o)))]]) [(4, .int (nI i)), (0, .ref c), (1, .ref (a 0)), (2, .ref (b 0)), (3, .ref ao)] 1163 [] := by
  refine z_aload_n 2 rfl rfl dL_law_1163 ?_
  refine z_aload_n 1 rfl rfl dL_law_1164 ?_
  refine z_iload 0 rfl dL_law_1165 ?_
  refine z_iconst (v := 1) (by decide) dL_law_1167 ?_
  refine z_iadd dL_law_1168 ?_
  refine z_sld hX hbl hbA (by rw [nI_1]; exact vp_in_nI (by omega) (by omega)) dL_law_1169 ?_
  refine z_aload_n 1 rfl rfl dL_law_1170 ?_
  refine z_iload 0 rfl dL_law_1171 ?_
  refine z_iconst (v := 2) (by decide) dL_law_1173 ?_
  refine z_iadd dL_law_1174 ?_
  refine z_sld hX hbl hbA (by rw [nI_2]; exact vp_in_nI (by omega) (by omega)) dL_law_1175 ?_
  refine z_aload_n 4 rfl rfl dL_law_1176 ?_
  obtain ⟨r, r8, e7, e8, ec, ev, hR⟩ := hop u v hRel (ys ((nI i) + 1).toNatClampNeg) (ys ((nI i) + 2).toNatClampNeg)
  have hz : zLc 0 1 0 r.1 = 0 → ∃ x, r.1 = .inl x := by
    intro hz
    generalize hg : r.1 = y at hz
    rcases y with x | (_ | _ | x)
    · exact ⟨x, rfl⟩
    · have hx := ex_X7_ifPicked u (ys ((nI i) + 1).toNatClampNeg) (ys ((nI i) + 2).toNatClampNeg) r e7 0 hg
      dsimp only at hx
      omega
    · exact absurd hz (by decide)
    · have hx := ex_X7_ifPicked u (ys ((nI i) + 1).toNatClampNeg) (ys ((nI i) + 2).toNatClampNeg) r e7 (x + 1 + 1) hg
      dsimp only at hx
      omega
  refine z_callH (rest := []) zEx_st hE hl (c_L_ifPicked l hls g a u ao o (ys ((nI i) + 1).toNatClampNeg) (ys ((nI i) + 2).toNatClampNeg) r e7) zyHL_ifPicked zsL_ifPicked zlL_143 [(0, none), (1, none), (2, none), (3, none), (4, none), (5, none), (6, none), (7, none), (8, none), (9, none), (10, none), (11, none), (12, none), (14, none)] rfl rfl rfl (w' := kX7 g a r.2 ++ [cX8 g b v, [(ao, .inl (g.2.2.2.1, 1, .inr (.inl (zLo o r.1))))]]) rfl rfl rfl (by decide) (Nat.le_of_ble_eq_true rfl) ⟨by rw [hR1]; omega, by rw [hR2]; omega⟩ dL_law_1177 (st2 := [.int (zLc 0 1 0 r.1)]) rfl ?_
  refine z_istore [(5, .int (zLc 0 1 0 r.1)), (4, .int (nI i)), (0, .ref c), (1, .ref (a 0)), (2, .ref (b 0)), (3, .ref ao)] (Nat.le_of_ble_eq_true rfl) rfl dL_law_1180 ?_
  refine z_aload_n 4 rfl rfl dL_law_1182 ?_
  refine z_aload_n 2 rfl rfl dL_law_1183 ?_
  refine z_iload 1 rfl dL_law_1184 ?_
  refine z_iconst (v := 1) (by decide) dL_law_1186 ?_
  refine z_iadd dL_law_1187 ?_
  refine z_sld hX hbl hbA (by rw [nI_1]; exact vp_in_nI (by omega) (by omega)) dL_law_1188 ?_
  refine z_aload_n 2 rfl rfl dL_law_1189 ?_
  refine z_iload 1 rfl dL_law_1190 ?_
  refine z_iconst (v := 2) (by decide) dL_law_1192 ?_
  refine z_iadd dL_law_1193 ?_
  refine z_sld hX hbl hbA (by rw [nI_2]; exact vp_in_nI (by omega) (by omega)) dL_law_1194 ?_
  refine z_callVW (rest := []) hl (c_X8_ifPicked l g b v (ys ((nI i) + 1).toNatClampNeg) (ys ((nI i) + 2).toNatClampNeg) _ e8) zyX8_ifPicked zvX8_ifPicked rfl zlL_145 zcX8.1 ⟨_, _, rfl⟩ [(13, none)] rfl (by decide) rfl (w' := kX7 g a r.2 ++ [cX8 g b r8.2, [(ao, .inl (g.2.2.2.1, 1, .inr (.inl (zLo o r.1))))]]) rfl rfl rfl (by decide) (Nat.le_of_ble_eq_true rfl) ⟨by rw [hR1]; omega, by rw [hR2]; omega⟩ dL_law_1195 (st2 := [.int r8.1]) rfl ?_
  refine z_istore [(6, .int r8.1), (5, .int (zLc 0 1 0 r.1)), (4, .int (nI i)), (0, .ref c), (1, .ref (a 0)), (2, .ref (b 0)), (3, .ref ao)] (Nat.le_of_ble_eq_true rfl) rfl dL_law_1198 ?_
  refine z_aload_n 5 rfl rfl dL_law_1200 ?_
  refine z_callVR (rest := []) hl (c_X8_thrown l g b r8.2 _ rfl) zyX8_thrown zvX8_thrown rfl zlL_80 zcX8.1 ⟨_, _, rfl⟩ [(13, none)] rfl rfl rfl (by decide) (Nat.le_of_ble_eq_true rfl) ⟨by rw [hR1]; omega, by rw [hR2]; omega⟩ dL_law_1201 (st2 := [.int r8.2.1]) rfl ?_
  refine z_iload 1 rfl dL_law_1204 ?_
  refine z_icmp_eq (tgt := 1211) rfl dL_law_1206 (fun _ => ?_) (fun h => absurd ec.symm h)
  refine z_iload 1 rfl dL_law_1211 ?_
  refine z_if_ne (tgt := 1228) rfl dL_law_1213 (fun _ => ?_) (fun h => ?_)
  · skip
    refine z_goto (tgt := 1286) rfl dL_law_1228 ?_
    exact z_lv [2, 3, 4, 5, 6] rfl (hnext r.2 r8.2 (zLo o r.1) _ _ hR (by omega) (by omega))
  · obtain ⟨x, hx⟩ := hz h
    have hv := ev x hx
    refine z_aload_n 6 rfl rfl dL_law_1216 ?_
    refine z_iconst (v := 0) (by decide) dL_law_1217 ?_
    refine z_laldI 14 rfl 0 rfl zin0 dL_law_1218 ?_
    refine z_iload 0 rfl dL_law_1219 ?_
    refine z_i2l dL_law_1221 ?_
    refine z_lcmp dL_law_1222 ?_
    refine z_if_eq (tgt := 1228) rfl dL_law_1223 (fun _ => ?_) (fun h => absurd (by rw [hx, zLo_at, hv]; exact lg_self _) h)
    refine z_goto (tgt := 1286) rfl dL_law_1228 ?_
    exact z_lv [2, 3, 4, 5, 6] rfl (hnext r.2 r8.2 (zLo o r.1) _ _ hR (by omega) (by omega))
set_option maxHeartbeats 400000 in
theorem law_evenness {X : zX} {g : zG} (l : Launch) (hls : l.stackTraces = false) (hl : xl X = l) (hR1 : (xR X).cells = 601024) (hR2 : (xR X).slots = 7293034) (hE : zEx (xA X) (xs X) (xs X).heap) {c L : Nat} {ys : Nat → Int32} (hL : L ≤ 1536) (hX : va_X c L ys (xs X) (xs X).heap) (hbl : c < (xs X).heap.size) (hbA : ¬ xA X c) {a b : Nat → Nat} {ao : Nat} {R : tX7 → tX8 → Prop} (hop : op_evenness R) {i k n : Nat} (hi : i + 2 < L) (hk : k + 1 ≤ 601024) (hn : n + 6 ≤ 7293034) (u : tX7) (v : tX8) (o : Nat → Int64) (hRel : R u v) (hnext : ∀ (u : tX7) (v : tX8) (o : Nat → Int64) (k1 n1 : Nat), R u v → k1 ≤ k + 1 → n1 ≤ n + 6 → Z true RL cL_law 9 13 510 g X k1 n1 (kX7 g a u ++ [cX8 g b v, [(ao, .inl (g.2.2.2.1, 1, .inr (.inl o)))]]) [(4, .int (nI i)), (0, .ref c), (1, .ref (a 0)), (2, .ref (b 0)), (3, .ref ao)] 1286 []) : Z true RL cL_law 9 13 510 g X k n (kX7 g a u ++ [cX8 g b v, [(ao, .inl (g.2.2.2.1, 1, .inr (.inl o)))]]) [(4, .int (nI i)), (0, .ref c), (1, .ref (a 0)), (2, .ref (b 0)), (3, .ref ao)] 1231 [] := by
  refine z_aload_n 2 rfl rfl dL_law_1231 ?_
  obtain ⟨r, r8, e7, e8, ev, hR⟩ := hop u v hRel
  refine z_callVR (rest := []) hl (c_X7_evenness l g a u _ e7) zyX7_evenness zvX7_evenness rfl zlL_146 zcX7.1 ⟨_, _, rfl⟩ [(0, none), (1, none), (2, none), (3, none), (4, none), (5, none), (6, none), (7, none), (8, none), (9, none), (10, none), (11, none), (12, none)] rfl rfl rfl (by decide) (Nat.le_of_ble_eq_true rfl) ⟨by rw [hR1]; omega, by rw [hR2]; omega⟩ dL_law_1232 (st2 := [.double r]) rfl ?_
  refine z_dstore [(5, .double r), (4, .int (nI i)), (0, .ref c), (1, .ref (a 0)), (2, .ref (b 0)), (3, .ref ao)] (Nat.le_of_ble_eq_true rfl) rfl dL_law_1235 ?_
  refine z_aload_n 4 rfl rfl dL_law_1237 ?_
  refine z_callVW (rest := []) hl (c_X8_evenness l g b v _ e8) zyX8_evenness zvX8_evenness rfl zlL_150 zcX8.1 ⟨_, _, rfl⟩ [(13, none)] rfl (by decide) rfl (w' := kX7 g a u ++ [cX8 g b r8.2, [(ao, .inl (g.2.2.2.1, 1, .inr (.inl o)))]]) rfl rfl rfl (by decide) (Nat.le_of_ble_eq_true rfl) ⟨by rw [hR1]; omega, by rw [hR2]; omega⟩ dL_law_1238 (st2 := [.double r8.1]) rfl ?_
  refine z_dstore [(7, .double r8.1), (5, .double r), (4, .int (nI i)), (0, .ref c), (1, .ref (a 0)), (2, .ref (b 0)), (3, .ref ao)] (Nat.le_of_ble_eq_true rfl) rfl dL_law_1241 ?_
  refine z_dload 1 rfl dL_law_1243 ?_
  refine z_dload 0 rfl dL_law_1245 ?_
  refine z_dcmp dL_law_1247 ?_
  refine z_if_eq (tgt := 1269) rfl dL_law_1248 (fun hd => ?_) (fun hd => ?_)
  · skip
    refine z_goto (tgt := 1286) rfl dL_law_1269 ?_
    exact z_lv [2, 3, 4, 5, 6] rfl (hnext u r8.2 o _ _ hR (by omega) (by omega))
  · skip
    refine z_dload 1 rfl dL_law_1251 ?_
    refine z_dload 1 rfl dL_law_1253 ?_
    refine z_dcmp dL_law_1255 ?_
    refine z_if_eq (tgt := 1267) rfl dL_law_1256 (fun h => absurd (by rw [← ev]; exact h) hd) (fun _ => ?_)
    refine z_dload 0 rfl dL_law_1259 ?_
    refine z_dload 0 rfl dL_law_1261 ?_
    refine z_dcmp dL_law_1263 ?_
    refine z_if_ne (tgt := 1269) rfl dL_law_1264 (fun _ => ?_) (fun h => absurd (by rw [ev]; exact h) hd)
    refine z_goto (tgt := 1286) rfl dL_law_1269 ?_
    exact z_lv [2, 3, 4, 5, 6] rfl (hnext u r8.2 o _ _ hR (by omega) (by omega))
set_option maxHeartbeats 400000 in
theorem law_digest {X : zX} {g : zG} (l : Launch) (hls : l.stackTraces = false) (hl : xl X = l) (hR1 : (xR X).cells = 601024) (hR2 : (xR X).slots = 7293034) (hE : zEx (xA X) (xs X) (xs X).heap) {c L : Nat} {ys : Nat → Int32} (hL : L ≤ 1536) (hX : va_X c L ys (xs X) (xs X).heap) (hbl : c < (xs X).heap.size) (hbA : ¬ xA X c) {a b : Nat → Nat} {ao : Nat} {R : tX7 → tX8 → Prop} (hop : op_digest R) {i k n : Nat} (hi : i + 2 < L) (hk : k + 1 ≤ 601024) (hn : n + 6 ≤ 7293034) (u : tX7) (v : tX8) (o : Nat → Int64) (hRel : R u v) (hnext : ∀ (u : tX7) (v : tX8) (o : Nat → Int64) (k1 n1 : Nat), R u v → k1 ≤ k + 1 → n1 ≤ n + 6 → Z true RL cL_law 9 13 510 g X k1 n1 (kX7 g a u ++ [cX8 g b v, [(ao, .inl (g.2.2.2.1, 1, .inr (.inl o)))]]) [(4, .int (nI i)), (0, .ref c), (1, .ref (a 0)), (2, .ref (b 0)), (3, .ref ao)] 1286 []) : Z true RL cL_law 9 13 510 g X k n (kX7 g a u ++ [cX8 g b v, [(ao, .inl (g.2.2.2.1, 1, .inr (.inl o)))]]) [(4, .int (nI i)), (0, .ref c), (1, .ref (a 0)), (2, .ref (b 0)), (3, .ref ao)] 1272 [] := by
  refine z_aload_n 2 rfl rfl dL_law_1272 ?_
  obtain ⟨r, r8, e7, e8, ev, hR⟩ := hop u v hRel
  refine z_callVW (rest := []) hl (c_X7_digest l g a u _ e7) zyX7_digest zvX7_digest rfl zlL_151 zcX7.1 ⟨_, _, rfl⟩ [(0, none), (1, none), (2, none), (3, none), (4, none), (5, none), (6, none), (7, none), (8, none), (9, none), (10, none), (11, none), (12, none)] rfl (by decide) rfl (w' := kX7 g a r.2 ++ [cX8 g b v, [(ao, .inl (g.2.2.2.1, 1, .inr (.inl o)))]]) rfl rfl rfl (by decide) (Nat.le_of_ble_eq_true rfl) ⟨by rw [hR1]; omega, by rw [hR2]; omega⟩ dL_law_1273 (st2 := [.long r.1]) rfl ?_
  refine z_aload_n 3 rfl rfl dL_law_1276 ?_
  refine z_callVW (rest := [.long r.1]) hl (c_X8_digest l g b v _ e8) zyX8_digest zvX8_digest rfl zlL_155 zcX8.1 ⟨_, _, rfl⟩ [(13, none)] rfl (by decide) rfl (w' := kX7 g a r.2 ++ [cX8 g b r8.2, [(ao, .inl (g.2.2.2.1, 1, .inr (.inl o)))]]) rfl rfl rfl (by decide) (Nat.le_of_ble_eq_true rfl) ⟨by rw [hR1]; omega, by rw [hR2]; omega⟩ dL_law_1277 (st2 := [.long r8.1, .long r.1]) rfl ?_
  refine z_lcmp dL_law_1280 ?_
  refine z_if_eq (tgt := 1286) rfl dL_law_1281 (fun _ => ?_) (fun h => absurd (by rw [ev]; exact lg_self _) h)
  exact z_lv [0, 1, 2, 3, 4] rfl (hnext r.2 r8.2 o _ _ hR (by omega) (by omega))
set_option maxHeartbeats 1000000 in
theorem law_loop {X : zX} {g : zG} (l : Launch) (hls : l.stackTraces = false) (hl : xl X = l) (hR1 : (xR X).cells = 601024) (hR2 : (xR X).slots = 7293034) (hE : zEx (xA X) (xs X) (xs X).heap) {c L : Nat} {ys : Nat → Int32} (hL : L ≤ 1536) (hX : va_X c L ys (xs X) (xs X).heap) (hbl : c < (xs X).heap.size) (hbA : ¬ xA X c) {a b : Nat → Nat} {ao : Nat} {R : tX7 → tX8 → Prop} (hops : zOps R) (hend : ∀ (k n : Nat) (w : List va_W) (lv : List (Nat × Value)), k ≤ 601024 → n ≤ 7293034 → Z true RL cL_law 9 13 510 g X k n w lv 1293 [.int 1]) : ∀ (m i k n : Nat) (u : tX7) (v : tX8) (o : Nat → Int64), L < i + 3 * m + 3 → i ≤ 3000 → k + m ≤ 601024 → n + 6 * m ≤ 7293034 → R u v → Z true RL cL_law 9 13 510 g X k n (kX7 g a u ++ [cX8 g b v, [(ao, .inl (g.2.2.2.1, 1, .inr (.inl o)))]]) [(4, .int (nI i)), (0, .ref c), (1, .ref (a 0)), (2, .ref (b 0)), (3, .ref ao)] 23 [] := by
  obtain ⟨hput, hmove, hpick, hturn, hjam, hset, happend, hclearBuffer, hfirstError, hpickAll, hundo, hdrawer, hitem, hcount, hsetting, hrefusal, hway, hifPut, hbestDrawer, hifPicked, hevenness, hdigest⟩ := hops
  intro m
  induction m with
  | zero =>
    intro i k n u v o h1 h2 h3 h4 hRel
    refine z_iload 0 rfl dL_law_23 ?_
    refine z_aload_n 1 rfl rfl dL_law_25 ?_
    refine z_slen hX hbl hbA dL_law_26 ?_
    refine z_iconst (v := 3) (by decide) dL_law_27 ?_
    refine z_isub dL_law_28 ?_
    refine z_icmp_gt (tgt := 1292) rfl dL_law_29 (fun _ => ?_) (fun h => absurd ((law_lt hL (by omega)).mpr (by omega)) h)
    refine z_iconst (v := 1) (by decide) dL_law_1292 ?_
    exact hend _ _ _ _ (by omega) (by omega)
  | succ m ih =>
    intro i k n u v o h1 h2 h3 h4 hRel
    refine z_iload 0 rfl dL_law_23 ?_
    refine z_aload_n 1 rfl rfl dL_law_25 ?_
    refine z_slen hX hbl hbA dL_law_26 ?_
    refine z_iconst (v := 3) (by decide) dL_law_27 ?_
    refine z_isub dL_law_28 ?_
    refine z_icmp_gt (tgt := 1292) rfl dL_law_29 (fun _ => ?_) (fun h => ?_)
    · refine z_iconst (v := 1) (by decide) dL_law_1292 ?_
      exact hend _ _ _ _ (by omega) (by omega)
    · have hi : i + 2 < L := by
        have h9 : ¬ L < i + 3 := fun z => h ((law_lt hL (by omega)).mpr z)
        omega
      have hnext : ∀ (u : tX7) (v : tX8) (o : Nat → Int64) (k1 n1 : Nat), R u v → k1 ≤ k + 1 → n1 ≤ n + 6 → Z true RL cL_law 9 13 510 g X k1 n1 (kX7 g a u ++ [cX8 g b v, [(ao, .inl (g.2.2.2.1, 1, .inr (.inl o)))]]) [(4, .int (nI i)), (0, .ref c), (1, .ref (a 0)), (2, .ref (b 0)), (3, .ref ao)] 1286 [] := by
        intro u v o k1 n1 hR hk1 hn1
        refine z_iinc 0 [(4, .int (nI (i + 3))), (0, .ref c), (1, .ref (a 0)), (2, .ref (b 0)), (3, .ref ao)] rfl (nI_3 i) (Nat.le_of_ble_eq_true rfl) rfl dL_law_1286 ?_
        refine z_goto (tgt := 23) rfl dL_law_1289 ?_
        exact ih (i + 3) k1 n1 u v o (by omega) (by omega) (by omega) (by omega) hR
      refine z_aload_n 1 rfl rfl dL_law_32 ?_
      refine z_iload 0 rfl dL_law_33 ?_
      refine z_sld hX hbl hbA (vp_in_nI (by omega) (by omega)) dL_law_35 ?_
      refine z_bipush (v := 31) (by decide) dL_law_36 ?_
      refine z_iand dL_law_38 ?_
      generalize ys (nI i).toNatClampNeg &&& 31 = x
      by_cases c0 : x = (0 : Int32)
      · refine z_tabIn (tgt := 140) (off := 101) (by rw [c0]; decide) (by rw [c0]; decide) (by rw [c0]; rfl) rfl dL_law_39 ?_
        exact law_put l hls hl hR1 hR2 hE hL hX hbl hbA hput hi (by omega) (by omega) u v o hRel hnext
      by_cases c1 : x = (1 : Int32)
      · refine z_tabIn (tgt := 208) (off := 169) (by rw [c1]; decide) (by rw [c1]; decide) (by rw [c1]; rfl) rfl dL_law_39 ?_
        exact law_move l hls hl hR1 hR2 hE hL hX hbl hbA hmove hi (by omega) (by omega) u v o hRel hnext
      by_cases c2 : x = (2 : Int32)
      · refine z_tabIn (tgt := 276) (off := 237) (by rw [c2]; decide) (by rw [c2]; decide) (by rw [c2]; rfl) rfl dL_law_39 ?_
        exact law_pick l hls hl hR1 hR2 hE hL hX hbl hbA hpick hi (by omega) (by omega) u v o hRel hnext
      by_cases c3 : x = (3 : Int32)
      · refine z_tabIn (tgt := 332) (off := 293) (by rw [c3]; decide) (by rw [c3]; decide) (by rw [c3]; rfl) rfl dL_law_39 ?_
        exact law_turn l hls hl hR1 hR2 hE hL hX hbl hbA hturn hi (by omega) (by omega) u v o hRel hnext
      by_cases c4 : x = (4 : Int32)
      · refine z_tabIn (tgt := 388) (off := 349) (by rw [c4]; decide) (by rw [c4]; decide) (by rw [c4]; rfl) rfl dL_law_39 ?_
        exact law_jam l hls hl hR1 hR2 hE hL hX hbl hbA hjam hi (by omega) (by omega) u v o hRel hnext
      by_cases c5 : x = (5 : Int32)
      · refine z_tabIn (tgt := 472) (off := 433) (by rw [c5]; decide) (by rw [c5]; decide) (by rw [c5]; rfl) rfl dL_law_39 ?_
        exact law_set l hls hl hR1 hR2 hE hL hX hbl hbA hset hi (by omega) (by omega) u v o hRel hnext
      by_cases c6 : x = (6 : Int32)
      · refine z_tabIn (tgt := 540) (off := 501) (by rw [c6]; decide) (by rw [c6]; decide) (by rw [c6]; rfl) rfl dL_law_39 ?_
        exact law_append l hls hl hR1 hR2 hE hL hX hbl hbA happend hi (by omega) (by omega) u v o hRel hnext
      by_cases c7 : x = (7 : Int32)
      · refine z_tabIn (tgt := 596) (off := 557) (by rw [c7]; decide) (by rw [c7]; decide) (by rw [c7]; rfl) rfl dL_law_39 ?_
        exact law_clearBuffer l hls hl hR1 hR2 hE hL hX hbl hbA hclearBuffer hi (by omega) (by omega) u v o hRel hnext
      by_cases c8 : x = (8 : Int32)
      · refine z_tabIn (tgt := 609) (off := 570) (by rw [c8]; decide) (by rw [c8]; decide) (by rw [c8]; rfl) rfl dL_law_39 ?_
        exact law_firstError l hls hl hR1 hR2 hE hL hX hbl hbA hfirstError hi (by omega) (by omega) u v o hRel hnext
      by_cases c9 : x = (9 : Int32)
      · refine z_tabIn (tgt := 622) (off := 583) (by rw [c9]; decide) (by rw [c9]; decide) (by rw [c9]; rfl) rfl dL_law_39 ?_
        exact law_pickAll l hls hl hR1 hR2 hE hL hX hbl hbA hpickAll hi (by omega) (by omega) u v o hRel hnext
      by_cases c10 : x = (10 : Int32)
      · refine z_tabIn (tgt := 666) (off := 627) (by rw [c10]; decide) (by rw [c10]; decide) (by rw [c10]; rfl) rfl dL_law_39 ?_
        exact law_undo l hls hl hR1 hR2 hE hL hX hbl hbA hundo hi (by omega) (by omega) u v o hRel hnext
      by_cases c11 : x = (11 : Int32)
      · refine z_tabIn (tgt := 710) (off := 671) (by rw [c11]; decide) (by rw [c11]; decide) (by rw [c11]; rfl) rfl dL_law_39 ?_
        exact law_drawer l hls hl hR1 hR2 hE hL hX hbl hbA hdrawer hi (by omega) (by omega) u v o hRel hnext
      by_cases c12 : x = (12 : Int32)
      · refine z_tabIn (tgt := 778) (off := 739) (by rw [c12]; decide) (by rw [c12]; decide) (by rw [c12]; rfl) rfl dL_law_39 ?_
        exact law_item l hls hl hR1 hR2 hE hL hX hbl hbA hitem hi (by omega) (by omega) u v o hRel hnext
      by_cases c13 : x = (13 : Int32)
      · refine z_tabIn (tgt := 846) (off := 807) (by rw [c13]; decide) (by rw [c13]; decide) (by rw [c13]; rfl) rfl dL_law_39 ?_
        exact law_count l hls hl hR1 hR2 hE hL hX hbl hbA hcount hi (by omega) (by omega) u v o hRel hnext
      by_cases c14 : x = (14 : Int32)
      · refine z_tabIn (tgt := 902) (off := 863) (by rw [c14]; decide) (by rw [c14]; decide) (by rw [c14]; rfl) rfl dL_law_39 ?_
        exact law_setting l hls hl hR1 hR2 hE hL hX hbl hbA hsetting hi (by omega) (by omega) u v o hRel hnext
      by_cases c15 : x = (15 : Int32)
      · refine z_tabIn (tgt := 958) (off := 919) (by rw [c15]; decide) (by rw [c15]; decide) (by rw [c15]; rfl) rfl dL_law_39 ?_
        exact law_refusal l hls hl hR1 hR2 hE hL hX hbl hbA hrefusal hi (by omega) (by omega) u v o hRel hnext
      by_cases c16 : x = (16 : Int32)
      · refine z_tabIn (tgt := 983) (off := 944) (by rw [c16]; decide) (by rw [c16]; decide) (by rw [c16]; rfl) rfl dL_law_39 ?_
        exact law_way l hls hl hR1 hR2 hE hL hX hbl hbA hway hi (by omega) (by omega) u v o hRel hnext
      by_cases c17 : x = (17 : Int32)
      · refine z_tabIn (tgt := 1039) (off := 1000) (by rw [c17]; decide) (by rw [c17]; decide) (by rw [c17]; rfl) rfl dL_law_39 ?_
        exact law_ifPut l hls hl hR1 hR2 hE hL hX hbl hbA hifPut hi (by omega) (by omega) u v o hRel hnext
      by_cases c18 : x = (18 : Int32)
      · refine z_tabIn (tgt := 1107) (off := 1068) (by rw [c18]; decide) (by rw [c18]; decide) (by rw [c18]; rfl) rfl dL_law_39 ?_
        exact law_bestDrawer l hls hl hR1 hR2 hE hL hX hbl hbA hbestDrawer hi (by omega) (by omega) u v o hRel hnext
      by_cases c19 : x = (19 : Int32)
      · refine z_tabIn (tgt := 1163) (off := 1124) (by rw [c19]; decide) (by rw [c19]; decide) (by rw [c19]; rfl) rfl dL_law_39 ?_
        exact law_ifPicked l hls hl hR1 hR2 hE hL hX hbl hbA hifPicked hi (by omega) (by omega) u v o hRel hnext
      by_cases c20 : x = (20 : Int32)
      · refine z_tabIn (tgt := 1231) (off := 1192) (by rw [c20]; decide) (by rw [c20]; decide) (by rw [c20]; rfl) rfl dL_law_39 ?_
        exact law_evenness l hls hl hR1 hR2 hE hL hX hbl hbA hevenness hi (by omega) (by omega) u v o hRel hnext
      by_cases c21 : x = (21 : Int32)
      · refine z_tabIn (tgt := 1272) (off := 1233) (by rw [c21]; decide) (by rw [c21]; decide) (by rw [c21]; rfl) rfl dL_law_39 ?_
        exact law_digest l hls hl hR1 hR2 hE hL hX hbl hbA hdigest hi (by omega) (by omega) u v o hRel hnext
      have n0 := lv_neT c0 (a := 0) rfl
      have n1 := lv_neT c1 (a := 1) rfl
      have n2 := lv_neT c2 (a := 2) rfl
      have n3 := lv_neT c3 (a := 3) rfl
      have n4 := lv_neT c4 (a := 4) rfl
      have n5 := lv_neT c5 (a := 5) rfl
      have n6 := lv_neT c6 (a := 6) rfl
      have n7 := lv_neT c7 (a := 7) rfl
      have n8 := lv_neT c8 (a := 8) rfl
      have n9 := lv_neT c9 (a := 9) rfl
      have n10 := lv_neT c10 (a := 10) rfl
      have n11 := lv_neT c11 (a := 11) rfl
      have n12 := lv_neT c12 (a := 12) rfl
      have n13 := lv_neT c13 (a := 13) rfl
      have n14 := lv_neT c14 (a := 14) rfl
      have n15 := lv_neT c15 (a := 15) rfl
      have n16 := lv_neT c16 (a := 16) rfl
      have n17 := lv_neT c17 (a := 17) rfl
      have n18 := lv_neT c18 (a := 18) rfl
      have n19 := lv_neT c19 (a := 19) rfl
      have n20 := lv_neT c20 (a := 20) rfl
      have n21 := lv_neT c21 (a := 21) rfl
      refine z_tabOut (tgt := 1286) (by omega) rfl dL_law_39 ?_
      exact hnext u v o k n hRel (by omega) (by omega)
