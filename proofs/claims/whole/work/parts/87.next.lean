/-! order: the next row, both in step -/
def xch (f : Nat → Int32) (a b : Nat) : Nat → Int32 := upd (upd f a (f b)) b (f a)
theorem xch_cg {f g : Nat → Int32} {a b R : Nat} (h : ∀ j, j < R → f j = g j) (ha : a < R) (hb : b < R) : ∀ j, j < R → xch f a b j = xch g a b j := by
  intro j hj
  simp only [xch, upd]
  rw [h a ha, h b hb, h j hj]
theorem c_xch {σ : sw_M} {f : Nat → Int32} {a b : Nat} (ha : a < 6) (hb : b < 6) : fX3_exchange (sw_wA σ 38 f) (nI a) (nI b) = some (sw_wA σ 38 (xch f a b)) := by
  unfold fX3_exchange
  rw [sw_gd_t (in_t ha (by decide)), let_s, sw_gd_t (in_t hb (by decide)), sw_gd_t (in_t ha (by decide)), let_s, sw_gd_t (in_t hb (by decide)), let_s, nI_clamp (by omega), nI_clamp (by omega), m_eq, m_ww, m_ww]
  rfl
theorem e_xch {σ : sw_M} {f : Nat → Int32} {a b : Nat} (ha : a < 6) (hb : b < 6) : fX10_swap (sw_wA σ 70 f) (nI a) (nI b) = some (sw_wA σ 70 (xch f a b)) := by
  unfold fX10_swap
  rw [sw_gd_t (in_t ha (by decide)), let_s, sw_gd_t (in_t hb (by decide)), sw_gd_t (in_t ha (by decide)), let_s, sw_gd_t (in_t hb (by decide)), let_s, nI_clamp (by omega), nI_clamp (by omega), m_eq, m_ww, m_ww]
  rfl
theorem o_rev {σ τ : sw_M} {f g : Nat → Int32} {a b R : Nat} (hR : R ≤ 6) (ha : a ≤ 6) (hb : b < R) (h : ∀ j, j < R → f j = g j) : ∃ x y, sw_wh sw_F (fun s : Int32 × Int32 × sw_M => fX3_toNextOrder_L83 s.2.2 s.1 s.2.1) (nI a, nI b, sw_wA σ 38 f) = some x ∧ sw_wh sw_F (fun s : Int32 × Int32 × sw_M => fX10_nextRow_L86 s.2.2 s.1 s.2.1) (nI a, nI b, sw_wA τ 70 g) = some y ∧ ∃ r f' g', x = (r, sw_wA σ 38 f') ∧ y = (r, sw_wA τ 70 g') ∧ ∀ j, j < R → f' j = g' j := by
  refine wh_rel (b := fun s : Int32 × Int32 × sw_M => fX3_toNextOrder_L83 s.2.2 s.1 s.2.1) (c := fun s : Int32 × Int32 × sw_M => fX10_nextRow_L86 s.2.2 s.1 s.2.1) (fun k s t => ∃ b' f' g', b' + k = b ∧ s = (nI (a + k), nI b', sw_wA σ 38 f') ∧ t = (nI (a + k), nI b', sw_wA τ 70 g') ∧ ∀ j, j < R → f' j = g' j) (fun x y => ∃ r f' g', x = (r, sw_wA σ 38 f') ∧ y = (r, sw_wA τ 70 g') ∧ ∀ j, j < R → f' j = g' j) b (fun k s t hk hI => ?_) ⟨b, f, g, rfl, rfl, rfl, h⟩ (by omega)
  obtain ⟨b', f', g', e1, rfl, rfl, h'⟩ := hI
  show (∃ s' t', fX3_toNextOrder_L83 (sw_wA σ 38 f') (nI (a + k)) (nI b') = some (.inl s') ∧ fX10_nextRow_L86 (sw_wA τ 70 g') (nI (a + k)) (nI b') = some (.inl t') ∧ (∃ b2 f2 g2, b2 + (k + 1) = b ∧ s' = (nI (a + (k + 1)), nI b2, sw_wA σ 38 f2) ∧ t' = (nI (a + (k + 1)), nI b2, sw_wA τ 70 g2) ∧ ∀ j, j < R → f2 j = g2 j) ∧ k < b) ∨ (∃ x y, fX3_toNextOrder_L83 (sw_wA σ 38 f') (nI (a + k)) (nI b') = some (.inr x) ∧ fX10_nextRow_L86 (sw_wA τ 70 g') (nI (a + k)) (nI b') = some (.inr y) ∧ ∃ r f' g', x = (r, sw_wA σ 38 f') ∧ y = (r, sw_wA τ 70 g') ∧ ∀ j, j < R → f' j = g' j)
  unfold fX3_toNextOrder_L83 fX10_nextRow_L86
  by_cases hle : b' ≤ a + k
  · rw [if_pos (nI_le hle (by omega)), if_pos (nI_le hle (by omega))]
    exact .inr ⟨_, _, rfl, rfl, 1, f', g', rfl, rfl, h'⟩
  · obtain ⟨c, rfl⟩ : ∃ c, b' = c + 1 := ⟨b' - 1, by omega⟩
    rw [if_neg (nI_ge (by omega) (by omega)), if_neg (nI_ge (by omega) (by omega)), c_xch (by omega) (by omega), e_xch (by omega) (by omega), b1_s, b1_s, let_s, let_s, let_s, let_s, nI_1, pk_m1]
    exact .inl ⟨_, _, rfl, rfl, ⟨c, _, _, by omega, rfl, rfl, xch_cg h' (by omega) (by omega)⟩, by omega⟩
theorem o_right {σ τ : sw_M} {f g : Nat → Int32} {R l : Nat} (hR : R ≤ 6) (hRm : τ.1 49 43 = nI R) (hl : l + 1 < R) (hle : f l ≤ f (l + 1)) (h : ∀ j, j < R → f j = g j) : ∃ x y, fX3_toNextOrder_L31 (sw_wA σ 38 f) (nI R) (nI l) = some x ∧ fX10_nextRow_L34 (sw_wA τ 70 g) (nI l) = some y ∧ ∃ r f' g', x = (r, sw_wA σ 38 f') ∧ y = (r, sw_wA τ 70 g') ∧ ∀ j, j < R → f' j = g' j := by
  have e49 : (sw_wA τ 70 g).1 49 43 = nI R := by rw [m_ne (by decide)]; exact hRm
  obtain ⟨Q, hQ⟩ : ∃ Q, R = Q + 1 := ⟨R - 1, by omega⟩
  subst hQ
  unfold fX3_toNextOrder_L31 fX10_nextRow_L34
  rw [if_pos (nI_pos' (by omega)), if_pos (nI_pos' (by omega)), let_s, let_s, e49, nI_pred]
  refine wh_rel (b := fun s : Int32 => fX3_toNextOrder_L41 (sw_wA σ 38 f) (nI (Q + 1)) (nI l) s) (c := fun s : Int32 => fX10_nextRow_L47 (sw_wA τ 70 g) (nI l) s) (fun k s t => ∃ j, l + 1 ≤ j ∧ j + k = Q ∧ s = nI j ∧ t = nI j) (fun x y => ∃ r f' g', x = (r, sw_wA σ 38 f') ∧ y = (r, sw_wA τ 70 g') ∧ ∀ j, j < Q + 1 → f' j = g' j) Q (fun k s t hk hI => ?_) ⟨Q, by omega, rfl, rfl, rfl⟩ (by omega)
  obtain ⟨j, hj, e1, rfl, rfl⟩ := hI
  show (∃ s' t', fX3_toNextOrder_L41 (sw_wA σ 38 f) (nI (Q + 1)) (nI l) (nI j) = some (.inl s') ∧ fX10_nextRow_L47 (sw_wA τ 70 g) (nI l) (nI j) = some (.inl t') ∧ (∃ j2, l + 1 ≤ j2 ∧ j2 + (k + 1) = Q ∧ s' = nI j2 ∧ t' = nI j2) ∧ k < Q) ∨ (∃ x y, fX3_toNextOrder_L41 (sw_wA σ 38 f) (nI (Q + 1)) (nI l) (nI j) = some (.inr x) ∧ fX10_nextRow_L47 (sw_wA τ 70 g) (nI l) (nI j) = some (.inr y) ∧ ∃ r f' g', x = (r, sw_wA σ 38 f') ∧ y = (r, sw_wA τ 70 g') ∧ ∀ j, j < Q + 1 → f' j = g' j)
  unfold fX3_toNextOrder_L41 fX10_nextRow_L47
  rw [if_neg (nI_ge (show l < j by omega) (by omega)), sw_gd_t (in_t (show j < 6 by omega) (by decide)), sw_gd_t (in_t (show l < 6 by omega) (by decide)), sw_gd_t (in_t (show j < 6 by omega) (by decide)), sw_gd_t (in_t (show l < 6 by omega) (by decide)), nI_clamp (by omega), nI_clamp (by omega), m_eq, m_eq, ← h l (by omega), ← h j (by omega)]
  by_cases hx : f l ≤ f j
  · rw [if_pos hx, if_pos hx, fX3_toNextOrder_L67, c_xch (by omega) (by omega), e_xch (by omega) (by omega), b1_s, b1_s, let_s, let_s, let_s, let_s, nI_1, nI_pred, m_ne (show (49 : Nat) ≠ 70 by decide), hRm, nI_pred]
    obtain ⟨x, y, x1, x2, x3⟩ := o_rev (σ := σ) (τ := τ) (f := xch f l j) (g := xch g l j) (a := l + 1) (b := Q) (R := Q + 1) hR (by omega) (by omega) (xch_cg h (by omega) (by omega))
    rw [x1, x2, sw_up_s, sw_up_s]
    exact .inr ⟨_, _, rfl, rfl, x3⟩
  · have hj2 : ¬ j = l + 1 := fun e => hx (by rw [e]; exact hle)
    obtain ⟨c, rfl⟩ : ∃ c, j = c + 1 := ⟨j - 1, by omega⟩
    rw [if_neg hx, if_neg hx, let_s, pk_m1]
    exact .inl ⟨_, _, rfl, rfl, ⟨c, by omega, by omega, rfl, rfl⟩, by omega⟩
theorem o_next {σ τ : sw_M} {f g : Nat → Int32} {R : Nat} (hR : R ≤ 6) (hRm : τ.1 49 43 = nI R) (h : ∀ j, j < R → f j = g j) : ∃ r f' g', fX3_toNextOrder (sw_wA σ 38 f) (nI R) = some (r, sw_wA σ 38 f') ∧ fX10_nextRow (sw_wA τ 70 g) = some (r, sw_wA τ 70 g') ∧ ∀ j, j < R → f' j = g' j := by
  have e49 : (sw_wA τ 70 g).1 49 43 = nI R := by rw [m_ne (by decide)]; exact hRm
  suffices main : ∃ x y, fX3_toNextOrder (sw_wA σ 38 f) (nI R) = some x ∧ fX10_nextRow (sw_wA τ 70 g) = some y ∧ ∃ r f' g', x = (r, sw_wA σ 38 f') ∧ y = (r, sw_wA τ 70 g') ∧ ∀ j, j < R → f' j = g' j by
    obtain ⟨x, y, e1, e2, r, f', g', rfl, rfl, e3⟩ := main
    exact ⟨r, f', g', e1, e2, e3⟩
  unfold fX3_toNextOrder fX10_nextRow
  rw [let_s, let_s, e49]
  have stop : ∀ s : Int32, s < 0 → fX3_toNextOrder_L4 (sw_wA σ 38 f) (nI R) s = some (.inr (0, sw_wA σ 38 f)) ∧ fX10_nextRow_L7 (sw_wA τ 70 g) s = some (.inr (0, sw_wA τ 70 g)) := by
    intro s hs
    have hn : ¬ (0 : Int32) ≤ s := Int32.not_le.mpr hs
    refine ⟨?_, ?_⟩
    · rw [fX3_toNextOrder_L4, if_pos hs, fX3_toNextOrder_L31, if_neg hn, sw_up_s]
    · rw [fX10_nextRow_L7, if_pos hs, fX10_nextRow_L34, if_neg hn, sw_up_s]
  by_cases h0 : R = 0
  · subst h0
    refine wh_rel (b := fun s : Int32 => fX3_toNextOrder_L4 (sw_wA σ 38 f) (nI 0) s) (c := fun s : Int32 => fX10_nextRow_L7 (sw_wA τ 70 g) s) (fun _ s t => s = nI 0 - 2 ∧ t = nI 0 - 2) (fun x y => ∃ r f' g', x = (r, sw_wA σ 38 f') ∧ y = (r, sw_wA τ 70 g') ∧ ∀ j, j < 0 → f' j = g' j) 0 (fun k s t hk hI => ?_) ⟨rfl, rfl⟩ (by decide)
    obtain ⟨rfl, rfl⟩ := hI
    obtain ⟨s1, s2⟩ := stop (nI 0 - 2) (by decide)
    exact .inr ⟨_, _, s1, s2, 0, f, g, rfl, rfl, h⟩
  obtain ⟨Q, rfl⟩ : ∃ Q, R = Q + 1 := ⟨R - 1, by omega⟩
  have eQ : nI (Q + 1) - 2 = nI Q + (-1) := by
    have : ∀ q, q < 6 → nI (q + 1) - 2 = nI q + (-1) := by decide
    exact this Q (by omega)
  rw [eQ]
  refine wh_rel (b := fun s : Int32 => fX3_toNextOrder_L4 (sw_wA σ 38 f) (nI (Q + 1)) s) (c := fun s : Int32 => fX10_nextRow_L7 (sw_wA τ 70 g) s) (fun k s t => ∃ i, i + k = Q ∧ s = nI i + (-1) ∧ t = nI i + (-1)) (fun x y => ∃ r f' g', x = (r, sw_wA σ 38 f') ∧ y = (r, sw_wA τ 70 g') ∧ ∀ j, j < Q + 1 → f' j = g' j) Q (fun k s t hk hI => ?_) ⟨Q, rfl, rfl, rfl⟩ (by omega)
  obtain ⟨i, e1, rfl, rfl⟩ := hI
  show (∃ s' t', fX3_toNextOrder_L4 (sw_wA σ 38 f) (nI (Q + 1)) (nI i + (-1)) = some (.inl s') ∧ fX10_nextRow_L7 (sw_wA τ 70 g) (nI i + (-1)) = some (.inl t') ∧ (∃ i2, i2 + (k + 1) = Q ∧ s' = nI i2 + (-1) ∧ t' = nI i2 + (-1)) ∧ k < Q) ∨ (∃ x y, fX3_toNextOrder_L4 (sw_wA σ 38 f) (nI (Q + 1)) (nI i + (-1)) = some (.inr x) ∧ fX10_nextRow_L7 (sw_wA τ 70 g) (nI i + (-1)) = some (.inr y) ∧ ∃ r f' g', x = (r, sw_wA σ 38 f') ∧ y = (r, sw_wA τ 70 g') ∧ ∀ j, j < Q + 1 → f' j = g' j)
  by_cases hi : i = 0
  · obtain ⟨s1, s2⟩ := stop (nI i + (-1)) (by rw [hi]; decide)
    exact .inr ⟨_, _, s1, s2, 0, f, g, rfl, rfl, h⟩
  · obtain ⟨c, rfl⟩ : ∃ c, i = c + 1 := ⟨i - 1, by omega⟩
    rw [pk_m1]
    unfold fX3_toNextOrder_L4 fX10_nextRow_L7
    rw [if_neg (nI_pos (by omega)), if_neg (nI_pos (by omega)), nI_1, sw_gd_t (in_t (show c < 6 by omega) (by decide)), sw_gd_t (in_t (show c + 1 < 6 by omega) (by decide)), sw_gd_t (in_t (show c < 6 by omega) (by decide)), sw_gd_t (in_t (show c + 1 < 6 by omega) (by decide)), nI_clamp (by omega), nI_clamp (by omega), m_eq, m_eq, ← h c (by omega), ← h (c + 1) (by omega)]
    by_cases hx : f c ≤ f (c + 1)
    · obtain ⟨x, y, x1, x2, x3⟩ := o_right (σ := σ) (τ := τ) (f := f) (g := g) (R := Q + 1) (l := c) hR hRm (by omega) hx h
      rw [if_pos hx, if_pos hx, x1, x2, sw_up_s, sw_up_s]
      exact .inr ⟨_, _, rfl, rfl, x3⟩
    · rw [if_neg hx, if_neg hx, let_s]
      exact .inl ⟨_, _, rfl, rfl, ⟨c, by omega, rfl, rfl⟩, by omega⟩
