/-! the boxes -/
theorem s33 : (sw_s 33).2 = 30 := rfl
theorem box_t : ∀ i, i < 3 → fX1_isBox (nI i) = 1 ∧ fX10_isBox (nI i) = 1 := by decide
theorem c_imageN {σ : sw_M} {a : Int32} (h : fX1_isBox a = 0) : fX9_image σ a = some (-1, σ) := by
  unfold fX9_image
  rw [if_pos h]
theorem e_imageN {σ : sw_M} {a : Int32} (h : fX10_isBox a = 0) : fX10_image σ a = some (-1, σ) := by
  unfold fX10_image
  rw [if_pos h]
theorem c_image {σ : sw_M} {i : Nat} (hi : i < 3) : fX9_image σ (nI i) = some (σ.1 27 4, sw_wA (sw_wA σ 33 (ls (σ.1 33) (pk (σ.1 28) (σ.1 27)) i)) 32 (upd (σ.1 32) i (vp_nar .boolean 1))) := by
  have hs := c_save (σ := σ) (V := 27) (A := 33) (i := i) (by decide) (by rw [s33]; omega) (by rw [s33]; decide)
  have hb : ¬ fX1_isBox (nI i) = 0 := by rw [(box_t i hi).1]; decide
  unfold fX9_image fX1_put
  rw [if_neg hb, hs, b1_s, sw_gd_t (in_t hi (by decide)), let_s, b1_s, nI_clamp (by omega), m_w, m_ne (show 27 ≠ 32 by decide), m_ne (show 27 ≠ 33 by decide), m_ne (show 32 ≠ 33 by decide)]
theorem e_image {σ : sw_M} {i : Nat} (hi : i < 3) : fX10_image σ (nI i) = some (σ.1 65 8, sw_wA (sw_wA σ 82 (upd (σ.1 82) i (vp_nar .boolean 1))) 83 (ls (σ.1 83) (σ.1 65) i)) := by
  have hb : ¬ fX10_isBox (nI i) = 0 := by rw [(box_t i hi).2]; decide
  unfold fX10_image
  rw [if_neg hb, sw_gd_t (in_t hi (by decide)), let_s, nI_clamp (by omega), m_w]
  obtain ⟨τ, hτ⟩ : ∃ τ, τ = sw_wA σ 82 (upd (σ.1 82) i (vp_nar .boolean 1)) := ⟨_, rfl⟩
  have t65 : τ.1 65 = σ.1 65 := by rw [hτ, m_ne (by decide)]
  have t83 : τ.1 83 = σ.1 83 := by rw [hτ, m_ne (by decide)]
  rw [← hτ, ← t65, ← t83]
  refine wh_runs (fun k => (nI k, sw_wA τ 83 (lp (τ.1 83) (τ.1 65) i k))) 10 (Prod.ext rfl (by show sw_wA τ 83 (lp (τ.1 83) (τ.1 65) i 0) = τ; rw [lp_0, m_self])) (fun k hk => ?_) ?_ (by decide)
  · show fX10_image_L18 (sw_wA τ 83 _) (nI i) (nI k) = _
    have h10 : ¬ (10 : Int32) ≤ nI k := le_f hk (by decide)
    unfold fX10_image_L18
    rw [if_neg h10, sw_gd_t (in_t hk (by decide)), mul10', nI_add, sw_gd_t (in_t (show 10 * i + k < 30 by omega) (by decide)), let_s, let_s, nI_clamp (by omega), nI_clamp (by omega), m_ne (show 65 ≠ 83 by decide), m_ww, lp_s, nI_1]
  · show fX10_image_L18 (sw_wA τ 83 _) (nI i) (nI 10) = _
    have h10 : (10 : Int32) ≤ nI 10 := le_t 10 (by decide)
    unfold fX10_image_L18
    rw [if_pos h10, m_ne (show 65 ≠ 83 by decide)]
    rfl
theorem c_backN {σ : sw_M} {a : Int32} (h : fX1_isBox a = 0) : fX9_back σ a = some (-1, σ) := by
  unfold fX9_back
  rw [if_pos h]
theorem e_backN {σ : sw_M} {a : Int32} (h : fX10_isBox a = 0) : fX10_back σ a = some (-1, σ) := by
  unfold fX10_back
  rw [if_pos h]
theorem c_back0 {σ : sw_M} {i : Nat} (hi : i < 3) (h : σ.1 32 i = 0) : fX9_back σ (nI i) = some (-1, σ) := by
  have hb : ¬ fX1_isBox (nI i) = 0 := by rw [(box_t i hi).1]; decide
  unfold fX9_back
  rw [if_neg hb, sw_gd_t (in_t hi (by decide)), nI_clamp (by omega), if_pos h]
theorem e_back0 {σ : sw_M} {i : Nat} (hi : i < 3) (h : σ.1 82 i = 0) : fX10_back σ (nI i) = some (-1, σ) := by
  have hb : ¬ fX10_isBox (nI i) = 0 := by rw [(box_t i hi).2]; decide
  unfold fX10_back
  rw [if_neg hb, sw_gd_t (in_t hi (by decide)), nI_clamp (by omega), if_pos h]
theorem e_back {σ : sw_M} {i : Nat} (hi : i < 3) (h : ¬ σ.1 82 i = 0) : fX10_back σ (nI i) = some (σ.1 83 (10 * i + 8), sw_wA (sw_wA σ 65 (v_mix 10 (fun j => σ.1 83 (10 * i + j)) (σ.1 65))) 49 (upd (upd (σ.1 49) 52 0) 53 0)) := by
  have hb : ¬ fX10_isBox (nI i) = 0 := by rw [(box_t i hi).2]; decide
  unfold fX10_back
  rw [if_neg hb, sw_gd_t (in_t hi (by decide)), nI_clamp (by omega), if_neg h]
  refine wh_map (b := fun s : Int32 × sw_M => fX10_back_L20 s.2 (nI i) s.1) σ 65 (fun j => σ.1 83 (10 * i + j)) 10 (fun k hk => ?_) ?_ (by decide)
  · show fX10_back_L20 (sw_wA σ 65 _) (nI i) (nI k) = _
    have h10 : ¬ (10 : Int32) ≤ nI k := le_f hk (by decide)
    unfold fX10_back_L20
    rw [if_neg h10, mul10', nI_add, sw_gd_t (in_t (show 10 * i + k < 30 by omega) (by decide)), sw_gd_t (in_t hk (by decide)), let_s, let_s, nI_clamp (by omega), nI_clamp (by omega), m_ne (show 83 ≠ 65 by decide), m_ww, nI_1]
  · show fX10_back_L20 (sw_wA σ 65 _) (nI i) (nI 10) = _
    have h10 : (10 : Int32) ≤ nI 10 := le_t 10 (by decide)
    have e8 : v_mix 10 (fun j => σ.1 83 (10 * i + j)) (σ.1 65) 8 = σ.1 83 (10 * i + 8) := by rw [v_mix, if_pos (by decide)]
    unfold fX10_back_L20
    rw [if_pos h10, let_s, let_s, m_w (i := 49) (k := 52), m_ne (show 49 ≠ 65 by decide), m_ww, m_ne (show 65 ≠ 49 by decide), m_eq, e8]
theorem c_back {σ : sw_M} {i : Nat} (hi : i < 3) (h : ¬ σ.1 32 i = 0) : ∃ f g, fX9_back σ (nI i) = some (σ.1 33 (10 * i + 8), sw_wA (vt σ 27 f g) 29 (upd (upd (σ.1 29) 1 0) 2 0)) ∧ pk g f = ln (σ.1 33) i := by
  have hb : ¬ fX1_isBox (nI i) = 0 := by rw [(box_t i hi).1]; decide
  obtain ⟨f, g, hl, he⟩ := c_load (σ := σ) (V := 27) (A := 33) (i := i) (by decide) (by decide) (by rw [s33]; omega) (by rw [s33]; decide)
  have e4 : f 4 = σ.1 33 (10 * i + 8) := by
    have : pk g f 8 = f 4 := pk_hi (i := 4) (by decide) (by decide)
    rw [← this, he, ln, if_pos (by decide)]
  refine ⟨f, g, ?_, he⟩
  unfold fX9_back fX1_take fX0_forget
  rw [if_neg hb, sw_gd_t (in_t hi (by decide)), nI_clamp (by omega), if_neg h, hl, b1_s, b1_s, let_s, let_s, b1_s, m_w (i := 29) (k := 1), vt_ne (by decide) (by decide), m_ww, m_ne (show 27 ≠ 29 by decide), vt_0, e4]
