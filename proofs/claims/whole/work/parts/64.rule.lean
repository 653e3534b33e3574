theorem i4k (r k : Nat) : nI r * (4 : Int32) + nI k = nI (4 * r + k) := by rw [i4', nI_add]
theorem i4k' (r k : Nat) : (4 : Int32) * nI r + nI k = nI (4 * r + k) := by rw [i4, nI_add]
theorem b_rule {σ : sw_M} {P R : Nat} (hP : sw_pl (σ.2.2 0) = P) (h1 : σ.1 P 2 = nI R) (h2 : σ.1 49 43 = nI R) (hR : R ≤ 6) (hm : ∀ r c, r < R → c < 4 → σ.1 (P + 6) (4 * r + c) = σ.1 64 (4 * r + c)) (a b : Int32) : ∃ r, fX9_rule σ a b = some r ∧ fX10_rule σ a b = some r := by
  have e3 : (nI 4 - 1 : Int32) = 3 := by decide
  have eb := in_same (K := 4) (by decide) b
  rw [e3] at eb
  unfold fX9_rule fX10_rule fX10_isRule
  rw [hP, h1, h2, in_same (by omega), eb]
  by_cases h : (if a < 0 then (0 : Int32) else if nI R ≤ a then 0 else 1) = 0
  · rw [if_pos h]
    by_cases h0 : a < 0
    · rw [if_pos h0]
      exact ⟨_, rfl, rfl⟩
    · rw [if_neg h0] at h ⊢
      by_cases h5 : nI R ≤ a
      · rw [if_pos h5]
        exact ⟨_, rfl, rfl⟩
      · rw [if_neg h5] at h
        exact absurd h (by decide)
  · obtain ⟨r, hr, rfl⟩ := in_some (by omega) h
    rw [if_neg h, if_neg (nI_pos (by omega)), if_neg (nI_ge hr (by omega))]
    by_cases h' : (if b < 0 then (0 : Int32) else if nI 4 ≤ b then 0 else 1) = 0
    · rw [if_pos h']
      by_cases h0 : b < 0
      · rw [if_pos h0]
        exact ⟨_, rfl, rfl⟩
      · rw [if_neg h0] at h' ⊢
        by_cases h5 : nI 4 ≤ b
        · have h6 : ¬ b < 4 := Int32.not_lt.mpr h5
          rw [if_neg h6]
          exact ⟨_, rfl, rfl⟩
        · rw [if_neg h5] at h'
          exact absurd h' (by decide)
    · obtain ⟨c, hc, rfl⟩ := in_some (by decide) h'
      have h6 : nI c < 4 := nI_lt (b := 4) hc (by decide)
      rw [if_neg h', if_neg (nI_pos (by omega)), if_pos h6, i4k, i4k', sw_gd_t (in_t (show 4 * r + c < 24 by omega) (by decide)), sw_gd_t (in_t (show 4 * r + c < 24 by omega) (by decide)), nI_clamp (by omega), hm r c hr hc]
      exact ⟨_, rfl, rfl⟩
