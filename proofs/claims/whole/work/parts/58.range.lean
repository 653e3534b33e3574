/-! ranges, sweep -/
theorem in_same {K : Nat} (hK : K < 2 ^ 31) (a : Int32) : fX10_isIn a 0 (nI K - 1) = (if a < 0 then 0 else if nI K ≤ a then 0 else 1) := by
  unfold fX10_isIn
  by_cases h0 : a < 0
  · rw [if_pos h0, if_pos h0]
  · rw [if_neg h0, if_neg h0]
    obtain ⟨j, hj, rfl⟩ := nI_of h0
    cases K with
    | zero =>
      have e1 : nI 0 - 1 < nI j := Int32.lt_of_lt_of_le (by decide : nI 0 - 1 < 0) (nI_pos' hj)
      have e2 : nI 0 ≤ nI j := nI_le (Nat.zero_le j) hj
      rw [if_pos e1, if_pos e2]
    | succ k =>
      rw [nI_pred]
      by_cases h : k < j
      · rw [if_pos (nI_lt h hj), if_pos (nI_le h hj)]
      · rw [if_neg (nI_nlt (by omega) (by omega)), if_neg (nI_ge (by omega) hK)]
theorem in_some {K : Nat} {a : Int32} (hK : K < 2 ^ 31) (h : ¬ (if a < 0 then (0 : Int32) else if nI K ≤ a then 0 else 1) = 0) : ∃ j, j < K ∧ a = nI j := by
  by_cases h0 : a < 0
  · rw [if_pos h0] at h
    exact absurd rfl h
  · rw [if_neg h0] at h
    obtain ⟨j, hj, rfl⟩ := nI_of h0
    by_cases h1 : nI K ≤ nI j
    · rw [if_pos h1] at h
      exact absurd rfl h
    · refine ⟨j, ?_, rfl⟩
      by_cases h2 : j < K
      · exact h2
      · exact absurd (nI_le (by omega) hj) h1
theorem c_sweep0 {σ : sw_M} {j : Nat} (hk : fX4_isKind (sw_pl (σ.2.2 0)) σ (nI j) ≠ 0) (hj : j < 5) (h : σ.1 28 j = 0) : fX9_sweep σ (nI j) = some (-1, σ) := by
  unfold fX9_sweep
  rw [if_neg hk, sw_gd_t (in_t hj (by decide)), nI_clamp (by omega), if_pos h]
theorem c_sweep {σ : sw_M} {j h : Nat} (hk : fX4_isKind (sw_pl (σ.2.2 0)) σ (nI j) ≠ 0) (hj : j < 5) (h0 : ¬ σ.1 28 j = 0) (h1 : σ.1 29 1 = nI h) (hh : h ≤ 40) :
    ∃ τ, fX0_keep 27 σ = some τ ∧ fX9_sweep σ (nI j) = some (σ.1 28 j, sw_wA τ 28 (upd (σ.1 28) j 0)) := by
  refine ⟨_, c_keep h1 hh, ?_⟩
  unfold fX9_sweep
  rw [if_neg hk, sw_gd_t (in_t hj (by decide)), nI_clamp (by omega), if_neg h0, c_keep h1 hh, b1_s, sw_gd_t (in_t hj (by decide)), let_s, sw_gd_t (in_t hj (by decide)), let_s, m_w (i := 28), m_ne (show 28 ≠ 29 by decide), m_ne (show 28 ≠ 30 by decide)]
theorem e_sweep0 {σ : sw_M} {j : Nat} (hk : fX10_isKind σ (nI j) ≠ 0) (hj : j < 10) (h : σ.1 65 j = 0) : fX10_sweep σ (nI j) = some (-1, σ) := by
  unfold fX10_sweep
  rw [if_neg hk, sw_gd_t (in_t hj (by decide)), nI_clamp (by omega), if_pos h]
theorem e_sweep {σ : sw_M} {j h : Nat} (hk : fX10_isKind σ (nI j) ≠ 0) (hj : j < 10) (h0 : ¬ σ.1 65 j = 0) (h1 : σ.1 49 52 = nI h) (hh : h ≤ 40) :
    ∃ τ, fX10_act σ = some τ ∧ fX10_sweep σ (nI j) = some (σ.1 65 j, sw_wA τ 65 (upd (σ.1 65) j 0)) := by
  refine ⟨_, e_act h1 hh, ?_⟩
  unfold fX10_sweep
  rw [if_neg hk, sw_gd_t (in_t hj (by decide)), nI_clamp (by omega), if_neg h0, e_act h1 hh, b1_s, sw_gd_t (in_t hj (by decide)), let_s, sw_gd_t (in_t hj (by decide)), let_s, m_w (i := 65), m_ne (show 65 ≠ 66 by decide), m_ne (show 65 ≠ 49 by decide), m_ne (show 65 ≠ 67 by decide)]
