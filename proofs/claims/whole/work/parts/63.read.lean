/-! reading: vat, mind, wants -/
theorem kind_c {σ : sw_M} {P K : Nat} (h : σ.1 P 0 = nI K) (a : Int32) : fX4_isKind P σ a = (if a < 0 then 0 else if nI K ≤ a then 0 else 1) := by rw [fX4_isKind, h]
theorem kind_e {σ : sw_M} {K : Nat} (h : σ.1 49 40 = nI K) (hK : K ≤ 5) (a : Int32) : fX10_isKind σ a = (if a < 0 then 0 else if nI K ≤ a then 0 else 1) := by rw [fX10_isKind, h, in_same (by omega)]
theorem person_c {σ : sw_M} {P N : Nat} (h : σ.1 P 1 = nI N) (a : Int32) : fX4_isPerson P σ a = (if a < 0 then 0 else if nI N ≤ a then 0 else 1) := by rw [fX4_isPerson, h]
theorem person_e {σ : sw_M} {N : Nat} (h : σ.1 49 41 = nI N) (hN : N ≤ 7) (a : Int32) : fX10_isPerson σ a = (if a < 0 then 0 else if nI N ≤ a then 0 else 1) := by rw [fX10_isPerson, h, in_same (by omega)]
theorem basin_c {σ : sw_M} {P N : Nat} (h : σ.1 P 3 = nI N) (a : Int32) : fX4_isBasin P σ a = (if a < 0 then 0 else if nI N ≤ a then 0 else 1) := by rw [fX4_isBasin, h]
theorem basin_e {σ : sw_M} {N : Nat} (h : σ.1 49 42 = nI N) (hN : N ≤ 4) (a : Int32) : fX10_isBasin σ a = (if a < 0 then 0 else if nI N ≤ a then 0 else 1) := by rw [fX10_isBasin, h, in_same (by omega)]
theorem b_vat {σ : sw_M} {P K : Nat} (hP : sw_pl (σ.2.2 0) = P) (h1 : σ.1 P 0 = nI K) (h2 : σ.1 49 40 = nI K) (hK : K ≤ 5) (hu : ∀ j, j < 5 → σ.1 28 j = σ.1 65 j) (a : Int32) : ∃ r, fX9_vat σ a = some r ∧ fX10_vat σ a = some r := by
  unfold fX9_vat fX10_vat
  rw [hP, kind_c h1, kind_e h2 hK]
  by_cases h : (if a < 0 then (0 : Int32) else if nI K ≤ a then 0 else 1) = 0
  · rw [if_pos h, if_pos h]
    exact ⟨_, rfl, rfl⟩
  · obtain ⟨j, hj, rfl⟩ := in_some (by omega) h
    rw [if_neg h, if_neg h, sw_gd_t (in_t (show j < 5 by omega) (by decide)), sw_gd_t (in_t (show j < 10 by omega) (by decide)), nI_clamp (by omega), hu j (by omega)]
    exact ⟨_, rfl, rfl⟩
theorem b_mind {σ : sw_M} {P K N : Nat} (hP : sw_pl (σ.2.2 0) = P) (h1 : σ.1 P 0 = nI K) (h2 : σ.1 49 40 = nI K) (hK : K ≤ 5) (h3 : σ.1 P 1 = nI N) (h4 : σ.1 49 41 = nI N) (hN : N ≤ 7) (hm : ∀ p j, p < N → j < K → σ.1 (P + 4) (5 * p + j) = σ.1 62 (5 * p + j)) (a b : Int32) : ∃ r, fX9_mind σ a b = some r ∧ fX10_mind σ a b = some r := by
  unfold fX9_mind fX10_mind
  rw [hP, kind_c h1, kind_e h2 hK, person_c h3, person_e h4 hN]
  by_cases h : (if a < 0 then (0 : Int32) else if nI N ≤ a then 0 else 1) = 0
  · rw [if_pos h, if_pos h]
    exact ⟨_, rfl, rfl⟩
  · rw [if_neg h, if_neg h]
    obtain ⟨p, hp, rfl⟩ := in_some (by omega) h
    by_cases h' : (if b < 0 then (0 : Int32) else if nI K ≤ b then 0 else 1) = 0
    · rw [if_pos h', if_pos h']
      exact ⟨_, rfl, rfl⟩
    · obtain ⟨j, hj, rfl⟩ := in_some (by omega) h'
      rw [if_neg h', if_neg h', c_has (by omega) (by omega), b1_s, i54, sw_gd_t (in_t (show 5 * p + j < 35 by omega) (by decide)), nI_clamp (by omega), hm p j hp hj]
      exact ⟨_, rfl, rfl⟩
theorem b_wants {σ : sw_M} {P K N : Nat} (hP : sw_pl (σ.2.2 0) = P) (h1 : σ.1 P 0 = nI K) (h2 : σ.1 49 40 = nI K) (hK : K ≤ 5) (h3 : σ.1 P 3 = nI N) (h4 : σ.1 49 42 = nI N) (hN : N ≤ 4) (hm : ∀ p j, p < N → j < K → σ.1 (P + 5) (5 * p + j) = σ.1 63 (5 * p + j)) (a b : Int32) : ∃ r, fX9_wants σ a b = some r ∧ fX10_wants σ a b = some r := by
  unfold fX9_wants fX10_wants
  rw [hP, kind_c h1, kind_e h2 hK, basin_c h3, basin_e h4 hN]
  by_cases h : (if a < 0 then (0 : Int32) else if nI N ≤ a then 0 else 1) = 0
  · rw [if_pos h, if_pos h]
    exact ⟨_, rfl, rfl⟩
  · rw [if_neg h, if_neg h]
    obtain ⟨p, hp, rfl⟩ := in_some (by omega) h
    by_cases h' : (if b < 0 then (0 : Int32) else if nI K ≤ b then 0 else 1) = 0
    · rw [if_pos h', if_pos h']
      exact ⟨_, rfl, rfl⟩
    · obtain ⟨j, hj, rfl⟩ := in_some (by omega) h'
      rw [if_neg h', if_neg h', c_needs (by omega) (by omega), b1_s, i54, sw_gd_t (in_t (show 5 * p + j < 20 by omega) (by decide)), nI_clamp (by omega), hm p j hp hj]
      exact ⟨_, rfl, rfl⟩
