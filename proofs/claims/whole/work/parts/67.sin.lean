theorem b_sinners {σ : sw_M} {P K N : Nat} (hP : sw_pl (σ.2.2 0) = P) (h1 : σ.1 P 0 = nI K) (h2 : σ.1 49 40 = nI K) (hK : K ≤ 5) (h3 : σ.1 P 1 = nI N) (h4 : σ.1 49 41 = nI N) (hN : N ≤ 7) (hm : ∀ p j, p < N → j < K → σ.1 (P + 4) (5 * p + j) = σ.1 62 (5 * p + j)) (a : Int32) : ∃ r, fX9_sinners σ a = some r ∧ fX10_sinners σ a = some r := by
  unfold fX9_sinners fX10_sinners
  rw [hP, kind_c h1, kind_e h2 hK]
  by_cases h : (if a < 0 then (0 : Int32) else if nI K ≤ a then 0 else 1) = 0
  · rw [if_pos h, if_pos h]
    exact ⟨_, rfl, rfl⟩
  · obtain ⟨j, hj, rfl⟩ := in_some (by omega) h
    rw [if_neg h, if_neg h]
    refine wh_two (b := fun s : Int32 × Int32 => fX9_sinners_L17 σ (nI j) s.1 s.2) (c := fun s : Int32 × Int32 => fX10_sinners_L14 σ (nI j) s.1 s.2) (fun k s => s.2 = nI k) N (fun k s hk hI => ?_) (fun s hI => ?_) (s0 := ((0 : Int32), (0 : Int32))) rfl (by omega)
    · obtain ⟨x, y⟩ := s
      obtain rfl : y = nI k := hI
      show ∃ s', fX9_sinners_L17 σ (nI j) x (nI k) = some (.inl s') ∧ fX10_sinners_L14 σ (nI j) x (nI k) = some (.inl s') ∧ s'.2 = nI (k + 1)
      have t0 : fX10_truth 0 <<< (nI k &&& 31) = 0 := by
        have : fX10_truth 0 = 0 := rfl
        rw [this, Int32.zero_shiftLeft]
      have t1 : fX10_truth 1 = 1 := rfl
      unfold fX9_sinners_L17 fX10_sinners_L14
      rw [hP, h3, h4, if_neg (le_f hk (by omega)), if_neg (le_f hk (by omega)), c_has (by omega) (by omega), b1_s, i54, sw_gd_t (in_t (show 5 * k + j < 35 by omega) (by decide)), nI_clamp (by omega), hm k j hk hj]
      by_cases e : σ.1 62 (5 * k + j) ≤ 0
      · rw [if_pos e, if_pos e, fX9_sinners_L46, fX10_sinners_L41, t0, Int32.or_zero, let_s, let_s, let_s, nI_1]
        exact ⟨_, rfl, rfl, rfl⟩
      · rw [if_neg e, if_neg e, let_s, fX9_sinners_L46, fX10_sinners_L41, t1, let_s, let_s, let_s, nI_1]
        exact ⟨_, rfl, rfl, rfl⟩
    · obtain ⟨x, y⟩ := s
      obtain rfl : y = nI N := hI
      show ∃ r, fX9_sinners_L17 σ (nI j) x (nI N) = some (.inr r) ∧ fX10_sinners_L14 σ (nI j) x (nI N) = some (.inr r)
      unfold fX9_sinners_L17 fX10_sinners_L14
      rw [hP, h3, h4, if_pos (le_t N (by omega)), if_pos (le_t N (by omega))]
      exact ⟨_, rfl, rfl⟩
