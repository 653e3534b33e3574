theorem b_fault {σ : sw_M} (h2 : σ.1 1 2 = σ.1 49 2) (h3 : σ.1 1 3 = σ.1 49 3) (a : Int32) : fX9_fault σ a = fX10_fault σ a := by
  unfold fX9_fault fX10_fault
  rw [h2, h3]
theorem b_lacks {σ : sw_M} {P K N : Nat} (hP : sw_pl (σ.2.2 0) = P) (h1 : σ.1 P 0 = nI K) (h2 : σ.1 49 40 = nI K) (hK : K ≤ 5) (h3 : σ.1 P 3 = nI N) (h4 : σ.1 49 42 = nI N) (hN : N ≤ 4) (hm : ∀ p j, p < N → j < K → σ.1 (P + 5) (5 * p + j) = σ.1 63 (5 * p + j)) (hu : ∀ j, j < 5 → σ.1 28 j = σ.1 65 j) (a : Int32) : ∃ r, fX9_lacks σ a = some r ∧ fX10_lacks σ a = some r := by
  unfold fX9_lacks fX10_lacks
  rw [hP, basin_c h3, basin_e h4 hN]
  by_cases h : (if a < 0 then (0 : Int32) else if nI N ≤ a then 0 else 1) = 0
  · rw [if_pos h, if_pos h]
    exact ⟨_, rfl, rfl⟩
  · obtain ⟨q, hq, rfl⟩ := in_some (by omega) h
    rw [if_neg h, if_neg h, c_lacking (K := K) rfl h1 hK (by omega), e_lackOf (K := K) h2 hK (by omega), b1_s, b1_s]
    refine ⟨_, rfl, ?_⟩
    congr 1
    exact v_sum_cg (fun j hj => by show fX10_greater 0 (σ.1 63 (5 * q + j) - σ.1 65 j) = fX10_greater 0 (σ.1 (P + 5) (5 * q + j) - σ.1 28 j); rw [hm q j hq hj, hu j (by omega)])
