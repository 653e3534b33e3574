theorem b_makers {σ : sw_M} {P K R : Nat} (hP : sw_pl (σ.2.2 0) = P) (h1 : σ.1 P 0 = nI K) (h2 : σ.1 49 40 = nI K) (hK : K ≤ 5) (h3 : σ.1 P 2 = nI R) (h4 : σ.1 49 43 = nI R) (hR : R ≤ 6) (hm : ∀ r c, r < R → c < 4 → σ.1 (P + 6) (4 * r + c) = σ.1 64 (4 * r + c)) (a : Int32) : ∃ r, fX9_makers σ a = some r ∧ fX10_makers σ a = some r := by
  unfold fX9_makers fX10_makers
  rw [hP, kind_c h1, kind_e h2 hK]
  by_cases h : (if a < 0 then (0 : Int32) else if nI K ≤ a then 0 else 1) = 0
  · rw [if_pos h, if_pos h]
    exact ⟨_, rfl, rfl⟩
  · rw [if_neg h, if_neg h]
    refine wh_two (b := fun s : Int32 × Int32 => fX9_makers_L17 σ a s.1 s.2) (c := fun s : Int32 × Int32 => fX10_makers_L14 σ a s.1 s.2) (fun k s => s.2 = nI k) R (fun k s hk hI => ?_) (fun s hI => ?_) (s0 := ((0 : Int32), (0 : Int32))) rfl (by omega)
    · obtain ⟨x, y⟩ := s
      obtain rfl : y = nI k := hI
      show ∃ s', fX9_makers_L17 σ a x (nI k) = some (.inl s') ∧ fX10_makers_L14 σ a x (nI k) = some (.inl s') ∧ s'.2 = nI (k + 1)
      have t0 : fX10_truth 0 <<< (nI k &&& 31) = 0 := by
        have : fX10_truth 0 = 0 := rfl
        rw [this, Int32.zero_shiftLeft]
      have t1 : fX10_truth 1 = 1 := rfl
      unfold fX9_makers_L17 fX10_makers_L14
      rw [hP, h3, h4, if_neg (le_f hk (by omega)), if_neg (le_f hk (by omega)), c_third (by omega), b1_s, i4, i4_2, sw_gd_t (in_t (show 4 * k + 2 < 24 by omega) (by decide)), nI_clamp (by omega), hm k 2 hk (by decide)]
      by_cases e : σ.1 64 (4 * k + 2) = a
      · rw [if_pos e, if_pos e, let_s, fX9_makers_L46, fX10_makers_L42, t1, let_s, let_s, let_s, nI_1]
        exact ⟨_, rfl, rfl, rfl⟩
      · rw [if_neg e, if_neg e, fX9_makers_L46, fX10_makers_L42, t0, Int32.or_zero, let_s, let_s, let_s, nI_1]
        exact ⟨_, rfl, rfl, rfl⟩
    · obtain ⟨x, y⟩ := s
      obtain rfl : y = nI R := hI
      show ∃ r, fX9_makers_L17 σ a x (nI R) = some (.inr r) ∧ fX10_makers_L14 σ a x (nI R) = some (.inr r)
      unfold fX9_makers_L17 fX10_makers_L14
      rw [hP, h3, h4, if_pos (le_t R (by omega)), if_pos (le_t R (by omega))]
      exact ⟨_, rfl, rfl⟩
