theorem b_inert {σ : sw_M} {P K R : Nat} (hP : sw_pl (σ.2.2 0) = P) (h1 : σ.1 P 0 = nI K) (h2 : σ.1 49 40 = nI K) (h3 : σ.1 P 2 = nI R) (h4 : σ.1 49 43 = nI R) (hR : R ≤ 6) (hm : ∀ r c, r < R → c < 4 → σ.1 (P + 6) (4 * r + c) = σ.1 64 (4 * r + c)) : ∃ r, fX9_inert σ = some r ∧ fX10_inert σ = some r := by
  unfold fX9_inert fX10_inert
  rw [hP, h1, h2, let_s, let_s]
  refine wh_two (b := fun s : Int32 × Int32 => fX9_inert_L14 σ s.1 s.2) (c := fun s : Int32 × Int32 => fX10_inert_L11 σ s.1 s.2) (fun k s => s.2 = nI k) R (fun k s hk hI => ?_) (fun s hI => ?_) rfl (by omega)
  · obtain ⟨x, y⟩ := s
    obtain rfl : y = nI k := hI
    show ∃ s', fX9_inert_L14 σ x (nI k) = some (.inl s') ∧ fX10_inert_L11 σ x (nI k) = some (.inl s') ∧ s'.2 = nI (k + 1)
    have m0 : σ.1 (P + 6) (4 * k) = σ.1 64 (4 * k) := hm k 0 hk (by decide)
    unfold fX9_inert_L14 fX10_inert_L11
    rw [hP, h3, h4, if_neg (le_f hk (by omega)), if_neg (le_f hk (by omega)), c_first (by omega), b1_s, c_second (by omega), b1_s, c_third (by omega), b1_s, i4, i4_1, i4_2, sw_gd_t (in_t (show 4 * k < 24 by omega) (by decide)), sw_gd_t (in_t (show 4 * k + 1 < 24 by omega) (by decide)), sw_gd_t (in_t (show 4 * k + 2 < 24 by omega) (by decide)), nI_clamp (show 4 * k < 2 ^ 31 by omega), nI_clamp (show 4 * k + 1 < 2 ^ 31 by omega), nI_clamp (show 4 * k + 2 < 2 ^ 31 by omega), m0, hm k 1 hk (by decide), hm k 2 hk (by decide), let_s, let_s, nI_1]
    exact ⟨_, rfl, rfl, rfl⟩
  · obtain ⟨x, y⟩ := s
    obtain rfl : y = nI R := hI
    show ∃ r, fX9_inert_L14 σ x (nI R) = some (.inr r) ∧ fX10_inert_L11 σ x (nI R) = some (.inr r)
    unfold fX9_inert_L14 fX10_inert_L11
    rw [hP, h3, h4, if_pos (le_t R (by omega)), if_pos (le_t R (by omega))]
    exact ⟨_, rfl, rfl⟩
