def v_tell (K : Nat) (μ : Nat → Int32) (p : Nat) (v : Nat → Int32) : Nat → Int32 := fun j => if j < K then fX10_lesser 999 (v j + μ (5 * p + j)) else if j = 5 then v 5 ||| ((1 : Int32) <<< (nI p &&& 31)) else v j
theorem e_tells {σ : sw_M} {K p : Nat} (hK : σ.1 49 40 = nI K) (hK5 : K ≤ 5) (hp : p < 7) : fX10_tells σ (nI p) = some (sw_wA σ 66 (v_tell K (σ.1 62) p (σ.1 66))) := by
  unfold fX10_tells
  have h := wh_run (b := fun s : Int32 × sw_M => fX10_tells_L2 s.2 (nI p) s.1) (fun k => (nI k, sw_wA σ 66 (fun j => if j < k then fX10_lesser 999 (σ.1 66 j + σ.1 62 (5 * p + j)) else σ.1 66 j))) K (r := sw_wA σ 66 (v_tell K (σ.1 62) p (σ.1 66))) ?_ ?_ (n := sw_F) (F_big (by omega))
  · simpa [nI_0, m_self] using h
  · intro k hk
    have h1 : ¬ nI K ≤ nI k := nI_ge hk (by omega)
    have e5 : (5 : Int32) * nI p + nI k = nI (5 * p + k) := by rw [lit_I, pk_mul, nI_add]
    simp only [fX10_tells_L2, m_ne (show (49 : Nat) ≠ 66 by decide), m_ne (show (62 : Nat) ≠ 66 by decide), m_eq, hK, if_neg h1, e5, in_t (show k < 10 by omega) (by decide), in_t (show 5 * p + k < 35 by omega) (by decide), sw_gd_t, sw_let, nI_1, m_ww, nI_clamp (show k < 2 ^ 31 by omega), nI_clamp (show 5 * p + k < 2 ^ 31 by omega), Nat.lt_irrefl, if_false]
    congr 4
    funext j
    simp only [upd]
    by_cases hj : j = k
    · subst hj; simp
    · by_cases hlt : j < k
      · simp [hj, hlt, Nat.lt_succ_of_lt hlt]
      · have : ¬ j < k + 1 := by omega
        simp [hj, hlt, this]
  · have h1 : nI K ≤ nI K := nI_le (Nat.le_refl K) (by omega)
    simp only [fX10_tells_L2, m_ne (show (49 : Nat) ≠ 66 by decide), m_eq, hK, if_pos h1, in_l 5 rfl (show 5 < 10 by decide) (by decide), sw_gd_t, sw_let, m_ww]
    congr 3
    funext j
    have e : (5 : Int32).toNatClampNeg = 5 := by decide
    simp only [upd, e, v_tell]
    by_cases hj : j = 5
    · subst hj
      have : ¬ 5 < K := by omega
      simp [this]
    · simp [hj]
