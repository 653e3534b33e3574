theorem s30 : (sw_s 30).2 = 410 := rfl
theorem c_32 {σ : sw_M} {h : Nat} (h1 : σ.1 29 1 = nI h) (hh : h ≤ 40) : fX0_keep_L32 27 σ = some (sw_wA (sw_wA σ 30 (ls (σ.1 30) (pk (σ.1 28) (σ.1 27)) h)) 29 (upd (upd (σ.1 29) 1 (nI (h + 1))) 2 (nI (h + 1)))) := by
  have n29 : 29 ≠ 30 := by decide
  have hs := c_save (σ := σ) (V := 27) (A := 30) (i := h) (by decide) (by rw [s30]; omega) (by rw [s30]; decide)
  unfold fX0_keep_L32
  rw [h1, hs, b1_s, let_s, let_s, m_ne n29, h1, nI_1, m_w (σ := sw_wA σ 30 (ls (σ.1 30) (pk (σ.1 (27 + 1)) (σ.1 27)) h)), m_ne n29, m_ww, m_eq, upd_e]
theorem c_keep {σ : sw_M} {h : Nat} (h1 : σ.1 29 1 = nI h) (hh : h ≤ 40) : fX0_keep 27 σ = some (sw_wA (sw_wA σ 30 (if h < 40 then ls (σ.1 30) (pk (σ.1 28) (σ.1 27)) h else ls (va_cpy (σ.1 30) (σ.1 30) 10 0 400) (pk (σ.1 28) (σ.1 27)) 39)) 29 (upd (upd (σ.1 29) 1 (nI (if h < 40 then h + 1 else 40))) 2 (nI (if h < 40 then h + 1 else 40)))) := by
  have n29 : 29 ≠ 30 := by decide
  unfold fX0_keep
  by_cases h40 : h < 40
  · rw [if_pos h40, if_pos h40]
    have e : σ.1 29 1 < 40 := by rw [h1]; exact nI_lt (b := 40) h40 (by decide)
    rw [if_pos e]
    exact c_32 h1 hh
  · have e : ¬ σ.1 29 1 < 40 := by rw [h1]; exact nI_nlt (b := 40) (by omega) (by omega)
    have z0 : (0 : Int32).toNatClampNeg = 0 := by decide
    have z10 : (10 : Int32).toNatClampNeg = 10 := by decide
    have z400 : (400 : Int32).toNatClampNeg = 400 := by decide
    have hcg : sw_cg 10 0 400 410 410 = true := by decide
    rw [if_neg h40, if_neg h40, if_neg e, sw_gd_t hcg, let_s, let_s, z0, z10, z400]
    have key := c_32 (σ := sw_w (sw_wA σ 30 (va_cpy (σ.1 30) (σ.1 30) 10 0 400)) 29 1 39) (h := 39) (by rw [m_w, m_eq, upd_e]; rfl) (by decide)
    rw [key, m_w, m_eq, m_ne n29, upd_uu, m_ne (show 30 ≠ 29 by decide), m_eq, m_ne (show 28 ≠ 29 by decide), m_ne (show 28 ≠ 30 by decide), m_ne (show 27 ≠ 29 by decide), m_ne (show 27 ≠ 30 by decide), m_comm (show 29 ≠ 30 by decide), m_mm, m_mm]
