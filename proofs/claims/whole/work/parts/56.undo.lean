/-! undo and redo -/
theorem e_exchange {σ : sw_M} {h : Nat} (hh : h < 40) : fX10_exchange σ (nI (10 * h)) = some (sw_wA (sw_wA σ 67 (ls (σ.1 67) (σ.1 65) h)) 65 (v_mix 10 (fun j => σ.1 67 (10 * h + j)) (σ.1 65))) := by
  have e0 : sw_wA (sw_wA σ 67 (lp (σ.1 67) (σ.1 65) h 0)) 65 (v_mix 0 (fun j => σ.1 67 (10 * h + j)) (σ.1 65)) = σ := by
    rw [lp_0, v_mix0, m_self, m_self]
  unfold fX10_exchange
  refine wh_runs (fun k => (nI k, sw_wA (sw_wA σ 67 (lp (σ.1 67) (σ.1 65) h k)) 65 (v_mix k (fun j => σ.1 67 (10 * h + j)) (σ.1 65)))) 10 (Prod.ext rfl e0) (fun k hk => ?_) ?_ (by decide)
  · show fX10_exchange_L2 (sw_wA (sw_wA σ 67 _) 65 _) (nI (10 * h)) (nI k) = _
    have h10 : ¬ (10 : Int32) ≤ nI k := le_f hk (by decide)
    have hin : sw_in (nI (10 * h + k)) 400 = true := in_t (by omega) (by decide)
    have hk10 : sw_in (nI k) 10 = true := in_t hk (by decide)
    have el : lp (σ.1 67) (σ.1 65) h k (10 * h + k) = σ.1 67 (10 * h + k) := by rw [lp, if_neg (by omega)]
    have em : upd (v_mix k (fun j => σ.1 67 (10 * h + j)) (σ.1 65)) k (σ.1 67 (10 * h + k)) = v_mix (k + 1) (fun j => σ.1 67 (10 * h + j)) (σ.1 65) := v_mixS k (fun j => σ.1 67 (10 * h + j)) (σ.1 65)
    unfold fX10_exchange_L2
    rw [if_neg h10, nI_add, sw_gd_t hin, let_s, sw_gd_t hk10, sw_gd_t hin, let_s, sw_gd_t hk10, let_s, let_s, nI_clamp (by omega), nI_clamp (by omega), m_eq, v_mixk, m_ne (show 67 ≠ 65 by decide), m_eq, el, m_w (i := 67), m_ne (show 67 ≠ 65 by decide), m_eq, lp_s, m_comm (show 65 ≠ 67 by decide), m_mm, m_ww, em, nI_1]
  · show fX10_exchange_L2 (sw_wA (sw_wA σ 67 _) 65 _) (nI (10 * h)) (nI 10) = _
    have h10 : (10 : Int32) ≤ nI 10 := le_t 10 (by decide)
    unfold fX10_exchange_L2
    rw [if_pos h10]
    rfl
theorem ck_ln {M u : Nat → Int32} {h : Nat} : ck (v_mix 10 (fun j => M (10 * h + j)) u) = ln M h := by
  funext j
  simp only [ck, v_mix, ln]
  by_cases e : j < 10
  · rw [if_pos e, if_pos e, if_pos e]
  · rw [if_neg e, if_neg e]
theorem c_undo0 {σ : sw_M} (h1 : σ.1 29 1 = 0) : fX9_undo σ = some (0, σ) := by
  unfold fX9_undo fX0_takeBack
  rw [if_pos h1, b2_s, sw_gd_t (by decide)]
theorem c_undo {σ : sw_M} {k : Nat} (h1 : σ.1 29 1 = nI (k + 1)) (hk : k < 40) :
    ∃ f g, fX9_undo σ = some (1, vt (sw_wA (sw_wA σ 30 (ls (σ.1 30) (pk (σ.1 28) (σ.1 27)) (k + 1))) 29 (upd (σ.1 29) 1 (nI k))) 27 f g) ∧ pk g f = ln (σ.1 30) k := by
  have n29 : 29 ≠ 30 := by decide
  have hs := c_save (σ := σ) (V := 27) (A := 30) (i := k + 1) (by decide) (by rw [s30]; omega) (by rw [s30]; decide)
  obtain ⟨f, g, hl, he⟩ := c_load (σ := sw_wA (sw_wA σ 30 (ls (σ.1 30) (pk (σ.1 28) (σ.1 27)) (k + 1))) 29 (upd (σ.1 29) 1 (nI k))) (V := 27) (A := 30) (i := k) (by decide) (by decide) (by rw [s30]; omega) (by rw [s30]; decide)
  rw [m_ne (show 30 ≠ 29 by decide), m_eq, ln_ls_n (by omega)] at he
  refine ⟨f, g, ?_, he⟩
  unfold fX9_undo fX0_takeBack
  rw [h1, if_neg (nI_ne0 (by omega) (by omega)), hs, b1_s, let_s, m_ne n29, h1, nI_pred, m_w (i := 29), m_ne n29, m_eq, upd_e, hl, b1_s, b2_s, sw_gd_t (by decide)]
theorem e_undo0 {σ : sw_M} (h1 : σ.1 49 52 = 0) : fX10_undo σ = some (0, σ) := by
  unfold fX10_undo
  rw [if_pos h1]
theorem e_undo {σ : sw_M} {k : Nat} (h1 : σ.1 49 52 = nI (k + 1)) (hk : k < 40) :
    fX10_undo σ = some (1, sw_wA (sw_wA (sw_wA σ 49 (upd (upd (σ.1 49) 52 (nI k)) 53 (σ.1 49 53 + 1))) 67 (ls (σ.1 67) (σ.1 65) k)) 65 (v_mix 10 (fun j => σ.1 67 (10 * k + j)) (σ.1 65))) := by
  have e53 : upd (σ.1 49) 52 (nI k) 53 = σ.1 49 53 := upd_n (by decide)
  have e52 : upd (upd (σ.1 49) 52 (nI k)) 53 (σ.1 49 53 + 1) 52 = nI k := by rw [upd_n (by decide), upd_e]
  unfold fX10_undo
  rw [h1, if_neg (nI_ne0 (by omega) (by omega)), let_s, let_s, nI_pred, m_w (σ := σ), m_eq, e53, m_ww, m_eq, e52, mul10', e_exchange hk, b1_s, m_ne (show 67 ≠ 49 by decide), m_ne (show 65 ≠ 49 by decide)]
theorem c_redo0 {σ : sw_M} (h1 : σ.1 29 1 = σ.1 29 2) : fX9_redo σ = some (0, σ) := by
  unfold fX9_redo fX0_doAgain
  rw [if_pos h1, b2_s, sw_gd_t (by decide)]
theorem c_redo {σ : sw_M} {k l : Nat} (h1 : σ.1 29 1 = nI k) (h2 : σ.1 29 2 = nI l) (hk : k < l) (hl : l ≤ 40) :
    ∃ f g, fX9_redo σ = some (1, vt (sw_wA σ 29 (upd (σ.1 29) 1 (nI (k + 1)))) 27 f g) ∧ pk g f = ln (σ.1 30) (k + 1) := by
  obtain ⟨f, g, hl, he⟩ := c_load (σ := sw_wA σ 29 (upd (σ.1 29) 1 (nI (k + 1)))) (V := 27) (A := 30) (i := k + 1) (by decide) (by decide) (by rw [s30]; omega) (by rw [s30]; decide)
  rw [m_ne (show 30 ≠ 29 by decide)] at he
  refine ⟨f, g, ?_, he⟩
  have hne : ¬ nI k = nI l := fun e => by have := (nI_eq (by omega) (by omega)).mp e; omega
  unfold fX9_redo fX0_doAgain
  rw [h1, h2, if_neg hne, let_s, nI_1, m_w (i := 29), m_eq, upd_e, hl, b1_s, b2_s, sw_gd_t (by decide)]
theorem e_redo0 {σ : sw_M} (h1 : σ.1 49 53 = 0) : fX10_redo σ = some (0, σ) := by
  unfold fX10_redo
  rw [if_pos h1]
theorem e_redo {σ : sw_M} {k d : Nat} (h1 : σ.1 49 52 = nI k) (h2 : σ.1 49 53 = nI (d + 1)) (hk : k < 40) (hd : d < 40) :
    fX10_redo σ = some (1, sw_wA (sw_wA (sw_wA σ 67 (ls (σ.1 67) (σ.1 65) k)) 65 (v_mix 10 (fun j => σ.1 67 (10 * k + j)) (σ.1 65))) 49 (upd (upd (σ.1 49) 52 (nI (k + 1))) 53 (nI d))) := by
  have e53 : upd (σ.1 49) 52 (nI (k + 1)) 53 = nI (d + 1) := by rw [upd_n (by decide), h2]
  unfold fX10_redo
  rw [h2, if_neg (nI_ne0 (by omega) (by omega)), h1, mul10', e_exchange hk, b1_s, let_s, let_s, m_ne (show 49 ≠ 65 by decide), m_ne (show 49 ≠ 67 by decide), h1, nI_1, m_w (i := 49) (k := 52), m_ne (show 49 ≠ 65 by decide), m_ne (show 49 ≠ 67 by decide), m_eq, e53, nI_pred, m_ww]
/-- with the vat itself: while something lies ahead, the class's row h is the vat -/
def actsV (L M u : Nat → Int32) (h l : Nat) : Prop := acts L M h l ∧ (h < l → ln L h = u)
theorem acts_undo {L M u w : Nat → Int32} {k l : Nat} (ha : acts L M (k + 1) l) (hu : ck u = ck w) : actsV (ls L u (k + 1)) (ls M w k) (ln L k) k l ∧ ln L k = ln M k := by
  obtain ⟨a1, a2, a3, a4⟩ := ha
  refine ⟨⟨⟨by omega, a2, fun j hj => ?_, fun j h1 h2 => ?_⟩, fun _ => ln_ls_n (by omega)⟩, a3 k (by omega)⟩
  · rw [ln_ls_n (by omega), ln_ls_n (by omega)]
    exact a3 j (by omega)
  · by_cases e : j = k
    · rw [e, ln_ls_e, ln_ls_e, hu]
    · rw [ln_ls_n (by omega), ln_ls_n e]
      exact a4 j (by omega) h2
theorem acts_redo {L M u w : Nat → Int32} {h l : Nat} (ha : actsV L M u h l) (hl : h < l) (hu : u = ck w) : actsV L (ls M w h) (ln L (h + 1)) (h + 1) l ∧ ln L (h + 1) = ln M h := by
  obtain ⟨⟨a1, a2, a3, a4⟩, a5⟩ := ha
  refine ⟨⟨⟨by omega, a2, fun j hj => ?_, fun j h1 h2 => ?_⟩, fun _ => rfl⟩, a4 h (Nat.le_refl h) hl⟩
  · by_cases e : j = h
    · rw [e, ln_ls_e, a5 hl, hu]
    · rw [ln_ls_n e]
      exact a3 j (by omega)
  · rw [ln_ls_n (by omega)]
    exact a4 j (by omega) h2
