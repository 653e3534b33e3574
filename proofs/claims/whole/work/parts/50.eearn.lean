/-! a boiling in earnest, the reference's side -/
/-- what a plan in the reference's memory must keep -/
def epl (σ : sw_M) (K R z : Nat) (prog : Nat → Int32) : Prop := σ.1 49 40 = nI K ∧ K ≤ 5 ∧ σ.1 49 43 = nI R ∧ R ≤ 6 ∧ ok_ρ (σ.1 64) K R ∧ σ.1 49 18 = nI z ∧ z ≤ 320 ∧ q_ok prog z ∧ (σ.1 49 25 = 0 ↔ z = 0) ∧ (∀ k, k < z → q_enc (σ.1 54 k) (σ.1 55 k) (prog k))
section EE
variable {σ : sw_M} {K R z : Nat} {prog : Nat → Int32}
theorem epl.k (h : epl σ K R z prog) : σ.1 49 40 = nI K := h.1
theorem epl.k5 (h : epl σ K R z prog) : K ≤ 5 := h.2.1
theorem epl.r (h : epl σ K R z prog) : σ.1 49 43 = nI R := h.2.2.1
theorem epl.r6 (h : epl σ K R z prog) : R ≤ 6 := h.2.2.2.1
theorem epl.ρ (h : epl σ K R z prog) : ok_ρ (σ.1 64) K R := h.2.2.2.2.1
theorem epl.sz (h : epl σ K R z prog) : σ.1 49 18 = nI z := h.2.2.2.2.2.1
theorem epl.z2 (h : epl σ K R z prog) : z ≤ 320 := h.2.2.2.2.2.2.1
theorem epl.ok (h : epl σ K R z prog) : q_ok prog z := h.2.2.2.2.2.2.2.1
theorem epl.f (h : epl σ K R z prog) : σ.1 49 25 = 0 ↔ z = 0 := h.2.2.2.2.2.2.2.2.1
theorem epl.enc (h : epl σ K R z prog) : ∀ k, k < z → q_enc (σ.1 54 k) (σ.1 55 k) (prog k) := h.2.2.2.2.2.2.2.2.2
end EE
theorem upd_e {v : Nat → Int32} {i : Nat} {x : Int32} : upd v i x i = x := by simp [upd]
theorem upd_id {v : Nat → Int32} {i : Nat} : upd v i (v i) = v := by
  funext j
  simp only [upd]
  by_cases h : j = i
  · rw [if_pos h, h]
  · rw [if_neg h]
theorem e_skim {σ : sw_M} {K : Nat} {f : Nat → Int32} (hKm : σ.1 49 40 = nI K) (hK : K ≤ 5) :
    ∃ f', fX10_skims (sw_wA σ 66 f) = some (sw_wA σ 66 f') ∧ ck f' = v_skim K (σ.1 49 45) (ck f) := by
  have n49 : 49 ≠ 66 := by decide
  have e9 : ck f 9 = f 9 := ck_lo (by decide)
  have es : v_seed (ck f) = (f 9 * 137 + 71) - (f 9 * 137 + 71) / 1000 * 1000 := by rw [v_seed, e9]
  unfold fX10_skims
  rw [m_eq, m_ww, ← es]
  simp only [sw_let]
  obtain ⟨s, hs⟩ : ∃ s, s = v_seed (ck f) := ⟨_, rfl⟩
  rw [v_skim, ← hs]
  by_cases h : (s - s / 100 * 100) < σ.1 49 45
  · rw [if_pos h]
    have h' : ¬ σ.1 49 45 ≤ (s - s / 100 * 100) := Int32.not_le.mpr h
    refine ⟨v_mix K (fun j => fX10_greater 0 (f j - 1)) (upd f 9 s), ?_, ?_⟩
    · refine wh_map (b := fun s : Int32 × sw_M => fX10_skims_L27 s.2 s.1) (sw_wA σ 66 (upd f 9 s)) 66 (fun j => fX10_greater 0 (f j - 1)) K (fun k hk => ?_) ?_ (by omega)
      · rw [m_eq, m_mm, m_mm]
        have hk2 : k < 2 ^ 31 := by omega
        have h9 : v_mix k (fun j => fX10_greater 0 (f j - 1)) (upd f 9 s) 9 = s := by
          rw [v_mix, if_neg (by omega), upd_e]
        have hfk : upd f 9 s k = f k := upd_n (by omega)
        show fX10_skims_L27 (sw_wA σ 66 _) (nI k) = _
        unfold fX10_skims_L27
        rw [m_ne n49, hKm, if_neg (le_f hk (by omega)), m_eq, h9, if_neg h', sw_gd_t (in_t (show k < 10 by omega) (by decide)), sw_gd_t (in_t (show k < 10 by omega) (by decide)), nI_clamp hk2, v_mixk, hfk, m_ww]
        simp only [sw_let, nI_1]
      · rw [m_eq, m_mm]
        show fX10_skims_L27 (sw_wA σ 66 _) (nI K) = _
        unfold fX10_skims_L27
        rw [m_ne n49, hKm, if_pos (le_t K (by omega))]
    · rw [ck_mix (by omega), ck_f (by decide)]
      funext j
      simp only [v_mix]
      by_cases hj : j < K
      · rw [if_pos hj, if_pos hj, ck_lo (by omega)]
      · rw [if_neg hj, if_neg hj]
  · rw [if_neg h]
    have h' : σ.1 49 45 ≤ (s - s / 100 * 100) := Int32.not_lt.mp h
    refine ⟨upd f 9 s, ?_, ck_f (by decide)⟩
    refine wh_runs (b := fun s : Int32 × sw_M => fX10_skims_L27 s.2 s.1) (fun _ => (0, sw_wA σ 66 (upd f 9 s))) 0 rfl (fun k hk => absurd hk (by omega)) ?_ (by decide)
    show fX10_skims_L27 (sw_wA σ 66 (upd f 9 s)) 0 = _
    unfold fX10_skims_L27
    rw [m_ne n49, m_eq, upd_e, if_pos h']
    split <;> rfl
theorem e_55 {σ : sw_M} {f : Nat → Int32} : fX10_goBoiling_L55 (sw_wA σ 66 f) 0 = some (0, sw_wA σ 66 f) := by
  unfold fX10_goBoiling_L55
  have e : f 7 + fX10_truth 0 = f 7 := by
    have : fX10_truth 0 = 0 := rfl
    rw [this, Int32.add_zero]
  rw [m_eq, e, m_ww, upd_id]
  simp only [sw_let]
  rw [sw_gd_t (by decide)]
theorem e_551 {σ : sw_M} {f : Nat → Int32} : fX10_goBoiling_L55 (sw_wA σ 66 f) 1 = some (1, sw_wA σ 66 (upd f 7 (f 7 + 1))) := by
  unfold fX10_goBoiling_L55
  have e : fX10_truth 1 = 1 := rfl
  rw [m_eq, e, m_ww]
  simp only [sw_let]
  rw [sw_gd_t (by decide)]
theorem e_30 {σ : sw_M} {K : Nat} {f : Nat → Int32} {r : Int32} (hKm : σ.1 49 40 = nI K) (hK : K ≤ 5) (hr : r = 0 ∨ r = 1) :
    ∃ f', sw_wh sw_F (fun s : Int32 × sw_M => fX10_goBoiling_L30 s.2 r s.1) (0, sw_wA σ 66 f) = some (r, sw_wA σ 66 f') ∧ ck f' = v_out K r (ck f) := by
  have n49 : 49 ≠ 66 := by decide
  rcases hr with rfl | rfl
  · refine ⟨f, ?_, by rw [v_out, if_pos rfl]⟩
    refine wh_runs (b := fun s : Int32 × sw_M => fX10_goBoiling_L30 s.2 0 s.1) (fun _ => (0, sw_wA σ 66 f)) 0 rfl (fun k hk => absurd hk (by omega)) ?_ (by decide)
    show fX10_goBoiling_L30 (sw_wA σ 66 f) 0 0 = _
    unfold fX10_goBoiling_L30
    rw [if_pos (rfl : (0 : Int32) = 0), e_55]
    split <;> rfl
  · have e7 : ck f 7 = f 7 := ck_lo (by decide)
    refine ⟨upd (v_mix K (fun _ => 0) f) 7 (f 7 + 1), ?_, by rw [v_out, if_neg (by decide), ck_f (by decide), ck_mix (by omega), e7]⟩
    refine wh_map (b := fun s : Int32 × sw_M => fX10_goBoiling_L30 s.2 1 s.1) (sw_wA σ 66 f) 66 (fun _ => 0) K (fun k hk => ?_) ?_ (by omega)
    · rw [m_eq, m_mm, m_mm]
      have hk2 : k < 2 ^ 31 := by omega
      show fX10_goBoiling_L30 (sw_wA σ 66 _) 1 (nI k) = _
      unfold fX10_goBoiling_L30
      rw [m_ne n49, hKm, if_neg (le_f hk (by omega)), if_neg (by decide), sw_gd_t (in_t (show k < 10 by omega) (by decide)), nI_clamp hk2, m_ww]
      simp only [sw_let, nI_1]
    · rw [m_eq, m_mm]
      have h7 : v_mix K (fun _ => 0) f 7 = f 7 := by rw [v_mix, if_neg (by omega)]
      show fX10_goBoiling_L30 (sw_wA σ 66 _) 1 (nI K) = _
      unfold fX10_goBoiling_L30
      rw [m_ne n49, hKm, if_pos (le_t K (by omega)), e_551, h7]
      rfl
theorem e_mem (x : Int32) : fX10_members x = some (v_bits x) := by
  rw [e_members, v_bits]
theorem let_s {α β : Type} {x : α} {f : α → β} : sw_let x f = f x := rfl
theorem b1_s {α β : Type} {x : α} {f : α → Option β} : sw_b1 (some x) f = f x := rfl
theorem b2_s {α β γ : Type} {x : α} {y : β} {f : α → β → Option γ} : sw_b2 (some (x, y)) f = f x y := rfl
theorem e_L12 {σ : sw_M} {K R z : Nat} {prog f : Nat → Int32} (hc : epl σ K R z prog) (hsum : 0 ≤ v_sum f K) :
    ∃ f' a st, fX10_goBoiling_L12 (sw_wA σ 66 f) = some (v_up K z prog (v_day (ck f)), sw_wA (sw_wA (sw_wA σ 58 a) 57 st) 66 f') ∧ ck f' = v_out K (v_up K z prog (v_day (ck f))) (v_day (ck f)) := by
  have hk5 := hc.k5
  have n49 : 49 ≠ 66 := by decide
  have e8 : ck f 8 = f 8 := ck_lo (by decide)
  have ed : v_day (ck f) = ck (upd f 8 (f 8 + 1)) := by rw [v_day, e8, ck_f (by decide)]
  have hsum' : v_sum (upd f 8 (f 8 + 1)) K = v_sum f K := v_sum_cg (fun j hj => upd_n (by omega))
  unfold fX10_goBoiling_L12
  rw [m_eq, m_ww, ed, let_s]
  rw [← hsum'] at hsum
  obtain ⟨f1, hf1⟩ : ∃ f1, f1 = upd f 8 (f 8 + 1) := ⟨_, rfl⟩
  rw [← hf1] at hsum ⊢
  have a5 : ck f1 5 = f1 5 := ck_lo (by decide)
  have a8 : ck f1 8 = f1 8 := ck_lo (by decide)
  obtain ⟨a, st, h⟩ := e_isRisen (σ := sw_wA σ 66 f1) (K := K) (z := z) (prog := prog) (told := v_bits (f1 5)) (by rw [m_ne n49, hc.k]) hc.k5 (by rw [m_ne n49, hc.sz]) hc.z2 (by rw [m_ne n49]; exact hc.f) (by rw [m_eq]; exact hsum) (fun k hk => by rw [m_ne (by decide), m_ne (by decide)]; exact hc.enc k hk) hc.ok (by rw [m_eq]; exact e_mem _)
  rw [m_eq, m_comm (show (66 : Nat) ≠ 58 by decide), m_comm (show (66 : Nat) ≠ 57 by decide)] at h
  have eup : q_up K z prog f1 (v_bits (f1 5)) (f1 8) = v_up K z prog (ck f1) := by
    rw [v_up, a5, a8]
    exact q_up_cg (fun j hj => (ck_lo (by omega)).symm) (fun _ _ => rfl)
  rw [eup] at h
  rw [h, b2_s]
  obtain ⟨f', h1, h2⟩ := e_30 (σ := sw_wA (sw_wA σ 58 a) 57 st) (K := K) (f := f1) (r := v_up K z prog (ck f1)) (by rw [m_ne (by decide), m_ne (by decide), hc.k]) hk5 (v_up01 K z prog (ck f1))
  exact ⟨f', a, st, h1, h2⟩
theorem e_earn {σ : sw_M} {K R z : Nat} {prog f : Nat → Int32} {sc : Int32} (hc : epl σ K R z prog) (hsum : 0 ≤ v_sum (v_pre K R (σ.1 49 45) (σ.1 64) sc (ck f)) K) :
    ∃ f' a st, fX10_goBoiling (sw_wA σ 66 f) sc = some (v_up K z prog (v_day (v_pre K R (σ.1 49 45) (σ.1 64) sc (ck f))), sw_wA (sw_wA (sw_wA σ 58 a) 57 st) 66 f') ∧ ck f' = v_out K (v_up K z prog (v_day (v_pre K R (σ.1 49 45) (σ.1 64) sc (ck f)))) (v_day (v_pre K R (σ.1 49 45) (σ.1 64) sc (ck f))) := by
  have hk5 := hc.k5
  have n49 : 49 ≠ 66 := by decide
  have n64 : 64 ≠ 66 := by decide
  have hb := e_boilAll (σ := sw_wA σ 66 f) (K := K) (R := R) (by rw [m_ne n49, hc.r]) hc.k5 hc.r6 (by rw [m_ne n64]; exact hc.ρ)
  rw [m_ne n64, m_eq, m_mm] at hb
  have hck : ∀ v : Nat → Int32, v_sum (ck v) K = v_sum v K := fun v => v_sum_cg (fun j hj => ck_lo (by omega))
  unfold fX10_goBoiling
  rw [hb]
  simp only [sw_b1]
  by_cases hs : sc = 0
  · rw [v_pre, if_pos hs, ← ck_boil hc.ρ hk5] at hsum ⊢
    rw [if_pos hs]
    rw [hck] at hsum
    exact e_L12 hc hsum
  · obtain ⟨f1, h1, h2⟩ := e_skim (σ := σ) (K := K) (f := v_boil (σ.1 64) R f) hc.k hk5
    rw [v_pre, if_neg hs, ← ck_boil hc.ρ hk5, ← h2] at hsum ⊢
    rw [if_neg hs, h1]
    rw [hck] at hsum
    exact e_L12 hc hsum
