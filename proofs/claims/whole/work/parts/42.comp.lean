section CMP
variable {σ : sw_M} {P a K R : Nat}
theorem c_has {p k : Nat} (hp : p < 7) (hk : k < 5) : fX4_has P σ (nI p) (nI k) = some (σ.1 (P + 4) (5 * p + k)) := by
  simp only [fX4_has, i54', in_t (show 5 * p + k < 35 by omega) (by decide), sw_gd_t, nI_clamp (show 5 * p + k < 2 ^ 31 by omega)]
theorem c_needs {p k : Nat} (hp : p < 4) (hk : k < 5) : fX4_needs P σ (nI p) (nI k) = some (σ.1 (P + 5) (5 * p + k)) := by
  simp only [fX4_needs, i54', in_t (show 5 * p + k < 20 by omega) (by decide), sw_gd_t, nI_clamp (show 5 * p + k < 2 ^ 31 by omega)]
theorem c_first {r : Nat} (hr : r < 6) : fX4_first P σ (nI r) = some (σ.1 (P + 6) (4 * r)) := by
  simp only [fX4_first, i4', in_t (show 4 * r < 24 by omega) (by decide), sw_gd_t, nI_clamp (show 4 * r < 2 ^ 31 by omega)]
theorem c_second {r : Nat} (hr : r < 6) : fX4_second P σ (nI r) = some (σ.1 (P + 6) (4 * r + 1)) := by
  simp only [fX4_second, i4', i4_1, in_t (show 4 * r + 1 < 24 by omega) (by decide), sw_gd_t, nI_clamp (show 4 * r + 1 < 2 ^ 31 by omega)]
theorem c_third {r : Nat} (hr : r < 6) : fX4_third P σ (nI r) = some (σ.1 (P + 6) (4 * r + 2)) := by
  simp only [fX4_third, i4', i4_2, in_t (show 4 * r + 2 < 24 by omega) (by decide), sw_gd_t, nI_clamp (show 4 * r + 2 < 2 ^ 31 by omega)]
theorem c_limit {r : Nat} (hr : r < 6) : fX4_limit P σ (nI r) = some (σ.1 (P + 6) (4 * r + 3)) := by
  simp only [fX4_limit, i4', i4_3, in_t (show 4 * r + 3 < 24 by omega) (by decide), sw_gd_t, nI_clamp (show 4 * r + 3 < 2 ^ 31 by omega)]
theorem c_turning {r : Nat} {lim : Int32} (hs : (sw_s a).2 = 5) (hK : K ≤ 5) (hR : R ≤ 6) (hρ : ok_ρ (σ.1 (P + 6)) K R) (hr : r < R) : fX4_turning P a σ (nI r) lim = some (v_mk (σ.1 (P + 6)) (σ.1 a) r lim) := by
  obtain ⟨a1, a2⟩ := ok_ix hρ hK hr (c := 0) (by decide)
  obtain ⟨b1, b2⟩ := ok_ix hρ hK hr (c := 1) (by decide)
  simp only [Nat.add_zero] at a1 a2
  have ga := in_ix (n := 5) (by omega) a2 (by decide)
  have gb := in_ix (n := 5) (by omega) b2 (by decide)
  simp only [fX4_turning, c_first (show r < 6 by omega), c_second (show r < 6 by omega), sw_b1, hs, ga, gb, sw_gd_t, fX4_turning_L41, min_lesser, v_mk, ix]
  split <;> rfl
theorem c_turn {r : Nat} {lim : Int32} (hP : sw_isP P) (ha : 26 < a) (hs : (sw_s a).2 = 5) (hK : K ≤ 5) (hR : R ≤ 6) (hρ : ok_ρ (σ.1 (P + 6)) K R) (hr : r < R) : fX4_turn P a σ (nI r) lim = some (v_mk (σ.1 (P + 6)) (σ.1 a) r lim, sw_wA σ a (v_turn (σ.1 (P + 6)) r lim (σ.1 a))) := by
  obtain ⟨a1, a2⟩ := ok_ix hρ hK hr (c := 0) (by decide)
  obtain ⟨b1, b2⟩ := ok_ix hρ hK hr (c := 1) (by decide)
  obtain ⟨c1, c2⟩ := ok_ix hρ hK hr (c := 2) (by decide)
  simp only [Nat.add_zero] at a1 a2
  have ga := in_ix (n := 5) (by omega) a2 (by decide)
  have gb := in_ix (n := 5) (by omega) b2 (by decide)
  have gc := in_ix (n := 5) (by omega) c2 (by decide)
  have hne : P + 6 ≠ a := isP_ne hP ha (by decide)
  simp only [fX4_turn, c_turning hs hK hR hρ hr, c_third (show r < 6 by omega), c_first (show r < 6 by omega), c_second (show r < 6 by omega), sw_b1, hs, ga, gb, gc, sw_gd_t, sw_let, m_w, m_eq, m_mm, m_ne hne, min_lesser]
  rfl
theorem c_boilRules (hP : sw_isP P) (ha : 26 < a) (hs : (sw_s a).2 = 5) (hRm : σ.1 P 2 = nI R) (hK : K ≤ 5) (hR : R ≤ 6) (hρ : ok_ρ (σ.1 (P + 6)) K R) : fX4_boilRules P a σ = some ((if v_turned (σ.1 (P + 6)) R (σ.1 a) ≤ 0 then 0 else 1), sw_wA σ a (v_boil (σ.1 (P + 6)) R (σ.1 a))) := by
  have hne0 : P ≠ a := isP_ne0 hP ha
  have hne : P + 6 ≠ a := isP_ne hP ha (by decide)
  unfold fX4_boilRules
  refine wh_runs (fun k => (v_turned (σ.1 (P + 6)) k (σ.1 a), nI k, sw_wA σ a (v_boil (σ.1 (P + 6)) k (σ.1 a)))) R (Prod.ext rfl (Prod.ext rfl m_self)) ?_ ?_ (by omega)
  · intro k hk
    have e6 : (sw_wA σ a (v_boil (σ.1 (P + 6)) k (σ.1 a))).1 (P + 6) = σ.1 (P + 6) := m_ne hne
    have hb := c_turn (σ := sw_wA σ a (v_boil (σ.1 (P + 6)) k (σ.1 a))) (lim := σ.1 (P + 6) (4 * k + 3)) hP ha hs hK hR (by rw [e6]; exact hρ) hk
    rw [e6, m_eq, m_mm] at hb
    simp only [fX4_boilRules_L4, m_ne hne0, hRm, if_neg (le_f hk (show R < 2 ^ 31 by omega)), c_limit (show k < 6 by omega), e6, sw_b1, hb, sw_b2, sw_let, nI_1]
    rfl
  · simp only [fX4_boilRules_L4, m_ne hne0, hRm, if_pos (le_t R (by omega))]
    split <;> rfl
/-- what one has comes in -/
def v_pour (K : Nat) (μ : Nat → Int32) (p : Nat) (v : Nat → Int32) : Nat → Int32 := v_mix K (fun j => fX10_lesser 999 (v j + μ (5 * p + j))) v
theorem c_pour {p : Nat} (hP : sw_isP P) (ha : 26 < a) (hs : (sw_s a).2 = 5) (hKm : σ.1 P 0 = nI K) (hK : K ≤ 5) (hp : p < 7) : fX4_pour P a σ (nI p) = some (sw_wA σ a (v_pour K (σ.1 (P + 4)) p (σ.1 a))) := by
  have hne0 : P ≠ a := isP_ne0 hP ha
  have hne : P + 4 ≠ a := isP_ne hP ha (by decide)
  unfold fX4_pour
  refine wh_map (b := fun s : Int32 × sw_M => fX4_pour_L2 P a s.2 (nI p) s.1) σ a (fun j => fX10_lesser 999 (σ.1 a j + σ.1 (P + 4) (5 * p + j))) K (fun k hk => ?_) ?_ (by omega)
  · simp only [fX4_pour_L2, m_ne hne0, hKm, if_neg (le_f hk (show K < 2 ^ 31 by omega)), hs, in_t (show k < 5 by omega) (by decide), sw_gd_t, c_has hp (show k < 5 by omega), m_ne hne, sw_b1, sw_let, m_ww, m_eq, nI_clamp (show k < 2 ^ 31 by omega), v_mixk, min_lesser, nI_1]
  · simp only [fX4_pour_L2, m_ne hne0, hKm, if_pos (le_t K (by omega))]
    rfl
theorem c_lacking {q : Nat} (hs : (sw_s a).2 = 5) (hKm : σ.1 P 0 = nI K) (hK : K ≤ 5) (hq : q < 4) : fX4_lacking P a σ (nI q) = some (v_sum (fun k => fX10_greater 0 (σ.1 (P + 5) (5 * q + k) - σ.1 a k)) K) := by
  unfold fX4_lacking
  refine wh_sum _ K (fun k acc hk => ?_) (fun acc => ?_) (by omega)
  · simp only [fX4_lacking_L5, hKm, if_neg (le_f hk (show K < 2 ^ 31 by omega)), c_needs hq (show k < 5 by omega), sw_b1, hs, in_t (show k < 5 by omega) (by decide), sw_gd_t, sw_let, nI_clamp (show k < 2 ^ 31 by omega), max_greater, nI_1]
  · simp only [fX4_lacking_L5, hKm, if_pos (le_t K (by omega))]
theorem c_burden {p : Nat} (hKm : σ.1 P 0 = nI K) (hK : K ≤ 5) (hp : p < 7) : fX4_burden P σ (nI p) = some (v_sum (fun k => σ.1 (P + 4) (5 * p + k)) K) := by
  unfold fX4_burden
  refine wh_sum _ K (fun k acc hk => ?_) (fun acc => ?_) (by omega)
  · simp only [fX4_burden_L4, hKm, if_neg (le_f hk (show K < 2 ^ 31 by omega)), c_has hp (show k < 5 by omega), sw_b1, sw_let, nI_1]
  · simp only [fX4_burden_L4, hKm, if_pos (le_t K (by omega))]
end CMP
section REF2
variable {σ : sw_M} {K R : Nat}
theorem e_lackOf {q : Nat} (hKm : σ.1 49 40 = nI K) (hK : K ≤ 5) (hq : q < 4) : fX10_lackOf σ (nI q) = some (v_sum (fun k => fX10_greater 0 (σ.1 63 (5 * q + k) - σ.1 65 k)) K) := by
  unfold fX10_lackOf
  refine wh_sum _ K (fun k acc hk => ?_) (fun acc => ?_) (by omega)
  · simp only [fX10_lackOf_L4, hKm, if_neg (le_f hk (show K < 2 ^ 31 by omega)), i54, in_t (show 5 * q + k < 20 by omega) (by decide), in_t (show k < 10 by omega) (by decide), sw_gd_t, sw_let, nI_clamp (show k < 2 ^ 31 by omega), nI_clamp (show 5 * q + k < 2 ^ 31 by omega), nI_1]
  · simp only [fX10_lackOf_L4, hKm, if_pos (le_t K (by omega))]
theorem e_mindOf {p : Nat} (hKm : σ.1 49 40 = nI K) (hK : K ≤ 5) (hp : p < 7) : fX10_mindOf σ (nI p) = some (v_sum (fun k => σ.1 62 (5 * p + k)) K) := by
  unfold fX10_mindOf
  refine wh_sum _ K (fun k acc hk => ?_) (fun acc => ?_) (by omega)
  · simp only [fX10_mindOf_L4, hKm, if_neg (le_f hk (show K < 2 ^ 31 by omega)), i54, in_t (show 5 * p + k < 35 by omega) (by decide), sw_gd_t, sw_let, nI_clamp (show 5 * p + k < 2 ^ 31 by omega), nI_1]
  · simp only [fX10_mindOf_L4, hKm, if_pos (le_t K (by omega))]
theorem e_allOf (hKm : σ.1 49 40 = nI K) (hK : K ≤ 5) : fX10_allOf σ = some (v_sum (σ.1 66) K) := by
  unfold fX10_allOf
  refine wh_sum _ K (fun k acc hk => ?_) (fun acc => ?_) (by omega)
  · simp only [fX10_allOf_L4, hKm, if_neg (le_f hk (show K < 2 ^ 31 by omega)), in_t (show k < 10 by omega) (by decide), sw_gd_t, sw_let, nI_clamp (show k < 2 ^ 31 by omega), nI_1]
  · simp only [fX10_allOf_L4, hKm, if_pos (le_t K (by omega))]
theorem e_members (x : Int32) : fX10_members x = some (v_sum (fun k => (x >>> (nI k &&& 31)) &&& 1) 7) := by
  unfold fX10_members
  refine wh_sum _ 7 (fun k acc hk => ?_) (fun acc => ?_) (by decide)
  · have h : ¬ (7 : Int32) ≤ nI k := le_f hk (by decide)
    simp only [fX10_members_L4, if_neg h, sw_let, nI_1]
  · have h : (7 : Int32) ≤ nI 7 := le_t 7 (by decide)
    simp only [fX10_members_L4, if_pos h]
theorem e_fill : fX10_fill σ = some (sw_wA σ 66 (v_mix 10 (σ.1 65) (σ.1 66))) := by
  unfold fX10_fill
  refine wh_map (b := fun s : Int32 × sw_M => fX10_fill_L2 s.2 s.1) σ 66 (σ.1 65) 10 (fun k hk => ?_) ?_ (by decide)
  · have h : ¬ (10 : Int32) ≤ nI k := le_f hk (by decide)
    simp only [fX10_fill_L2, if_neg h, in_t hk (by decide), sw_gd_t, sw_let, m_ww, m_ne (show (65 : Nat) ≠ 66 by decide), nI_clamp (show k < 2 ^ 31 by omega), nI_1]
  · have h : (10 : Int32) ≤ nI 10 := le_t 10 (by decide)
    simp only [fX10_fill_L2, if_pos h]
theorem e_keepAir : fX10_keepAir σ = some (sw_wA σ 65 (v_mix 10 (σ.1 66) (σ.1 65))) := by
  unfold fX10_keepAir
  refine wh_map (b := fun s : Int32 × sw_M => fX10_keepAir_L2 s.2 s.1) σ 65 (σ.1 66) 10 (fun k hk => ?_) ?_ (by decide)
  · have h : ¬ (10 : Int32) ≤ nI k := le_f hk (by decide)
    simp only [fX10_keepAir_L2, if_neg h, in_t hk (by decide), sw_gd_t, sw_let, m_ww, m_ne (show (66 : Nat) ≠ 65 by decide), nI_clamp (show k < 2 ^ 31 by omega), nI_1]
  · have h : (10 : Int32) ≤ nI 10 := le_t 10 (by decide)
    simp only [fX10_keepAir_L2, if_pos h]
/-- he tells: what he has comes into the vat, and he has told -/
def v_tell (K : Nat) (μ : Nat → Int32) (p : Nat) (v : Nat → Int32) : Nat → Int32 := upd (v_pour K μ p v) 5 (v 5 ||| ((1 : Int32) <<< (nI p &&& 31)))
theorem e_tells {p : Nat} (hKm : σ.1 49 40 = nI K) (hK : K ≤ 5) (hp : p < 7) : fX10_tells σ (nI p) = some (sw_wA σ 66 (v_tell K (σ.1 62) p (σ.1 66))) := by
  unfold fX10_tells
  refine wh_map (b := fun s : Int32 × sw_M => fX10_tells_L2 s.2 (nI p) s.1) σ 66 (fun j => fX10_lesser 999 (σ.1 66 j + σ.1 62 (5 * p + j))) K (fun k hk => ?_) ?_ (by omega)
  · simp only [fX10_tells_L2, m_ne (show (49 : Nat) ≠ 66 by decide), m_ne (show (62 : Nat) ≠ 66 by decide), hKm, if_neg (le_f hk (show K < 2 ^ 31 by omega)), i54, in_t (show k < 10 by omega) (by decide), in_t (show 5 * p + k < 35 by omega) (by decide), sw_gd_t, sw_let, m_ww, m_eq, v_mixk, nI_clamp (show k < 2 ^ 31 by omega), nI_clamp (show 5 * p + k < 2 ^ 31 by omega), nI_1]
  · have h5 : v_mix K (fun j => fX10_lesser 999 (σ.1 66 j + σ.1 62 (5 * p + j))) (σ.1 66) 5 = σ.1 66 5 := by
      have : ¬ 5 < K := by omega
      simp [v_mix, this]
    simp only [fX10_tells_L2, m_ne (show (49 : Nat) ≠ 66 by decide), hKm, if_pos (le_t K (by omega)), sw_let, m_ww, m_eq, h5]
    rfl
end REF2
