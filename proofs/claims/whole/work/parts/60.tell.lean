/-! a set of people tells -/
def v_bit (s : Int32) (m : Nat) : Int32 := (s >>> (nI m &&& 31)) &&& 1
def v_pours (K : Nat) (μ : Nat → Int32) (s : Int32) (v : Nat → Int32) : Nat → Nat → Int32
  | 0 => v
  | m + 1 => if v_bit s m = 1 then v_pour K μ m (v_pours K μ s v m) else v_pours K μ s v m
def v_tells (K : Nat) (μ : Nat → Int32) (s : Int32) (v : Nat → Int32) : Nat → Nat → Int32
  | 0 => v
  | m + 1 => if v_bit s m = 1 then v_tell K μ m (v_tells K μ s v m) else v_tells K μ s v m
def v_ors (s x : Int32) : Nat → Int32
  | 0 => x
  | m + 1 => if v_bit s m = 1 then v_ors s x m ||| ((1 : Int32) <<< (nI m &&& 31)) else v_ors s x m
theorem c_tell {σ : sw_M} {P V K N : Nat} {f g : Nat → Int32} {s : Int32} (hP : sw_isP P) (hV : sw_isV V) (hKm : σ.1 P 0 = nI K) (hK : K ≤ 5) (hNm : σ.1 P 1 = nI N) (hN : N ≤ 7) :
    fX4_tell P V (vt σ V f g) s = some (vt σ V (upd f 1 (f 1 ||| s)) (v_pours K (σ.1 (P + 4)) s g N)) := by
  have hPV := isPV hP hV
  have n0 : P ≠ V := by omega
  have n1 : P ≠ V + 1 := by omega
  have ha : 26 < V + 1 := by rcases hV with rfl | rfl <;> decide
  unfold fX4_tell
  refine wh_runs (b := fun x : Int32 × sw_M => fX4_tell_L2 P V x.2 s x.1) (fun k => (nI k, vt σ V f (v_pours K (σ.1 (P + 4)) s g k))) N rfl (fun k hk => ?_) ?_ (by omega)
  · show fX4_tell_L2 P V (vt σ V f _) s (nI k) = some (.inl (nI (k + 1), vt σ V f (v_pours K (σ.1 (P + 4)) s g (k + 1))))
    unfold fX4_tell_L2
    rw [vt_ne n0 n1, hNm, if_neg (le_f hk (by omega)), v_pours]
    by_cases h : v_bit s k = 1
    · have h' : (s >>> (nI k &&& 31)) &&& 1 = 1 := h
      have hp := c_pour (σ := vt σ V f (v_pours K (σ.1 (P + 4)) s g k)) (P := P) (a := V + 1) (K := K) (p := k) hP ha (isV_s hV) (by rw [vt_ne n0 n1, hKm]) hK (by omega)
      rw [vt_ne (i := P + 4) (by omega) (by omega), vt_1, vt_a1] at hp
      rw [if_pos h', if_pos h, hp, b1_s, fX4_tell_L28, let_s, nI_1]
    · have h' : ¬ (s >>> (nI k &&& 31)) &&& 1 = 1 := h
      rw [if_neg h', if_neg h, fX4_tell_L28, let_s, nI_1]
  · show fX4_tell_L2 P V (vt σ V f _) s (nI N) = _
    unfold fX4_tell_L2
    rw [vt_ne n0 n1, hNm, if_pos (le_t N (by omega)), let_s, vt_0, vt_w0]
theorem e_tellAll {σ : sw_M} {K N : Nat} {f : Nat → Int32} {s : Int32} (hKm : σ.1 49 40 = nI K) (hK : K ≤ 5) (hNm : σ.1 49 41 = nI N) (hN : N ≤ 7) :
    fX10_tellAll (sw_wA σ 66 f) s = some (sw_wA σ 66 (v_tells K (σ.1 62) s f N)) := by
  have n49 : 49 ≠ 66 := by decide
  unfold fX10_tellAll
  refine wh_runs (b := fun x : Int32 × sw_M => fX10_tellAll_L2 x.2 s x.1) (fun k => (nI k, sw_wA σ 66 (v_tells K (σ.1 62) s f k))) N rfl (fun k hk => ?_) ?_ (by omega)
  · show fX10_tellAll_L2 (sw_wA σ 66 _) s (nI k) = some (.inl (nI (k + 1), sw_wA σ 66 (v_tells K (σ.1 62) s f (k + 1))))
    unfold fX10_tellAll_L2
    rw [m_ne n49, hNm, if_neg (le_f hk (by omega)), v_tells]
    by_cases h : v_bit s k = 1
    · have h' : (s >>> (nI k &&& 31)) &&& 1 = 1 := h
      have hp := e_tells (σ := sw_wA σ 66 (v_tells K (σ.1 62) s f k)) (K := K) (p := k) (by rw [m_ne n49, hKm]) hK (by omega)
      rw [m_ne (show 62 ≠ 66 by decide), m_eq, m_mm] at hp
      rw [if_pos h', if_pos h, hp, b1_s, fX10_tellAll_L24, let_s, nI_1]
    · have h' : ¬ (s >>> (nI k &&& 31)) &&& 1 = 1 := h
      rw [if_neg h', if_neg h, fX10_tellAll_L24, let_s, nI_1]
  · show fX10_tellAll_L2 (sw_wA σ 66 _) s (nI N) = _
    unfold fX10_tellAll_L2
    rw [m_ne n49, hNm, if_pos (le_t N (by omega))]
theorem v_pour_5 {K p : Nat} {μ v : Nat → Int32} {x : Int32} (hK : K ≤ 5) : v_pour K μ p (upd v 5 x) = upd (v_pour K μ p v) 5 x := by
  funext j
  simp only [v_pour, v_mix, upd]
  by_cases h : j < K
  · have h5 : ¬ j = 5 := by omega
    rw [if_pos h, if_neg h5, if_neg h5, if_pos h]
  · rw [if_neg h, if_neg h]
theorem v_tells_eq {K : Nat} {μ v : Nat → Int32} {s : Int32} (hK : K ≤ 5) : ∀ N, v_tells K μ s v N = upd (v_pours K μ s v N) 5 (v_ors s (v 5) N)
  | 0 => by
    show v = upd v 5 (v 5)
    rw [upd_id]
  | N + 1 => by
    rw [v_tells, v_pours, v_ors]
    by_cases h : v_bit s N = 1
    · rw [if_pos h, if_pos h, if_pos h, v_tell, v_tells_eq hK N, v_pour_5 hK, upd_e, upd_uu]
    · rw [if_neg h, if_neg h, if_neg h, v_tells_eq hK N]
