/-! is it risen: both sides -/
theorem sub50 {x : Int32} (h : 0 ≤ x) : (x - 50 ≤ 0) ↔ x ≤ 50 := by
  have h0 := Int32.le_iff_toInt_le.mp h
  have e0 : (0 : Int32).toInt = 0 := by decide
  have e50 : (50 : Int32).toInt = 50 := by decide
  rw [e0] at h0
  have hl := Int32.toInt_lt x
  rw [Int32.le_iff_toInt_le, Int32.le_iff_toInt_le, Int32.toInt_sub, e0, e50, Int.bmod_eq_of_le (by omega) (by omega)]
  omega
/-- the worth of the vat's air -/
def q_w (K z : Nat) (prog v : Nat → Int32) (told day : Int32) : Int32 :=
  if z = 0 then v_sum v K - 50 else match q_run (q_ask K v told day) prog z with
    | some [w] => w
    | _ => 0
def q_up (K z : Nat) (prog v : Nat → Int32) (told day : Int32) : Int32 := if q_w K z prog v told day ≤ 0 then 0 else 1
/-- a program that leaves one value -/
def q_ok (prog : Nat → Int32) (z : Nat) : Prop := 0 < z → ∀ asks, ∃ w, q_run asks prog z = some [w]
theorem q_w_run {K z : Nat} {prog v : Nat → Int32} {told day w : Int32} (hz : 0 < z) (h : q_run (q_ask K v told day) prog z = some [w]) : q_w K z prog v told day = w := by
  unfold q_w
  rw [if_neg (by omega), h]
theorem c_isRisen {σ : sw_M} {P V K z : Nat} (hP : sw_isP P) (hV : sw_isV V) (hKm : σ.1 P 0 = nI K) (hK : K ≤ 5) (hz : σ.1 (P + 7) 2 = nI z) (hz2 : z ≤ 270) (hok : q_ok (σ.1 (P + 8)) z) :
    ∃ a st, fX4_isRisen P V σ = some (q_up K z (σ.1 (P + 8)) (σ.1 (V + 1)) (fJ6_bitCount_0f7a4 (σ.1 V 1)) (σ.1 V 4), sw_wA (sw_wA σ (P + 10) a) (P + 9) st) := by
  have hF : sw_isF (P + 7) := by
    rcases hP with rfl | rfl
    · exact .inl rfl
    · exact .inr rfl
  have n7 : P + 7 ≠ P + 7 + 3 := by omega
  have n8 : P + 7 + 1 ≠ P + 7 + 3 := by omega
  have e := c_measure (σ := σ) hF hV hK
  unfold fX4_isRisen fX2_worth
  rw [hKm, e]
  simp only [sw_b1]
  rw [m_ne n7, hz]
  by_cases h0 : z = 0
  · have hn : nI z = 0 := by rw [h0]; rfl
    rw [if_pos hn, m_eq]
    simp only [sw_b2]
    refine ⟨v_mix 6 (q_ask K (σ.1 (V + 1)) (fJ6_bitCount_0f7a4 (σ.1 V 1)) (σ.1 V 4)) (σ.1 (P + 7 + 3)), σ.1 (P + 9), ?_⟩
    have e1 : v_mix 6 (q_ask K (σ.1 (V + 1)) (fJ6_bitCount_0f7a4 (σ.1 V 1)) (σ.1 V 4)) (σ.1 (P + 7 + 3)) 0 - 50 = q_w K z (σ.1 (P + 8)) (σ.1 (V + 1)) (fJ6_bitCount_0f7a4 (σ.1 V 1)) (σ.1 V 4) := by
      unfold q_w
      rw [if_pos h0]
      rfl
    rw [e1]
    have e2 : ∀ f, sw_wA (sw_wA σ (P + 10) f) (P + 9) (σ.1 (P + 9)) = sw_wA σ (P + 10) f := by
      intro f
      have : (sw_wA σ (P + 10) f).1 (P + 9) = σ.1 (P + 9) := m_ne (by omega)
      rw [← this, m_self]
    rw [e2]
    unfold q_up
    by_cases h : q_w K z (σ.1 (P + 8)) (σ.1 (V + 1)) (fJ6_bitCount_0f7a4 (σ.1 V 1)) (σ.1 V 4) ≤ 0
    · rw [if_pos h, if_pos h]
    · rw [if_neg h, if_neg h]
  · have hn : ¬ nI z = 0 := by
      intro h
      exact nI_nle (n := z) (by omega) (by omega) (by rw [h]; decide)
    rw [if_neg hn]
    obtain ⟨w, hw⟩ := hok (by omega) (q_ask K (σ.1 (V + 1)) (fJ6_bitCount_0f7a4 (σ.1 V 1)) (σ.1 V 4))
    obtain ⟨t, ht, h1, st, h2⟩ := c_evl (σ := sw_wA σ (P + 7 + 3) (v_mix 6 (q_ask K (σ.1 (V + 1)) (fJ6_bitCount_0f7a4 (σ.1 V 1)) (σ.1 V 4)) (σ.1 (P + 7 + 3)))) (F := P + 7) (V := V) (z := z) (asks := q_ask K (σ.1 (V + 1)) (fJ6_bitCount_0f7a4 (σ.1 V 1)) (σ.1 V 4)) (w := w) hF (by rw [m_ne n7, hz]) hz2 (fun j hj => by rw [m_eq]; simp only [v_mix, if_pos hj]) (by rw [m_ne n8]; exact hw)
    have ht' : t = (w, sw_wA (sw_wA σ (P + 7 + 3) (v_mix 6 (q_ask K (σ.1 (V + 1)) (fJ6_bitCount_0f7a4 (σ.1 V 1)) (σ.1 V 4)) (σ.1 (P + 7 + 3)))) (P + 9) st) := Prod.ext h1 h2
    rw [ht, ht']
    refine ⟨(v_mix 6 (q_ask K (σ.1 (V + 1)) (fJ6_bitCount_0f7a4 (σ.1 V 1)) (σ.1 V 4)) (σ.1 (P + 7 + 3))), st, ?_⟩
    simp only [sw_b2]
    rw [q_up, q_w_run (by omega) hw]
    by_cases h : w ≤ 0
    · rw [if_pos h, if_pos h]
    · rw [if_neg h, if_neg h]
def e_vec (a b c d : Int32) (f : Nat → Int32) : Nat → Int32 := upd (upd (upd (upd f 0 a) 1 b) 2 c) 3 d
theorem ev0 {a b c d : Int32} {f : Nat → Int32} : e_vec a b c d f 0 = a := rfl
theorem ev1 {a b c d : Int32} {f : Nat → Int32} : e_vec a b c d f 1 = b := rfl
theorem ev2 {a b c d : Int32} {f : Nat → Int32} : e_vec a b c d f 2 = c := rfl
theorem ev3 {a b c d : Int32} {f : Nat → Int32} : e_vec a b c d f 3 = d := rfl
theorem eu {a b c d b' c' d' : Int32} {f : Nat → Int32} : upd (upd (upd (e_vec a b c d f) 1 b') 2 c') 3 d' = e_vec a b' c' d' f := by
  funext j
  simp only [e_vec, upd]
  by_cases h3 : j = 3
  · simp [h3]
  · by_cases h2 : j = 2
    · simp [h2]
    · by_cases h1 : j = 1
      · simp [h1]
      · simp [h1, h2, h3]
theorem e_75 {σ : sw_M} {k : Nat} {a b c d x : Int32} {f : Nat → Int32} (hk : k < 10) (ht : fX10_truth x = x) : fX10_isRisen_L75 (sw_wA σ 58 (e_vec a b c d f)) (nI k) x b 1 = some (.inl (nI (k + 1), sw_wA σ 58 (e_vec a (b + x) (fX10_greater c (σ.1 66 k)) (fX10_lesser d (σ.1 66 k)) f))) := by
  have hk2 : k < 2 ^ 31 := by omega
  have n66 : 66 ≠ 58 := by decide
  have h1 : sw_in 1 6 = true := by decide
  have hc1 : (1 : Int32).toNatClampNeg = 1 := by decide
  unfold fX10_isRisen_L75
  rw [sw_gd_t h1, hc1, ht]
  simp only [sw_let, sw_gd_t (in_t hk (by decide)), nI_clamp hk2, m_ww, m_eq, m_ne n66]
  rw [nI_1]
  exact congrArg (fun g => some (Sum.inl (nI (k + 1), sw_wA σ 58 g))) (eu (a := a) (b := b) (c := c) (d := d) (b' := b + x) (c' := fX10_greater c (σ.1 66 k)) (d' := fX10_lesser d (σ.1 66 k)) (f := f))
theorem q_some_s (v : Nat → Int32) (n : Nat) : q_some v (n + 1) = q_some v n + (if v n ≤ 0 then 0 else 1) := rfl
theorem e_isRisen {σ : sw_M} {K z : Nat} {prog : Nat → Int32} (hKm : σ.1 49 40 = nI K) (hK : K ≤ 5) (hz : σ.1 49 18 = nI z) (hz2 : z ≤ 320) (h25 : σ.1 49 25 = 0 ↔ z = 0) (hsum : 0 ≤ v_sum (σ.1 66) K) (henc : ∀ k, k < z → q_enc (σ.1 54 k) (σ.1 55 k) (prog k)) (hok : q_ok prog z) {told : Int32} (htold : fX10_members (σ.1 66 5) = some told) :
    ∃ a st, fX10_isRisen σ = some (q_up K z prog (σ.1 66) told (σ.1 66 8), sw_wA (sw_wA σ 58 a) 57 st) := by
  have n49 : 49 ≠ 58 := by decide
  have n66 : 66 ≠ 58 := by decide
  have n54 : 54 ≠ 58 := by decide
  have n55 : 55 ≠ 58 := by decide
  have key : ∀ b0 : Int32, b0 = (if K = 0 then 0 else 999) → ∃ a st, fX10_isRisen_L43 (sw_wA σ 58 (upd (upd (upd (σ.1 58) 0 (v_sum (σ.1 66) K)) 1 0) 2 0)) b0 3 = some (q_up K z prog (σ.1 66) told (σ.1 66 8), sw_wA (sw_wA σ 58 a) 57 st) := by
    intro b0 hb0
    have hc3 : (3 : Int32).toNatClampNeg = 3 := by decide
    unfold fX10_isRisen_L43
    rw [sw_gd_t (by decide), hc3, m_ww]
    simp only [sw_let]
    have hend : ∀ r, fX10_isRisen_L46 (sw_wA σ 58 (e_vec (v_sum (σ.1 66) K) (q_some (σ.1 66) K) (q_most (σ.1 66) K) (q_least b0 (σ.1 66) K) (σ.1 58))) (nI K) = some (.inr r) → sw_wh sw_F (fun s => fX10_isRisen_L46 s.2 s.1) (0, sw_wA σ 58 (upd (upd (upd (upd (σ.1 58) 0 (v_sum (σ.1 66) K)) 1 0) 2 0) 3 b0)) = some r := by
      intro r hr
      refine wh_run (b := fun s : Int32 × sw_M => fX10_isRisen_L46 s.2 s.1) (fun k => (nI k, sw_wA σ 58 (e_vec (v_sum (σ.1 66) K) (q_some (σ.1 66) k) (q_most (σ.1 66) k) (q_least b0 (σ.1 66) k) (σ.1 58)))) K (fun k hk => ?_) hr (n := sw_F) (F_big (by omega))
      have hk2 : k < 2 ^ 31 := by omega
      have hk10 : k < 10 := by omega
      show fX10_isRisen_L46 (sw_wA σ 58 _) (nI k) = _
      unfold fX10_isRisen_L46
      rw [m_ne n49, hKm, if_neg (le_f hk (by omega)), sw_gd_t (in_t hk10 (by decide)), m_ne n66, nI_clamp hk2, m_eq, ev1, q_some_s]
      by_cases hv : σ.1 66 k ≤ 0
      · rw [if_pos hv, if_pos hv, e_75 hk10 rfl]
        rfl
      · rw [if_neg hv, if_neg hv, e_75 hk10 rfl]
        rfl
    obtain ⟨V, hV⟩ : ∃ V, V = upd (upd (e_vec (v_sum (σ.1 66) K) (q_some (σ.1 66) K) (q_most (σ.1 66) K) (q_least b0 (σ.1 66) K) (σ.1 58)) 4 told) 5 (σ.1 66 8) := ⟨_, rfl⟩
    have hV0 : V 0 = v_sum (σ.1 66) K := by rw [hV]; rfl
    have hask : ∀ j, j < 6 → V j = q_ask K (σ.1 66) told (σ.1 66 8) j := by
      intro j hj
      rw [hV]
      rcases (show j = 0 ∨ j = 1 ∨ j = 2 ∨ j = 3 ∨ j = 4 ∨ j = 5 by omega) with rfl | rfl | rfl | rfl | rfl | rfl
      · rfl
      · rfl
      · rfl
      · rw [hb0]; rfl
      · rfl
      · rfl
    have hL : fX10_isRisen_L46 (sw_wA σ 58 (e_vec (v_sum (σ.1 66) K) (q_some (σ.1 66) K) (q_most (σ.1 66) K) (q_least b0 (σ.1 66) K) (σ.1 58))) (nI K) = (if σ.1 49 25 = 0 then (if V 0 ≤ 50 then some (.inr (0, sw_wA σ 58 V)) else some (.inr (1, sw_wA σ 58 V))) else sw_up (sw_wh sw_F (fun s => fX10_isRisen_L184 s.2.2 s.1 s.2.1) (0, 0, sw_wA σ 58 V))) := by
      unfold fX10_isRisen_L46
      rw [m_ne n49, hKm, if_pos (le_t K (by omega)), m_ne n66, htold]
      simp only [sw_b1, sw_let]
      rw [m_ww, m_ne n66, m_ww, ← hV, m_ne n49, m_eq]
    by_cases h0 : z = 0
    · have a25 := h25.mpr h0
      rw [if_pos a25, hV0] at hL
      have ew : q_w K z prog (σ.1 66) told (σ.1 66 8) = v_sum (σ.1 66) K - 50 := by unfold q_w; rw [if_pos h0]
      have e2 : sw_wA (sw_wA σ 58 V) 57 (σ.1 57) = sw_wA σ 58 V := by
        have : (sw_wA σ 58 V).1 57 = σ.1 57 := m_ne (by decide)
        rw [← this, m_self]
      refine ⟨V, σ.1 57, hend _ ?_⟩
      rw [hL, q_up, ew, e2]
      by_cases h : v_sum (σ.1 66) K ≤ 50
      · rw [if_pos h, if_pos ((sub50 hsum).mpr h)]
      · rw [if_neg h, if_neg (fun h' => h ((sub50 hsum).mp h'))]
    · have a25 : ¬ σ.1 49 25 = 0 := fun h => h0 (h25.mp h)
      rw [if_neg a25] at hL
      obtain ⟨w, hw⟩ := hok (by omega) (q_ask K (σ.1 66) told (σ.1 66 8))
      obtain ⟨t, ht, h1, st, h2⟩ := e_evl (σ := sw_wA σ 58 V) (z := z) (asks := q_ask K (σ.1 66) told (σ.1 66 8)) (prog := prog) (w := w) (by rw [m_ne n49, hz]) hz2 (fun j hj => by rw [m_eq]; exact hask j hj) (fun k hk => by rw [m_ne n54, m_ne n55]; exact henc k hk) hw
      have ht' : t = ((if w ≤ 0 then 0 else 1), sw_wA (sw_wA σ 58 V) 57 st) := Prod.ext h1 h2
      rw [ht, ht'] at hL
      refine ⟨V, st, hend _ ?_⟩
      rw [hL, q_up, q_w_run (by omega) hw]
      rfl
  unfold fX10_isRisen
  rw [e_allOf hKm hK]
  simp only [sw_b1, sw_let]
  rw [m_w (σ := σ), m_ww, m_ww, m_ne n49, hKm]
  by_cases h0 : K = 0
  · rw [if_pos (by rw [h0]; rfl)]
    exact key 0 (by rw [if_pos h0])
  · rw [if_neg (fun h => nI_nle (n := K) (by omega) (by omega) (by rw [h]; decide))]
    exact key 999 (by rw [if_neg h0])
