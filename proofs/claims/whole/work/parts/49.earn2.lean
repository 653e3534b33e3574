def v_bits (t : Int32) : Int32 := v_sum (fun k => (t >>> (nI k &&& 31)) &&& 1) 7
def v_up (K z : Nat) (prog u : Nat → Int32) : Int32 := q_up K z prog u (v_bits (u 5)) (u 8)
def v_pre (K R : Nat) (scum : Int32) (ρ : Nat → Int32) (sc : Int32) (u : Nat → Int32) : Nat → Int32 := if sc = 0 then v_boil ρ R u else v_skim K scum (v_boil ρ R u)
theorem v_up01 (K z : Nat) (prog u : Nat → Int32) : v_up K z prog u = 0 ∨ v_up K z prog u = 1 := by
  unfold v_up q_up
  split
  · exact .inl rfl
  · exact .inr rfl
/-- what a plan in the class's memory must keep -/
def cpl (σ : sw_M) (P K R z : Nat) : Prop := σ.1 P 0 = nI K ∧ K ≤ 5 ∧ σ.1 P 2 = nI R ∧ R ≤ 6 ∧ ok_ρ (σ.1 (P + 6)) K R ∧ σ.1 (P + 7) 2 = nI z ∧ z ≤ 270 ∧ q_ok (σ.1 (P + 8)) z
theorem cpl.k {σ : sw_M} {P K R z : Nat} (h : cpl σ P K R z) : σ.1 P 0 = nI K := h.1
theorem cpl.k5 {σ : sw_M} {P K R z : Nat} (h : cpl σ P K R z) : K ≤ 5 := h.2.1
theorem cpl.r {σ : sw_M} {P K R z : Nat} (h : cpl σ P K R z) : σ.1 P 2 = nI R := h.2.2.1
theorem cpl.r6 {σ : sw_M} {P K R z : Nat} (h : cpl σ P K R z) : R ≤ 6 := h.2.2.2.1
theorem cpl.ρ {σ : sw_M} {P K R z : Nat} (h : cpl σ P K R z) : ok_ρ (σ.1 (P + 6)) K R := h.2.2.2.2.1
theorem cpl.z {σ : sw_M} {P K R z : Nat} (h : cpl σ P K R z) : σ.1 (P + 7) 2 = nI z := h.2.2.2.2.2.1
theorem cpl.z2 {σ : sw_M} {P K R z : Nat} (h : cpl σ P K R z) : z ≤ 270 := h.2.2.2.2.2.2.1
theorem cpl.ok {σ : sw_M} {P K R z : Nat} (h : cpl σ P K R z) : q_ok (σ.1 (P + 8)) z := h.2.2.2.2.2.2.2
theorem c_L18 {σ : sw_M} {P V K R z t : Nat} {f g : Nat → Int32} (hP : sw_isP P) (hV : sw_isV V) (hc : cpl σ P K R z) (ht : f 1 = nI t) (ht2 : t < 128) :
    ∃ f' g' a st, fX4_boilInEarnest_L18 P V (vt σ V f g) = some (v_up K z (σ.1 (P + 8)) (v_day (pk g f)), vt (sw_wA (sw_wA σ (P + 10) a) (P + 9) st) V f' g') ∧ pk g' f' = v_out 5 (v_up K z (σ.1 (P + 8)) (v_day (pk g f))) (v_day (pk g f)) := by
  have hPV := isPV hP hV
  have e8 : pk g f 8 = f 4 := pk_hi (i := 4) (by decide) (by decide)
  have ed : v_day (pk g f) = pk g (upd f 4 (f 4 + 1)) := by
    rw [v_day, e8, pk_f (by decide) (by decide)]
  obtain ⟨f1, hf1⟩ : ∃ f1, f1 = upd f 4 (f 4 + 1) := ⟨_, rfl⟩
  have h11 : f1 1 = nI t := by rw [hf1, upd_n (by decide), ht]
  rw [ed, ← hf1]
  have a5 : pk g f1 5 = nI t := (pk_hi (i := 1) (by decide) (by decide)).trans h11
  have a8 : pk g f1 8 = f1 4 := pk_hi (i := 4) (by decide) (by decide)
  have a7 : pk g f1 7 = f1 3 := pk_hi (i := 3) (by decide) (by decide)
  obtain ⟨a, st, h⟩ := c_isRisen (σ := vt σ V f1 g) (P := P) (V := V) (K := K) (z := z) hP hV (by rw [vt_ne (by omega) (by omega), hc.k]) hc.k5 (by rw [vt_ne (by omega) (by omega), hc.z]) hc.z2 (by rw [vt_ne (by omega) (by omega)]; exact hc.ok)
  rw [vt_ne (i := P + 8) (by omega) (by omega), vt_0, vt_1, h11, bits7 t ht2, vt_out (by omega) (by omega), vt_out (by omega) (by omega)] at h
  have eup : q_up K z (σ.1 (P + 8)) g (v_sum (fun k => (nI t >>> (nI k &&& 31)) &&& 1) 7) (f1 4) = v_up K z (σ.1 (P + 8)) (pk g f1) := by
    rw [v_up, a5, a8]
    exact q_up_cg (fun j hj => (pk_lo (Nat.lt_of_lt_of_le hj hc.k5)).symm) (fun _ _ => rfl)
  rw [eup] at h
  unfold fX4_boilInEarnest_L18
  rw [vt_0, vt_w0, ← hf1]
  simp only [sw_let]
  rw [h]
  simp only [sw_b2]
  rcases v_up01 K z (σ.1 (P + 8)) (pk g f1) with h0 | h0
  · rw [h0, if_pos rfl]
    exact ⟨f1, g, a, st, rfl, by rw [v_out, if_pos rfl]⟩
  · rw [h0, if_neg (by decide), c_zero hV]
    simp only [sw_b1]
    rw [vt_0, vt_w0]
    refine ⟨_, _, a, st, rfl, ?_⟩
    rw [v_out, if_neg (by decide), pk_f (by decide) (by decide), pk_mix (by decide), a7]
theorem c_earn {σ : sw_M} {P V K R z t : Nat} {f g : Nat → Int32} {sc : Int32} (hP : sw_isP P) (hV : sw_isV V) (hc : cpl σ P K R z) (ht : f 1 = nI t) (ht2 : t < 128) :
    ∃ f' g' a st, fX4_boilInEarnest P V (vt σ V f g) sc = some (v_up K z (σ.1 (P + 8)) (v_day (v_pre K R (σ.1 P 4) (σ.1 (P + 6)) sc (pk g f))), vt (sw_wA (sw_wA σ (P + 10) a) (P + 9) st) V f' g') ∧ pk g' f' = v_out 5 (v_up K z (σ.1 (P + 8)) (v_day (v_pre K R (σ.1 P 4) (σ.1 (P + 6)) sc (pk g f)))) (v_day (v_pre K R (σ.1 P 4) (σ.1 (P + 6)) sc (pk g f))) := by
  have hPV := isPV hP hV
  have hb := c_boilRules (σ := vt σ V f g) (P := P) (a := V + 1) (K := K) (R := R) hP (by rcases hV with rfl | rfl <;> decide) (isV_s hV) (by rw [vt_ne (by omega) (by omega), hc.r]) hc.k5 hc.r6 (by rw [vt_ne (by omega) (by omega)]; exact hc.ρ)
  rw [vt_ne (i := P + 6) (by omega) (by omega), vt_1, vt_a1] at hb
  unfold fX4_boilInEarnest
  rw [hb]
  simp only [sw_b2]
  by_cases hs : sc = 0
  · rw [if_pos hs, v_pre, if_pos hs, ← pk_boil hc.ρ hc.k5]
    exact c_L18 hP hV hc ht ht2
  · obtain ⟨f1, g1, h1, h2⟩ := c_skim (σ := σ) (P := P) (V := V) (K := K) (f := f) (g := v_boil (σ.1 (P + 6)) R g) hP hV hc.k hc.k5
    have ht1 : f1 1 = nI t := by
      have e : pk g1 f1 5 = f1 1 := pk_hi (i := 1) (by decide) (by decide)
      have e2 : pk (v_boil (σ.1 (P + 6)) R g) f 5 = f 1 := pk_hi (i := 1) (by decide) (by decide)
      rw [← e, h2, ← ht, ← e2]
      have h5 : ¬ 5 < K := by have := hc.k5; omega
      unfold v_skim
      split
      · rw [v_mix, if_neg h5, upd_n (by decide)]
      · rw [upd_n (by decide)]
    rw [if_neg hs, h1, v_pre, if_neg hs, ← pk_boil hc.ρ hc.k5, ← h2]
    simp only [sw_b1]
    exact c_L18 hP hV hc ht1 ht2
