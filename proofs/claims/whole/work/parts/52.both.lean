/-! both sides of a boiling as one function -/
def v_zero (K : Nat) (u : Nat → Int32) : Prop := ∀ j, K ≤ j → j < 5 → u j = 0
theorem v_skim_hi {u : Nat → Int32} {K j : Nat} {scum : Int32} (hj : K ≤ j) (h9 : ¬ j = 9) : v_skim K scum u j = u j := by
  unfold v_skim
  split
  · rw [v_mix, if_neg (by omega), upd_n h9]
  · rw [upd_n h9]
theorem v_pre_hi {ρ u : Nat → Int32} {K R j : Nat} {scum sc : Int32} (hρ : ok_ρ ρ K R) (hK : K ≤ 5) (hj : K ≤ j) (h9 : ¬ j = 9) : v_pre K R scum ρ sc u j = u j := by
  unfold v_pre
  split
  · exact v_boil_hi hρ hK hj (Nat.le_refl R)
  · rw [v_skim_hi hj h9]
    exact v_boil_hi hρ hK hj (Nat.le_refl R)
theorem v_zero_pre {ρ u : Nat → Int32} {K R : Nat} {scum sc : Int32} (hρ : ok_ρ ρ K R) (hK : K ≤ 5) (h : v_zero K u) : v_zero K (v_day (v_pre K R scum ρ sc u)) := by
  intro j h1 h2
  rw [v_day, upd_n (by omega), v_pre_hi hρ hK h1 (by omega)]
  exact h j h1 h2
theorem v_out_5 {u : Nat → Int32} {K : Nat} {r : Int32} (hK : K ≤ 5) (h : v_zero K u) : v_out 5 r u = v_out K r u := by
  have e : v_mix 5 (fun _ => 0) u = v_mix K (fun _ => 0) u := by
    funext j
    simp only [v_mix]
    by_cases a : j < K
    · rw [if_pos a, if_pos (by omega)]
    · by_cases b : j < 5
      · rw [if_pos b, if_neg a, h j (by omega) b]
      · rw [if_neg b, if_neg a]
  rw [v_out, v_out, e]
theorem v_boil_ρ {ρ ρ' u : Nat → Int32} {K R : Nat} (hρ : ok_ρ ρ K R) (hK : K ≤ 5) (hq : ∀ r c, r < R → c < 4 → ρ' (4 * r + c) = ρ (4 * r + c)) : v_boil ρ' R u = v_boil ρ R u := by
  funext j
  exact v_boil_cg (n := K + j + 1) hρ hK (by omega) hq (fun _ _ => rfl) (Nat.le_refl R) j (by omega)
theorem v_pre_ρ {ρ ρ' u : Nat → Int32} {K R : Nat} {scum sc : Int32} (hρ : ok_ρ ρ K R) (hK : K ≤ 5) (hq : ∀ r c, r < R → c < 4 → ρ' (4 * r + c) = ρ (4 * r + c)) : v_pre K R scum ρ' sc u = v_pre K R scum ρ sc u := by
  unfold v_pre
  rw [v_boil_ρ hρ hK hq]
theorem nv_out {u : Nat → Int32} {K B : Nat} {r : Int32} (hK : K ≤ 5) (h : nv K B u) : nv K B (v_out K r u) := by
  unfold v_out
  split
  · exact h
  · refine nv_hi (by omega) ?_
    refine ⟨fun _ => 0, fun j hj => ?_, fun j hj => Nat.zero_le _, ?_⟩
    · rw [v_mix, if_pos hj, nI_0]
    · have : ∀ k, n_sum (fun _ => 0) k = 0 := by
        intro k
        induction k with
        | zero => rfl
        | succ k ih =>
          show n_sum (fun _ => 0) k + 0 = 0
          rw [ih]
      rw [this]
      exact Nat.zero_le _
/-- what a boiling in earnest leaves, and whether it is out -/
def v_earn (K R z : Nat) (scum : Int32) (ρ prog : Nat → Int32) (sc : Int32) (u : Nat → Int32) : Nat → Int32 := v_out K (v_up K z prog (v_day (v_pre K R scum ρ sc u))) (v_day (v_pre K R scum ρ sc u))
def v_isOut (K R z : Nat) (scum : Int32) (ρ prog : Nat → Int32) (sc : Int32) (u : Nat → Int32) : Int32 := v_up K z prog (v_day (v_pre K R scum ρ sc u))
theorem nv_earn {ρ prog u : Nat → Int32} {K R z B : Nat} {scum sc : Int32} (hρ : ok_ρ ρ K R) (hl : ok_lim ρ R) (hK : K ≤ 5) (h : nv K B u) : nv K B (v_earn K R z scum ρ prog sc u) := nv_out hK (nv_hi (by omega) (nv_pre hρ hl hK h))
theorem v_zero_earn {ρ prog u : Nat → Int32} {K R z : Nat} {scum sc : Int32} (hρ : ok_ρ ρ K R) (hK : K ≤ 5) (h : v_zero K u) : v_zero K (v_earn K R z scum ρ prog sc u) := by
  intro j h1 h2
  have := v_zero_pre (scum := scum) (sc := sc) hρ hK h j h1 h2
  unfold v_earn v_out
  split
  · exact this
  · rw [upd_n (by omega), v_mix, if_neg (by omega)]
    exact this
theorem c_boiled {σ : sw_M} {P V K R z t : Nat} {sc : Int32} (hP : sw_isP P) (hV : sw_isV V) (hc : cpl σ P K R z) (ht : σ.1 V 1 = nI t) (ht2 : t < 128) (h0 : v_zero K (pk (σ.1 (V + 1)) (σ.1 V))) :
    ∃ f' g' a st, fX4_boilInEarnest P V σ sc = some (v_isOut K R z (σ.1 P 4) (σ.1 (P + 6)) (σ.1 (P + 8)) sc (pk (σ.1 (V + 1)) (σ.1 V)), vt (sw_wA (sw_wA σ (P + 10) a) (P + 9) st) V f' g') ∧ pk g' f' = v_earn K R z (σ.1 P 4) (σ.1 (P + 6)) (σ.1 (P + 8)) sc (pk (σ.1 (V + 1)) (σ.1 V)) := by
  obtain ⟨f', g', a, st, h1, h2⟩ := c_earn (σ := σ) (f := σ.1 V) (g := σ.1 (V + 1)) (sc := sc) hP hV hc ht ht2
  rw [vt_self] at h1
  refine ⟨f', g', a, st, h1, ?_⟩
  rw [h2, v_out_5 hc.k5 (v_zero_pre hc.ρ hc.k5 h0)]
  rfl
theorem e_boiled {σ : sw_M} {K R z B : Nat} {prog : Nat → Int32} {sc : Int32} (hc : epl σ K R z prog) (hl : ok_lim (σ.1 64) R) (hn : nv K B (ck (σ.1 66))) :
    ∃ f' a st, fX10_goBoiling σ sc = some (v_isOut K R z (σ.1 49 45) (σ.1 64) prog sc (ck (σ.1 66)), sw_wA (sw_wA (sw_wA σ 58 a) 57 st) 66 f') ∧ ck f' = v_earn K R z (σ.1 49 45) (σ.1 64) prog sc (ck (σ.1 66)) := by
  obtain ⟨f', a, st, h1, h2⟩ := e_earn (σ := σ) (f := σ.1 66) (sc := sc) hc (nv_sum hc.k5 (nv_pre hc.ρ hl hc.k5 hn))
  rw [m_self] at h1
  exact ⟨f', a, st, h1, h2⟩
