/-! the acts: sweep, boil -/
section KD
variable {σ : sw_M} {P K N R Bn z : Nat} {mm ww : Nat → Nat}
theorem kept (r2 : rl_v σ K N Bn mm) (r3 : rl_a σ K N Bn mm) : ∃ h' L' M', fX0_keep 27 σ = some (sw_wA (sw_wA σ 30 L') 29 (upd (upd (σ.1 29) 1 (nI h')) 2 (nI h'))) ∧
    (∀ σ' : sw_M, σ'.1 49 52 = σ.1 49 52 → σ'.1 67 = σ.1 67 → σ'.1 65 = σ.1 65 → fX10_act σ' = some (sw_wA (sw_wA (sw_wA σ' 67 M') 49 (upd (upd (σ'.1 49) 52 (nI h')) 53 0)) 66 (v_mix 10 (σ.1 65) (σ'.1 66)))) ∧ acts L' M' h' h' ∧ ∀ j, j < h' → vok K N Bn mm (ln M' j) := by
  obtain ⟨hh, ll, a1, a2, a3, a4, a5, a6⟩ := id r3
  have hle := a5.1.1
  have hl40 := a5.1.2.1
  refine ⟨_, _, (if hh < 40 then ls (σ.1 67) (σ.1 65) hh else ls (sh (σ.1 67) 390) (σ.1 65) 39), c_keep a1 (by omega), fun σ' e1 e2 e3 => ?_, ?_, ?_⟩
  · have := e_act (σ := σ') (h := hh) (by rw [e1, a3]) (by omega)
    rw [e2, e3] at this
    exact this
  · by_cases h40 : hh < 40
    · rw [if_pos h40, if_pos h40, if_pos h40]
      exact acts_keep a5.1 (ck_pk' r2.1) h40
    · have e : hh = 40 := by omega
      rw [if_neg h40, if_neg h40, if_neg h40]
      rw [e] at a5
      exact acts_full a5.1 (ck_pk' r2.1)
  · intro j hj
    by_cases h40 : hh < 40
    · rw [if_pos h40] at hj ⊢
      by_cases e : j = hh
      · rw [e, ln_ls_e]
        exact r2.2
      · rw [ln_ls_n e]
        exact a6 j (by omega)
    · rw [if_neg h40] at hj ⊢
      by_cases e : j = 39
      · rw [e, ln_ls_e]
        exact r2.2
      · rw [ln_ls_n e, ln_sh (by omega)]
        exact a6 (j + 1) (by omega)
theorem rl_a_of {υ : sw_M} {h' : Nat} {L' M' : Nat → Int32} (ha : acts L' M' h' h') (hr : ∀ j, j < h' → vok K N Bn mm (ln M' j)) (e1 : υ.1 29 1 = nI h') (e2 : υ.1 29 2 = nI h') (e3 : υ.1 49 52 = nI h') (e4 : υ.1 49 53 = 0) (e5 : υ.1 30 = L') (e6 : υ.1 67 = M') : rl_a υ K N Bn mm := by
  refine ⟨h', h', e1, e2, e3, by rw [e4, Nat.sub_self]; rfl, ⟨by rw [e5, e6]; exact ha, fun h => by omega⟩, fun j hj => by rw [e6]; exact hr j hj⟩
theorem pk_u {g f : Nat → Int32} {j : Nat} {x : Int32} (hj : j < 5) : pk (upd g j x) f = upd (pk g f) j x := by
  funext i
  simp only [pk, upd]
  by_cases a : i < 5
  · rw [if_pos a, if_pos a]
  · rw [if_neg a, if_neg (show ¬ i = j by omega), if_neg a]
theorem nv_set0 {u : Nat → Int32} {B j : Nat} (hj : j < K) (h : nv K B u) : nv K B (upd u j 0) := by
  obtain ⟨n, h1, h2, h3⟩ := h
  have hs := n_sum_u (n := n) (x := 0) hj
  refine ⟨nu n j 0, rep_u h1 nI_0.symm, fun i hi => ?_, by omega⟩
  by_cases e : i = j
  · rw [e, nu_e]
    omega
  · rw [nu_n e]
    exact h2 i hi
theorem vok_set0 {u : Nat → Int32} {j : Nat} (hj : j < K) (hK : K ≤ 5) (h : vok K N Bn mm u) : vok K N Bn mm (upd u j 0) := by
  obtain ⟨h1, ⟨t, t1, t2, t3⟩, ⟨e, e1, e2⟩, ⟨d, d1, d2⟩⟩ := h
  refine ⟨fun i hi hi5 => ?_, ⟨t, t1, ?_, nv_set0 hj t3⟩, ⟨e, e1, ?_⟩, ⟨d, d1, ?_⟩⟩
  · rw [upd_n (by omega)]
    exact h1 i hi hi5
  · rw [upd_n (by omega)]
    exact t2
  · rw [upd_n (by omega)]
    exact e2
  · rw [upd_n (by omega)]
    exact d2
theorem k_sweep (a : Int32) (h : rel σ) : k_mm (fX9_sweep σ a) (fun τ => fX10_sweep τ a) := by
  obtain ⟨P, K, N, R, Bn, z, mm, ww, hr⟩ := id h
  have hP := rl_isP hr.1
  obtain ⟨r1, r2, r3, r4, r5, r6, r7, r8, r9⟩ := hr
  obtain ⟨p1, p2, p3, p4, p5⟩ := id r1
  have hK := p3.k5
  have kc : ∀ b, fX4_isKind (sw_pl (σ.2.2 0)) σ b = (if b < 0 then 0 else if nI K ≤ b then 0 else 1) := fun b => by rw [p1]; exact kind_c p3.k b
  by_cases hb : (if a < 0 then (0 : Int32) else if nI K ≤ a then 0 else 1) = 0
  · exact ⟨-1, σ, σ, by rw [fX9_sweep, kc, if_pos hb], by show fX10_sweep σ a = _; rw [fX10_sweep, kind_e p4.k hK, if_pos hb], h⟩
  obtain ⟨j, hj, rfl⟩ := in_some (by omega) hb
  have hv := (rl_vv r2).1 j (by omega)
  by_cases h0 : σ.1 65 j = 0
  · exact ⟨-1, σ, σ, c_sweep0 (by rw [kc]; exact hb) (by omega) (by rw [hv]; exact h0), e_sweep0 (by rw [kind_e p4.k hK]; exact hb) (by omega) h0, h⟩
  obtain ⟨h', L', M', k1, k2, k3, k4⟩ := kept r2 r3
  obtain ⟨hh, ll, a1, a2, a3, a4, a5, a6⟩ := id r3
  have hh40 : hh ≤ 40 := Nat.le_trans a5.1.1 a5.1.2.1
  obtain ⟨τ, q1, q2⟩ := c_sweep (h := hh) (by rw [kc]; exact hb) (show j < 5 by omega) (by rw [hv]; exact h0) a1 hh40
  obtain rfl := Option.some.inj (q1.symm.trans k1)
  obtain ⟨τ', g1, g2⟩ := e_sweep (σ := sw_wA (sw_wA (sw_wA σ 30 L') 29 (upd (upd (σ.1 29) 1 (nI h')) 2 (nI h'))) 28 (upd (σ.1 28) j 0)) (h := hh) (j := j) (show fX10_isKind σ (nI j) ≠ 0 by rw [kind_e p4.k hK]; exact hb) (by omega) h0 a3 hh40
  have k2' := k2 (sw_wA (sw_wA (sw_wA σ 30 L') 29 (upd (upd (σ.1 29) 1 (nI h')) 2 (nI h'))) 28 (upd (σ.1 28) j 0)) rfl rfl rfl
  obtain rfl := Option.some.inj (g1.symm.trans k2')
  refine k_mk q2 g2 hv ?_
  have hvv : pk (upd (σ.1 28) j 0) (σ.1 27) = ck (upd (σ.1 65) j 0) := by rw [pk_u (by omega), ck_f (by omega), r2.1]
  have hok : vok K N Bn mm (ck (upd (σ.1 65) j 0)) := by
    rw [ck_f (by omega)]
    exact vok_set0 hj hK r2.2
  rcases hP with rfl | rfl <;> exact ⟨_, _, _, _, _, _, _, _, rl_p_cg rfl rfl rfl rfl rfl rfl rfl rfl rfl rfl rfl rfl rfl rfl rfl rfl rfl rfl rfl rfl rfl r1, ⟨hvv, hok⟩, rl_a_of k3 k4 rfl rfl rfl rfl rfl rfl, rl_b_cg rfl rfl rfl rfl r4, rl_l_cg rfl rfl rfl rfl r5, rl_s_cg rfl rfl rfl rfl rfl rfl rfl rfl rfl rfl rfl rfl rfl rfl rfl rfl rfl rfl r6, rl_t_cg rfl rfl r7, rl_f_cg rfl rfl rfl rfl r8, rl_i_cg rfl rfl rfl rfl rfl r9⟩
/-- the reference's boiling in the class's words -/
theorem e_boiled' {τ : sw_M} {B : Nat} {sc : Int32} (r1 : rl_p τ P K N R Bn z mm ww) (hn : nv K B (ck (τ.1 66))) :
    ∃ f' a st, fX10_goBoiling τ sc = some (v_isOut K R z (τ.1 P 4) (τ.1 (P + 6)) (τ.1 (P + 8)) sc (ck (τ.1 66)), sw_wA (sw_wA (sw_wA τ 58 a) 57 st) 66 f') ∧ ck f' = v_earn K R z (τ.1 P 4) (τ.1 (P + 6)) (τ.1 (P + 8)) sc (ck (τ.1 66)) := by
  obtain ⟨p1, p2, p3, p4, p5, p6, ⟨p7, p7'⟩, p8, p9, ⟨s, s1, s2, s3⟩, p11⟩ := r1
  have hl : ok_lim (τ.1 64) R := by
    intro r hr
    obtain ⟨l, l1, l2⟩ := p7 r hr
    exact ⟨l, l1, by rw [p7' r 3 hr (by decide), l2]⟩
  obtain ⟨f', a, st, h1, h2⟩ := e_boiled (sc := sc) p4 hl hn
  have e : v_pre K R (τ.1 49 45) (τ.1 64) sc (ck (τ.1 66)) = v_pre K R (τ.1 P 4) (τ.1 (P + 6)) sc (ck (τ.1 66)) := by
    rw [v_pre_ρ p3.ρ p3.k5 p7', s2, s3]
  refine ⟨f', a, st, ?_, ?_⟩
  · rw [h1, v_isOut, v_isOut, e]
  · rw [h2, v_earn, v_earn, e]
theorem ck_mix10 {f g : Nat → Int32} : ck (v_mix 10 f g) = ck f := by
  funext j
  simp only [ck, v_mix]
  by_cases h : j < 10
  · rw [if_pos h, if_pos h, if_pos h]
  · rw [if_neg h, if_neg h]
theorem earn_hi {ρ prog u : Nat → Int32} {scum sc : Int32} {j : Nat} (hρ : ok_ρ ρ K R) (hK : K ≤ 5) (hj : 5 ≤ j) (h7 : ¬ j = 7) (h8 : ¬ j = 8) (h9 : ¬ j = 9) : v_earn K R z scum ρ prog sc u j = u j := by
  have e : v_day (v_pre K R scum ρ sc u) j = u j := by rw [v_day, upd_n h8, v_pre_hi hρ hK (by omega) h9]
  unfold v_earn v_out
  split
  · exact e
  · rw [upd_n h7, v_mix, if_neg (by omega), e]
theorem earn_8 {ρ prog u : Nat → Int32} {scum sc : Int32} (hρ : ok_ρ ρ K R) (hK : K ≤ 5) : v_earn K R z scum ρ prog sc u 8 = u 8 + 1 := by
  have e : v_day (v_pre K R scum ρ sc u) 8 = u 8 + 1 := by rw [v_day, upd_e, v_pre_hi hρ hK (by omega) (by decide)]
  unfold v_earn v_out
  split
  · exact e
  · rw [upd_n (by decide), v_mix, if_neg (by omega), e]
theorem vok_earn {ρ prog u : Nat → Int32} {scum sc : Int32} (hρ : ok_ρ ρ K R) (hl : ok_lim ρ R) (hK : K ≤ 5) (h : vok K N Bn mm u) (h9 : ¬ u 8 = 999) : vok K N Bn mm (v_earn K R z scum ρ prog sc u) := by
  obtain ⟨h1, ⟨t, t1, t2, t3⟩, ⟨e, e1, e2⟩, ⟨d, d1, d2⟩⟩ := h
  have hd : ¬ d = 999 := fun e => h9 (by rw [d2, e]; rfl)
  refine ⟨v_zero_earn hρ hK h1, ⟨t, t1, by rw [earn_hi hρ hK (by decide) (by decide) (by decide) (by decide), t2], nv_earn hρ hl hK t3⟩, ⟨e, e1, by rw [earn_hi hρ hK (by decide) (by decide) (by decide) (by decide), e2]⟩, ⟨d + 1, by omega, by rw [earn_8 hρ hK, d2, nI_1]⟩⟩
theorem isOut01 {ρ prog u : Nat → Int32} {scum sc : Int32} : v_isOut K R z scum ρ prog sc u = 0 ∨ v_isOut K R z scum ρ prog sc u = 1 := v_up01 _ _ _ _
theorem k_boil (h : rel σ) : k_mm (fX9_boil σ) (fun τ => fX10_boil τ) := by
  obtain ⟨P, K, N, R, Bn, z, mm, ww, hr⟩ := id h
  have hP := rl_isP hr.1
  obtain ⟨r1, r2, r3, r4, r5, r6, r7, r8, r9⟩ := hr
  obtain ⟨p1, p2, p3, p4, ⟨p5, p6, p7⟩, p8, ⟨p9, p9'⟩, p10⟩ := id r1
  have hK := p3.k5
  obtain ⟨d, d1, d2⟩ := r2.2.2.2.2
  have d3 : σ.1 65 8 = nI d := d2
  have d4 : σ.1 27 4 = nI d := by rw [(rl_vv r2).2.2.2.2.1, d3]
  by_cases h9 : d = 999
  · have e9 : nI d = 999 := by rw [h9]; rfl
    exact ⟨-1, σ, σ, by rw [fX9_boil, d4, e9, if_neg (by decide)], by show fX10_boil σ = _; rw [fX10_boil, d3, if_pos e9], h⟩
  have hlt : nI d < 999 := nI_lt (b := 999) (by omega) (by decide)
  have hne : ¬ nI d = 999 := fun e => h9 ((nI_eq (b := 999) (by omega) (by decide)).mp e)
  obtain ⟨h', L', M', k1, k2, k3, k4⟩ := kept r2 r3
  obtain ⟨t, ht, t1, t2, t3⟩ := rl_told r2
  obtain ⟨τ, hτ⟩ : ∃ τ, τ = sw_wA (sw_wA σ 30 L') 29 (upd (upd (σ.1 29) 1 (nI h')) 2 (nI h')) := ⟨_, rfl⟩
  rw [← hτ] at k1
  have q1 : rl_p τ P K N R Bn z mm ww := by
    rw [hτ]
    rcases hP with rfl | rfl <;> exact rl_p_cg rfl rfl rfl rfl rfl rfl rfl rfl rfl rfl rfl rfl rfl rfl rfl rfl rfl rfl rfl rfl rfl r1
  have q27 : τ.1 27 = σ.1 27 := by rw [hτ]; rfl
  have q28 : τ.1 28 = σ.1 28 := by rw [hτ]; rfl
  have qP : ∀ k, k ≤ 10 → τ.1 (P + k) = σ.1 (P + k) := fun k hk => by
    rw [hτ]
    rw [m_ne (isP_ne hP (by decide) hk), m_ne (isP_ne hP (by decide) hk)]
  obtain ⟨f', g', a, st, c1, c2⟩ := c_boiled (σ := τ) (V := 27) (t := t) (sc := 1) hP (.inl rfl) q1.2.2.1 (by rw [q27]; exact t1) (Nat.lt_of_lt_of_le ht (pow7 p7)) (by show v_zero K (pk (τ.1 28) (τ.1 27)); rw [q27, q28, r2.1]; exact r2.2.1)
  have c2 : pk g' f' = v_earn K R z (τ.1 P 4) (τ.1 (P + 6)) (τ.1 (P + 8)) 1 (pk (τ.1 28) (τ.1 27)) := c2
  have c1 : fX4_boilInEarnest P 27 τ 1 = some (v_isOut K R z (τ.1 P 4) (τ.1 (P + 6)) (τ.1 (P + 8)) 1 (pk (τ.1 28) (τ.1 27)), vt (sw_wA (sw_wA τ (P + 10) a) (P + 9) st) 27 f' g') := c1
  have qP0 : τ.1 P = σ.1 P := qP 0 (by decide)
  rw [q27, q28, r2.1, qP0, qP 6 (by decide), qP 8 (by decide)] at c1 c2
  obtain ⟨O, hO⟩ : ∃ O, O = v_isOut K R z (σ.1 P 4) (σ.1 (P + 6)) (σ.1 (P + 8)) 1 (ck (σ.1 65)) := ⟨_, rfl⟩
  have hO01 : O = 0 ∨ O = 1 := by rw [hO]; exact isOut01
  have ec : fX9_boil σ = some (O, vt (sw_wA (sw_wA τ (P + 10) a) (P + 9) st) 27 f' g') := by
    rw [fX9_boil, d4, if_pos hlt, k1, b1_s, q1.1, c1, b2_s, ← hO]
    rcases hO01 with e | e
    · rw [e, if_pos rfl]
    · rw [e, if_neg i10]
  obtain ⟨υ, hυ⟩ : ∃ υ, υ = vt (sw_wA (sw_wA τ (P + 10) a) (P + 9) st) 27 f' g' := ⟨_, rfl⟩
  rw [← hυ] at ec
  have u1 : rl_p υ P K N R Bn z mm ww := by
    rw [hυ, hτ]
    rcases hP with rfl | rfl <;> exact rl_p_cg rfl rfl rfl rfl rfl rfl rfl rfl rfl rfl rfl rfl rfl rfl rfl rfl rfl rfl rfl rfl rfl r1
  have uo : ∀ x, x ≠ 27 → x ≠ 28 → x ≠ 29 → x ≠ 30 → x ≠ P + 9 → x ≠ P + 10 → υ.1 x = σ.1 x := by
    intro x x1 x2 x3 x4 x5 x6
    rw [hυ, hτ, vt_ne x1 x2, m_ne x5, m_ne x6, m_ne x3, m_ne x4]
  have n9 : ∀ x, 26 < x → x ≠ P + 9 := fun x hx => (isP_ne hP hx (by decide)).symm
  have n10 : ∀ x, 26 < x → x ≠ P + 10 := fun x hx => (isP_ne hP hx (by decide)).symm
  have u49 : υ.1 49 = σ.1 49 := uo 49 (by decide) (by decide) (by decide) (by decide) (n9 _ (by decide)) (n10 _ (by decide))
  have u65 : υ.1 65 = σ.1 65 := uo 65 (by decide) (by decide) (by decide) (by decide) (n9 _ (by decide)) (n10 _ (by decide))
  have u67 : υ.1 67 = σ.1 67 := uo 67 (by decide) (by decide) (by decide) (by decide) (n9 _ (by decide)) (n10 _ (by decide))
  have k2' := k2 υ (by rw [u49]) u67 u65
  obtain ⟨ω, hω⟩ : ∃ ω, ω = sw_wA (sw_wA (sw_wA υ 67 M') 49 (upd (upd (υ.1 49) 52 (nI h')) 53 0)) 66 (v_mix 10 (σ.1 65) (υ.1 66)) := ⟨_, rfl⟩
  rw [← hω] at k2'
  have w1 : rl_p ω P K N R Bn z mm ww := by
    rw [hω]
    have r1 := u1
    rcases hP with rfl | rfl <;> exact rl_p_cg rfl rfl rfl rfl rfl rfl rfl rfl rfl rfl rfl rfl rfl rfl rfl rfl rfl rfl rfl rfl rfl r1
  have wP : ∀ k, k ≤ 8 → ω.1 (P + k) = σ.1 (P + k) := fun k hk => by
    rw [hω, m_ne (isP_ne hP (by decide) (by omega)), m_ne (isP_ne hP (by decide) (by omega)), m_ne (isP_ne hP (by decide) (by omega))]
    exact uo _ (isP_ne hP (by decide) (by omega)) (isP_ne hP (by decide) (by omega)) (isP_ne hP (by decide) (by omega)) (isP_ne hP (by decide) (by omega)) (by omega) (by omega)
  have w66 : ck (ω.1 66) = ck (σ.1 65) := by rw [hω, m_eq, ck_mix10]
  obtain ⟨f2, a2, st2, e1, e2⟩ := e_boiled' (sc := 1) w1 (by rw [w66]; exact t3)
  have wP0 : ω.1 P = σ.1 P := wP 0 (by decide)
  rw [w66, wP0, wP 6 (by decide), wP 8 (by decide)] at e1 e2
  rw [← hO] at e1
  have ee : fX10_boil υ = some (O, sw_wA (sw_wA (sw_wA (sw_wA ω 58 a2) 57 st2) 66 f2) 65 (v_mix 10 f2 (σ.1 65))) := by
    have x65 : ω.1 65 = σ.1 65 := by rw [hω]; exact u65
    rw [fX10_boil, u65, d3, if_neg hne, k2', b1_s, e1, b2_s, e_keepAir, b1_s, m_eq, m_ne (show 65 ≠ 66 by decide), m_ne (show 65 ≠ 57 by decide), m_ne (show 65 ≠ 58 by decide), x65]
    rcases hO01 with e | e
    · rw [e]; rfl
    · rw [e]; rfl
  refine k_mk ec ee rfl ?_
  have hvv : pk g' f' = ck (v_mix 10 f2 (σ.1 65)) := by rw [ck_mix10, e2, c2]
  have hok : vok K N Bn mm (ck (v_mix 10 f2 (σ.1 65))) := by
    rw [ck_mix10, e2]
    exact vok_earn p3.ρ p9 hK r2.2 (by rw [ck_lo (by decide), d3]; exact hne)
  subst hω hυ hτ
  rcases hP with rfl | rfl <;> exact ⟨_, _, _, _, _, _, _, _, rl_p_cg rfl rfl rfl rfl rfl rfl rfl rfl rfl rfl rfl rfl rfl rfl rfl rfl rfl rfl rfl rfl rfl r1, ⟨hvv, hok⟩, rl_a_of k3 k4 rfl rfl rfl rfl rfl rfl, rl_b_cg rfl rfl rfl rfl r4, rl_l_cg rfl rfl rfl rfl r5, rl_s_cg rfl rfl rfl rfl rfl rfl rfl rfl rfl rfl rfl rfl rfl rfl rfl rfl rfl rfl r6, rl_t_cg rfl rfl r7, rl_f_cg rfl rfl rfl rfl r8, rl_i_cg rfl rfl rfl rfl rfl r9⟩
end KD
