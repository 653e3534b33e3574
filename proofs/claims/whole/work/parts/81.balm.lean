/-! balm, cook, will -/
section KJ
variable {σ τ : sw_M} {P K N R Bn z : Nat} {mm ww : Nat → Nat}
theorem lack_eq {q B : Nat} {u : Nat → Int32} (r1 : rl_p σ P K N R Bn z mm ww) (hq : q < Bn) (hn : nv K B u) : (v_sum (fun k => fX10_greater 0 (σ.1 (P + 5) (5 * q + k) - u k)) K = 0) ↔ ¬ v_hold (fun j => σ.1 (P + 5) (5 * q + j)) u K = 0 := by
  have hl := lack_rel r1 hq hn
  obtain ⟨p1, p2, p3, p4, p5, ⟨p6, p7, p8⟩, p9, p10, p11, p12⟩ := r1
  obtain ⟨n, n1, n2, n3⟩ := hn
  obtain ⟨x, hx, e⟩ := lack_n (w := fun j => σ.1 (P + 5) (5 * q + j)) (m := fun j => ww (5 * q + j)) (fun j hj => (p11 q j hq hj).1) n1 (fun j hj => by have := (p11 q j hq hj).2.2; show ww (5 * q + j) ≤ 999; omega) n2 p3.k5
  have e : v_sum (fun k => fX10_greater 0 (σ.1 (P + 5) (5 * q + k) - u k)) K = nI x := e
  rw [e] at hl ⊢
  rw [← hl]
  constructor
  · intro h
    rw [h]
    decide
  · intro h
    by_cases hx0 : x = 0
    · rw [hx0, nI_0]
    · exact absurd h (nI_nle (by omega) (by omega))
theorem c_hold_at {m : sw_M} {t q : Nat} (r1 : rl_p σ P K N R Bn z mm ww) (r2 : rl_v σ K N Bn mm) (h : agc P σ m) (hq : q < Bn) : ∃ m', fX3_wouldHold P 27 m (nI t) (nI q) = some ((if v_hold (fun j => σ.1 (P + 5) (5 * q + j)) (v_told K (σ.1 (P + 4)) (nI t) N (ck (σ.1 65))) K = 0 then 0 else 1), m') ∧ agc P σ m' := by
  have hP := rl_isP r1
  obtain ⟨t0, h0, h1, h2, h3⟩ := rl_told r2
  obtain ⟨v1, v2⟩ := agc_v hP h
  have q1 := rl_p_agc r1 h
  have p8 := r1.2.2.2.2.2.1.2.2
  obtain ⟨f, g, c1, c2⟩ := c_copy (σ := m)
  have ct := c_tell (σ := m) (P := P) (V := 35) (K := K) (N := N) (f := f) (g := g) (s := nI t) hP (.inr rfl) q1.2.2.1.k q1.2.2.1.k5 q1.2.2.2.2.1.1 q1.2.2.2.2.1.2.2
  obtain ⟨F, hF⟩ : ∃ F, F = upd f 1 (f 1 ||| nI t) := ⟨_, rfl⟩
  obtain ⟨G, hG⟩ : ∃ G, G = v_pours K (m.1 (P + 4)) (nI t) g N := ⟨_, rfl⟩
  have hu : pk G F = v_told K (σ.1 (P + 4)) (nI t) N (ck (σ.1 65)) := by rw [hF, hG, c_told q1.2.2.1.k5, c2, v1, v2, r2.1, agc_P hP h (show 4 ≤ 8 by decide)]
  rw [← hF, ← hG] at ct
  have a2 : agc P σ (vt m 35 F G) := h.tr agc_vt
  have q2 := rl_p_agc r1 a2
  have hl := c_lacking (σ := vt m 35 F G) (P := P) (a := 36) (K := K) (q := q) rfl q2.2.2.1.k q2.2.2.1.k5 (by omega)
  have e36 : (vt m 35 F G).1 36 = G := vt_1
  have e5 : (vt m 35 F G).1 (P + 5) = σ.1 (P + 5) := agc_P hP a2 (by decide)
  rw [e36, e5] at hl
  have es : v_sum (fun k => fX10_greater 0 (σ.1 (P + 5) (5 * q + k) - G k)) K = v_sum (fun k => fX10_greater 0 (σ.1 (P + 5) (5 * q + k) - v_told K (σ.1 (P + 4)) (nI t) N (ck (σ.1 65)) k)) K := by
    refine v_sum_cg (fun j hj => ?_)
    have hK := r1.2.2.1.k5
    rw [← hu, pk_lo (by omega)]
  rw [es] at hl
  have hle := lack_eq r1 hq (nv_told_at (t := t) r1 h3)
  refine ⟨vt m 35 F G, ?_, a2⟩
  unfold fX3_wouldHold
  rw [c1, b1_s, ct, b1_s, hl, b1_s]
  by_cases hh : v_hold (fun j => σ.1 (P + 5) (5 * q + j)) (v_told K (σ.1 (P + 4)) (nI t) N (ck (σ.1 65))) K = 0
  · rw [if_neg (fun e => hle.mp e hh), if_pos hh]
  · rw [if_pos (hle.mpr hh), if_neg hh]
theorem e_hold_at {m : sw_M} {f : Nat → Int32} {q : Nat} (r1 : rl_p σ P K N R Bn z mm ww) (h : agc P σ τ) (h' : age τ m) (hq : q < Bn) : fX10_holds (sw_wA m 66 f) (nI q) = some (v_hold (fun j => σ.1 (P + 5) (5 * q + j)) (ck f) K) := by
  have hP := rl_isP r1
  have ha : age τ (sw_wA m 66 f) := h'.tr (age_w (.inr (.inr (.inl rfl))))
  have q2 := rl_p_age (rl_p_agc r1 h) ha
  have hw := rl_w q2
  have hK := r1.2.2.1.k5
  have p8 := r1.2.2.2.2.2.1.2.2
  have e5 : (sw_wA m 66 f).1 (P + 5) = σ.1 (P + 5) := (age_P hP ha (by decide)).trans (agc_P hP h (by decide))
  rw [e_holds (K := K) q2.2.2.2.1.k hK (by omega)]
  congr 1
  refine v_hold_cg (fun j hj => ?_) (fun j hj => ?_)
  · rw [← e5]
    exact (hw q j hq hj).symm
  · rw [m_eq, ck_lo (by omega)]
theorem k_balm (a b : Int32) (h : rel σ) : k_mm (fX9_balm σ a b) (fun τ => fX10_balm τ a b) := by
  obtain ⟨P, K, N, R, Bn, z, mm, ww, hr⟩ := id h
  have hP := rl_isP hr.1
  have r1 := hr.1
  have r2 := hr.2.1
  obtain ⟨p1, p2, p3, p4, ⟨p5, p6, p7⟩, ⟨b6, b7, b8⟩, p8⟩ := id r1
  obtain ⟨t0, h0, h1, h2, h3⟩ := rl_told r2
  have h7 := pow7 p7
  have ib := isIn_n 1 (by decide) b 1 rfl
  by_cases ha : (if a < 0 then (0 : Int32) else if nI Bn ≤ a then 0 else 1) = 0
  · exact look_n hr (r := -1) (by rw [fX9_balm, p1, basin_c b6, if_pos ha]) (by show fX10_balm σ a b = _; rw [fX10_balm, basin_e b7 b8, if_pos ha])
  obtain ⟨i, hi, rfl⟩ := in_some (by omega) ha
  by_cases hb : (if b < 0 then (0 : Int32) else if nI (1 + 1) ≤ b then 0 else 1) = 0
  · refine look_n hr (r := -1) ?_ (by show fX10_balm σ (nI i) b = _; rw [fX10_balm, basin_e b7 b8, if_neg ha, ib, if_pos hb])
    rw [fX9_balm, p1, basin_c b6, if_neg ha]
    rcases no01 hb with e1 | ⟨e1, e2⟩
    · rw [if_pos e1]
    · rw [if_neg e1, if_neg e2]
  obtain ⟨j, hj, rfl⟩ := in_some (K := 1 + 1) (by decide) hb
  have j1 : nI j ≤ 1 := nI_le (b := 1) (by omega) (by decide)
  refine k_look hr (fun τ hτ => ?_)
  obtain ⟨S, hS⟩ : ∃ S, S = 2 ^ N - 1 - t0 := ⟨_, rfl⟩
  have hSN : S < 2 ^ N := by omega
  have ec : fX9_balm σ (nI i) (nI j) = sw_wh sw_F (fun s : Int32 × Int32 × sw_M => fX9_balm_L33 s.2.2 (nI i) (nI j) (nI S) s.1 s.2.1) ((-1), 0, σ) := by
    rw [fX9_balm, p1, basin_c b6, if_neg ha, if_neg (nI_pos (by omega)), if_pos j1, let_s, sil_cs r1 h1 h0, hS]
  have ee : fX10_balm τ (nI i) (nI j) = sw_wh sw_F (fun s : Int32 × Int32 × sw_M => fX10_balm_L30 s.2.2 (nI i) (nI j) (nI S) s.1 s.2.1) ((-1), 0, τ) := by
    rw [fX10_balm, basin_e (rl_p_agc r1 hτ).2.2.2.2.2.1.2.1 b8, if_neg ha, ib, if_neg hb, let_s, sil_es (rl_p_agc r1 hτ) (told_at hP hτ age.rf h2) h0, hS]
  show ∃ x y, fX9_balm σ (nI i) (nI j) = some x ∧ fX10_balm τ (nI i) (nI j) = some y ∧ x.1 = y.1 ∧ agc P σ x.2 ∧ age τ y.2
  rw [ec, ee]
  refine wh_rel (b := fun s : Int32 × Int32 × sw_M => fX9_balm_L33 s.2.2 (nI i) (nI j) (nI S) s.1 s.2.1) (c := fun s : Int32 × Int32 × sw_M => fX10_balm_L30 s.2.2 (nI i) (nI j) (nI S) s.1 s.2.1) (fun k s t => s.1 = t.1 ∧ s.2.1 = nI k ∧ t.2.1 = nI k ∧ agc P σ s.2.2 ∧ age τ t.2.2 ∧ (s.1 = -1 ∨ ∃ x, x < 128 ∧ s.1 = nI x)) (fun x y => x.1 = y.1 ∧ agc P σ x.2 ∧ age τ y.2) (S + 1) (fun k s t hk hI => ?_) ⟨rfl, rfl, rfl, agc.rf, age.rf, .inl rfl⟩ (by omega)
  obtain ⟨b, y, m1⟩ := s
  obtain ⟨b', y', m2⟩ := t
  obtain ⟨rfl, rfl, rfl, i5, i6, i7⟩ : b = b' ∧ y = nI k ∧ y' = nI k ∧ agc P σ m1 ∧ age τ m2 ∧ (b = -1 ∨ ∃ x, x < 128 ∧ b = nI x) := hI
  have q1 := rl_p_agc r1 i5
  by_cases hkS : k ≤ S
  · refine .inl ?_
    show ∃ s' t', fX9_balm_L33 m1 (nI i) (nI j) (nI S) b (nI k) = some (.inl s') ∧ fX10_balm_L30 m2 (nI i) (nI j) (nI S) b (nI k) = some (.inl t') ∧ (s'.1 = t'.1 ∧ s'.2.1 = nI (k + 1) ∧ t'.2.1 = nI (k + 1) ∧ agc P σ s'.2.2 ∧ age τ t'.2.2 ∧ (s'.1 = -1 ∨ ∃ x, x < 128 ∧ s'.1 = nI x)) ∧ k < S + 1
    have hnl : ¬ nI S < nI k := nI_nlt hkS (by omega)
    obtain ⟨m1', g1, g2⟩ := c_hold_at (t := k) (q := i) r1 r2 i5 hi
    obtain ⟨g, f, e1, e2, e3, e4⟩ := e_tell_at (m := m2) (t := k) r1 hτ i6 (by omega)
    have b1 := e_hold_at (m := m2) (f := f) r1 hτ i6 hi
    rw [e3] at b1
    have b2 : age τ (sw_wA m2 66 f) := i6.tr (age_w (.inr (.inr (.inl rfl))))
    obtain ⟨W, hW⟩ : ∃ W, W = v_hold (fun j => σ.1 (P + 5) (5 * i + j)) (v_told K (σ.1 (P + 4)) (nI k) N (ck (σ.1 65))) K := ⟨_, rfl⟩
    rw [← hW] at g1 b1
    have stay : ∃ s' t', fX9_balm_L86 m1 (nI i) (nI j) (nI S) b (nI k) = some (.inl s') ∧ fX10_balm_L88 m2 (nI i) (nI j) (nI S) b (nI k) = some (.inl t') ∧ (s'.1 = t'.1 ∧ s'.2.1 = nI (k + 1) ∧ t'.2.1 = nI (k + 1) ∧ agc P σ s'.2.2 ∧ age τ t'.2.2 ∧ (s'.1 = -1 ∨ ∃ x, x < 128 ∧ s'.1 = nI x)) ∧ k < S + 1 := by
      rw [fX9_balm_L86, fX10_balm_L88, let_s, let_s, nI_1]
      exact ⟨_, _, rfl, rfl, ⟨rfl, rfl, rfl, i5, i6, i7⟩, by omega⟩
    have try_it : ∃ s' t', (sw_b2 (fX3_wouldHold (sw_pl (m1.2.2 0)) 27 m1 (nI k) (nI i)) fun r4 m5 => if r4 = 0 then fX9_balm_L86 m5 (nI i) (nI j) (nI S) b (nI k) else fX9_balm_L86 m5 (nI i) (nI j) (nI S) (nI k) (nI k)) = some (.inl s') ∧ fX10_balm_L66 m2 (nI i) (nI j) (nI S) b (nI k) = some (.inl t') ∧ (s'.1 = t'.1 ∧ s'.2.1 = nI (k + 1) ∧ t'.2.1 = nI (k + 1) ∧ agc P σ s'.2.2 ∧ age τ t'.2.2 ∧ (s'.1 = -1 ∨ ∃ x, x < 128 ∧ s'.1 = nI x)) ∧ k < S + 1 := by
      rw [q1.1, g1, b2_s, fX10_balm_L66, e1, b1_s, e2, b1_s, b1, b1_s]
      by_cases e : W = 0
      · rw [if_pos e, if_pos rfl, if_pos e, fX9_balm_L86, fX10_balm_L88, let_s, let_s, nI_1]
        exact ⟨_, _, rfl, rfl, ⟨rfl, rfl, rfl, g2, b2, i7⟩, by omega⟩
      · rw [if_neg e, if_neg i10, if_neg e, fX9_balm_L86, fX10_balm_L88, let_s, let_s, nI_1]
        exact ⟨_, _, rfl, rfl, ⟨rfl, rfl, rfl, g2, b2, .inr ⟨k, by omega, rfl⟩⟩, by omega⟩
    unfold fX9_balm_L33 fX10_balm_L30
    rw [if_neg hnl, if_neg hnl]
    by_cases hx : nI k &&& (nI S ^^^ (-1)) = 0
    · rw [if_pos hx, if_pos hx]
      rcases i7 with rfl | ⟨x, hx8, rfl⟩
      · rw [fewer_m, if_neg i10, if_pos (show (-1 : Int32) < 0 by decide)]
        exact try_it
      · rw [fewer_n (by omega), if_neg (nI_pos (by omega)), bits_e (show k < 128 by omega), bits_e hx8, b1_s, b1_s]
        by_cases hc : fJ6_bitCount_0f7a4 (nI x) ≤ fJ6_bitCount_0f7a4 (nI k)
        · rw [if_pos hc, if_pos rfl, if_neg (Int32.not_lt.mpr hc)]
          exact stay
        · rw [if_neg hc, if_neg i10, if_pos (Int32.not_le.mp hc)]
          exact try_it
    · rw [if_neg hx, if_neg hx]
      exact stay
  · have ek : k = S + 1 := by omega
    refine .inr ?_
    show ∃ x y, fX9_balm_L33 m1 (nI i) (nI j) (nI S) b (nI k) = some (.inr x) ∧ fX10_balm_L30 m2 (nI i) (nI j) (nI S) b (nI k) = some (.inr y) ∧ (x.1 = y.1 ∧ agc P σ x.2 ∧ age τ y.2)
    have hlt : nI S < nI k := nI_lt (by omega) (by omega)
    unfold fX9_balm_L33 fX10_balm_L30
    rw [if_pos hlt, if_pos hlt]
    rcases i7 with rfl | ⟨x, hx8, rfl⟩
    · rw [if_neg (by decide), fX9_countOrBits, if_pos rfl]
      exact ⟨_, _, rfl, rfl, rfl, i5, i6⟩
    · rw [if_pos (nI_pos' (by omega)), fX9_countOrBits, if_neg (nI_nm (by omega)), bits_e hx8, b1_s]
      by_cases h : nI j = 0
      · rw [if_pos h, if_pos h]
        exact ⟨_, _, rfl, rfl, rfl, i5, i6⟩
      · rw [if_neg h, if_neg h]
        exact ⟨_, _, rfl, rfl, rfl, i5, i6⟩
/-- both vats at hand are the same -/
def bp (σ τ : sw_M) (P K : Nat) (m1 m2 : sw_M) : Prop := agc P σ m1 ∧ age τ m2 ∧ pk (m1.1 36) (m1.1 35) = ck (m2.1 66) ∧ v_zero K (ck (m2.1 66)) ∧ (∃ B, nv K B (ck (m2.1 66))) ∧ ∃ t, t < 128 ∧ m1.1 35 1 = nI t
theorem bp_0 (r1 : rl_p σ P K N R Bn z mm ww) (r2 : rl_v σ K N Bn mm) (h : agc P σ τ) : ∃ m1 m2, fX8_copy 35 27 σ = some m1 ∧ fX10_fill τ = some m2 ∧ bp σ τ P K m1 m2 := by
  have hP := rl_isP r1
  obtain ⟨t0, h0, h1, h2, h3⟩ := rl_told r2
  obtain ⟨f, g, c1, c2⟩ := c_copy (σ := σ)
  have e65 : τ.1 65 = σ.1 65 := agc_n hP h (by decide)
  have e66 : ck ((sw_wA τ 66 (v_mix 10 (τ.1 65) (τ.1 66))).1 66) = ck (σ.1 65) := by rw [m_eq, ck_mix10, e65]
  refine ⟨_, _, c1, e_fill, agc_vt, age_w (.inr (.inr (.inl rfl))), ?_, ?_, ⟨n_burs mm K (nI t0) N, ?_⟩, t0, Nat.lt_of_lt_of_le h0 (pow7 r1.2.2.2.2.1.2.2), ?_⟩
  · rw [e66, vt_0]
    show pk ((vt σ 35 f g).1 (35 + 1)) f = _
    rw [vt_1, c2, r2.1]
  · rw [e66]
    exact r2.2.1
  · rw [e66]
    exact h3
  · rw [vt_0]
    have e1 : pk g f 5 = f 1 := pk_hi (i := 1) (by decide) (by decide)
    have e2 : pk (σ.1 28) (σ.1 27) 5 = σ.1 27 1 := pk_hi (i := 1) (by decide) (by decide)
    rw [← e1, c2, e2, h1]
theorem bp_step {m1 m2 : sw_M} {sc : Int32} (r1 : rl_p σ P K N R Bn z mm ww) (h : agc P σ τ) (hb : bp σ τ P K m1 m2) : ∃ O m1' m2', fX4_boilInEarnest P 35 m1 sc = some (O, m1') ∧ fX10_goBoiling m2 sc = some (O, m2') ∧ bp σ τ P K m1' m2' := by
  have hP := rl_isP r1
  obtain ⟨i1, i2, i3, i4, ⟨B, i5⟩, t, i6, i7⟩ := hb
  have q1 := rl_p_agc r1 i1
  have q2 := rl_p_age (rl_p_agc r1 h) i2
  have hi3 : pk (m1.1 (35 + 1)) (m1.1 35) = ck (m2.1 66) := i3
  obtain ⟨f', g', a, st, c1, c2⟩ := c_boiled (σ := m1) (V := 35) (t := t) (sc := sc) hP (.inr rfl) q1.2.2.1 i7 i6 (by rw [hi3]; exact i4)
  obtain ⟨f2, a2, st2, e1, e2⟩ := e_boiled' (τ := m2) (sc := sc) q2 i5
  have x0 : m1.1 P = m2.1 P := (agc_P hP i1 (show 0 ≤ 8 by decide)).trans ((age_P hP i2 (show 0 ≤ 8 by decide)).trans (agc_P hP h (show 0 ≤ 8 by decide))).symm
  have x6 : m1.1 (P + 6) = m2.1 (P + 6) := (agc_P hP i1 (show 6 ≤ 8 by decide)).trans ((age_P hP i2 (show 6 ≤ 8 by decide)).trans (agc_P hP h (show 6 ≤ 8 by decide))).symm
  have x8 : m1.1 (P + 8) = m2.1 (P + 8) := (agc_P hP i1 (show 8 ≤ 8 by decide)).trans ((age_P hP i2 (show 8 ≤ 8 by decide)).trans (agc_P hP h (show 8 ≤ 8 by decide))).symm
  rw [hi3, x0, x6, x8] at c1 c2
  refine ⟨_, _, _, c1, e1, ?_, ?_, ?_, ?_, ⟨B, ?_⟩, t, i6, ?_⟩
  · exact i1.tr ((agc_w (.inr (.inr (.inr (.inr (.inr rfl)))))).tr ((agc_w (.inr (.inr (.inr (.inr (.inl rfl)))))).tr agc_vt))
  · exact i2.tr ((age_w (.inr (.inl rfl))).tr ((age_w (.inl rfl)).tr (age_w (.inr (.inr (.inl rfl))))))
  · rw [vt_0, m_eq, e2]
    show pk ((vt _ 35 f' g').1 (35 + 1)) f' = _
    rw [vt_1, c2]
  · rw [m_eq, e2]
    exact v_zero_earn q2.2.2.1.ρ q2.2.2.1.k5 i4
  · rw [m_eq, e2]
    exact nv_earn q2.2.2.1.ρ q2.2.2.2.2.2.2.1.1 q2.2.2.1.k5 i5
  · rw [vt_0]
    have e5 : pk g' f' 5 = f' 1 := pk_hi (i := 1) (by decide) (by decide)
    have e6 : pk (m1.1 36) (m1.1 35) 5 = m1.1 35 1 := pk_hi (i := 1) (by decide) (by decide)
    rw [← e5, c2, earn_hi q2.2.2.1.ρ q2.2.2.1.k5 (by decide) (by decide) (by decide) (by decide), ← i3, e6, i7]
theorem k_cook (a : Int32) (h : rel σ) : k_mm (fX9_cook σ a) (fun τ => fX10_cook τ a) := by
  obtain ⟨P, K, N, R, Bn, z, mm, ww, hr⟩ := id h
  have hP := rl_isP hr.1
  have r1 := hr.1
  have r2 := hr.2.1
  obtain ⟨p1, p2, p3, p4, p5, ⟨p6, p7, p8⟩, p9⟩ := id r1
  by_cases hb : (if a < 0 then (0 : Int32) else if nI Bn ≤ a then 0 else 1) = 0
  · exact look_n hr (r := -1) (by rw [fX9_cook, p1, basin_c p6, if_pos hb]) (by show fX10_cook σ a = _; rw [fX10_cook, basin_e p7 p8, if_pos hb])
  obtain ⟨q, hq, rfl⟩ := in_some (by omega) hb
  refine k_look hr (fun τ hτ => ?_)
  obtain ⟨m1, m2, c1, c2, hbp⟩ := bp_0 r1 r2 hτ
  have hbe : fX10_isBasin τ (nI q) = (if nI q < 0 then 0 else if nI Bn ≤ nI q then 0 else 1) := basin_e (rl_p_agc r1 hτ).2.2.2.2.2.1.2.1 p8 _
  suffices main : ∃ x y, fX3_boilingsTill P 27 σ (nI q) = some x ∧ (sw_b1 (fX10_fill τ) fun m2 => sw_wh sw_F (fun s : Int32 × sw_M => fX10_cook_L16 s.2 (nI q) s.1) (0, m2)) = some y ∧ (x.1 = y.1 ∧ agc P σ x.2 ∧ age τ y.2) by
    obtain ⟨⟨x1, x2⟩, y, e1, e2, e3⟩ := main
    refine ⟨(x1, x2), y, ?_, ?_, e3⟩
    · rw [fX9_cook, p1, basin_c p6, if_neg hb, e1, b2_s]
    · show fX10_cook τ (nI q) = _
      rw [fX10_cook, hbe, if_neg hb, e2]
  unfold fX3_boilingsTill
  rw [c1, b1_s, c2, b1_s]
  refine wh_rel (b := fun s : Int32 × sw_M => fX3_boilingsTill_L11 P 27 s.2 (nI q) s.1) (c := fun s : Int32 × sw_M => fX10_cook_L16 s.2 (nI q) s.1) (fun k s t => s.1 = nI k ∧ t.1 = nI k ∧ bp σ τ P K s.2 t.2) (fun x y => x.1 = y.1 ∧ agc P σ x.2 ∧ age τ y.2) 61 (fun k s t hk hI => ?_) ⟨rfl, rfl, hbp⟩ (by decide)
  obtain ⟨y, n1⟩ := s
  obtain ⟨y', n2⟩ := t
  obtain ⟨rfl, rfl, i3⟩ : y = nI k ∧ y' = nI k ∧ bp σ τ P K n1 n2 := hI
  obtain ⟨j1, j2, j3, j4, ⟨B, j5⟩, t, j6, j7⟩ := id i3
  show (∃ s' t', fX3_boilingsTill_L11 P 27 n1 (nI q) (nI k) = some (.inl s') ∧ fX10_cook_L16 n2 (nI q) (nI k) = some (.inl t') ∧ (s'.1 = nI (k + 1) ∧ t'.1 = nI (k + 1) ∧ bp σ τ P K s'.2 t'.2) ∧ k < 61) ∨ (∃ x y, fX3_boilingsTill_L11 P 27 n1 (nI q) (nI k) = some (.inr x) ∧ fX10_cook_L16 n2 (nI q) (nI k) = some (.inr y) ∧ (x.1 = y.1 ∧ agc P σ x.2 ∧ age τ y.2))
  unfold fX3_boilingsTill_L11 fX10_cook_L16
  by_cases hk6 : k < 61
  rotate_left
  · have hlt : (60 : Int32) < nI k := nI_lt (a := 60) (by omega) (by omega)
    rw [if_pos hlt, if_pos hlt]
    exact .inr ⟨_, _, rfl, rfl, rfl, j1, j2⟩
  have hnl : ¬ (60 : Int32) < nI k := nI_nlt (a := 60) (by omega) (by decide)
  have q1 := rl_p_agc r1 j1
  have hl := c_lacking (σ := n1) (P := P) (a := 36) (K := K) (q := q) rfl q1.2.2.1.k p3.k5 (by omega)
  have e5 : n1.1 (P + 5) = σ.1 (P + 5) := agc_P hP j1 (by decide)
  have es : v_sum (fun k => fX10_greater 0 (n1.1 (P + 5) (5 * q + k) - n1.1 36 k)) K = v_sum (fun k => fX10_greater 0 (σ.1 (P + 5) (5 * q + k) - ck (n2.1 66) k)) K := by
    refine v_sum_cg (fun j hj => ?_)
    have hK := p3.k5
    rw [← j3, pk_lo (by omega), e5]
  rw [es] at hl
  have he := e_hold_at (m := n2) (f := n2.1 66) r1 hτ j2 hq
  rw [m_self] at he
  have hle := lack_eq r1 hq j5
  rw [if_neg hnl, if_neg hnl, hl, b1_s, he, b1_s]
  by_cases hh : v_hold (fun j => σ.1 (P + 5) (5 * q + j)) (ck (n2.1 66)) K = 0
  · obtain ⟨O, n1', n2', s1, s2, s3⟩ := bp_step (sc := 0) r1 hτ i3
    rw [if_neg (fun e => hle.mp e hh), if_pos hh, s1, s2, b2_s, b2_s, let_s, let_s, nI_1]
    exact .inl ⟨_, _, rfl, rfl, ⟨rfl, rfl, s3⟩, hk6⟩
  · rw [if_pos (hle.mpr hh), if_neg hh]
    exact .inr ⟨_, _, rfl, rfl, rfl, j1, j2⟩
theorem will_go {sc a b : Int32} {j n : Nat} (r1 : rl_p σ P K N R Bn z mm ww) (r2 : rl_v σ K N Bn mm) (hτ : agc P σ τ) (hj : j < K) (hn : n ≤ 60) (hab : (if b = 1 then (1 : Int32) else 0) = sc) : ∃ x y, fX3_muchBehind P 27 σ (nI j) (nI n) sc = some x ∧ (sw_b1 (fX10_fill τ) fun m4 => sw_wh sw_F (fun s : Int32 × sw_M => fX10_will_L36 s.2 (nI j) (nI n) b s.1) (0, m4)) = some y ∧ (x.1 = y.1 ∧ agc P σ x.2 ∧ age τ y.2) := by
  have hP := rl_isP r1
  have hK := r1.2.2.1.k5
  obtain ⟨m1, m2, c1, c2, hbp⟩ := bp_0 r1 r2 hτ
  unfold fX3_muchBehind
  rw [c1, b1_s, c2, b1_s]
  refine wh_rel (b := fun s : Int32 × sw_M => fX3_muchBehind_L11 P 27 s.2 (nI j) (nI n) sc s.1) (c := fun s : Int32 × sw_M => fX10_will_L36 s.2 (nI j) (nI n) b s.1) (fun k s t => s.1 = nI k ∧ t.1 = nI k ∧ bp σ τ P K s.2 t.2) (fun x y => x.1 = y.1 ∧ agc P σ x.2 ∧ age τ y.2) n (fun k s t hk hI => ?_) ⟨rfl, rfl, hbp⟩ (by omega)
  obtain ⟨y, n1⟩ := s
  obtain ⟨y', n2⟩ := t
  obtain ⟨rfl, rfl, i3⟩ : y = nI k ∧ y' = nI k ∧ bp σ τ P K n1 n2 := hI
  obtain ⟨j1, j2, j3, j4, ⟨B, j5⟩, t, j6, j7⟩ := id i3
  show (∃ s' t', fX3_muchBehind_L11 P 27 n1 (nI j) (nI n) sc (nI k) = some (.inl s') ∧ fX10_will_L36 n2 (nI j) (nI n) b (nI k) = some (.inl t') ∧ (s'.1 = nI (k + 1) ∧ t'.1 = nI (k + 1) ∧ bp σ τ P K s'.2 t'.2) ∧ k < n) ∨ (∃ x y, fX3_muchBehind_L11 P 27 n1 (nI j) (nI n) sc (nI k) = some (.inr x) ∧ fX10_will_L36 n2 (nI j) (nI n) b (nI k) = some (.inr y) ∧ (x.1 = y.1 ∧ agc P σ x.2 ∧ age τ y.2))
  unfold fX3_muchBehind_L11 fX10_will_L36
  by_cases hkn : k < n
  · obtain ⟨O, n1', n2', s1, s2, s3⟩ := bp_step (sc := sc) r1 hτ i3
    have e : (if b = 1 then fX10_will_L53 n2 (nI j) (nI n) b (nI k) 1 else fX10_will_L53 n2 (nI j) (nI n) b (nI k) 0) = fX10_will_L53 n2 (nI j) (nI n) b (nI k) sc := by
      rw [← hab]
      by_cases hb : b = 1
      · rw [if_pos hb, if_pos hb]
      · rw [if_neg hb, if_neg hb]
    rw [if_neg (le_f hkn (by omega)), if_neg (le_f hkn (by omega)), e, fX10_will_L53, s1, s2, b2_s, b2_s, let_s, let_s, nI_1]
    exact .inl ⟨_, _, rfl, rfl, ⟨rfl, rfl, s3⟩, hkn⟩
  · have ek : k = n := by omega
    have ev : n1.1 36 j = n2.1 66 j := by
      have := congrFun j3 j
      rw [pk_lo (by omega), ck_lo (by omega)] at this
      exact this
    rw [ek, if_pos (le_t n (by omega)), if_pos (le_t n (by omega)), sw_gd_t (in_t (show j < 5 by omega) (by decide)), sw_gd_t (in_t (show j < 10 by omega) (by decide)), nI_clamp (by omega)]
    exact .inr ⟨_, _, rfl, rfl, ev, j1, j2⟩
theorem k_will (a b c : Int32) (h : rel σ) : k_mm (fX9_will σ a b c) (fun τ => fX10_will τ a b c) := by
  obtain ⟨P, K, N, R, Bn, z, mm, ww, hr⟩ := id h
  have hP := rl_isP hr.1
  have r1 := hr.1
  have r2 := hr.2.1
  obtain ⟨p1, p2, p3, p4, p5⟩ := id r1
  have hK := p3.k5
  have ib := isIn_n 60 (by decide) b 60 rfl
  have ic := isIn_n 1 (by decide) c 1 rfl
  by_cases ha : (if a < 0 then (0 : Int32) else if nI K ≤ a then 0 else 1) = 0
  · exact look_n hr (r := -1) (by rw [fX9_will, p1, kind_c p3.k, if_pos ha]) (by show fX10_will σ a b c = _; rw [fX10_will, kind_e p4.k hK, if_pos ha])
  obtain ⟨j, hj, rfl⟩ := in_some (by omega) ha
  by_cases hb : (if b < 0 then (0 : Int32) else if nI (60 + 1) ≤ b then 0 else 1) = 0
  · refine look_n hr (r := -1) ?_ (by show fX10_will σ (nI j) b c = _; rw [fX10_will, kind_e p4.k hK, if_neg ha, ib, if_pos hb])
    rw [fX9_will, p1, kind_c p3.k, if_neg ha]
    rcases in_no hb with e1 | ⟨e1, e2⟩
    · rw [if_pos e1]
    · have e3 : (60 : Int32) < b := Int32.not_le.mp (nle_of (n := 60) (by decide) e1 e2)
      rw [if_neg e1, if_pos e3]
  obtain ⟨n, hn, rfl⟩ := in_some (K := 60 + 1) (by decide) hb
  have hn60 : ¬ (60 : Int32) < nI n := nI_nlt (a := 60) (by omega) (by decide)
  by_cases hc : (if c < 0 then (0 : Int32) else if nI (1 + 1) ≤ c then 0 else 1) = 0
  · refine look_n hr (r := -1) ?_ (by show fX10_will σ (nI j) (nI n) c = _; rw [fX10_will, kind_e p4.k hK, if_neg ha, ib, if_neg hb, ic, if_pos hc])
    rw [fX9_will, p1, kind_c p3.k, if_neg ha, if_neg (nI_pos (by omega)), if_neg hn60]
    rcases no01 hc with e1 | ⟨e1, e2⟩
    · rw [if_pos e1]
    · rw [if_neg e1, if_neg e2]
  obtain ⟨i, hi, rfl⟩ := in_some (K := 1 + 1) (by decide) hc
  have i1 : nI i ≤ 1 := nI_le (b := 1) (by omega) (by decide)
  refine k_look hr (fun τ hτ => ?_)
  obtain ⟨sc, hsc⟩ : ∃ sc, sc = (if nI i = 1 then (1 : Int32) else 0) := ⟨_, rfl⟩
  obtain ⟨⟨x1, x2⟩, y, e1, e2, e3⟩ := will_go (sc := sc) (a := 0) (b := nI i) r1 r2 hτ hj (show n ≤ 60 by omega) hsc.symm
  have q2 := rl_p_agc r1 hτ
  refine ⟨(x1, x2), y, ?_, ?_, e3⟩
  · rw [fX9_will, p1, kind_c p3.k, if_neg ha, if_neg (nI_pos (by omega)), if_neg hn60, if_neg (nI_pos (by omega)), if_pos i1]
    by_cases h1 : nI i = 1
    · rw [if_pos h1] at hsc ⊢
      rw [fX9_will_L56, ← hsc, e1, b2_s]
    · rw [if_neg h1] at hsc ⊢
      rw [fX9_will_L56, ← hsc, e1, b2_s]
  · show fX10_will τ (nI j) (nI n) (nI i) = _
    rw [fX10_will, kind_e q2.2.2.2.1.k hK, if_neg ha, ib, if_neg hb, ic, if_neg hc, e2]
end KJ
