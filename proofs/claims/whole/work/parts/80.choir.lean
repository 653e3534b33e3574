/-! choir, power, balm -/
theorem silent_n : ∀ N, N < 8 → ∀ t, t < 2 ^ N → (((1 : Int32) <<< (nI N &&& 31)) - 1) &&& (nI t ^^^ (-1)) = nI (2 ^ N - 1 - t) := by decide +kernel
theorem silent_p : ∀ N, N < 8 → ∀ t, t < 2 ^ N → ∀ p, p < N → v_bit (nI t) p = 0 → nI (2 ^ N - 1 - t) &&& (nI (2 ^ p) ^^^ (-1)) = nI (2 ^ N - 1 - t - 2 ^ p) := by decide +kernel
theorem or_pow {N a b : Nat} (hN : N ≤ 7) (ha : a < 2 ^ N) (hb : b < 2 ^ N) : ∃ c, c < 2 ^ N ∧ nI a ||| nI b = nI c := by
  have h7 := pow7 hN
  refine ⟨a ||| b, Nat.or_lt_two_pow ha hb, ?_⟩
  apply Int32.toBitVec_inj.mp
  rw [Int32.toBitVec_or]
  apply BitVec.eq_of_toNat_eq
  rw [BitVec.toNat_or]
  have h1 : ∀ x, x < 128 → (nI x).toBitVec.toNat = x := by
    intro x hx
    show (BitVec.ofNat 32 x).toNat = x
    rw [BitVec.toNat_ofNat, Nat.mod_eq_of_lt (by omega)]
  have h2 : (a ||| b) < 2 ^ N := Nat.or_lt_two_pow ha hb
  rw [h1 a (by omega), h1 b (by omega), h1 _ (by omega)]
theorem bits_e {t : Nat} (h : t < 128) : fX10_members (nI t) = some (fJ6_bitCount_0f7a4 (nI t)) := by rw [e_mem, bits7 t h]; rfl
section KI
variable {σ τ : sw_M} {P K N R Bn z : Nat} {mm ww : Nat → Nat}
theorem sil_cs {m : sw_M} {t : Nat} (q : rl_p m P K N R Bn z mm ww) (h1 : m.1 27 1 = nI t) (ht : t < 2 ^ N) : fX9_silentOnes m = nI (2 ^ N - 1 - t) := by
  have hN := q.2.2.2.2.1.2.2
  unfold fX9_silentOnes
  rw [q.1, q.2.2.2.2.1.1, h1, silent_n N (by omega) t ht]
theorem sil_es {m : sw_M} {t : Nat} (q : rl_p m P K N R Bn z mm ww) (h1 : m.1 65 5 = nI t) (ht : t < 2 ^ N) : fX10_silent m = nI (2 ^ N - 1 - t) := by
  have hN := q.2.2.2.2.1.2.2
  unfold fX10_silent
  rw [q.2.2.2.2.1.2.1, h1, silent_n N (by omega) t ht]
theorem told_at {m : sw_M} {t : Nat} (hP : sw_isP P) (h : agc P σ τ) (h' : age τ m) (h2 : σ.1 65 5 = nI t) : m.1 65 5 = nI t := by rw [age_n h' (by decide) (by decide) (by decide) (by decide), agc_n hP h (by decide), h2]
theorem e_with_at {m : sw_M} {t B : Nat} (r1 : rl_p σ P K N R Bn z mm ww) (h3 : nv K B (ck (σ.1 65))) (h : agc P σ τ) (h' : age τ m) (ht : t < 2 ^ N) : ∃ m', fX10_risesWith m (nI t) = some (v_isOut K R z 0 (σ.1 (P + 6)) (σ.1 (P + 8)) 0 (v_told K (σ.1 (P + 4)) (nI t) N (ck (σ.1 65))), m') ∧ age τ m' := by
  have hP := rl_isP r1
  obtain ⟨g, f, e1, e2, e3, e4⟩ := e_tell_at (m := m) (t := t) r1 h h' ht
  have ha : age τ (sw_wA m 66 f) := h'.tr (age_w (.inr (.inr (.inl rfl))))
  obtain ⟨f', a, st, b1, b2⟩ := e_boiled' (τ := sw_wA m 66 f) (sc := 0) (B := B + n_burs mm K (nI t) N) (rl_p_age (rl_p_agc r1 h) ha) (by rw [m_eq, e3]; exact nv_told_at r1 h3)
  have x6 : (sw_wA m 66 f).1 (P + 6) = σ.1 (P + 6) := (age_P hP ha (by decide)).trans (agc_P hP h (by decide))
  have x8 : (sw_wA m 66 f).1 (P + 8) = σ.1 (P + 8) := (age_P hP ha (by decide)).trans (agc_P hP h (by decide))
  rw [x6, x8, isOut_sc, m_eq, e3] at b1
  refine ⟨sw_wA (sw_wA (sw_wA (sw_wA m 66 f) 58 a) 57 st) 66 f', ?_, ha.tr ((age_w (.inr (.inl rfl))).tr ((age_w (.inl rfl)).tr (age_w (.inr (.inr (.inl rfl))))))⟩
  · unfold fX10_risesWith
    rw [e1, b1_s, e2, b1_s, b1, b2_s, sw_gd_t]
    rcases (isOut01 (K := K) (R := R) (z := z) (scum := 0) (ρ := σ.1 (P + 6)) (prog := σ.1 (P + 8)) (sc := 0) (u := v_told K (σ.1 (P + 4)) (nI t) N (ck (σ.1 65)))) with e | e
    · rw [e]; decide
    · rw [e]; decide
theorem w_ris1 {s : Int32} : w_ris σ P K N R z s 1 = if v_isOut K R z 0 (σ.1 (P + 6)) (σ.1 (P + 8)) 0 (v_told K (σ.1 (P + 4)) s N (ck (σ.1 65))) = 0 then -1 else nI 1 := by
  unfold w_ris
  rw [v_ris, v_ris]
theorem w_val {s : Int32} {most : Nat} : w_ris σ P K N R z s most = -1 ∨ ∃ j, 1 ≤ j ∧ j < 1 + most ∧ w_ris σ P K N R z s most = nI j := ris_val _ _ _
theorem fewer_m {k : Nat} : fX9_isFewer (nI k) (-1) = 1 := by rw [fX9_isFewer, if_pos rfl]
theorem fewer_n {k b : Nat} (hb : b < 2 ^ 31) : fX9_isFewer (nI k) (nI b) = if fJ6_bitCount_0f7a4 (nI b) ≤ fJ6_bitCount_0f7a4 (nI k) then 0 else 1 := by rw [fX9_isFewer, if_neg (nI_nm hb)]
theorem k_choir (a b : Int32) (h : rel σ) : k_mm (fX9_choir σ a b) (fun τ => fX10_choir τ a b) := by
  obtain ⟨P, K, N, R, Bn, z, mm, ww, hr⟩ := id h
  have hP := rl_isP hr.1
  have r1 := hr.1
  have r2 := hr.2.1
  obtain ⟨p1, p2, p3, p4, ⟨p5, p6, p7⟩, p8⟩ := id r1
  obtain ⟨t0, h0, h1, h2, h3⟩ := rl_told r2
  have h7 := pow7 p7
  have ib := isIn_n 1 (by decide) b 1 rfl
  by_cases ha1 : a < 1
  · exact look_n hr (r := -1) (by rw [fX9_choir, if_pos ha1]) (by show fX10_choir σ a b = _; rw [fX10_choir, fX10_isIn, if_pos ha1, if_pos rfl])
  by_cases ha2 : 30 < a
  · exact look_n hr (r := -1) (by rw [fX9_choir, if_neg ha1, if_pos ha2]) (by show fX10_choir σ a b = _; rw [fX10_choir, fX10_isIn, if_neg ha1, if_pos ha2, if_pos rfl])
  have ea : fX10_isIn a 1 30 = 1 := by rw [fX10_isIn, if_neg ha1, if_neg ha2]
  obtain ⟨i, hi, rfl⟩ : ∃ i, i ≤ 30 ∧ a = nI i := by
    refine nI_of2 (M := 30) (n := 30) (by decide) (fun h => ha1 ?_) (Int32.not_lt.mp ha2)
    exact Int32.lt_of_lt_of_le h (by decide)
  by_cases hb : (if b < 0 then (0 : Int32) else if nI (1 + 1) ≤ b then 0 else 1) = 0
  · refine look_n hr (r := -1) ?_ (by show fX10_choir σ (nI i) b = _; rw [fX10_choir, ea, if_neg i10, ib, if_pos hb])
    rw [fX9_choir, if_neg ha1, if_neg ha2]
    rcases no01 hb with e1 | ⟨e1, e2⟩
    · rw [if_pos e1]
    · rw [if_neg e1, if_neg e2]
  obtain ⟨j, hj, rfl⟩ := in_some (K := 1 + 1) (by decide) hb
  have j1 : nI j ≤ 1 := nI_le (b := 1) (by omega) (by decide)
  refine k_look hr (fun τ hτ => ?_)
  obtain ⟨S, hS⟩ : ∃ S, S = 2 ^ N - 1 - t0 := ⟨_, rfl⟩
  have hSN : S < 2 ^ N := by omega
  have ec : fX9_choir σ (nI i) (nI j) = sw_wh sw_F (fun s : Int32 × Int32 × sw_M => fX9_choir_L33 s.2.2 (nI i) (nI j) (nI S) s.1 s.2.1) ((-1), 0, σ) := by
    rw [fX9_choir, if_neg ha1, if_neg ha2, if_neg (nI_pos (by omega)), if_pos j1, let_s, sil_cs r1 h1 h0, hS]
  have ee : fX10_choir τ (nI i) (nI j) = sw_wh sw_F (fun s : Int32 × Int32 × sw_M => fX10_choir_L32 s.2.2 (nI i) (nI j) (nI S) s.1 s.2.1) ((-1), 0, τ) := by
    rw [fX10_choir, ea, if_neg i10, ib, if_neg hb, let_s, sil_es (rl_p_agc r1 hτ) (told_at hP hτ age.rf h2) h0, hS]
  show ∃ x y, fX9_choir σ (nI i) (nI j) = some x ∧ fX10_choir τ (nI i) (nI j) = some y ∧ x.1 = y.1 ∧ agc P σ x.2 ∧ age τ y.2
  rw [ec, ee]
  refine wh_rel (b := fun s : Int32 × Int32 × sw_M => fX9_choir_L33 s.2.2 (nI i) (nI j) (nI S) s.1 s.2.1) (c := fun s : Int32 × Int32 × sw_M => fX10_choir_L32 s.2.2 (nI i) (nI j) (nI S) s.1 s.2.1) (fun k s t => s.1 = t.1 ∧ s.2.1 = nI k ∧ t.2.1 = nI k ∧ agc P σ s.2.2 ∧ age τ t.2.2 ∧ (s.1 = -1 ∨ ∃ x, x < 128 ∧ s.1 = nI x)) (fun x y => x.1 = y.1 ∧ agc P σ x.2 ∧ age τ y.2) (S + 1) (fun k s t hk hI => ?_) ⟨rfl, rfl, rfl, agc.rf, age.rf, .inl rfl⟩ (by omega)
  obtain ⟨b, y, m1⟩ := s
  obtain ⟨b', y', m2⟩ := t
  obtain ⟨rfl, rfl, rfl, i5, i6, i7⟩ : b = b' ∧ y = nI k ∧ y' = nI k ∧ agc P σ m1 ∧ age τ m2 ∧ (b = -1 ∨ ∃ x, x < 128 ∧ b = nI x) := hI
  have q1 := rl_p_agc r1 i5
  by_cases hkS : k ≤ S
  · refine .inl ?_
    show ∃ s' t', fX9_choir_L33 m1 (nI i) (nI j) (nI S) b (nI k) = some (.inl s') ∧ fX10_choir_L32 m2 (nI i) (nI j) (nI S) b (nI k) = some (.inl t') ∧ (s'.1 = t'.1 ∧ s'.2.1 = nI (k + 1) ∧ t'.2.1 = nI (k + 1) ∧ agc P σ s'.2.2 ∧ age τ t'.2.2 ∧ (s'.1 = -1 ∨ ∃ x, x < 128 ∧ s'.1 = nI x)) ∧ k < S + 1
    have hnl : ¬ nI S < nI k := nI_nlt hkS (by omega)
    obtain ⟨m1', g1, g2⟩ := c_rise_at (most := i) (t := k) r1 r2 i5 (by omega) (by omega)
    obtain ⟨g, f, e1, e2, e3, e4⟩ := e_tell_at (m := m2) (t := k) r1 hτ i6 (by omega)
    obtain ⟨m2', b1, b2⟩ := e_rise_at (m := m2) (f := f) (most := i) r1 hτ i6 (by rw [e3]; exact nv_told_at r1 h3) (by omega)
    rw [e3] at b1
    obtain ⟨W, hW⟩ : ∃ W, W = w_ris σ P K N R z (nI k) i := ⟨_, rfl⟩
    have g1 : fX3_riseIf P 27 m1 (nI k) (nI i) = some (W, m1') := by rw [hW]; exact g1
    have b1 : fX10_risesIn (sw_wA m2 66 f) (nI i) = some (W, m2') := by rw [hW]; exact b1
    have hWv : W = -1 ∨ ∃ j, 1 ≤ j ∧ j < 1 + i ∧ W = nI j := by rw [hW]; exact w_val
    have stay : ∃ s' t', fX9_choir_L87 m1 (nI i) (nI j) (nI S) b (nI k) = some (.inl s') ∧ fX10_choir_L90 m2 (nI i) (nI j) (nI S) b (nI k) = some (.inl t') ∧ (s'.1 = t'.1 ∧ s'.2.1 = nI (k + 1) ∧ t'.2.1 = nI (k + 1) ∧ agc P σ s'.2.2 ∧ age τ t'.2.2 ∧ (s'.1 = -1 ∨ ∃ x, x < 128 ∧ s'.1 = nI x)) ∧ k < S + 1 := by
      rw [fX9_choir_L87, fX10_choir_L90, let_s, let_s, nI_1]
      exact ⟨_, _, rfl, rfl, ⟨rfl, rfl, rfl, i5, i6, i7⟩, by omega⟩
    have try_it : ∃ s' t', (sw_b2 (fX3_riseIf (sw_pl (m1.2.2 0)) 27 m1 (nI k) (nI i)) fun r4 m5 => if r4 = (-1) then fX9_choir_L87 m5 (nI i) (nI j) (nI S) b (nI k) else fX9_choir_L87 m5 (nI i) (nI j) (nI S) (nI k) (nI k)) = some (.inl s') ∧ fX10_choir_L68 m2 (nI i) (nI j) (nI S) b (nI k) = some (.inl t') ∧ (s'.1 = t'.1 ∧ s'.2.1 = nI (k + 1) ∧ t'.2.1 = nI (k + 1) ∧ agc P σ s'.2.2 ∧ age τ t'.2.2 ∧ (s'.1 = -1 ∨ ∃ x, x < 128 ∧ s'.1 = nI x)) ∧ k < S + 1 := by
      rw [q1.1, g1, b2_s, fX10_choir_L68, e1, b1_s, e2, b1_s, b1, b2_s]
      rcases hWv with e | ⟨x, x1, x2, e⟩
      · rw [e, if_pos rfl, if_pos (by decide), fX9_choir_L87, fX10_choir_L90, let_s, let_s, nI_1]
        exact ⟨_, _, rfl, rfl, ⟨rfl, rfl, rfl, g2, b2, i7⟩, by omega⟩
      · rw [e, if_neg (nI_nm (by omega)), if_neg (nI_nle (by omega) (by omega)), fX9_choir_L87, fX10_choir_L90, let_s, let_s, nI_1]
        exact ⟨_, _, rfl, rfl, ⟨rfl, rfl, rfl, g2, b2, .inr ⟨k, by omega, rfl⟩⟩, by omega⟩
    unfold fX9_choir_L33 fX10_choir_L32
    rw [if_neg hnl, if_neg hnl]
    by_cases hx : nI k &&& (nI S ^^^ (-1)) = 0
    · rw [if_pos hx, if_pos hx]
      rcases i7 with rfl | ⟨x, hx8, rfl⟩
      · rw [fewer_m, if_neg i10, if_pos (show (-1 : Int32) < 0 by decide)]
        exact try_it
      · rw [fewer_n (by omega), if_neg (nI_pos (by omega)), bits_e (show k < 128 by omega), bits_e hx8, b1_s, b1_s]
        by_cases hc : fJ6_bitCount_0f7a4 (nI x) ≤ fJ6_bitCount_0f7a4 (nI k)
        · rw [if_pos hc, if_pos rfl, if_neg (Int32.not_lt.mpr hc)]
          exact stay
        · rw [if_neg hc, if_neg i10, if_pos (Int32.not_le.mp hc)]
          exact try_it
    · rw [if_neg hx, if_neg hx]
      exact stay
  · have ek : k = S + 1 := by omega
    refine .inr ?_
    show ∃ x y, fX9_choir_L33 m1 (nI i) (nI j) (nI S) b (nI k) = some (.inr x) ∧ fX10_choir_L32 m2 (nI i) (nI j) (nI S) b (nI k) = some (.inr y) ∧ (x.1 = y.1 ∧ agc P σ x.2 ∧ age τ y.2)
    have hlt : nI S < nI k := nI_lt (by omega) (by omega)
    unfold fX9_choir_L33 fX10_choir_L32
    rw [if_pos hlt, if_pos hlt]
    rcases i7 with rfl | ⟨x, hx8, rfl⟩
    · rw [if_neg (by decide), fX9_countOrBits, if_pos rfl]
      exact ⟨_, _, rfl, rfl, rfl, i5, i6⟩
    · rw [if_pos (nI_pos' (by omega)), fX9_countOrBits, if_neg (nI_nm (by omega)), bits_e hx8, b1_s]
      by_cases h : nI j = 0
      · rw [if_pos h, if_pos h]
        exact ⟨_, _, rfl, rfl, rfl, i5, i6⟩
      · rw [if_neg h, if_neg h]
        exact ⟨_, _, rfl, rfl, rfl, i5, i6⟩
theorem k_power (a : Int32) (h : rel σ) : k_mm (fX9_power σ a) (fun τ => fX10_power τ a) := by
  obtain ⟨P, K, N, R, Bn, z, mm, ww, hr⟩ := id h
  have hP := rl_isP hr.1
  have r1 := hr.1
  have r2 := hr.2.1
  obtain ⟨p1, p2, p3, p4, ⟨p5, p6, p7⟩, p8⟩ := id r1
  obtain ⟨t0, h0, h1, h2, h3⟩ := rl_told r2
  have h7 := pow7 p7
  by_cases hb : (if a < 0 then (0 : Int32) else if nI N ≤ a then 0 else 1) = 0
  · have e : fX9_isSilent σ a = 0 := by rw [fX9_isSilent, p1, person_c p5, if_pos hb]
    exact look_n hr (r := -1) (by rw [fX9_power, e, if_pos rfl]) (by show fX10_power σ a = _; rw [fX10_power, person_e p6 p7, if_pos hb])
  obtain ⟨p, hp, rfl⟩ := in_some (by omega) hb
  have h128 := Nat.lt_of_lt_of_le h0 h7
  have hp7 : p < 7 := by omega
  have h2p : 2 ^ p < 2 ^ N := Nat.pow_lt_pow_right (by decide) hp
  rcases sil_both p1 p5 h1 h2 p7 h128 hp with ⟨hbit, s1, s2⟩ | ⟨hbit, s1, s2⟩
  rotate_left
  · exact look_n hr (r := -1) (by rw [fX9_power, s1, if_pos rfl]) (by show fX10_power σ (nI p) = _; rw [fX10_power, person_e p6 p7, if_neg hb, s2, if_neg i10])
  refine k_look hr (fun τ hτ => ?_)
  obtain ⟨ob1, ob2⟩ := one_bit p hp7
  obtain ⟨S, hS⟩ : ∃ S, S = 2 ^ N - 1 - t0 - 2 ^ p := ⟨_, rfl⟩
  have hSN : S < 2 ^ N := Nat.lt_of_le_of_lt (by rw [hS]; exact Nat.le_trans (Nat.sub_le _ _) (Nat.sub_le _ _)) (show 2 ^ N - 1 < 2 ^ N by have := Nat.two_pow_pos N; omega)
  have ec : fX9_power σ (nI p) = sw_wh sw_F (fun s : Int32 × Int32 × sw_M => fX9_power_L29 s.2.2 (nI (2 ^ p)) (nI S) s.1 s.2.1) (0, 0, σ) := by
    rw [fX9_power, s1, if_neg i10, let_s, let_s, ob1, sil_cs r1 h1 h0, silent_p N (by omega) t0 h0 p hp hbit, hS]
  have hpe : fX10_isPerson τ (nI p) = (if nI p < 0 then 0 else if nI N ≤ nI p then 0 else 1) := person_e (rl_p_agc r1 hτ).2.2.2.2.1.2.1 p7 _
  have v5 : τ.1 65 5 = nI t0 := told_at hP hτ age.rf h2
  have hte : fX10_hasTold τ (nI p) = 0 := by rw [sil_e v5, if_neg (by rw [hbit]; decide)]
  have ee : fX10_power τ (nI p) = sw_wh sw_F (fun s : Int32 × Int32 × sw_M => fX10_power_L34 s.2.2 (nI p) (nI S) s.1 s.2.1) (0, 0, τ) := by
    rw [fX10_power, hpe, if_neg hb, hte, if_pos rfl, let_s, ob1, sil_es (rl_p_agc r1 hτ) v5 h0, silent_p N (by omega) t0 h0 p hp hbit, hS]
  show ∃ x y, fX9_power σ (nI p) = some x ∧ fX10_power τ (nI p) = some y ∧ x.1 = y.1 ∧ agc P σ x.2 ∧ age τ y.2
  rw [ec, ee]
  refine wh_rel (b := fun s : Int32 × Int32 × sw_M => fX9_power_L29 s.2.2 (nI (2 ^ p)) (nI S) s.1 s.2.1) (c := fun s : Int32 × Int32 × sw_M => fX10_power_L34 s.2.2 (nI p) (nI S) s.1 s.2.1) (fun k s t => s.1 = t.1 ∧ s.2.1 = nI k ∧ t.2.1 = nI k ∧ agc P σ s.2.2 ∧ age τ t.2.2) (fun x y => x.1 = y.1 ∧ agc P σ x.2 ∧ age τ y.2) (S + 1) (fun k s t hk hI => ?_) ⟨rfl, rfl, rfl, agc.rf, age.rf⟩ (by omega)
  obtain ⟨b, y, m1⟩ := s
  obtain ⟨b', y', m2⟩ := t
  obtain ⟨rfl, rfl, rfl, i5, i6⟩ : b = b' ∧ y = nI k ∧ y' = nI k ∧ agc P σ m1 ∧ age τ m2 := hI
  by_cases hkS : k ≤ S
  · refine .inl ?_
    show ∃ s' t', fX9_power_L29 m1 (nI (2 ^ p)) (nI S) b (nI k) = some (.inl s') ∧ fX10_power_L34 m2 (nI p) (nI S) b (nI k) = some (.inl t') ∧ (s'.1 = t'.1 ∧ s'.2.1 = nI (k + 1) ∧ t'.2.1 = nI (k + 1) ∧ agc P σ s'.2.2 ∧ age τ t'.2.2) ∧ k < S + 1
    have hnl : ¬ nI S < nI k := nI_nlt hkS (by omega)
    have stay : ∀ (c : Int32) (n1 n2 : sw_M), agc P σ n1 → age τ n2 → ∃ s' t', fX9_power_L96 n1 (nI (2 ^ p)) (nI S) c (nI k) = some (.inl s') ∧ fX10_power_L74 n2 (nI p) (nI S) c (nI k) = some (.inl t') ∧ (s'.1 = t'.1 ∧ s'.2.1 = nI (k + 1) ∧ t'.2.1 = nI (k + 1) ∧ agc P σ s'.2.2 ∧ age τ t'.2.2) ∧ k < S + 1 := by
      intro c n1 n2 a1 a2
      rw [fX9_power_L96, fX10_power_L74, let_s, let_s, nI_1]
      exact ⟨_, _, rfl, rfl, ⟨rfl, rfl, rfl, a1, a2⟩, by omega⟩
    unfold fX9_power_L29 fX10_power_L34
    rw [if_neg hnl, if_neg hnl]
    by_cases hx : nI k &&& (nI S ^^^ (-1)) = 0
    · rw [if_pos hx, if_pos hx]
      obtain ⟨m1', g1, g2⟩ := c_rise_at (most := 1) (t := k) r1 r2 i5 (by omega) (by decide)
      obtain ⟨m2', b1, b2⟩ := e_with_at (m := m2) (t := k) r1 h3 hτ i6 (by omega)
      rw [w_ris1] at g1
      obtain ⟨O, hO⟩ : ∃ O, O = v_isOut K R z 0 (σ.1 (P + 6)) (σ.1 (P + 8)) 0 (v_told K (σ.1 (P + 4)) (nI k) N (ck (σ.1 65))) := ⟨_, rfl⟩
      rw [← hO] at g1 b1
      have g1' : fX3_riseIf P 27 m1 (nI k) 1 = some (if O = 0 then -1 else nI 1, m1') := g1
      rw [(rl_p_agc r1 i5).1, g1', b2_s, b1, b2_s]
      by_cases hO0 : O = 0
      · obtain ⟨c, hc, eor⟩ := or_pow p7 (show k < 2 ^ N by omega) h2p
        obtain ⟨m1'', g3, g4⟩ := c_rise_at (most := 1) (t := c) r1 r2 g2 (by omega) (by decide)
        obtain ⟨m2'', b3, b4⟩ := e_with_at (m := m2') (t := c) r1 h3 hτ b2 hc
        rw [w_ris1] at g3
        obtain ⟨O2, hO2⟩ : ∃ O2, O2 = v_isOut K R z 0 (σ.1 (P + 6)) (σ.1 (P + 8)) 0 (v_told K (σ.1 (P + 4)) (nI c) N (ck (σ.1 65))) := ⟨_, rfl⟩
        rw [← hO2] at g3 b3
        have g3' : fX3_riseIf P 27 m1' (nI c) 1 = some (if O2 = 0 then -1 else nI 1, m1'') := g3
        rw [if_pos hO0, if_pos rfl, if_pos hO0, (rl_p_agc r1 g2).1, ob1, eor, g3', b2_s, b3, b2_s]
        by_cases hO3 : O2 = 0
        · rw [if_pos hO3, if_pos rfl, if_pos hO3]
          exact stay b m1'' m2'' g4 b4
        · rw [if_neg hO3, if_neg (nI_nm (by decide)), if_neg hO3, let_s, let_s]
          exact stay _ m1'' m2'' g4 b4
      · rw [if_neg hO0, if_neg (nI_nm (by decide)), if_neg hO0]
        exact stay b m1' m2' g2 b2
    · rw [if_neg hx, if_neg hx]
      exact stay b m1 m2 i5 i6
  · have ek : k = S + 1 := by omega
    refine .inr ?_
    show ∃ x y, fX9_power_L29 m1 (nI (2 ^ p)) (nI S) b (nI k) = some (.inr x) ∧ fX10_power_L34 m2 (nI p) (nI S) b (nI k) = some (.inr y) ∧ (x.1 = y.1 ∧ agc P σ x.2 ∧ age τ y.2)
    have hlt : nI S < nI k := nI_lt (by omega) (by omega)
    unfold fX9_power_L29 fX10_power_L34
    rw [if_pos hlt, if_pos hlt]
    exact ⟨_, _, rfl, rfl, rfl, i5, i6⟩
end KI
