/-! rise, rouser -/
theorem or128 {a b : Nat} (ha : a < 128) (hb : b < 128) : ∃ c, c < 128 ∧ nI a ||| nI b = nI c := by
  refine ⟨a ||| b, Nat.or_lt_two_pow (n := 7) ha hb, ?_⟩
  apply Int32.toBitVec_inj.mp
  rw [Int32.toBitVec_or]
  apply BitVec.eq_of_toNat_eq
  rw [BitVec.toNat_or]
  have h1 : ∀ x, x < 128 → (nI x).toBitVec.toNat = x := by
    intro x hx
    show (BitVec.ofNat 32 x).toNat = x
    rw [BitVec.toNat_ofNat, Nat.mod_eq_of_lt (by omega)]
  have h2 : (a ||| b) < 128 := Nat.or_lt_two_pow (n := 7) ha hb
  rw [h1 a ha, h1 b hb, h1 _ h2]
theorem no01 {a : Int32} (ha : (if a < 0 then (0 : Int32) else if nI (1 + 1) ≤ a then 0 else 1) = 0) : a < 0 ∨ (¬ a < 0 ∧ ¬ a ≤ 1) := by
  rcases in_no ha with e1 | ⟨e1, e2⟩
  · exact .inl e1
  · exact .inr ⟨e1, nle_of (n := 1) (by decide) e1 e2⟩
section KH
variable {σ τ : sw_M} {P K N R Bn z : Nat} {mm ww : Nat → Nat}
/-- calls that only look ahead -/
theorem k_look {c : Option (Int32 × sw_M)} {e : sw_M → Option (Int32 × sw_M)} (hr : relD σ P K N R Bn z mm ww) (main : ∀ τ, agc P σ τ → ∃ x y, c = some x ∧ e τ = some y ∧ x.1 = y.1 ∧ agc P σ x.2 ∧ age τ y.2) : k_mm c e := by
  obtain ⟨x, y0, h1, _, _, h4, _⟩ := main σ agc.rf
  obtain ⟨x', y, g1, g2, g3, g4, g5⟩ := main x.2 h4
  obtain rfl := Option.some.inj (h1.symm.trans g1)
  exact ⟨x.1, x.2, y.2, h1, by rw [g2, g3], _, _, _, _, _, _, _, _, relD_age (relD_agc hr h4) g5⟩
def w_ris (σ : sw_M) (P K N R z : Nat) (s : Int32) (most : Nat) : Int32 := v_ris K R z (σ.1 (P + 6)) (σ.1 (P + 8)) most 1 (v_told K (σ.1 (P + 4)) s N (ck (σ.1 65)))
theorem c_rise_at {m : sw_M} {t most : Nat} (r1 : rl_p σ P K N R Bn z mm ww) (r2 : rl_v σ K N Bn mm) (h : agc P σ m) (ht : t < 128) (hm : most ≤ 60) : ∃ m', fX3_riseIf P 27 m (nI t) (nI most) = some (w_ris σ P K N R z (nI t) most, m') ∧ agc P σ m' := by
  have hP := rl_isP r1
  obtain ⟨t0, h0, h1, h2, h3⟩ := rl_told r2
  obtain ⟨c, hc, ec⟩ := or128 (Nat.lt_of_lt_of_le h0 (pow7 r1.2.2.2.2.1.2.2)) ht
  obtain ⟨v1, v2⟩ := agc_v hP h
  obtain ⟨m', g1, g2⟩ := c_riseIf (σ := m) (most := most) (s := nI t) (t := c) (rl_p_agc r1 h) hm (by rw [v1, v2, r2.1]; exact h3) (by rw [v1, h1]; exact ec) hc
  rw [v1, v2, r2.1, agc_P hP h (show 4 ≤ 8 by decide), agc_P hP h (show 6 ≤ 8 by decide), agc_P hP h (show 8 ≤ 8 by decide)] at g1
  exact ⟨m', g1, h.tr g2⟩
theorem age_n (h : age σ τ) {a : Nat} (h1 : a ≠ 57) (h2 : a ≠ 58) (h3 : a ≠ 66) (h4 : a < 68) : τ.1 a = σ.1 a := h.2 _ h1 h2 h3 (by omega) (by omega) (by omega) (by omega) (by omega) (by omega) (by omega)
/-- the reference's vat at hand, these having told -/
theorem e_tell_at {m : sw_M} {t : Nat} (r1 : rl_p σ P K N R Bn z mm ww) (h : agc P σ τ) (h' : age τ m) (ht : t < 2 ^ N) : ∃ g f, fX10_fill m = some (sw_wA m 66 g) ∧ fX10_tellAll (sw_wA m 66 g) (nI t) = some (sw_wA m 66 f) ∧ ck f = v_told K (σ.1 (P + 4)) (nI t) N (ck (σ.1 65)) ∧ ck g = ck (σ.1 65) := by
  have hP := rl_isP r1
  have q1 := rl_p_age (rl_p_agc r1 h) h'
  have hm := rl_m q1
  have e65 : m.1 65 = σ.1 65 := (age_n h' (by decide) (by decide) (by decide) (by decide)).trans (agc_n hP h (by decide))
  have e4 : m.1 (P + 4) = σ.1 (P + 4) := (age_P hP h' (by decide)).trans (agc_P hP h (by decide))
  obtain ⟨p1, p2, p3, p4, ⟨p5, p6, p7⟩, p8⟩ := q1
  refine ⟨_, _, e_fill, e_tellAll (K := K) (N := N) p4.k p4.k5 p6 p7, ?_, ?_⟩
  · rw [e_told p4.k5 p7 ht, ck_mix10, e65, ← e4]
    exact v_told_cg (fun q j hq hj => (hm q j hq hj).symm)
  · rw [ck_mix10, e65]
theorem e_rise_at {m : sw_M} {f : Nat → Int32} {B most : Nat} (r1 : rl_p σ P K N R Bn z mm ww) (h : agc P σ τ) (h' : age τ m) (hn : nv K B (ck f)) (hm : most ≤ 60) : ∃ m', fX10_risesIn (sw_wA m 66 f) (nI most) = some (v_ris K R z (σ.1 (P + 6)) (σ.1 (P + 8)) most 1 (ck f), m') ∧ age τ m' := by
  have hP := rl_isP r1
  have ha : age τ (sw_wA m 66 f) := h'.tr (age_w (.inr (.inr (.inl rfl))))
  obtain ⟨m', g1, g2⟩ := e_risesIn (τ := sw_wA m 66 f) (most := most) (B := B) (rl_p_age (rl_p_agc r1 h) ha) hm (by rw [m_eq]; exact hn)
  have x6 : (sw_wA m 66 f).1 (P + 6) = σ.1 (P + 6) := (age_P hP ha (by decide)).trans (agc_P hP h (by decide))
  have x8 : (sw_wA m 66 f).1 (P + 8) = σ.1 (P + 8) := (age_P hP ha (by decide)).trans (agc_P hP h (by decide))
  rw [x6, x8, m_eq] at g1
  exact ⟨m', g1, ha.tr g2⟩
theorem nv_told_at {t : Nat} {B : Nat} {u : Nat → Int32} (r1 : rl_p σ P K N R Bn z mm ww) (hn : nv K B u) : nv K (B + n_burs mm K (nI t) N) (v_told K (σ.1 (P + 4)) (nI t) N u) := nv_told r1.2.2.1.k5 (rl_rep r1) (rl_mm r1) hn
theorem v_pours_0 {μ u : Nat → Int32} : ∀ {N : Nat}, N ≤ 7 → v_pours K μ 0 u N = u
  | 0, _ => rfl
  | N + 1, h => by
    have hb : ∀ m, m < 7 → v_bit 0 m = 0 := by decide
    rw [v_pours, hb N (by omega), if_neg (by decide)]
    exact v_pours_0 (by omega)
theorem v_told_0 {μ u : Nat → Int32} (hN : N ≤ 7) : v_told K μ (nI 0) N u = u := by
  rw [v_told, nI_0, v_pours_0 hN, Int32.or_zero, upd_id]
theorem k_rise (h : rel σ) : k_mm (fX9_rise σ) (fun τ => fX10_rise τ) := by
  obtain ⟨P, K, N, R, Bn, z, mm, ww, hr⟩ := id h
  have hP := rl_isP hr.1
  have r1 := hr.1
  have r2 := hr.2.1
  obtain ⟨t0, h0, h1, h2, h3⟩ := rl_told r2
  refine k_look hr (fun τ hτ => ?_)
  obtain ⟨m1, g1, g2⟩ := c_rise_at (most := 60) (t := 0) r1 r2 agc.rf (by decide) (by decide)
  obtain ⟨g, f, e1, e2, e3, e4⟩ := e_tell_at (m := τ) (t := 0) r1 hτ age.rf (Nat.two_pow_pos N)
  obtain ⟨m2, b1, b2⟩ := e_rise_at (m := τ) (f := g) (most := 60) r1 hτ age.rf (by rw [e4]; exact h3) (by decide)
  rw [w_ris, v_told_0 r1.2.2.2.2.1.2.2] at g1
  rw [e4] at b1
  obtain ⟨W, hW⟩ : ∃ W, W = v_ris K R z (σ.1 (P + 6)) (σ.1 (P + 8)) 60 1 (ck (σ.1 65)) := ⟨_, rfl⟩
  rw [← hW] at g1 b1
  refine ⟨(W, m1), (W, m2), ?_, ?_, rfl, g2, b2⟩
  · have g1' : fX3_riseIf P 27 σ 0 60 = some (W, m1) := g1
    rw [fX9_rise, r1.1, g1', b2_s]
  · have b1' : fX10_risesIn (sw_wA τ 66 g) 60 = some (W, m2) := b1
    show fX10_rise τ = _
    rw [fX10_rise, e1, b1_s, b1', b2_s]
theorem ris_val {K R z : Nat} {ρ prog : Nat → Int32} : ∀ (m i : Nat) (u : Nat → Int32), v_ris K R z ρ prog m i u = -1 ∨ ∃ j, i ≤ j ∧ j < i + m ∧ v_ris K R z ρ prog m i u = nI j := by
  intro m
  induction m with
  | zero =>
    intro i u
    exact .inl (by rw [v_ris])
  | succ m ih =>
    intro i u
    rw [v_ris]
    by_cases h : v_isOut K R z 0 ρ prog 0 u = 0
    · rw [if_pos h]
      rcases ih (i + 1) (v_earn K R z 0 ρ prog 0 u) with e | ⟨j, j1, j2, j3⟩
      · exact .inl e
      · exact .inr ⟨j, by omega, by omega, j3⟩
    · rw [if_neg h]
      exact .inr ⟨i, Nat.le_refl i, by omega, rfl⟩
theorem look_n (hr : relD σ P K N R Bn z mm ww) {r : Int32} {c : Option (Int32 × sw_M)} {e : sw_M → Option (Int32 × sw_M)} (h1 : c = some (r, σ)) (h2 : e σ = some (r, σ)) : k_mm c e := ⟨r, σ, σ, h1, h2, _, _, _, _, _, _, _, _, hr⟩
theorem k_rouser (a : Int32) (h : rel σ) : k_mm (fX9_rouser σ a) (fun τ => fX10_rouser τ a) := by
  obtain ⟨P, K, N, R, Bn, z, mm, ww, hr⟩ := id h
  have hP := rl_isP hr.1
  have r1 := hr.1
  have r2 := hr.2.1
  obtain ⟨p1, p2, p3, p4, ⟨p5, p6, p7⟩, p8⟩ := id r1
  obtain ⟨t0, h0, h1, h2, h3⟩ := rl_told r2
  have ia := isIn_n 1 (by decide) a 1 rfl
  by_cases ha : (if a < 0 then (0 : Int32) else if nI (1 + 1) ≤ a then 0 else 1) = 0
  · refine look_n hr (r := -1) ?_ (by show fX10_rouser σ a = _; rw [fX10_rouser, ia, if_pos ha])
    rw [fX9_rouser]
    rcases no01 ha with e1 | ⟨e1, e2⟩
    · rw [if_pos e1]
    · rw [if_neg e1, if_neg e2]
  obtain ⟨j, hj, rfl⟩ := in_some (K := 1 + 1) (by decide) ha
  have j1 : nI j ≤ 1 := nI_le (b := 1) (by omega) (by decide)
  refine k_look hr (fun τ hτ => ?_)
  have ec : fX9_rouser σ (nI j) = sw_wh sw_F (fun s : Int32 × Int32 × Int32 × sw_M => fX9_rouser_L19 s.2.2.2 (nI j) s.1 s.2.1 s.2.2.1) ((-1), 61, 0, σ) := by
    rw [fX9_rouser, if_neg (nI_pos (by omega)), if_pos j1]
  have ee : fX10_rouser τ (nI j) = sw_wh sw_F (fun s : Int32 × Int32 × Int32 × sw_M => fX10_rouser_L19 s.2.2.2 (nI j) s.1 s.2.1 s.2.2.1) ((-1), 61, 0, τ) := by
    rw [fX10_rouser, ia, if_neg ha]
  show ∃ x y, fX9_rouser σ (nI j) = some x ∧ fX10_rouser τ (nI j) = some y ∧ x.1 = y.1 ∧ agc P σ x.2 ∧ age τ y.2
  rw [ec, ee]
  refine wh_rel (b := fun s : Int32 × Int32 × Int32 × sw_M => fX9_rouser_L19 s.2.2.2 (nI j) s.1 s.2.1 s.2.2.1) (c := fun s : Int32 × Int32 × Int32 × sw_M => fX10_rouser_L19 s.2.2.2 (nI j) s.1 s.2.1 s.2.2.1) (fun k s t => s.1 = t.1 ∧ s.2.1 = t.2.1 ∧ s.2.2.1 = nI k ∧ t.2.2.1 = nI k ∧ agc P σ s.2.2.2 ∧ age τ t.2.2.2 ∧ (s.1 = -1 ∨ ∃ i, i < 7 ∧ s.1 = nI i)) (fun x y => x.1 = y.1 ∧ agc P σ x.2 ∧ age τ y.2) N (fun k s t hk hI => ?_) ⟨rfl, rfl, rfl, rfl, agc.rf, age.rf, .inl rfl⟩ (by omega)
  obtain ⟨b, so, y, m1⟩ := s
  obtain ⟨b', so', y', m2⟩ := t
  obtain ⟨rfl, rfl, rfl, rfl, i5, i6, i7⟩ : b = b' ∧ so = so' ∧ y = nI k ∧ y' = nI k ∧ agc P σ m1 ∧ age τ m2 ∧ (b = -1 ∨ ∃ i, i < 7 ∧ b = nI i) := hI
  have q1 := rl_p_agc r1 i5
  have q2 := rl_p_age (rl_p_agc r1 hτ) i6
  have v1 : m1.1 27 1 = nI t0 := by rw [(agc_v hP i5).1, h1]
  have v2 : m2.1 65 5 = nI t0 := by rw [age_n i6 (by decide) (by decide) (by decide) (by decide), agc_n hP hτ (by decide), h2]
  by_cases hkN : k < N
  · refine .inl ?_
    show ∃ s' t', fX9_rouser_L19 m1 (nI j) b so (nI k) = some (.inl s') ∧ fX10_rouser_L19 m2 (nI j) b so (nI k) = some (.inl t') ∧ (s'.1 = t'.1 ∧ s'.2.1 = t'.2.1 ∧ s'.2.2.1 = nI (k + 1) ∧ t'.2.2.1 = nI (k + 1) ∧ agc P σ s'.2.2.2 ∧ age τ t'.2.2.2 ∧ (s'.1 = -1 ∨ ∃ i, i < 7 ∧ s'.1 = nI i)) ∧ k < N
    have h128 := Nat.lt_of_lt_of_le h0 (pow7 p7)
    unfold fX9_rouser_L19 fX10_rouser_L19
    rw [q1.1, q1.2.2.2.2.1.1, q2.2.2.2.2.1.2.1, if_neg (le_f hkN (by omega)), if_neg (le_f hkN (by omega)), sil_c q1.1 q1.2.2.2.2.1.1 v1 p7 hkN, sil_e v2]
    rcases bit01 t0 h128 k (by omega) with e | e
    · have e' : ¬ v_bit (nI t0) k = 1 := by rw [e]; decide
      rw [if_pos e, if_neg i10, if_neg e', if_pos rfl]
      obtain ⟨ob1, ob2⟩ := one_bit k (by omega)
      obtain ⟨m1', g1, g2⟩ := c_rise_at (most := 60) (t := 2 ^ k) r1 r2 i5 ob2 (by decide)
      have f1 := e_fill (σ := m2)
      have ht1 := e_tell1 (σ := m2) (p := k) (f := v_mix 10 (m2.1 65) (m2.1 66)) q2 hkN
      have e65 : m2.1 65 = σ.1 65 := (age_n i6 (by decide) (by decide) (by decide) (by decide)).trans (agc_n hP hτ (by decide))
      have e4 : m2.1 (P + 4) = σ.1 (P + 4) := (age_P hP i6 (by decide)).trans (agc_P hP hτ (by decide))
      obtain ⟨ht1, ht2⟩ := ht1
      obtain ⟨Fm, hFm⟩ : ∃ Fm, Fm = v_tell K (m2.1 62) k (v_mix 10 (m2.1 65) (m2.1 66)) := ⟨_, rfl⟩
      rw [← hFm] at ht1 ht2
      rw [ck_mix10, e65, e4] at ht2
      obtain ⟨m2', b1, b2⟩ := e_rise_at (m := m2) (f := Fm) (most := 60) r1 hτ i6 (by rw [ht2]; exact nv_told_at r1 h3) (by decide)
      rw [ht2] at b1
      obtain ⟨W, hW⟩ : ∃ W, W = w_ris σ P K N R z (nI (2 ^ k)) 60 := ⟨_, rfl⟩
      have g1' : fX3_riseIf P 27 m1 (nI (2 ^ k)) 60 = some (W, m1') := by rw [hW]; exact g1
      have b1' : fX10_risesIn (sw_wA m2 66 Fm) 60 = some (W, m2') := by rw [hW]; exact b1
      rw [ob1, g1', b2_s, f1, b1_s, ht1, b1_s, b1', b2_s]
      have hWv := ris_val (K := K) (R := R) (z := z) (ρ := σ.1 (P + 6)) (prog := σ.1 (P + 8)) 60 1 (v_told K (σ.1 (P + 4)) (nI (2 ^ k)) N (ck (σ.1 65)))
      have hWv : W = -1 ∨ ∃ j, 1 ≤ j ∧ j < 1 + 60 ∧ W = nI j := by rw [hW]; exact hWv
      rcases hWv with e | ⟨x, x1, x2, e⟩
      · rw [e, if_pos rfl, if_pos (by decide), fX9_rouser_L84, fX10_rouser_L78, let_s, let_s, nI_1]
        exact ⟨_, _, rfl, rfl, ⟨rfl, rfl, rfl, rfl, g2, b2, i7⟩, hkN⟩
      · rw [e, if_neg (nI_nm (by omega)), if_neg (nI_pos (by omega))]
        by_cases hlt : nI x < so
        · rw [if_neg (Int32.not_le.mpr hlt), if_pos hlt, fX9_rouser_L84, fX10_rouser_L78, let_s, let_s, nI_1]
          exact ⟨_, _, rfl, rfl, ⟨rfl, rfl, rfl, rfl, g2, b2, .inr ⟨k, by omega, rfl⟩⟩, hkN⟩
        · rw [if_pos (Int32.not_lt.mp hlt), if_neg hlt, fX9_rouser_L84, fX10_rouser_L78, let_s, let_s, nI_1]
          exact ⟨_, _, rfl, rfl, ⟨rfl, rfl, rfl, rfl, g2, b2, i7⟩, hkN⟩
    · have e' : ¬ v_bit (nI t0) k = 0 := by rw [e]; decide
      rw [if_neg e', if_pos rfl, if_pos e, if_neg i10, fX9_rouser_L84, fX10_rouser_L78, let_s, let_s, nI_1]
      exact ⟨_, _, rfl, rfl, ⟨rfl, rfl, rfl, rfl, i5, i6, i7⟩, hkN⟩
  · have ek : k = N := by omega
    refine .inr ?_
    show ∃ x y, fX9_rouser_L19 m1 (nI j) b so (nI k) = some (.inr x) ∧ fX10_rouser_L19 m2 (nI j) b so (nI k) = some (.inr y) ∧ (x.1 = y.1 ∧ agc P σ x.2 ∧ age τ y.2)
    unfold fX9_rouser_L19 fX10_rouser_L19
    rw [q1.1, q1.2.2.2.2.1.1, q2.2.2.2.2.1.2.1, ek, if_pos (le_t N (by omega)), if_pos (le_t N (by omega))]
    rcases i7 with rfl | ⟨i, hi, rfl⟩
    · rw [if_pos rfl, if_neg (by decide)]
      exact ⟨_, _, rfl, rfl, rfl, i5, i6⟩
    · rw [if_neg (nI_nm (by omega)), if_pos (nI_pos' (by omega))]
      by_cases h : nI j = 0
      · rw [if_pos h, if_pos h]
        exact ⟨_, _, rfl, rfl, rfl, i5, i6⟩
      · rw [if_neg h, if_neg h]
        exact ⟨_, _, rfl, rfl, rfl, i5, i6⟩
end KH
