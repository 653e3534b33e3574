/-! when it rises, the class's side -/
section KG
variable {σ τ : sw_M} {P K N R Bn z : Nat} {mm ww : Nat → Nat}
/-- one round of riseIf behind the rules' turning -/
theorem c_48 {υ : sw_M} {k most t : Nat} {ch : Int32} {w : Nat → Int32} (hP : sw_isP P) (r1 : rl_p υ P K N R Bn z mm ww) (ht : υ.1 35 1 = nI t) (ht2 : t < 128) (hw : pk (υ.1 36) (υ.1 35) = v_boil (υ.1 (P + 6)) R w) :
    ∃ υ', agc P υ υ' ∧ pk (υ'.1 36) (υ'.1 35) = v_day (v_boil (υ.1 (P + 6)) R w) ∧ υ'.1 35 1 = nI t ∧
      fX3_riseIf_L48 P 27 υ (nI most) ch (nI (k + 1)) = (if v_isOut K R z 0 (υ.1 (P + 6)) (υ.1 (P + 8)) 0 w = 0 then (if ch = 0 then (if υ.1 (P + 7) 1 = 0 then some (.inr (-1, υ')) else some (.inl (ch, nI (k + 1 + 1), υ'))) else some (.inl (ch, nI (k + 1 + 1), υ'))) else some (.inr (nI (k + 1), υ'))) := by
  obtain ⟨υ1, hυ1⟩ : ∃ υ1, υ1 = sw_w υ 35 4 (υ.1 35 4 + 1) := ⟨_, rfl⟩
  have a1 : agc P υ υ1 := by rw [hυ1]; exact agc_w (.inl rfl)
  have e35 : υ1.1 35 = upd (υ.1 35) 4 (υ.1 35 4 + 1) := by rw [hυ1, m_w, m_eq]
  have e36 : υ1.1 36 = υ.1 36 := by rw [hυ1]; exact m_wne (by decide)
  have ed : pk (υ1.1 36) (υ1.1 35) = v_day (v_boil (υ.1 (P + 6)) R w) := by
    have e8 : pk (υ.1 36) (υ.1 35) 8 = υ.1 35 4 := pk_hi (i := 4) (by decide) (by decide)
    rw [e35, e36, pk_f (by decide) (by decide), ← hw, v_day, e8]
  have et : υ1.1 35 1 = nI t := by rw [e35, upd_n (by decide)]; exact ht
  obtain ⟨a, st, h⟩ := c_up hP (rl_p_agc r1 a1).2.2.1 et ht2
  have x8 : υ1.1 (P + 8) = υ.1 (P + 8) := agc_P hP a1 (by decide)
  rw [ed, x8, ← isOut_boil] at h
  have n1 : P + 9 ≠ 35 := isP_ne hP (by decide) (by decide)
  have n2 : P + 10 ≠ 35 := isP_ne hP (by decide) (by decide)
  have n3 : P + 9 ≠ 36 := isP_ne hP (by decide) (by decide)
  have n4 : P + 10 ≠ 36 := isP_ne hP (by decide) (by decide)
  have n5 : P + 7 ≠ P + 9 := by omega
  have n6 : P + 7 ≠ P + 10 := by omega
  refine ⟨sw_wA (sw_wA υ1 (P + 10) a) (P + 9) st, a1.tr ((agc_w (.inr (.inr (.inr (.inr (.inr rfl)))))).tr (agc_w (.inr (.inr (.inr (.inr (.inl rfl))))))), ?_, ?_, ?_⟩
  · rw [m_ne n3.symm, m_ne n4.symm, m_ne n1.symm, m_ne n2.symm]
    exact ed
  · rw [m_ne n1.symm, m_ne n2.symm]
    exact et
  · have x7 : υ1.1 (P + 7) = υ.1 (P + 7) := agc_P hP a1 (by decide)
    unfold fX3_riseIf_L48
    rw [let_s, ← hυ1, h, b2_s, m_ne n5, m_ne n6, x7, fX3_riseIf_L92, let_s, nI_1]
theorem c_riseIf {B most t : Nat} {s : Int32} (r1 : rl_p σ P K N R Bn z mm ww) (hm : most ≤ 60) (hn : nv K B (pk (σ.1 28) (σ.1 27))) (hs : σ.1 27 1 ||| s = nI t) (ht : t < 128) :
    ∃ σ', fX3_riseIf P 27 σ s (nI most) = some (v_ris K R z (σ.1 (P + 6)) (σ.1 (P + 8)) most 1 (v_told K (σ.1 (P + 4)) s N (pk (σ.1 28) (σ.1 27))), σ') ∧ agc P σ σ' := by
  have hP := rl_isP r1
  obtain ⟨p1, p2, p3, p4, ⟨p5, p5', p5''⟩, p6, ⟨p7, p7'⟩, p8, p9, p10, p11, p12, p13⟩ := id r1
  obtain ⟨ρ, hρ⟩ : ∃ ρ, ρ = σ.1 (P + 6) := ⟨_, rfl⟩
  obtain ⟨prog, hprog⟩ : ∃ prog, prog = σ.1 (P + 8) := ⟨_, rfl⟩
  obtain ⟨f, g, c1, c2⟩ := c_copy (σ := σ)
  have a0 : agc P σ (vt σ 35 f g) := agc_vt
  have ct := c_tell (σ := σ) (P := P) (V := 35) (K := K) (N := N) (f := f) (g := g) (s := s) hP (.inr rfl) p3.k p3.k5 p5 p5''
  have f1 : f 1 = σ.1 27 1 := by
    have e1 : pk g f 5 = f 1 := pk_hi (i := 1) (by decide) (by decide)
    have e2 : pk (σ.1 28) (σ.1 27) 5 = σ.1 27 1 := pk_hi (i := 1) (by decide) (by decide)
    rw [← e1, c2, e2]
  obtain ⟨F, hF⟩ : ∃ F, F = upd f 1 (f 1 ||| s) := ⟨_, rfl⟩
  obtain ⟨G, hG⟩ : ∃ G, G = v_pours K (σ.1 (P + 4)) s g N := ⟨_, rfl⟩
  have hu : pk G F = v_told K (σ.1 (P + 4)) s N (pk (σ.1 28) (σ.1 27)) := by rw [hF, hG, c_told p3.k5, c2]
  have F1 : F 1 = nI t := by rw [hF, upd_e, f1, hs]
  rw [← hF, ← hG] at ct
  have hn0 : nv K (B + n_burs mm K s N) (pk G F) := by
    rw [hu]
    exact nv_told p3.k5 (rl_rep r1) (rl_mm r1) hn
  rw [← hu, ← hρ, ← hprog]
  obtain ⟨u, huu⟩ : ∃ u, u = pk G F := ⟨_, rfl⟩
  rw [← huu] at hn0 ⊢
  generalize B + n_burs mm K s N = B' at hn0
  have main : ∃ x, fX3_riseIf P 27 σ s (nI most) = some x ∧ (x.1 = v_ris K R z ρ prog most 1 u ∧ agc P σ x.2) := by
    unfold fX3_riseIf
    rw [c1, b1_s, ct, b1_s]
    refine wh_gen (b := fun q : Int32 × Int32 × sw_M => fX3_riseIf_L23 P 27 q.2.2 (nI most) q.1 q.2.1) (fun k q => q.2.1 = nI (k + 1) ∧ agc P σ q.2.2 ∧ nv K B' (pk (q.2.2.1 36) (q.2.2.1 35)) ∧ q.2.2.1 35 1 = nI t ∧ (q.1 = 0 → v_boil ρ R (pk (q.2.2.1 36) (q.2.2.1 35)) = pk (q.2.2.1 36) (q.2.2.1 35)) ∧ v_ris K R z ρ prog most 1 u = v_ris K R z ρ prog (most - k) (k + 1) (pk (q.2.2.1 36) (q.2.2.1 35))) _ most (fun k q hk hI => ?_) (s0 := ((1 : Int32), (1 : Int32), vt σ 35 F G)) ⟨rfl, agc_vt, by rw [← vt_1 (σ := σ) (V := 35) (f := F) (g := G), ← vt_0 (σ := σ) (V := 35) (f := F) (g := G)] at huu; rw [huu] at hn0; exact hn0, by show (vt σ 35 F G).1 35 1 = nI t; rw [vt_0]; exact F1, fun e => absurd e i10, by rw [huu]; rfl⟩ (F_big (by omega))
    obtain ⟨ch, y, υ⟩ := q
    obtain ⟨rfl, i2, i3, i4, i5, i6⟩ : y = nI (k + 1) ∧ agc P σ υ ∧ nv K B' (pk (υ.1 36) (υ.1 35)) ∧ υ.1 35 1 = nI t ∧ (ch = 0 → v_boil ρ R (pk (υ.1 36) (υ.1 35)) = pk (υ.1 36) (υ.1 35)) ∧ v_ris K R z ρ prog most 1 u = v_ris K R z ρ prog (most - k) (k + 1) (pk (υ.1 36) (υ.1 35)) := hI
    by_cases hlt : k < most
    rotate_left
    · refine .inr ⟨(-1, υ), ?_, ?_, i2⟩
      · show fX3_riseIf_L23 P 27 υ (nI most) ch (nI (k + 1)) = _
        rw [fX3_riseIf_L23, if_pos (nI_lt (by omega) (by omega))]
      · rw [i6, show most - k = 0 by omega, v_ris]
    obtain ⟨m, hm1⟩ : ∃ m, most - k = m + 1 := ⟨most - k - 1, by omega⟩
    have hnl : ¬ nI most < nI (k + 1) := nI_nlt (by omega) (by omega)
    have q1 := rl_p_agc r1 i2
    have x6 : υ.1 (P + 6) = ρ := by rw [hρ]; exact agc_P hP i2 (by decide)
    obtain ⟨w, hw⟩ : ∃ w, w = pk (υ.1 36) (υ.1 35) := ⟨_, rfl⟩
    rw [← hw] at i3 i5 i6
    -- what the round comes to, once the rules have turned
    have fin : ∀ (ch' : Int32) (υ2 : sw_M), agc P σ υ2 → pk (υ2.1 36) (υ2.1 35) = v_boil ρ R w → υ2.1 35 1 = nI t → (ch' = 0 → v_boil ρ R w = w) →
        (∃ s', fX3_riseIf_L48 P 27 υ2 (nI most) ch' (nI (k + 1)) = some (.inl s') ∧ (s'.2.1 = nI (k + 1 + 1) ∧ agc P σ s'.2.2 ∧ nv K B' (pk (s'.2.2.1 36) (s'.2.2.1 35)) ∧ s'.2.2.1 35 1 = nI t ∧ (s'.1 = 0 → v_boil ρ R (pk (s'.2.2.1 36) (s'.2.2.1 35)) = pk (s'.2.2.1 36) (s'.2.2.1 35)) ∧ v_ris K R z ρ prog most 1 u = v_ris K R z ρ prog (most - (k + 1)) (k + 1 + 1) (pk (s'.2.2.1 36) (s'.2.2.1 35))) ∧ k < most) ∨ (∃ x, fX3_riseIf_L48 P 27 υ2 (nI most) ch' (nI (k + 1)) = some (.inr x) ∧ (x.1 = v_ris K R z ρ prog most 1 u ∧ agc P σ x.2)) := by
      intro ch' υ2 j1 j2 j3 j4
      have y6 : υ2.1 (P + 6) = ρ := by rw [hρ]; exact agc_P hP j1 (by decide)
      have y8 : υ2.1 (P + 8) = prog := by rw [hprog]; exact agc_P hP j1 (by decide)
      have y7 : υ2.1 (P + 7) = σ.1 (P + 7) := agc_P hP j1 (by decide)
      obtain ⟨υ', g1, g2, g3, g4⟩ := c_48 (k := k) (most := most) (ch := ch') (w := w) hP (rl_p_agc r1 j1) j3 ht (by rw [y6]; exact j2)
      rw [y6] at g2
      rw [y6, y8, y7] at g4
      rw [hm1, v_ris] at i6
      by_cases h0 : v_isOut K R z 0 ρ prog 0 w = 0
      · rw [if_pos h0] at g4
        rw [if_pos h0, earn_no h0] at i6
        have hnv : nv K B' (v_day (v_boil ρ R w)) := by
          have h5 := p3.k5
          have hb : nv K B' (v_boil ρ R w) := by
            rw [hρ]
            exact nv_boil p3.ρ p7 p3.k5 i3 (Nat.le_refl R)
          unfold v_day
          exact nv_hi (by omega) hb
        have cont : ∀ s', s' = (ch', nI (k + 1 + 1), υ') → (s'.2.1 = nI (k + 1 + 1) ∧ agc P σ s'.2.2 ∧ nv K B' (pk (s'.2.2.1 36) (s'.2.2.1 35)) ∧ s'.2.2.1 35 1 = nI t ∧ (s'.1 = 0 → v_boil ρ R (pk (s'.2.2.1 36) (s'.2.2.1 35)) = pk (s'.2.2.1 36) (s'.2.2.1 35)) ∧ v_ris K R z ρ prog most 1 u = v_ris K R z ρ prog (most - (k + 1)) (k + 1 + 1) (pk (s'.2.2.1 36) (s'.2.2.1 35))) := by
          intro s' es
          subst es
          refine ⟨rfl, j1.tr g1, ?_, g3, fun e => ?_, ?_⟩
          · show nv K B' (pk (υ'.1 36) (υ'.1 35))
            rw [g2]
            exact hnv
          · show v_boil ρ R (pk (υ'.1 36) (υ'.1 35)) = pk (υ'.1 36) (υ'.1 35)
            have e2 := j4 e
            rw [g2]
            unfold v_day
            rw [v_boil_u (K := K) (by rw [hρ]; exact p3.ρ) p3.k5 (by have := p3.k5; omega), e2, e2]
          · show _ = v_ris K R z ρ prog (most - (k + 1)) (k + 1 + 1) (pk (υ'.1 36) (υ'.1 35))
            rw [i6, g2, show most - (k + 1) = m by omega]
        by_cases hc : ch' = 0
        · rw [if_pos hc] at g4
          by_cases hd : σ.1 (P + 7) 1 = 0
          · rw [if_pos hd] at g4
            refine .inr ⟨_, g4, ?_, j1.tr g1⟩
            show -1 = _
            have e2 := j4 hc
            have hday : ∀ k, k < z → prog k ≠ -6 := by
              rw [hprog]
              exact p12 hd
            have e3 := ris_rest (z := z) (prog := prog) (by rw [hρ]; exact p3.ρ) p3.k5 hday (m + 1) (k + 1) w e2 h0
            rw [v_ris, if_pos h0, earn_no h0] at e3
            rw [i6, e3]
          · rw [if_neg hd] at g4
            exact .inl ⟨_, g4, cont _ rfl, hlt⟩
        · rw [if_neg hc] at g4
          exact .inl ⟨_, g4, cont _ rfl, hlt⟩
      · rw [if_neg h0] at g4
        rw [if_neg h0] at i6
        exact .inr ⟨_, g4, i6.symm, j1.tr g1⟩
    show (∃ s', fX3_riseIf_L23 P 27 υ (nI most) ch (nI (k + 1)) = some (.inl s') ∧ _ ∧ k < most) ∨ (∃ x, fX3_riseIf_L23 P 27 υ (nI most) ch (nI (k + 1)) = some (.inr x) ∧ _)
    unfold fX3_riseIf_L23
    rw [if_neg hnl]
    by_cases hc : ch = 0
    · rw [if_pos hc]
      exact fin ch υ i2 (by rw [i5 hc]; exact hw.symm) i4 i5
    · rw [if_neg hc]
      have hb := c_boilRules (σ := υ) (P := P) (a := 36) (K := K) (R := R) hP (by decide) rfl q1.2.2.1.r p3.k5 p3.r6 q1.2.2.1.ρ
      rw [x6] at hb
      rw [hb, b2_s]
      have n4 : P + 6 ≠ 36 := isP_ne hP (by decide) (by decide)
      have hwb : pk (v_boil ρ R (υ.1 36)) (υ.1 35) = v_boil ρ R w := by rw [hw, pk_boil (K := K) (by rw [hρ]; exact p3.ρ) p3.k5]
      refine fin _ _ (i2.tr (agc_w (.inr (.inl rfl)))) ?_ ?_ ?_
      · rw [m_eq, m_ne (show 35 ≠ 36 by decide)]
        exact hwb
      · rw [m_ne (show 35 ≠ 36 by decide)]
        exact i4
      · intro e
        have et : v_turned ρ R (υ.1 36) = v_turned ρ R w := by
          rw [hw]
          exact (v_turned_cg (n := K) (by rw [hρ]; exact p3.ρ) p3.k5 (Nat.le_refl K) (fun _ _ _ _ => rfl) (fun j hj => pk_lo (by have := p3.k5; omega)) (Nat.le_refl R)).symm
        rw [et] at e
        by_cases h0 : v_turned ρ R w ≤ 0
        · exact (rest_iff (B := B') (by rw [hρ]; exact p3.ρ) (by rw [hρ]; exact p7) p3.k5 p3.r6 i3).1 h0
        · rw [if_neg h0] at e
          exact absurd e (by decide)
  obtain ⟨⟨x, σ'⟩, h1, h2, h3⟩ := main
  have h2 : x = v_ris K R z ρ prog most 1 u := h2
  exact ⟨σ', by rw [h1, h2], h3⟩
end KG
