/-! the line that tells when a loaf rises -/
section PQ
variable {σ τ σ0 τ0 σ' τ' : sw_M} {B : Nat → Nat} {n p Q K N R Bn : Nat}
theorem hbr_f {sk : Nat → Nat} : ∀ m, (∀ i, i < m → ¬ sk i = 20) → hbr sk m = false
  | 0, _ => rfl
  | m + 1, h => by
    show (hbr sk m || decide (sk m = 20)) = false
    rw [hbr_f m (fun i hi => h i (by omega)), decide_eq_false (h m (by omega))]
    rfl
theorem dR_ff (hP : sw_isP Q) (h : dR Q σ τ K N R Bn) (hc : ffc Q σ σ') (he : ffe τ τ') : dR Q σ' τ' K N R Bn := by
  have c : ∀ a, a = Q ∨ a = Q + 4 ∨ a = Q + 5 ∨ a = Q + 6 → σ'.1 a = σ.1 a := fun a ha => hc.2.1 a (by rcases hP with rfl | rfl <;> omega) (by omega) (by omega)
  have c' : ∀ a, a = Q + 1 ∨ a = Q + 2 ∨ a = Q + 3 → σ'.2.1 a = σ.2.1 a := fun a ha => hc.2.2 a (by rcases hP with rfl | rfl <;> omega)
  exact dR_cg h (c _ (.inl rfl)) (c' _ (.inl rfl)) (c' _ (.inr (.inl rfl))) (c' _ (.inr (.inr rfl))) (c _ (.inr (.inl rfl))) (c _ (.inr (.inr (.inl rfl)))) (c _ (.inr (.inr (.inr rfl)))) (he.2.2.1 _ (by decide)) (he.2.1 _ (by decide) (by decide) (by decide) (by decide)) (he.2.1 _ (by decide) (by decide) (by decide) (by decide)) (he.2.1 _ (by decide) (by decide) (by decide) (by decide)) (fun k hk => he.2.2.2 k (by omega) (by omega) (by omega) (by omega) (by omega) (by omega))
theorem l_rises (hP : sw_isP Q) (hQ : sw_pl (σ.2.2 1) = Q) (h : pz B n Q σ0 τ0 σ τ p) (hd : dR Q σ τ K N R Bn) (hf : σ.1 (Q + 7) 0 = 0 ∧ σ.1 (Q + 7) 1 = 0 ∧ σ.1 (Q + 7) 2 = 0 ∧ τ.1 49 24 = 0 ∧ τ.1 49 20 = 0) (hT : teT B n p = 2) : lo B n Q σ0 τ0 p (fX5_readRises σ) (sw_b1 (fX10_formula τ) fun m3 => fX10_readLine_L210 m3) := by
  obtain ⟨f0, f1, f2, f3, f4⟩ := hf
  obtain ⟨σ1, τ1, a1, a2, a3, a4, a5⟩ := p_next h (by omega)
  have hpn : p ≤ n := h.1.2.1
  have hn16 : n ≤ 1600 := h.1.1.1
  have hnx := nx_pos (B := B) hpn
  have hpx := hnx.2.2 (by omega)
  obtain ⟨τ2, ht2⟩ : ∃ τ2, τ2 = sw_w (sw_w (sw_w (sw_w (sw_w τ1 49 24 1) 49 17 0) 49 19 0) 49 23 0) 49 22 0 := ⟨_, rfl⟩
  have z2 : pz B n Q σ0 τ0 σ1 τ2 (nx B n p) := by
    rw [ht2]
    exact pz_ew (by decide) (by decide) (pz_ew (by decide) (by decide) (pz_ew (by decide) (by decide) (pz_ew (by decide) (by decide) (pz_ew (by decide) (by decide) a3))))
  have k2 : ∀ k, k ≠ 24 → k ≠ 17 → k ≠ 19 → k ≠ 23 → k ≠ 22 → τ2.1 49 k = τ1.1 49 k := fun k b1 b2 b3 b4 b5 => by rw [ht2, w_at, upd_n b5, w_at, upd_n b4, w_at, upd_n b3, w_at, upd_n b2, w_at, upd_n b1]
  have k24 : τ2.1 49 24 = 1 := by rw [ht2, w_at, upd_n (by decide), w_at, upd_n (by decide), w_at, upd_n (by decide), w_at, upd_n (by decide), w_at, upd_e]
  have k17 : τ2.1 49 17 = 0 := by rw [ht2, w_at, upd_n (by decide), w_at, upd_n (by decide), w_at, upd_n (by decide), w_at, upd_e]
  have k19 : τ2.1 49 19 = 0 := by rw [ht2, w_at, upd_n (by decide), w_at, upd_n (by decide), w_at, upd_e]
  have k23 : τ2.1 49 23 = 0 := by rw [ht2, w_at, upd_n (by decide), w_at, upd_e]
  have k22 : τ2.1 49 22 = 0 := by rw [ht2, w_at, upd_e]
  have k20 : τ2.1 49 20 = 0 := by rw [k2 20 (by decide) (by decide) (by decide) (by decide) (by decide), a5.2.2.2 20 (by decide) (by decide) (by decide) (by decide)]; exact f4
  have ko : ∀ a, a ≠ 49 → τ2.1 a = τ1.1 a := fun a b => by rw [ht2, m_wne b, m_wne b, m_wne b, m_wne b, m_wne b]
  have e7 : σ1.1 (Q + 7) = σ.1 (Q + 7) := a4.2.1 _ (by rcases hP with rfl | rfl <;> decide)
  have hus : us B n Q σ0 τ0 σ1 τ2 (nx B n p) (fun _ => 0) 0 0 0 0 := by
    refine ⟨z2, by rw [a4.1]; exact hQ, ⟨by rw [e7]; exact f0, by rw [e7]; exact f2, fun _ i hi => absurd hi (by omega)⟩, ⟨k20, k22, k17, k23⟩, ⟨k19, by omega, fun i hi => absurd hi (by omega)⟩, fun i hi => absurd hi (by omega), by omega, by omega, by omega, by omega⟩
  have hd2 : dR Q σ1 τ2 K N R Bn := by
    have hd1 := dR_fr hP hd a4 a5
    exact dR_cg hd1 rfl rfl rfl rfl rfl rfl rfl (by rw [ht2]; rfl) (ko 59 (by decide)) (ko 60 (by decide)) (ko 61 (by decide)) (fun k hk => k2 k (by omega) (by omega) (by omega) (by omega) (by omega))
  have hform : fX10_formula τ = Ur sw_F sw_F τ2 := by
    rw [fX10_formula, a2, b1_s, let_s, let_s, let_s, let_s, let_s, ← ht2]
    rfl
  have hcl : fX5_readRises σ = sw_b2 (sw_rd 64 0 σ1 (nI 0) (nI 0)) fun r4 m5 => if r4 = 0 then some (0, m5) else sw_b2 (fX5_readSign m5 59) fun r8 m9 => if r8 = 0 then some (0, m9) else some (1, m9) := by
    rw [fX5_readRises, hQ, f0, if_pos (by decide), a1, b1_s]
    rfl
  rw [hform, hcl]
  have hr := (ff_all (B := B) (n := n) (σ0 := σ0) (τ0 := τ0) hP 64).1 0 0 0 0 0 (nx B n p) sw_F σ1 τ2 (fun _ => 0) (by decide) (by decide) (by unfold sw_F; omega) hus (by decide) (fun x => absurd x (by decide))
  have hF : sw_F = 4000 := rfl
  rcases hr with ⟨σ3, r1, τ3, p3, sk3, m, u3, zr, k, r2, r3, r4, r5, r6, r7, r8, r9, r10, r11, r12, r13, r14⟩ | ⟨σ3, τ3, k, r1, r2, r3, r4⟩
  · have hp3 : p3 ≤ n := r4.1.1.2.1
    have hst3 : stR τ3 sk3 (0 + m) := r4.2.2.2.2.1
    have h20 : ∀ i, i < 0 + m → ¬ sk3 i = 20 := fun i hi => r4.2.2.2.2.2.2.2.2.2.2.2 i (by omega) hi
    have hb : hbr sk3 (0 + m) = false := hbr_f _ h20
    have t03 := r4.1.2.1.2.2.2.1
    have hsg3 : sg B n p3 = 0 ∨ (tg (sg B n p3) = 4 ∧ hrl sk3 (0 + m) = true) := by
      rcases r7 with x | x | x
      · exact .inl x
      · by_cases y : sg B n p3 = 0
        · exact .inl y
        · have := (tg_3 ((p_sign r4.1).2.2 y).2.2.2.2.2).2
          have : tg (sg B n p3) < 1 := x
          omega
      · exact .inr x
    obtain ⟨τ4, b1, b2, b3, b4⟩ := os_clo (t := 0) hP r4 (by decide) (by omega) (.inl rfl) (fun _ _ _ => by omega)
    have hrun : Ur sw_F sw_F τ2 = some τ4 := by
      have : Ur sw_F (4000 - k - 2 + 2 + k) τ2 = Ol (4000 - k - 2 + 2) τ3 := r2 (4000 - k - 2 + 2)
      rw [show Ur sw_F sw_F τ2 = Ur sw_F (4000 - k - 2 + 2 + k) τ2 by rw [show 4000 - k - 2 + 2 + k = sw_F by omega], this, o_fin r4.1 hst3 hsg3 (fun _ => hb), fX10_formula_L162, if_pos t03, e_hbr hst3, hb, b1_s, if_pos (by decide), fX10_formula_L181, if_pos t03, show (0 : Int32) = nI 0 from rfl, b1, b1_s]
    obtain ⟨g1, g2, ⟨c1, c2, c3⟩, ⟨x1, x2, x3, x4⟩, g5, g6, g7, g8, g9, g10⟩ := b2
    have hd3 : dR Q σ3 τ4 K N R Bn := dR_ff hP hd2 r13 (r14.tr b3)
    have e24 : τ4.1 49 24 = 1 := by rw [(r14.tr b3).2.2.2 24 (by decide) (by decide) (by decide) (by decide) (by decide) (by decide)]; exact k24
    have hz1 : 1 ≤ zr + m := by
      refine Nat.lt_of_not_le fun x => ?_
      obtain ⟨w, hw⟩ := r12 (fun _ => 0) [] (by show 0 + (u3 - 0) ≤ 30; omega)
      rw [show zr + m - 0 = 0 by omega] at hw
      cases hw
    have hf3 : fR Q σ3 τ4 := by
      refine .inr ⟨u3, zr + m, by omega, g8, hz1, by omega, c1, x1, e24, c2, x3, g6, fun _ asks => ?_, c3⟩
      obtain ⟨w, hw⟩ := r12 asks [] (by show 0 + (u3 - 0) ≤ 30; omega)
      exact ⟨w, by rw [qf_run]; exact hw⟩
    rw [hrun, r1, b1_s, b2_s, if_neg i10]
    rcases p_semi g1 with ⟨σ5, τ5, y1, y2, y3, y4, y5, y6⟩ | ⟨σ5, τ5, y1, y2, y3⟩
    · rw [y1, b2_s, if_neg i10, y2]
      have := (nx_pos (B := B) hp3).1
      exact .inl ⟨σ5, τ5, _, K, N, R, Bn, rfl, rfl, y3, by omega, dR_fr hP hd3 y4 y5, fR_fr hP hf3 y4 y5⟩
    · rw [y1, b2_s, if_pos rfl, y2]
      exact .inr ⟨σ5, τ5, rfl, rfl, y3⟩
  · have hrun : Ur sw_F sw_F τ2 = some τ3 := by
      have : Ur sw_F (4000 - k - 2 + k + 2) τ2 = some τ3 := r4 (4000 - k - 2)
      rw [show Ur sw_F sw_F τ2 = Ur sw_F (4000 - k - 2 + k + 2) τ2 by rw [show 4000 - k - 2 + k + 2 = sw_F by omega], this]
    rw [hrun, r1, b1_s, b2_s, if_pos rfl]
    exact l_no r2
end PQ
