/-! fits, sure, ask: both -/
section KV
variable {σ τ : sw_M} {P K N R Bn z : Nat} {mm ww : Nat → Nat}
theorem w_eq {m : sw_M} {k : Int32} (hP : sw_isP P) (h : ∀ a, a ≠ 39 → a ≠ 46 → a ≠ 47 → m.1 a = σ.1 a) : w_fit m P K N R k = w_fit σ P K N R k := by
  have e4 := h (P + 4) (isP_ne hP (by decide) (by decide)) (isP_ne hP (by decide) (by decide)) (isP_ne hP (by decide) (by decide))
  have e6 := h (P + 6) (isP_ne hP (by decide) (by decide)) (isP_ne hP (by decide) (by decide)) (isP_ne hP (by decide) (by decide))
  funext v
  unfold w_fit
  rw [e4, e6, h 49 (by decide) (by decide) (by decide), h 73 (by decide) (by decide) (by decide), h 74 (by decide) (by decide) (by decide), h 75 (by decide) (by decide) (by decide), h 76 (by decide) (by decide) (by decide), h 77 (by decide) (by decide) (by decide), h 78 (by decide) (by decide) (by decide)]
theorem k_fits (a : Int32) (h : rel σ) : k_mm (fX9_fits σ a) (fun τ => fX10_fits τ a) := by
  obtain ⟨P, K, N, R, Bn, z, mm, ww, hr⟩ := h
  have hP := rl_isP hr.1
  have p1 := hr.1.1
  obtain ⟨m, c1, c2, c3, c4, c5⟩ := c_fit a hr
  obtain ⟨m2, d1, d2, d3⟩ := e_lay a c2
  rw [w_eq hP c4] at d1
  refine ⟨nI (d_cnt (w_fit σ P K N R a) 31), m, m2, ?_, ?_, P, K, N, R, Bn, z, mm, ww, relD_age c2 d2⟩
  · rw [fX9_fits, p1, c1, b2_s, cnt_31]
  · show fX10_fits m a = _
    rw [fX10_fits, d1, b2_s]
theorem k_sure (a b : Int32) (h : rel σ) : k_mm (fX9_sure σ a b) (fun τ => fX10_sure τ a b) := by
  obtain ⟨P, K, N, R, Bn, z, mm, ww, hr⟩ := h
  have hP := rl_isP hr.1
  have p1 := hr.1.1
  have ia := isIn_n 1 (by decide) a 1 rfl
  by_cases ha : (if a < 0 then (0 : Int32) else if nI (1 + 1) ≤ a then 0 else 1) = 0
  · refine look_n hr (r := -1) ?_ (by show fX10_sure σ a b = _; rw [fX10_sure, ia, if_pos ha])
    rw [fX9_sure]
    rcases no01 ha with e1 | ⟨e1, e2⟩
    · rw [if_pos e1]
    · rw [if_neg e1, if_neg e2]
  obtain ⟨i, hi, rfl⟩ := in_some (K := 1 + 1) (by decide) ha
  have i1 : nI i ≤ 1 := nI_le (b := 1) (by omega) (by decide)
  obtain ⟨m, c1, c2, c3, c4, c5⟩ := c_fit b hr
  obtain ⟨m2, d1, d2, d3⟩ := e_lay b c2
  rw [w_eq hP c4] at d1 d3
  obtain ⟨w, hw⟩ : ∃ w, w = w_fit σ P K N R b := ⟨_, rfl⟩
  rw [← hw] at c1 d1 d3
  have hrel : rel m2 := ⟨P, K, N, R, Bn, z, mm, ww, relD_age c2 d2⟩
  have cc : fX9_sure σ (nI i) b = if d_ris w 31 = 0 then some ((-1 : Int32), m) else if nI i = 0 then some ((fJ6_numberOfTrailingZeros_0f7a4 (d_ris w 31), m)) else some ((31 - (fJ6_numberOfLeadingZeros_0f7a4 (d_ris w 31)), m)) := by
    rw [fX9_sure, if_neg (nI_pos (by omega)), if_pos i1, p1, c1, b2_s]
  have ce : fX10_sure m (nI i) b = if nI (d_cnt w 31) = 0 then some ((-1 : Int32), m2) else sw_wh sw_F (fun s : Int32 × Int32 => fX10_sure_L24 m2 (nI i) s.1 s.2) ((-1), 0) := by
    rw [fX10_sure, ia, if_neg ha, d1, b2_s]
  have hc31 := cnt_le w 31
  by_cases h0 : d_cnt w 31 = 0
  · refine ⟨-1, m, m2, ?_, ?_, hrel⟩
    · rw [cc, if_pos ((ris_zero w).mpr h0)]
    · show fX10_sure m (nI i) b = _
      rw [ce, if_pos (by rw [h0]; rfl)]
  · have hN : 0 < N := by
      apply Nat.pos_of_ne_zero
      intro e
      refine h0 ((cnt_zero w 31).mpr (fun k _ => ?_))
      rw [hw, w_fit, if_pos e]
    have h81 := (d3 hN).1
    have hl : sw_wh sw_F (fun s : Int32 × Int32 => fX10_sure_L24 m2 (nI i) s.1 s.2) ((-1), 0) = some (s_fnd w (nI i) 31, m2) := by
      refine wh_runs (b := fun s : Int32 × Int32 => fX10_sure_L24 m2 (nI i) s.1 s.2) (fun v => (s_fnd w (nI i) v, nI v)) 31 rfl (fun v hv => ?_) ?_ (by decide)
      · show fX10_sure_L24 m2 (nI i) (s_fnd w (nI i) v) (nI v) = some (.inl (s_fnd w (nI i) (v + 1), nI (v + 1)))
        have hnl : ¬ (30 : Int32) < nI v := nI_nlt (a := 30) (by omega) (by decide)
        unfold fX10_sure_L24
        rw [if_neg hnl, sw_gd_t (in_t hv (by decide)), nI_clamp (by omega), h81 v hv, fX10_sure_L50, fX10_sure_L53, fX10_sure_L53, let_s, let_s, nI_1, s_fnd]
        by_cases e : w v = 0
        · rw [if_pos e, if_pos e]
        · rw [if_neg e, if_neg e]
          by_cases e2 : s_fnd w (nI i) v < 0
          · rw [if_pos e2, if_pos e2]
          · rw [if_neg e2, if_neg e2]
            split <;> rfl
      · show fX10_sure_L24 m2 (nI i) (s_fnd w (nI i) 31) (nI 31) = _
        unfold fX10_sure_L24
        rw [if_pos (by decide)]
    refine ⟨s_fnd w (nI i) 31, m, m2, ?_, ?_, hrel⟩
    · rw [cc, if_neg (fun e => h0 ((ris_zero w).mp e))]
      rcases (show i = 0 ∨ i = 1 by omega) with rfl | rfl
      · obtain ⟨f, f1, f2, f3⟩ := first_ex w 31 h0
        rw [if_pos nI_0, tz_31 w f2 f1 f3, (fnd_first w (i := nI 0) (by decide) f2 f3 f1 31).2 f1]
      · obtain ⟨f, f1, f2, f3⟩ := last_ex w 31 h0
        have e1 : s_fnd w (nI 1) 31 = nI f := fnd_last w f2 31 f1 f3
        rw [if_neg (by decide), lz_31 w f2 f1 f3, e1]
    · show fX10_sure m (nI i) b = _
      rw [ce, if_neg (nI_ne0 (by omega) (by omega)), hl]
theorem k_ask (a b c : Int32) (h : rel σ) : k_mm (fX9_ask σ a b c) (fun τ => fX10_ask τ a b c) := by
  obtain ⟨P, K, N, R, Bn, z, mm, ww, hr⟩ := h
  have hP := rl_isP hr.1
  have r1 := hr.1
  have p1 := r1.1
  have ia := isIn_n 12 (by decide) a 12 rfl
  have ib := isIn_n 1 (by decide) b 1 rfl
  by_cases ha : (if a < 0 then (0 : Int32) else if nI (12 + 1) ≤ a then 0 else 1) = 0
  · refine look_n hr (r := -1) ?_ (by show fX10_ask σ a b c = _; rw [fX10_ask, ia, if_pos ha])
    rw [fX9_ask]
    rcases in_no ha with e1 | ⟨e1, e2⟩
    · rw [if_pos e1]
    · have e3 : (12 : Int32) < a := Int32.not_le.mp (nle_of (n := 12) (by decide) e1 e2)
      rw [if_neg e1, if_pos e3]
  obtain ⟨i, hi, rfl⟩ := in_some (K := 12 + 1) (by decide) ha
  have i12 : ¬ (12 : Int32) < nI i := nI_nlt (a := 12) (by omega) (by decide)
  by_cases hb : (if b < 0 then (0 : Int32) else if nI (1 + 1) ≤ b then 0 else 1) = 0
  · refine look_n hr (r := -1) ?_ (by show fX10_ask σ (nI i) b c = _; rw [fX10_ask, ia, if_neg ha, ib, if_pos hb])
    rw [fX9_ask, if_neg (nI_pos (by omega)), if_neg i12]
    rcases no01 hb with e1 | ⟨e1, e2⟩
    · rw [if_pos e1]
    · rw [if_neg e1, if_neg e2]
  obtain ⟨q, hq, rfl⟩ := in_some (K := 1 + 1) (by decide) hb
  have q1 : nI q ≤ 1 := nI_le (b := 1) (by omega) (by decide)
  obtain ⟨m, c1, c2, c3, c4, c5⟩ := c_fit c hr
  obtain ⟨m2, d1, d2, d3⟩ := e_lay c c2
  rw [w_eq hP c4] at d1 d3
  obtain ⟨w, hw⟩ : ∃ w, w = w_fit σ P K N R c := ⟨_, rfl⟩
  rw [← hw] at c1 d1 d3
  have cc : fX9_ask σ (nI i) (nI q) c = if d_ris w 31 = 0 then some ((-1 : Int32), m) else sw_wh sw_F (fun s : Int32 × Int32 × Int32 => fX9_ask_L51 m (nI i) (nI q) (d_ris w 31) s.1 s.2.1 s.2.2) ((-1), 0, 0) := by
    rw [fX9_ask, if_neg (nI_pos (by omega)), if_neg i12, if_neg (nI_pos (by omega)), if_pos q1, p1, c1, b2_s]
  have ce : fX10_ask m (nI i) (nI q) c = if nI (d_cnt w 31) = 0 then some ((-1 : Int32), m2) else sw_wh sw_F (fun s : Int32 × Int32 × sw_M => fX10_ask_L35 s.2.2 (nI i) (nI q) s.1 s.2.1) (0, 1, m2) := by
    rw [fX10_ask, ia, if_neg ha, ib, if_neg hb, d1, b2_s]
  have hc31 := cnt_le w 31
  by_cases h0 : d_cnt w 31 = 0
  · refine ⟨-1, m, m2, ?_, ?_, P, K, N, R, Bn, z, mm, ww, relD_age c2 d2⟩
    · rw [cc, if_pos ((ris_zero w).mpr h0)]
    · show fX10_ask m (nI i) (nI q) c = _
      rw [ce, if_pos (by rw [h0]; rfl)]
  have hN : 0 < N := by
    apply Nat.pos_of_ne_zero
    intro e
    refine h0 ((cnt_zero w 31).mpr (fun k _ => ?_))
    rw [hw, w_fit, if_pos e]
  obtain ⟨h81, h79⟩ := d3 hN
  obtain ⟨s1, s2, s3, s4, ⟨s5, s6, s7⟩, s8, s9, s10, s11, s12, s13, s14, s15⟩ := id c2.1
  obtain ⟨lk, l1, l2, l3, l4⟩ := s15 hN
  have hK := s3.k5
  have hlk : ix (m.1 49 44) = lk := by rw [l3]; exact ix_n (by omega)
  rw [hlk] at h79
  -- the courses in numbers
  have hcv : ∀ v j, v < 31 → j < K → ∃ n, n < 1000 ∧ v_crs K N R lk (m.1 (P + 6)) (m.1 (P + 4)) v i j = nI n := by
    intro v j hv hj
    obtain ⟨n, n1, n2, _⟩ := nv_crs (x := v) c2.1 hN l1 (by omega) i
    exact ⟨n j, by have := n2 j hj; omega, n1 j hj⟩
  have hval : ∃ val : Nat → Nat → Nat, ∀ j v, v < 31 → j < K → val j v < 1000 ∧ v_crs K N R lk (m.1 (P + 6)) (m.1 (P + 4)) v i j = nI (val j v) := by
    have : ∀ jv : Nat × Nat, ∃ n, jv.2 < 31 → jv.1 < K → n < 1000 ∧ v_crs K N R lk (m.1 (P + 6)) (m.1 (P + 4)) jv.2 i jv.1 = nI n := by
      intro jv
      by_cases h1 : jv.2 < 31
      · by_cases h2 : jv.1 < K
        · obtain ⟨n, n1, n2⟩ := hcv jv.2 jv.1 h1 h2
          exact ⟨n, fun _ _ => ⟨n1, n2⟩⟩
        · exact ⟨0, fun _ h => absurd h h2⟩
      · exact ⟨0, fun h => absurd h h1⟩
    obtain ⟨f, hf⟩ := Classical.axiomOfChoice this
    exact ⟨fun j v => f (j, v), fun j v h1 h2 => hf (j, v) h1 h2⟩
  obtain ⟨val, hval⟩ := hval
  obtain ⟨lf, hlf⟩ : ∃ lf : Nat → Nat, lf = fun j => r_most w (val j) 31 := ⟨_, rfl⟩
  have lf31 : ∀ j, lf j ≤ 31 := fun j => by rw [hlf]; exact most_31 w (val j) 31 (Nat.le_refl 31)
  have hcl : ∀ j, j < K → fX6_leftAtMost m (d_ris w 31) (nI i) (nI j) = some (nI (lf j)) := by
    intro j hj
    rw [c_left (w := w) (val := val j) (by omega) (by omega) (fun v hv => by rw [(c5 hN).2 lk l2 l1 v i j (by omega) (by omega) (by omega)]; exact (hval j v hv hj).2) (fun v hv => (hval j v hv hj).1), most_eq, hlf]
  have hel : ∀ (M : sw_M) j, j < K → M.1 79 = m2.1 79 → M.1 81 = m2.1 81 → ∃ T, fX10_leftBy M (nI i) (nI j) = some (nI (lf j), sw_wA M 80 T) := by
    intro M j hj x79 x81
    rw [hlf]
    exact e_left (w := w) (val := val j) (by omega) (by omega) (fun v hv => by rw [x79, h79 v i j hv (by omega) hj]; exact (hval j v hv hj).2) (fun v hv => by rw [x81]; exact h81 v hv) (fun v hv => (hval j v hv hj).1)
  have hbl : ∀ k, k < K → a_best lf (k + 1) < K := fun k hk => Nat.lt_of_lt_of_le (best_lt lf k) (by omega)
  obtain ⟨res, hres⟩ : ∃ res : Int32, res = if nI q = 0 then nI (a_best lf K) else nI (lf (a_best lf K)) := ⟨_, rfl⟩
  have hK1 : 1 ≤ K := by omega
  -- the class
  have hC : ∃ t, sw_wh sw_F (fun s : Int32 × Int32 × Int32 => fX9_ask_L51 m (nI i) (nI q) (d_ris w 31) s.1 s.2.1 s.2.2) ((-1), 0, 0) = some t ∧ t = (res, m) := by
    refine wh_gen (b := fun s : Int32 × Int32 × Int32 => fX9_ask_L51 m (nI i) (nI q) (d_ris w 31) s.1 s.2.1 s.2.2) (fun k s => (k = 0 ∧ s = ((-1 : Int32), (0 : Int32), (0 : Int32))) ∨ (1 ≤ k ∧ s = (nI (a_best lf k), nI (lf (a_best lf k)), nI k))) (fun t => t = (res, m)) K (fun k s hk hI => ?_) (.inl ⟨rfl, rfl⟩) (F_big (by omega))
    rcases hI with ⟨rfl, rfl⟩ | ⟨hk1, rfl⟩
    · refine .inl ?_
      show ∃ s', fX9_ask_L51 m (nI i) (nI q) (d_ris w 31) (-1) 0 (nI 0) = some (.inl s') ∧ ((0 + 1 = 0 ∧ s' = ((-1 : Int32), (0 : Int32), (0 : Int32))) ∨ (1 ≤ 0 + 1 ∧ s' = (nI (a_best lf (0 + 1)), nI (lf (a_best lf (0 + 1))), nI (0 + 1)))) ∧ 0 < K
      have ab : a_best lf (0 + 1) = 0 := by
        show a_best lf 1 = 0
        rw [a_best]
        split <;> rfl
      unfold fX9_ask_L51
      rw [s1, s3.k, if_neg (le_f (by omega) (by omega)), hcl 0 (by omega), b1_s, if_pos rfl, fX9_ask_L90, fX9_ask_L98, let_s, nI_1, ab]
      exact ⟨_, rfl, .inr ⟨by omega, rfl⟩, by omega⟩
    · show (∃ s', fX9_ask_L51 m (nI i) (nI q) (d_ris w 31) (nI (a_best lf k)) (nI (lf (a_best lf k))) (nI k) = some (.inl s') ∧ ((k + 1 = 0 ∧ s' = ((-1 : Int32), (0 : Int32), (0 : Int32))) ∨ (1 ≤ k + 1 ∧ s' = (nI (a_best lf (k + 1)), nI (lf (a_best lf (k + 1))), nI (k + 1)))) ∧ k < K) ∨ (∃ t, fX9_ask_L51 m (nI i) (nI q) (d_ris w 31) (nI (a_best lf k)) (nI (lf (a_best lf k))) (nI k) = some (.inr t) ∧ t = (res, m))
      unfold fX9_ask_L51
      by_cases hkK : k < K
      · refine .inl ?_
        have x1 := lf31 k
        have x2 := lf31 (a_best lf k)
        have hb := hbl (k - 1) (by omega)
        rw [show k - 1 + 1 = k by omega] at hb
        have hj0 : ¬ nI (a_best lf k) < 0 := nI_pos (by omega)
        have hj1 : ¬ nI (a_best lf k) = -1 := fun e => hj0 (by rw [e]; decide)
        rw [s1, s3.k, if_neg (le_f hkK (by omega)), hcl k hkK, b1_s, if_neg hj1, fX9_ask_L90, fX9_ask_L98, fX9_ask_L98, let_s, let_s, nI_1, a_best]
        by_cases hle : lf (a_best lf k) ≤ lf k
        · rw [if_pos (nI_le hle (by omega)), if_pos hle]
          exact ⟨_, rfl, .inr ⟨by omega, rfl⟩, hkK⟩
        · rw [if_neg (nI_ge (by omega) (by omega)), if_neg hle]
          exact ⟨_, rfl, .inr ⟨by omega, rfl⟩, hkK⟩
      · have ek : k = K := by omega
        refine .inr ?_
        rw [s1, s3.k, ek, if_pos (le_t K (by omega)), hres]
        by_cases e : nI q = 0
        · rw [if_pos e, if_pos e]
          exact ⟨_, rfl, rfl⟩
        · rw [if_neg e, if_neg e]
          exact ⟨_, rfl, rfl⟩
  -- the reference
  have hE : ∃ t, sw_wh sw_F (fun s : Int32 × Int32 × sw_M => fX10_ask_L35 s.2.2 (nI i) (nI q) s.1 s.2.1) (0, 1, m2) = some t ∧ (t.1 = res ∧ age m2 t.2) := by
    refine wh_gen (b := fun s : Int32 × Int32 × sw_M => fX10_ask_L35 s.2.2 (nI i) (nI q) s.1 s.2.1) (fun k s => s.1 = nI (a_best lf (k + 1)) ∧ s.2.1 = nI (k + 1) ∧ k + 1 ≤ K ∧ age m2 s.2.2 ∧ s.2.2.1 79 = m2.1 79 ∧ s.2.2.1 81 = m2.1 81) (fun t => t.1 = res ∧ age m2 t.2) (K - 1) (fun k s hk hI => ?_) ⟨by
      have ab : a_best lf (0 + 1) = 0 := by
        show a_best lf 1 = 0
        rw [a_best]
        split <;> rfl
      rw [ab]; rfl, rfl, hK1, age.rf, rfl, rfl⟩ (F_big (by omega))
    obtain ⟨x, y, M⟩ := s
    obtain ⟨rfl, rfl, j1, j2, j3, j4⟩ : x = nI (a_best lf (k + 1)) ∧ y = nI (k + 1) ∧ k + 1 ≤ K ∧ age m2 M ∧ M.1 79 = m2.1 79 ∧ M.1 81 = m2.1 81 := hI
    show (∃ s', fX10_ask_L35 M (nI i) (nI q) (nI (a_best lf (k + 1))) (nI (k + 1)) = some (.inl s') ∧ (s'.1 = nI (a_best lf (k + 1 + 1)) ∧ s'.2.1 = nI (k + 1 + 1) ∧ k + 1 + 1 ≤ K ∧ age m2 s'.2.2 ∧ s'.2.2.1 79 = m2.1 79 ∧ s'.2.2.1 81 = m2.1 81) ∧ k < K - 1) ∨ (∃ t, fX10_ask_L35 M (nI i) (nI q) (nI (a_best lf (k + 1))) (nI (k + 1)) = some (.inr t) ∧ (t.1 = res ∧ age m2 t.2))
    have hMk : M.1 49 40 = nI K := (rl_p_age c2.1 (d2.tr j2)).2.2.2.1.k
    have hbk := hbl k (by omega)
    have ag80 : ∀ (M : sw_M) T, age M (sw_wA M 80 T) := fun M T => age_w (.inr (.inr (.inr (.inr (.inr (.inr (.inr (.inr (.inl rfl)))))))))
    unfold fX10_ask_L35
    by_cases hkK : k + 1 < K
    · refine .inl ?_
      obtain ⟨T, t1⟩ := hel M (k + 1) hkK j3 j4
      obtain ⟨T2, t2⟩ := hel (sw_wA M 80 T) (a_best lf (k + 1)) hbk (by rw [m_ne (by decide)]; exact j3) (by rw [m_ne (by decide)]; exact j4)
      have x1 := lf31 (k + 1)
      have x2 := lf31 (a_best lf (k + 1))
      have e79 : (sw_wA (sw_wA M 80 T) 80 T2).1 79 = m2.1 79 := by rw [m_ne (by decide), m_ne (by decide)]; exact j3
      have e81 : (sw_wA (sw_wA M 80 T) 80 T2).1 81 = m2.1 81 := by rw [m_ne (by decide), m_ne (by decide)]; exact j4
      have hag : age m2 (sw_wA (sw_wA M 80 T) 80 T2) := j2.tr ((ag80 M T).tr (ag80 _ T2))
      rw [hMk, if_neg (le_f hkK (by omega)), t1, b2_s, t2, b2_s, fX10_ask_L68, fX10_ask_L68, let_s, let_s, nI_1]
      have eb : a_best lf (k + 1 + 1) = if lf (a_best lf (k + 1)) ≤ lf (k + 1) then a_best lf (k + 1) else k + 1 := by rw [a_best]
      by_cases hle : lf (a_best lf (k + 1)) ≤ lf (k + 1)
      · rw [if_pos (nI_le hle (by omega))]
        exact ⟨_, rfl, ⟨by rw [eb, if_pos hle], rfl, by omega, hag, e79, e81⟩, by omega⟩
      · rw [if_neg (nI_ge (by omega) (by omega))]
        exact ⟨_, rfl, ⟨by rw [eb, if_neg hle], rfl, by omega, hag, e79, e81⟩, by omega⟩
    · have ek : k + 1 = K := by omega
      refine .inr ?_
      rw [ek] at hbk ⊢
      rw [hMk, if_pos (le_t K (by omega)), hres]
      by_cases e : nI q = 0
      · rw [if_pos e, if_pos e]
        exact ⟨_, rfl, rfl, j2⟩
      · obtain ⟨T, t1⟩ := hel M (a_best lf K) hbk j3 j4
        rw [if_neg e, if_neg e, t1, b2_s]
        exact ⟨_, rfl, rfl, j2.tr (ag80 M T)⟩
  obtain ⟨t, t1, t2⟩ := hC
  obtain ⟨⟨u1, u2⟩, v1, v2, v3⟩ := hE
  refine ⟨res, m, u2, ?_, ?_, P, K, N, R, Bn, z, mm, ww, relD_age c2 (d2.tr v3)⟩
  · rw [cc, if_neg (fun e => h0 ((ris_zero w).mp e)), t1, t2]
  · show fX10_ask m (nI i) (nI q) c = _
    have v2' : u1 = res := v2
    rw [ce, if_neg (nI_ne0 (by omega) (by omega)), v1, v2']
end KV
