/-! what lies ahead: the vat copied, when it rises -/
section KF
variable {σ τ : sw_M} {P K N R Bn z : Nat} {mm ww : Nat → Nat}
theorem rl_p_agc (r1 : rl_p σ P K N R Bn z mm ww) (h : agc P σ τ) : rl_p τ P K N R Bn z mm ww := by
  have key : ∀ a, a ≠ 35 → a ≠ 36 → a ≠ 37 → a ≠ 38 → a ≠ P + 9 → a ≠ P + 10 → τ.1 a = σ.1 a := h.2
  have hP := rl_isP r1
  rcases hP with rfl | rfl <;>
  · have e49 := key 49 (by decide) (by decide) (by decide) (by decide) (by decide) (by decide)
    refine rl_p_cg (by rw [h.1]) ?_ ?_ ?_ ?_ ?_ ?_ ?_ ?_ ?_ ?_ ?_ (by rw [e49]) (by rw [e49]) (by rw [e49]) (by rw [e49]) (by rw [e49]) (by rw [e49]) (by rw [e49]) (by rw [e49]) (by rw [e49]) r1
    all_goals exact key _ (by decide) (by decide) (by decide) (by decide) (by decide) (by decide)
theorem rl_p_age (r1 : rl_p σ P K N R Bn z mm ww) (h : age σ τ) : rl_p τ P K N R Bn z mm ww := by
  have key : ∀ a, a ≠ 57 → a ≠ 58 → a ≠ 66 → a ≠ 68 → a ≠ 70 → a ≠ 71 → a ≠ 72 → a ≠ 79 → a ≠ 80 → a ≠ 81 → τ.1 a = σ.1 a := h.2
  have hP := rl_isP r1
  rcases hP with rfl | rfl <;>
  · have e49 := key 49 (by decide) (by decide) (by decide) (by decide) (by decide) (by decide) (by decide) (by decide) (by decide) (by decide)
    refine rl_p_cg (by rw [h.1]) ?_ ?_ ?_ ?_ ?_ ?_ ?_ ?_ ?_ ?_ ?_ (by rw [e49]) (by rw [e49]) (by rw [e49]) (by rw [e49]) (by rw [e49]) (by rw [e49]) (by rw [e49]) (by rw [e49]) (by rw [e49]) r1
    all_goals exact key _ (by decide) (by decide) (by decide) (by decide) (by decide) (by decide) (by decide) (by decide) (by decide) (by decide)
/-- the plan's rows stay as they are -/
theorem agc_P (hP : sw_isP P) (h : agc P σ τ) {k : Nat} (hk : k ≤ 8) : τ.1 (P + k) = σ.1 (P + k) :=
  h.2 _ (isP_ne hP (by decide) (by omega)) (isP_ne hP (by decide) (by omega)) (isP_ne hP (by decide) (by omega)) (isP_ne hP (by decide) (by omega)) (by omega) (by omega)
theorem age_P (hP : sw_isP P) (h : age σ τ) {k : Nat} (hk : k ≤ 8) : τ.1 (P + k) = σ.1 (P + k) :=
  h.2 _ (isP_ne hP (by decide) (by omega)) (isP_ne hP (by decide) (by omega)) (isP_ne hP (by decide) (by omega)) (isP_ne hP (by decide) (by omega)) (isP_ne hP (by decide) (by omega)) (isP_ne hP (by decide) (by omega)) (isP_ne hP (by decide) (by omega)) (isP_ne hP (by decide) (by omega)) (isP_ne hP (by decide) (by omega)) (isP_ne hP (by decide) (by omega))
theorem agc_n (hP : sw_isP P) (h : agc P σ τ) {a : Nat} (ha : 38 < a) : τ.1 a = σ.1 a :=
  h.2 _ (by omega) (by omega) (by omega) (by omega) (isP_ne hP (by omega) (by decide)).symm (isP_ne hP (by omega) (by decide)).symm
theorem agc_v (hP : sw_isP P) (h : agc P σ τ) : τ.1 27 = σ.1 27 ∧ τ.1 28 = σ.1 28 :=
  ⟨h.2 _ (by decide) (by decide) (by decide) (by decide) (isP_ne hP (by decide) (by decide)).symm (isP_ne hP (by decide) (by decide)).symm, h.2 _ (by decide) (by decide) (by decide) (by decide) (isP_ne hP (by decide) (by decide)).symm (isP_ne hP (by decide) (by decide)).symm⟩
theorem agc_w {f : Nat → Int32} {a : Nat} (ha : a = 35 ∨ a = 36 ∨ a = 37 ∨ a = 38 ∨ a = P + 9 ∨ a = P + 10) : agc P σ (sw_wA σ a f) := ⟨rfl, fun b h1 h2 h3 h4 h5 h6 => m_ne (by rcases ha with rfl | rfl | rfl | rfl | rfl | rfl <;> assumption)⟩
theorem agc_vt {f g : Nat → Int32} : agc P σ (vt σ 35 f g) := ⟨rfl, fun b h1 h2 h3 h4 h5 h6 => vt_ne h1 h2⟩
theorem age_w {f : Nat → Int32} {a : Nat} (ha : a = 57 ∨ a = 58 ∨ a = 66 ∨ a = 68 ∨ a = 70 ∨ a = 71 ∨ a = 72 ∨ a = 79 ∨ a = 80 ∨ a = 81) : age σ (sw_wA σ a f) := ⟨rfl, fun b h1 h2 h3 h4 h5 h6 h7 h8 h9 h10 => m_ne (by rcases ha with rfl | rfl | rfl | rfl | rfl | rfl | rfl | rfl | rfl | rfl <;> assumption)⟩
theorem pk_cp {g g' f f' : Nat → Int32} : pk (va_cpy g g' 0 0 5) (upd (upd (upd (upd (upd f' 1 (f 1)) 2 (f 2)) 3 (f 3)) 4 (f 4)) 5 (f 5)) = pk g f := by
  funext j
  by_cases h5 : j < 5
  · rw [pk_lo h5, pk_lo h5, pk_cpy_in (by omega) (by omega)]
    congr 1
    omega
  · by_cases h10 : j < 10
    · rcases (show j = 5 ∨ j = 6 ∨ j = 7 ∨ j = 8 ∨ j = 9 by omega) with rfl | rfl | rfl | rfl | rfl
      · exact (pk_hi (i := 1) (by decide) (by decide)).trans ((pk_hi (i := 1) (by decide) (by decide)).symm ▸ rfl)
      · exact (pk_hi (i := 2) (by decide) (by decide)).trans ((pk_hi (i := 2) (by decide) (by decide)).symm ▸ rfl)
      · exact (pk_hi (i := 3) (by decide) (by decide)).trans ((pk_hi (i := 3) (by decide) (by decide)).symm ▸ rfl)
      · exact (pk_hi (i := 4) (by decide) (by decide)).trans ((pk_hi (i := 4) (by decide) (by decide)).symm ▸ rfl)
      · exact (pk_hi (i := 5) (by decide) (by decide)).trans ((pk_hi (i := 5) (by decide) (by decide)).symm ▸ rfl)
    · simp only [pk, h5, h10, if_false]
theorem c_copy : ∃ f g, fX8_copy 35 27 σ = some (vt σ 35 f g) ∧ pk g f = pk (σ.1 28) (σ.1 27) := by
  have z0 : (0 : Int32).toNatClampNeg = 0 := by decide
  have z5 : (5 : Int32).toNatClampNeg = 5 := by decide
  have e : ∀ g', sw_wA σ (35 + 1) g' = vt σ 35 (σ.1 35) g' := fun g' => by rw [vt, m_self]
  refine ⟨_, _, ?_, pk_cp (g := σ.1 28) (g' := σ.1 36) (f := σ.1 27) (f' := σ.1 35)⟩
  unfold fX8_copy
  rw [sw_gd_t (by decide), let_s, z0, z5, e, let_s, vt_ne (i := 27) (by decide) (by decide), vt_w0, let_s, vt_ne (i := 27) (by decide) (by decide), vt_w0, let_s, vt_ne (i := 27) (by decide) (by decide), vt_w0, let_s, vt_ne (i := 27) (by decide) (by decide), vt_w0, let_s, vt_ne (i := 27) (by decide) (by decide), vt_w0]
theorem c_up {t : Nat} (hP : sw_isP P) (hc : cpl τ P K R z) (ht : τ.1 35 1 = nI t) (ht2 : t < 128) : ∃ a st, fX4_isRisen P 35 τ = some (v_up K z (τ.1 (P + 8)) (pk (τ.1 36) (τ.1 35)), sw_wA (sw_wA τ (P + 10) a) (P + 9) st) := by
  obtain ⟨a, st, h⟩ := c_isRisen (V := 35) hP (.inr rfl) hc.k hc.k5 hc.z hc.z2 hc.ok
  refine ⟨a, st, ?_⟩
  have e5 : pk (τ.1 36) (τ.1 35) 5 = τ.1 35 1 := pk_hi (i := 1) (by decide) (by decide)
  have e8 : pk (τ.1 36) (τ.1 35) 8 = τ.1 35 4 := pk_hi (i := 4) (by decide) (by decide)
  have hK := hc.k5
  have eup : q_up K z (τ.1 (P + 8)) (τ.1 (35 + 1)) (fJ6_bitCount_0f7a4 (τ.1 35 1)) (τ.1 35 4) = v_up K z (τ.1 (P + 8)) (pk (τ.1 36) (τ.1 35)) := by
    rw [v_up, e5, e8, ht, bits7 t ht2]
    exact q_up_cg (fun j hj => (pk_lo (by omega)).symm) (fun _ _ => rfl)
  rw [h, eup]
theorem e_risesIn {B most : Nat} (r1 : rl_p τ P K N R Bn z mm ww) (hm : most ≤ 60) (hn : nv K B (ck (τ.1 66))) :
    ∃ τ', fX10_risesIn τ (nI most) = some (v_ris K R z (τ.1 (P + 6)) (τ.1 (P + 8)) most 1 (ck (τ.1 66)), τ') ∧ age τ τ' := by
  have hP := rl_isP r1
  obtain ⟨p1, p2, p3, p4, p5, p6, ⟨p7, p7'⟩, p8⟩ := id r1
  obtain ⟨ρ, hρ⟩ : ∃ ρ, ρ = τ.1 (P + 6) := ⟨_, rfl⟩
  obtain ⟨prog, hprog⟩ : ∃ prog, prog = τ.1 (P + 8) := ⟨_, rfl⟩
  obtain ⟨u, hu⟩ : ∃ u, u = ck (τ.1 66) := ⟨_, rfl⟩
  rw [← hρ, ← hprog, ← hu]
  have main : ∃ x, fX10_risesIn τ (nI most) = some x ∧ (x.1 = v_ris K R z ρ prog most 1 u ∧ age τ x.2) := by
    unfold fX10_risesIn
    refine wh_gen (b := fun s : Int32 × sw_M => fX10_risesIn_L2 s.2 (nI most) s.1) (fun k s => s.1 = nI (k + 1) ∧ age τ s.2 ∧ nv K B (ck (s.2.1 66)) ∧ v_ris K R z ρ prog most 1 u = v_ris K R z ρ prog (most - k) (k + 1) (ck (s.2.1 66))) _ most (fun k s hk hI => ?_) (s0 := ((1 : Int32), τ)) ⟨rfl, age.rf, hn, by rw [← hu]; rfl⟩ (F_big (by omega))
    obtain ⟨y, υ⟩ := s
    obtain ⟨rfl, i2, i3, i4⟩ : y = nI (k + 1) ∧ age τ υ ∧ nv K B (ck (υ.1 66)) ∧ v_ris K R z ρ prog most 1 u = v_ris K R z ρ prog (most - k) (k + 1) (ck (υ.1 66)) := hI
    by_cases hlt : k < most
    · obtain ⟨m, hm1⟩ : ∃ m, most - k = m + 1 := ⟨most - k - 1, by omega⟩
      obtain ⟨f', a, st, b1, b2⟩ := e_boiled' (sc := 0) (rl_p_age r1 i2) i3
      have x6 : υ.1 (P + 6) = ρ := by rw [hρ]; exact age_P hP i2 (by decide)
      have x8 : υ.1 (P + 8) = prog := by rw [hprog]; exact age_P hP i2 (by decide)
      rw [x6, x8, isOut_sc] at b1
      rw [x6, x8, earn_sc] at b2
      have hnl : ¬ nI most < nI (k + 1) := nI_nlt (by omega) (by omega)
      rw [hm1, v_ris] at i4
      by_cases h0 : v_isOut K R z 0 ρ prog 0 (ck (υ.1 66)) = 0
      · refine .inl ⟨(nI (k + 1 + 1), sw_wA (sw_wA (sw_wA υ 58 a) 57 st) 66 f'), ?_, ⟨rfl, ?_, ?_, ?_⟩, hlt⟩
        · show fX10_risesIn_L2 υ (nI most) (nI (k + 1)) = _
          rw [fX10_risesIn_L2, if_neg hnl, b1, b2_s, if_pos h0, let_s, nI_1]
        · exact i2.tr ((age_w (.inr (.inl rfl))).tr ((age_w (.inl rfl)).tr (age_w (.inr (.inr (.inl rfl))))))
        · show nv K B (ck ((sw_wA (sw_wA (sw_wA υ 58 a) 57 st) 66 f').1 66))
          rw [m_eq, b2, ← x6]
          exact nv_earn (rl_p_age r1 i2).2.2.1.ρ (rl_p_age r1 i2).2.2.2.2.2.2.1.1 p3.k5 i3
        · rw [i4, if_pos h0]
          show _ = v_ris K R z ρ prog (most - (k + 1)) (k + 1 + 1) (ck ((sw_wA (sw_wA (sw_wA υ 58 a) 57 st) 66 f').1 66))
          rw [m_eq, b2, show most - (k + 1) = m by omega]
      · refine .inr ⟨(nI (k + 1), sw_wA (sw_wA (sw_wA υ 58 a) 57 st) 66 f'), ?_, ?_, ?_⟩
        · show fX10_risesIn_L2 υ (nI most) (nI (k + 1)) = _
          rw [fX10_risesIn_L2, if_neg hnl, b1, b2_s, if_neg h0]
        · rw [i4, if_neg h0]
        · exact i2.tr ((age_w (.inr (.inl rfl))).tr ((age_w (.inl rfl)).tr (age_w (.inr (.inr (.inl rfl))))))
    · refine .inr ⟨(-1, υ), ?_, ?_, i2⟩
      · show fX10_risesIn_L2 υ (nI most) (nI (k + 1)) = _
        rw [fX10_risesIn_L2, if_pos (nI_lt (by omega) (by omega))]
      · rw [i4, show most - k = 0 by omega, v_ris]
  obtain ⟨⟨x, τ'⟩, h1, h2, h3⟩ := main
  have h2 : x = v_ris K R z ρ prog most 1 u := h2
  exact ⟨τ', by rw [h1, h2], h3⟩
end KF
