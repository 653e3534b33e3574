/-! what the vat held, course by course: the class's side -/
theorem c_fill {σ : sw_M} {a n : Nat} (hs : (sw_s a).2 = n) (hn : n < 4000) : fJ7_fill_53178 a σ 0 = some (sw_wA σ a (v_mix n (fun _ => 0) (σ.1 a))) := by
  unfold fJ7_fill_53178
  rw [let_s]
  have e : Int32.ofNat (sw_s a).2 = nI n := by rw [hs]; rfl
  rw [e]
  refine wh_map (b := fun s : Int32 × sw_M => fJ7_fill_53178_L5 a s.2 0 s.1 (nI n)) σ a (fun _ => 0) n (fun k hk => ?_) ?_ hn
  · show fJ7_fill_53178_L5 a (sw_wA σ a (v_mix k (fun _ => 0) (σ.1 a))) 0 (nI k) (nI n) = _
    unfold fJ7_fill_53178_L5
    rw [if_neg (le_f hk (by omega)), hs, sw_gd_t (in_t hk (by omega)), let_s, let_s, nI_1, nI_clamp (by omega), m_ww]
  · show fJ7_fill_53178_L5 a (sw_wA σ a (v_mix n (fun _ => 0) (σ.1 a))) 0 (nI n) (nI n) = _
    unfold fJ7_fill_53178_L5
    rw [if_pos (le_t n (by omega))]
theorem pall_cg {K n : Nat} {μ μ' v v' : Nat → Int32} {R : Nat} (hK : K ≤ n) (hμ : ∀ p j, p < R → j < K → μ' (5 * p + j) = μ (5 * p + j)) (h : ∀ j, j < n → v' j = v j) : ∀ m, m ≤ R → ∀ j, j < n → v_pall K μ' v' m j = v_pall K μ v m j
  | 0, _, j, hj => h j hj
  | m + 1, hm, j, hj => v_pour_cg hK (fun j hj => hμ m j (by omega) hj) (pall_cg hK hμ h m (by omega)) j hj
def agF (σ τ : sw_M) : Prop := τ.2 = σ.2 ∧ ∀ a, a ≠ 46 → a ≠ 47 → τ.1 a = σ.1 a
theorem agF.rf {σ : sw_M} : agF σ σ := ⟨rfl, fun _ _ _ => rfl⟩
theorem agF.tr {σ τ υ : sw_M} (h : agF σ τ) (h' : agF τ υ) : agF σ υ := ⟨h'.1.trans h.1, fun a h1 h2 => (h'.2 a h1 h2).trans (h.2 a h1 h2)⟩
theorem agF_w {σ : sw_M} {f : Nat → Int32} {a : Nat} (ha : a = 46 ∨ a = 47) : agF σ (sw_wA σ a f) := ⟨rfl, fun b h1 h2 => m_ne (by rcases ha with rfl | rfl <;> assumption)⟩
theorem cell_n (x s : Nat) : fX6_cell (nI x) (nI s) = nI (65 * x + 5 * s) := by
  unfold fX6_cell
  rw [lit_I 13, pk_mul, nI_add, lit_I 5, pk_mul]
  congr 1
  omega
theorem cpy_at {f g : Nat → Int32} {D c : Nat} (hc : c < 5) : va_cpy f g 0 D 5 (D + c) = f c := by
  show (if D ≤ D + c ∧ D + c < D + 5 then f (0 + (D + c - D)) else g (D + c)) = _
  rw [if_pos (by omega)]
  congr 1
  omega
theorem cpy_no {f g : Nat → Int32} {D q : Nat} (h : ¬ (D ≤ q ∧ q < D + 5)) : va_cpy f g 0 D 5 q = g q := by
  show (if D ≤ q ∧ q < D + 5 then _ else g q) = _
  rw [if_neg h]
section KQ
variable {σ τ : sw_M} {P K N R Bn z lk : Nat} {mm ww : Nat → Nat}
theorem c_tall {x : Nat} (r1 : rl_p σ P K N R Bn z mm ww) (hN : 0 < N) (hlk : lk < K) (h8 : σ.1 P 8 = nI lk) : ∃ F, fX6_tellAll P σ (nI x) = some (sw_wA σ 46 F) ∧ ∀ c, c < 5 → F c = v_start K N lk (σ.1 (P + 4)) x c := by
  have hP := rl_isP r1
  obtain ⟨p1, p2, p3, p4, ⟨p5, p6, p7⟩, p8⟩ := id r1
  have hK := p3.k5
  have nP : ∀ f, (sw_wA σ 46 f).1 P = σ.1 P := fun f => m_ne (isP_ne0 hP (by decide))
  have n4 : ∀ f, (sw_wA σ 46 f).1 (P + 4) = σ.1 (P + 4) := fun f => m_ne (isP_ne hP (by decide) (by decide))
  obtain ⟨D, hD⟩ : ∃ D, D = v_mix 5 (fun _ => 0) (σ.1 46) := ⟨_, rfl⟩
  obtain ⟨A, hA⟩ : ∃ A, A = v_pall K (σ.1 (P + 4)) D N := ⟨_, rfl⟩
  refine ⟨upd A lk (A lk + (nI x - σ.1 (P + 4) (5 * (N - 1) + lk))), ?_, ?_⟩
  · rw [fX6_tellAll, c_fill (n := 5) rfl (by decide), b1_s, ← hD]
    refine wh_runs (b := fun s : Int32 × sw_M => fX6_tellAll_L10 P s.2 (nI x) s.1) (fun i => (nI i, sw_wA σ 46 (v_pall K (σ.1 (P + 4)) D i))) N rfl (fun i hi => ?_) ?_ (by omega)
    · show fX6_tellAll_L10 P (sw_wA σ 46 (v_pall K (σ.1 (P + 4)) D i)) (nI x) (nI i) = _
      have hp := c_pour (σ := sw_wA σ 46 (v_pall K (σ.1 (P + 4)) D i)) (P := P) (a := 46) (K := K) (p := i) hP (by decide) rfl (by rw [nP]; exact p3.k) hK (by omega)
      rw [n4, m_eq, m_mm] at hp
      unfold fX6_tellAll_L10
      rw [nP, p5, if_neg (le_f hi (by omega)), hp, b1_s, let_s, nI_1]
      rfl
    · show fX6_tellAll_L10 P (sw_wA σ 46 (v_pall K (σ.1 (P + 4)) D N)) (nI x) (nI N) = _
      have e1 : nI N - 1 = nI (N - 1) := nI_sub (b := 1) hN
      rw [← hA]
      unfold fX6_tellAll_L10
      rw [nP, p5, if_pos (le_t N (by omega)), h8, let_s, sw_gd_t (in_t (show lk < 5 by omega) (by decide)), e1, c_has (by omega) (by omega), b1_s, n4, sw_gd_t (in_t (show lk < 5 by omega) (by decide)), let_s, nI_clamp (by omega), m_eq, m_ww]
  · intro c hc
    have hcg : ∀ j, j < 5 → A j = v_pall K (σ.1 (P + 4)) (fun _ => 0) N j := by
      rw [hA]
      refine pall_cg hK (fun _ _ _ _ => rfl) (fun j hj => ?_) N (Nat.le_refl N)
      rw [hD, v_mix, if_pos hj]
    unfold v_start upd
    rw [hcg c hc, hcg lk (by omega)]
theorem c_row {m : sw_M} {x : Nat} (r1 : rl_p m P K N R Bn z mm ww) (hx : x ≤ 30) {V : Nat → Int32} (h46 : ∀ c, c < 5 → m.1 46 c = V c) (h47 : ∀ c, c < 5 → m.1 47 (65 * x + c) = V c) :
    ∃ y, sw_wh sw_F (fun s : Int32 × sw_M => fX6_followCourses_L42 P s.2 (nI x) s.1) (1, m) = some y ∧ ∃ m', y = .inl (nI (x + 1), m') ∧ agF m m' ∧ (∀ s c, s ≤ 12 → c < 5 → m'.1 47 (65 * x + 5 * s + c) = v_its (v_boil (m.1 (P + 6)) R) s V c) ∧ ∀ q, q < 65 * x → m'.1 47 q = m.1 47 q := by
  have hP := rl_isP r1
  obtain ⟨p1, p2, p3, p4, p5⟩ := id r1
  have hK := p3.k5
  have hR := p3.r6
  obtain ⟨ρ, hρ⟩ : ∃ ρ, ρ = m.1 (P + 6) := ⟨_, rfl⟩
  rw [← hρ]
  refine wh_gen (b := fun s : Int32 × sw_M => fX6_followCourses_L42 P s.2 (nI x) s.1) (fun n s => s.1 = nI (n + 1) ∧ n ≤ 12 ∧ agF m s.2 ∧ (∀ c, c < 5 → s.2.1 46 c = v_its (v_boil ρ R) n V c) ∧ (∀ s' c, s' ≤ n → c < 5 → s.2.1 47 (65 * x + 5 * s' + c) = v_its (v_boil ρ R) s' V c) ∧ ∀ q, q < 65 * x → s.2.1 47 q = m.1 47 q) (fun y => ∃ m', y = .inl (nI (x + 1), m') ∧ agF m m' ∧ (∀ s c, s ≤ 12 → c < 5 → m'.1 47 (65 * x + 5 * s + c) = v_its (v_boil ρ R) s V c) ∧ ∀ q, q < 65 * x → m'.1 47 q = m.1 47 q) 12 (fun n s hn hI => ?_) ⟨rfl, by decide, agF.rf, h46, fun s' c hs hc => by
      obtain rfl : s' = 0 := by omega
      rw [Nat.mul_zero, Nat.add_zero]
      exact h47 c hc, fun q _ => rfl⟩ (F_big (by decide))
  obtain ⟨y, m1⟩ := s
  obtain ⟨rfl, i1, i2, i3, i4, i5⟩ : y = nI (n + 1) ∧ n ≤ 12 ∧ agF m m1 ∧ (∀ c, c < 5 → m1.1 46 c = v_its (v_boil ρ R) n V c) ∧ (∀ s' c, s' ≤ n → c < 5 → m1.1 47 (65 * x + 5 * s' + c) = v_its (v_boil ρ R) s' V c) ∧ ∀ q, q < 65 * x → m1.1 47 q = m.1 47 q := hI
  show (∃ s', fX6_followCourses_L42 P m1 (nI x) (nI (n + 1)) = some (.inl s') ∧ (s'.1 = nI (n + 1 + 1) ∧ n + 1 ≤ 12 ∧ agF m s'.2 ∧ (∀ c, c < 5 → s'.2.1 46 c = v_its (v_boil ρ R) (n + 1) V c) ∧ (∀ s2 c, s2 ≤ n + 1 → c < 5 → s'.2.1 47 (65 * x + 5 * s2 + c) = v_its (v_boil ρ R) s2 V c) ∧ ∀ q, q < 65 * x → s'.2.1 47 q = m.1 47 q) ∧ n < 12) ∨ (∃ y, fX6_followCourses_L42 P m1 (nI x) (nI (n + 1)) = some (.inr y) ∧ ∃ m', y = .inl (nI (x + 1), m') ∧ agF m m' ∧ (∀ s c, s ≤ 12 → c < 5 → m'.1 47 (65 * x + 5 * s + c) = v_its (v_boil ρ R) s V c) ∧ ∀ q, q < 65 * x → m'.1 47 q = m.1 47 q)
  unfold fX6_followCourses_L42
  by_cases hn12 : n < 12
  · have hnl : ¬ (12 : Int32) < nI (n + 1) := nI_nlt (a := 12) (by omega) (by decide)
    have eP : m1.1 P = m.1 P := i2.2 P (isP_ne0 hP (by decide)) (isP_ne0 hP (by decide))
    have e6 : m1.1 (P + 6) = m.1 (P + 6) := i2.2 _ (isP_ne hP (by decide) (by decide)) (isP_ne hP (by decide) (by decide))
    have hb := c_boilRules (σ := m1) (P := P) (a := 46) (K := K) (R := R) hP (by decide) rfl (by rw [eP]; exact p3.r) hK hR (by rw [e6]; exact p3.ρ)
    rw [e6, ← hρ] at hb
    have z0 : (0 : Int32).toNatClampNeg = 0 := by decide
    have z5 : (5 : Int32).toNatClampNeg = 5 := by decide
    have hp3 := p3.ρ
    rw [← hρ] at hp3
    have hbj : ∀ c, c < 5 → v_boil ρ R (m1.1 46) c = v_its (v_boil ρ R) (n + 1) V c := fun c hc => v_boil_cg (n := 5) hp3 hK hK (fun _ _ _ _ => rfl) i3 (Nat.le_refl R) c hc
    have hcg : sw_cg 0 (nI (65 * x + 5 * (n + 1))) 5 5 2015 = true := cg_t (a := 0) (by decide) (by omega) (by decide) (by omega)
    rw [if_neg hnl, hb, b2_s, cell_n, sw_gd_t hcg, let_s, let_s, z0, z5, nI_clamp (by omega), nI_1, m_eq]
    refine .inl ⟨_, rfl, ⟨rfl, by omega, i2.tr ((agF_w (.inl rfl)).tr (agF_w (.inr rfl))), fun c hc => ?_, fun s2 c hs hc => ?_, fun q hq => ?_⟩, hn12⟩
    · show (sw_wA (sw_wA m1 46 (v_boil ρ R (m1.1 46))) 47 _).1 46 c = _
      rw [m_ne (by decide), m_eq]
      exact hbj c hc
    · show (sw_wA (sw_wA m1 46 (v_boil ρ R (m1.1 46))) 47 _).1 47 (65 * x + 5 * s2 + c) = _
      rw [m_eq]
      by_cases e : s2 = n + 1
      · rw [e, cpy_at hc]
        exact hbj c hc
      · rw [cpy_no (by omega), m_ne (show (47 : Nat) ≠ 46 by decide)]
        exact i4 s2 c (by omega) hc
    · show (sw_wA (sw_wA m1 46 (v_boil ρ R (m1.1 46))) 47 _).1 47 q = _
      rw [m_eq, cpy_no (by omega), m_ne (show (47 : Nat) ≠ 46 by decide)]
      exact i5 q hq
  · obtain rfl : n = 12 := by omega
    rw [if_pos (by decide), let_s, nI_1]
    exact .inr ⟨_, rfl, m1, rfl, i2, i4, i5⟩
theorem rl_p_agF (r1 : rl_p σ P K N R Bn z mm ww) (h : agF σ τ) : rl_p τ P K N R Bn z mm ww := by
  have hP := rl_isP r1
  have k := h.2
  have e49 := k 49 (by decide) (by decide)
  rcases hP with rfl | rfl <;>
  · refine rl_p_cg (by rw [h.1]) ?_ ?_ ?_ ?_ ?_ ?_ ?_ ?_ ?_ ?_ ?_ (by rw [e49]) (by rw [e49]) (by rw [e49]) (by rw [e49]) (by rw [e49]) (by rw [e49]) (by rw [e49]) (by rw [e49]) (by rw [e49]) r1
    all_goals exact k _ (by decide) (by decide)
theorem c_follow (r1 : rl_p σ P K N R Bn z mm ww) (hN : 0 < N) (hlk : lk < K) (h8 : σ.1 P 8 = nI lk) : ∃ m, agF σ m ∧ sw_wh sw_F (fun s : Int32 × sw_M => fX6_followCourses_L10 P s.2 s.1) (0, σ) = some (sw_w m 39 9 1) ∧ ∀ x s c, x ≤ 30 → s ≤ 12 → c < 5 → m.1 47 (65 * x + 5 * s + c) = v_crs K N R lk (σ.1 (P + 6)) (σ.1 (P + 4)) x s c := by
  have hP := rl_isP r1
  suffices main : ∃ y, sw_wh sw_F (fun s : Int32 × sw_M => fX6_followCourses_L10 P s.2 s.1) (0, σ) = some y ∧ ∃ m, y = sw_w m 39 9 1 ∧ agF σ m ∧ ∀ x s c, x < 31 → s ≤ 12 → c < 5 → m.1 47 (65 * x + 5 * s + c) = v_crs K N R lk (σ.1 (P + 6)) (σ.1 (P + 4)) x s c by
    obtain ⟨y, h1, m, rfl, h3, h4⟩ := main
    exact ⟨m, h3, h1, fun x s c hx hs hc => h4 x s c (by omega) hs hc⟩
  refine wh_gen (b := fun s : Int32 × sw_M => fX6_followCourses_L10 P s.2 s.1) (fun n s => s.1 = nI n ∧ agF σ s.2 ∧ ∀ x s' c, x < n → s' ≤ 12 → c < 5 → s.2.1 47 (65 * x + 5 * s' + c) = v_crs K N R lk (σ.1 (P + 6)) (σ.1 (P + 4)) x s' c) (fun y => ∃ m, y = sw_w m 39 9 1 ∧ agF σ m ∧ ∀ x s c, x < 31 → s ≤ 12 → c < 5 → m.1 47 (65 * x + 5 * s + c) = v_crs K N R lk (σ.1 (P + 6)) (σ.1 (P + 4)) x s c) 31 (fun n s hn hI => ?_) ⟨rfl, agF.rf, fun x _ _ hx => absurd hx (Nat.not_lt_zero x)⟩ (F_big (by decide))
  obtain ⟨y, m⟩ := s
  obtain ⟨rfl, i2, i3⟩ : y = nI n ∧ agF σ m ∧ ∀ x s' c, x < n → s' ≤ 12 → c < 5 → m.1 47 (65 * x + 5 * s' + c) = v_crs K N R lk (σ.1 (P + 6)) (σ.1 (P + 4)) x s' c := hI
  show (∃ s', fX6_followCourses_L10 P m (nI n) = some (.inl s') ∧ (s'.1 = nI (n + 1) ∧ agF σ s'.2 ∧ ∀ x s2 c, x < n + 1 → s2 ≤ 12 → c < 5 → s'.2.1 47 (65 * x + 5 * s2 + c) = v_crs K N R lk (σ.1 (P + 6)) (σ.1 (P + 4)) x s2 c) ∧ n < 31) ∨ (∃ y, fX6_followCourses_L10 P m (nI n) = some (.inr y) ∧ ∃ m, y = sw_w m 39 9 1 ∧ agF σ m ∧ ∀ x s c, x < 31 → s ≤ 12 → c < 5 → m.1 47 (65 * x + 5 * s + c) = v_crs K N R lk (σ.1 (P + 6)) (σ.1 (P + 4)) x s c)
  unfold fX6_followCourses_L10
  by_cases hn31 : n < 31
  · have hnl : ¬ (30 : Int32) < nI n := nI_nlt (a := 30) (by omega) (by decide)
    have q := rl_p_agF r1 i2
    have eP : m.1 P = σ.1 P := i2.2 P (isP_ne0 hP (by decide)) (isP_ne0 hP (by decide))
    have e4 : m.1 (P + 4) = σ.1 (P + 4) := i2.2 _ (isP_ne hP (by decide) (by decide)) (isP_ne hP (by decide) (by decide))
    have e6 : m.1 (P + 6) = σ.1 (P + 6) := i2.2 _ (isP_ne hP (by decide) (by decide)) (isP_ne hP (by decide) (by decide))
    obtain ⟨F, f1, f2⟩ := c_tall (x := n) q hN hlk (by rw [eP]; exact h8)
    rw [e4] at f2
    have z0 : (0 : Int32).toNatClampNeg = 0 := by decide
    have z5 : (5 : Int32).toNatClampNeg = 5 := by decide
    have c0 : fX6_cell (nI n) 0 = nI (65 * n) := cell_n n 0
    have hcg : sw_cg 0 (nI (65 * n)) 5 5 2015 = true := cg_t (a := 0) (by decide) (by omega) (by decide) (by omega)
    obtain ⟨M, hM⟩ : ∃ M, M = sw_wA (sw_wA m 46 F) 47 (va_cpy F (m.1 47) 0 (65 * n) 5) := ⟨_, rfl⟩
    have hMa : agF m M := by rw [hM]; exact (agF_w (.inl rfl)).tr (agF_w (.inr rfl))
    have M46 : M.1 46 = F := by rw [hM, m_ne (by decide), m_eq]
    have M47 : M.1 47 = va_cpy F (m.1 47) 0 (65 * n) 5 := by rw [hM, m_eq]
    have eM6 : M.1 (P + 6) = σ.1 (P + 6) := by rw [hMa.2 _ (isP_ne hP (by decide) (by decide)) (isP_ne hP (by decide) (by decide)), e6]
    obtain ⟨y, g1, m', rfl, g3, g4, g5⟩ := c_row (m := M) (x := n) (V := v_start K N lk (σ.1 (P + 4)) n) (rl_p_agF q hMa) (by omega) (fun c hc => by rw [M46]; exact f2 c hc) (fun c hc => by rw [M47, cpy_at hc]; exact f2 c hc)
    rw [eM6] at g4
    rw [if_neg hnl, f1, b1_s, c0, sw_gd_t hcg, let_s, z0, z5, nI_clamp (by omega), m_eq, m_ne (show (47 : Nat) ≠ 46 by decide), ← hM, g1]
    refine .inl ⟨_, rfl, ⟨rfl, i2.tr (hMa.tr g3), fun x s2 c hx hs hc => ?_⟩, hn31⟩
    show m'.1 47 (65 * x + 5 * s2 + c) = _
    by_cases e : x = n
    · rw [e]
      exact g4 s2 c hs hc
    · rw [g5 _ (by omega), M47, cpy_no (by omega)]
      exact i3 x s2 c (by omega) hs hc
  · obtain rfl : n = 31 := by omega
    rw [if_pos (by decide), let_s]
    exact .inr ⟨_, rfl, m, rfl, i2, i3⟩
end KQ
