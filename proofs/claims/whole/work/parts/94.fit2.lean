/-! what fits: the reference's side -/
theorem cpy_s {F G : Nat → Int32} {D i : Nat} : upd (va_cpy F G 0 D i) (D + i) (F i) = va_cpy F G 0 D (i + 1) := by
  funext q
  by_cases e : q = D + i
  · subst e
    rw [upd_e]
    show F i = if D ≤ D + i ∧ D + i < D + (i + 1) then F (0 + (D + i - D)) else G (D + i)
    rw [if_pos (by omega)]
    congr 1
    omega
  · rw [upd_n e]
    show (if D ≤ q ∧ q < D + i then F (0 + (q - D)) else G q) = if D ≤ q ∧ q < D + (i + 1) then F (0 + (q - D)) else G q
    by_cases h : D ≤ q ∧ q < D + i
    · rw [if_pos h, if_pos (by omega)]
    · rw [if_neg h, if_neg (by omega)]
theorem cpyN_at {f g : Nat → Int32} {D c n : Nat} (hc : c < n) : va_cpy f g 0 D n (D + c) = f c := by
  show (if D ≤ D + c ∧ D + c < D + n then f (0 + (D + c - D)) else g (D + c)) = _
  rw [if_pos (by omega)]
  congr 1
  omega
theorem cpyN_no {f g : Nat → Int32} {D q n : Nat} (h : ¬ (D ≤ q ∧ q < D + n)) : va_cpy f g 0 D n q = g q := by
  show (if D ≤ q ∧ q < D + n then _ else g q) = _
  rw [if_neg h]
theorem cpy_0 {f g : Nat → Int32} {D : Nat} : va_cpy f g 0 D 0 = g := by
  funext q
  exact cpyN_no (by omega)
theorem all_bits : ∀ N, N < 8 → ∀ p, p < N → v_bit ((1 : Int32) <<< (nI N &&& 31) - 1) p = 1 := by decide +kernel
theorem pours_all {K R : Nat} {μ v : Nat → Int32} {s : Int32} (h : ∀ p, p < R → v_bit s p = 1) : ∀ N, N ≤ R → v_pours K μ s v N = v_pall K μ v N
  | 0, _ => rfl
  | N + 1, hN => by
    rw [v_pours, if_pos (h N (by omega)), pours_all h N (by omega)]
    rfl
theorem cell_e (v s c : Nat) : (65 : Int32) * nI v + (5 : Int32) * nI s + nI c = nI (65 * v + 5 * s + c) := by
  rw [lit_I 65, lit_I 5, pk_mul, pk_mul, nI_add, nI_add]
theorem tr_01 {x : Int32} (h : x = 0 ∨ x = 1) : fX10_truth x = x := by rcases h with rfl | rfl <;> rfl
theorem bo_01 {x : Int32} (h : x = 0 ∨ x = 1) : sw_bo x = true := decide_eq_true h
section KT
variable {σ τ : sw_M} {P K N R Bn z lk : Nat} {mm ww : Nat → Nat}
theorem e_fitsM {v s : Nat} {k : Int32} {C : Nat → Int32} (hs : s ≤ 30) (hv : v ≤ 30) (h0 : σ.1 49 66 = nI s) (hu : ∀ i, i < s → σ.1 77 i = -1 ∨ 0 ≤ σ.1 77 i) (hi : ∀ i, i < s → ∃ b c, b ≤ 12 ∧ c < 5 ∧ σ.1 73 i = nI b ∧ σ.1 74 i = nI c ∧ σ.1 79 (65 * v + 5 * b + c) = C i) : fX10_fitsMuch σ (nI v) k = some (f_fit (σ.1 76) (σ.1 77) (σ.1 75) (σ.1 78) C k s) := by
  unfold fX10_fitsMuch
  suffices main : ∃ t, sw_wh sw_F (fun q : Int32 × Int32 => fX10_fitsMuch_L5 σ (nI v) k q.1 q.2) (1, 0) = some t ∧ t = f_fit (σ.1 76) (σ.1 77) (σ.1 75) (σ.1 78) C k s by
    obtain ⟨t, h1, h2⟩ := main
    rw [h1, h2]
  refine wh_gen (b := fun q : Int32 × Int32 => fX10_fitsMuch_L5 σ (nI v) k q.1 q.2) (fun i q => q = (f_fit (σ.1 76) (σ.1 77) (σ.1 75) (σ.1 78) C k i, nI i)) (fun t => t = f_fit (σ.1 76) (σ.1 77) (σ.1 75) (σ.1 78) C k s) s (fun i q hk hI => ?_) rfl (F_big (by omega))
  subst hI
  show (∃ s', fX10_fitsMuch_L5 σ (nI v) k (f_fit (σ.1 76) (σ.1 77) (σ.1 75) (σ.1 78) C k i) (nI i) = some (.inl s') ∧ s' = (f_fit (σ.1 76) (σ.1 77) (σ.1 75) (σ.1 78) C k (i + 1), nI (i + 1)) ∧ i < s) ∨ (∃ t, fX10_fitsMuch_L5 σ (nI v) k (f_fit (σ.1 76) (σ.1 77) (σ.1 75) (σ.1 78) C k i) (nI i) = some (.inr t) ∧ t = f_fit (σ.1 76) (σ.1 77) (σ.1 75) (σ.1 78) C k s)
  have h01 : f_fit (σ.1 76) (σ.1 77) (σ.1 75) (σ.1 78) C k i = 0 ∨ f_fit (σ.1 76) (σ.1 77) (σ.1 75) (σ.1 78) C k i = 1 := fit01 i
  unfold fX10_fitsMuch_L5
  by_cases his : i < s
  · obtain ⟨b, c, hb, hc5, e1, e2, e3⟩ := hi i his
    rw [h0, if_neg (le_f his (by omega)), sw_gd_t (bo_01 h01)]
    by_cases h1 : f_fit (σ.1 76) (σ.1 77) (σ.1 75) (σ.1 78) C k i = 0
    · rw [if_pos h1]
      refine .inr ⟨_, rfl, ?_⟩
      have := fit_0 h1 (s - i)
      rw [show i + (s - i) = s by omega] at this
      rw [this, h1]
    · have hf1 : f_fit (σ.1 76) (σ.1 77) (σ.1 75) (σ.1 78) C k i = 1 := by
        rcases h01 with e | e
        · exact absurd e h1
        · exact e
      have L53 : fX10_fitsMuch_L53 σ (nI v) k (nI i) = some (.inl ((if (if C i < σ.1 75 i then (0 : Int32) else 1) = σ.1 78 i then 1 else 0), nI (i + 1))) := by
        unfold fX10_fitsMuch_L53
        rw [sw_gd_t (in_t (show i < 30 by omega) (by decide)), sw_gd_t (in_t (show i < 30 by omega) (by decide)), nI_clamp (by omega), e1, e2, cell_e, sw_gd_t (in_t (show 65 * v + 5 * b + c < 2015 by omega) (by decide)), sw_gd_t (in_t (show i < 30 by omega) (by decide)), nI_clamp (by omega), e3, fX10_fitsMuch_L95, fX10_fitsMuch_L95, sw_gd_t (in_t (show i < 30 by omega) (by decide)), sw_gd_t (in_t (show i < 30 by omega) (by decide)), nI_clamp (by omega), fX10_fitsMuch_L110, fX10_fitsMuch_L110, fX10_fitsMuch_L111, fX10_fitsMuch_L111, let_s, let_s, nI_1]
        by_cases h3 : C i < σ.1 75 i
        · rw [if_pos h3, if_pos h3]
          split <;> rfl
        · rw [if_neg h3, if_neg h3]
          split <;> rfl
      rw [if_neg h1, sw_gd_t (in_t (show i < 30 by omega) (by decide)), nI_clamp (by omega), sw_gd_t (in_t (show i < 30 by omega) (by decide)), sw_gd_t (in_t (show i < 30 by omega) (by decide)), L53, fX10_fitsMuch_L111, let_s, nI_1]
      refine .inl ⟨_, ?_, rfl, his⟩
      rw [f_fit, if_neg h1, f_cnt]
      by_cases g1 : k < σ.1 76 i
      · rw [if_pos g1, if_neg (Int32.not_le.mpr g1), if_pos rfl, hf1]
      · rw [if_neg g1, if_pos (Int32.not_lt.mp g1)]
        rcases hu i his with g2 | g2
        · have : σ.1 77 i < 0 := by rw [g2]; decide
          rw [if_pos this, if_pos g2, if_neg i10]
        · have n1 : ¬ σ.1 77 i < 0 := Int32.not_lt.mpr g2
          have n2 : ¬ σ.1 77 i = -1 := fun e => n1 (by rw [e]; decide)
          rw [if_neg n1, if_neg n2]
          by_cases g3 : k < σ.1 77 i
          · rw [if_pos g3, if_neg (Int32.not_le.mpr g3), if_neg i10]
          · rw [if_neg g3, if_pos (Int32.not_lt.mp g3), if_pos rfl, hf1]
  · have ek : i = s := by omega
    rw [h0, ek, if_pos (le_t s (by omega)), sw_gd_t (bo_01 (by rw [← ek]; exact h01))]
    exact .inr ⟨_, rfl, rfl⟩
/-- one course is written down -/
theorem e_copy {m : sw_M} {v s : Nat} {k n : Int32} (r1 : rl_p m P K N R Bn z mm ww) (hv : v ≤ 30) (hs : s ≤ 12) : sw_wh sw_F (fun q : Int32 × sw_M => fX10_layFits_L98 q.2 k n (nI v) (nI s) q.1) (0, m) = some (.inl (nI (s + 1), sw_wA (sw_wA m 79 (va_cpy (m.1 66) (m.1 79) 0 (65 * v + 5 * s) K)) 66 (v_boil (m.1 64) R (m.1 66)))) := by
  obtain ⟨p1, p2, p3, p4, p5⟩ := id r1
  have hK := p3.k5
  have hR := p3.r6
  refine wh_runs (b := fun q : Int32 × sw_M => fX10_layFits_L98 q.2 k n (nI v) (nI s) q.1) (fun i => (nI i, sw_wA m 79 (va_cpy (m.1 66) (m.1 79) 0 (65 * v + 5 * s) i))) K (by show (nI 0, sw_wA m 79 (va_cpy (m.1 66) (m.1 79) 0 (65 * v + 5 * s) 0)) = _; rw [cpy_0, m_self]; rfl) (fun i hi => ?_) ?_ (by omega)
  · show fX10_layFits_L98 (sw_wA m 79 (va_cpy (m.1 66) (m.1 79) 0 (65 * v + 5 * s) i)) k n (nI v) (nI s) (nI i) = _
    unfold fX10_layFits_L98
    rw [m_ne (show (49 : Nat) ≠ 79 by decide), p4.k, if_neg (le_f hi (by omega)), sw_gd_t (in_t (show i < 10 by omega) (by decide)), cell_e, sw_gd_t (in_t (show 65 * v + 5 * s + i < 2015 by omega) (by decide)), let_s, let_s, nI_1, nI_clamp (by omega), nI_clamp (by omega), m_ne (show (66 : Nat) ≠ 79 by decide), m_ww, cpy_s]
  · show fX10_layFits_L98 (sw_wA m 79 (va_cpy (m.1 66) (m.1 79) 0 (65 * v + 5 * s) K)) k n (nI v) (nI s) (nI K) = _
    have hb := e_boilAll (σ := sw_wA m 79 (va_cpy (m.1 66) (m.1 79) 0 (65 * v + 5 * s) K)) (K := K) (R := R) (by rw [m_ne (show (49 : Nat) ≠ 79 by decide)]; exact p4.r) hK hR (by rw [m_ne (show (64 : Nat) ≠ 79 by decide)]; exact p4.ρ)
    rw [m_ne (show (64 : Nat) ≠ 79 by decide), m_ne (show (66 : Nat) ≠ 79 by decide)] at hb
    unfold fX10_layFits_L98
    rw [m_ne (show (49 : Nat) ≠ 79 by decide), p4.k, if_pos (le_t K (by omega)), hb, b1_s, let_s, nI_1]
def agL (σ τ : sw_M) : Prop := τ.2 = σ.2 ∧ ∀ a, a ≠ 66 → a ≠ 79 → τ.1 a = σ.1 a
theorem agL.age (h : agL σ τ) : age σ τ := ⟨h.1, fun a _ _ h3 _ _ _ _ h8 _ _ => h.2 a h3 h8⟩
theorem agL.rf : agL σ σ := ⟨rfl, fun _ _ _ => rfl⟩
theorem agL.tr {υ : sw_M} (h : agL σ τ) (h' : agL τ υ) : agL σ υ := ⟨h'.1.trans h.1, fun a h1 h2 => (h'.2 a h1 h2).trans (h.2 a h1 h2)⟩
theorem agL_w {f : Nat → Int32} {a : Nat} (ha : a = 66 ∨ a = 79) : agL σ (sw_wA σ a f) := ⟨rfl, fun b h1 h2 => m_ne (by rcases ha with rfl | rfl <;> assumption)⟩
theorem e_row {m : sw_M} {v : Nat} {k n : Int32} {V ρ : Nat → Int32} (r1 : rl_p m P K N R Bn z mm ww) (hv : v ≤ 30) (hρ : ok_ρ ρ K R) (hq : ∀ r c, r < R → c < 4 → m.1 64 (4 * r + c) = ρ (4 * r + c)) (h66 : ∀ c, c < 5 → m.1 66 c = V c) :
    ∃ m', agL m m' ∧ (∀ s c, s ≤ 12 → c < K → m'.1 79 (65 * v + 5 * s + c) = v_its (v_boil ρ R) s V c) ∧ (∀ q, q < 65 * v → m'.1 79 q = m.1 79 q) ∧ ∀ X, fX10_layFits_L88 m' k n (nI v) (nI 13) = some (.inr X) → sw_wh sw_F (fun q : Int32 × sw_M => fX10_layFits_L88 q.2 k n (nI v) q.1) (0, m) = some X := by
  have hK := r1.2.2.1.k5
  -- the memory behind s rounds, as a function
  obtain ⟨g, g0, gS⟩ : ∃ g : Nat → sw_M, g 0 = m ∧ ∀ s, g (s + 1) = sw_wA (sw_wA (g s) 79 (va_cpy ((g s).1 66) ((g s).1 79) 0 (65 * v + 5 * s) K)) 66 (v_boil ((g s).1 64) R ((g s).1 66)) :=
    ⟨fun s => Nat.rec m (fun s gs => sw_wA (sw_wA gs 79 (va_cpy (gs.1 66) (gs.1 79) 0 (65 * v + 5 * s) K)) 66 (v_boil (gs.1 64) R (gs.1 66))) s, rfl, fun s => rfl⟩
  have ag : ∀ s, agL m (g s) := by
    intro s
    induction s with
    | zero => rw [g0]; exact agL.rf
    | succ s ih => rw [gS]; exact ih.tr ((agL_w (.inr rfl)).tr (agL_w (.inl rfl)))
  have e64 : ∀ s, (g s).1 64 = m.1 64 := fun s => (ag s).2 64 (by decide) (by decide)
  have e66 : ∀ s c, c < 5 → (g s).1 66 c = v_its (v_boil ρ R) s V c := by
    intro s
    induction s with
    | zero => intro c hc; rw [g0]; exact h66 c hc
    | succ s ih =>
      intro c hc
      rw [gS, m_eq, e64]
      exact v_boil_cg (n := 5) hρ hK hK hq ih (Nat.le_refl R) c hc
  have e79 : ∀ s, (∀ s' c, s' < s → s' ≤ 12 → c < K → (g s).1 79 (65 * v + 5 * s' + c) = v_its (v_boil ρ R) s' V c) ∧ ∀ q, q < 65 * v → (g s).1 79 q = m.1 79 q := by
    intro s
    induction s with
    | zero => exact ⟨fun s' c h => absurd h (Nat.not_lt_zero s'), fun q _ => by rw [g0]⟩
    | succ s ih =>
      refine ⟨fun s' c h1 h2 h3 => ?_, fun q hq => ?_⟩
      · rw [gS, m_ne (show (79 : Nat) ≠ 66 by decide), m_eq]
        by_cases e : s' = s
        · rw [e, cpyN_at h3]
          exact e66 s c (by omega)
        · rw [cpyN_no (by omega)]
          exact ih.1 s' c (by omega) h2 h3
      · rw [gS, m_ne (show (79 : Nat) ≠ 66 by decide), m_eq, cpyN_no (by omega)]
        exact ih.2 q hq
  refine ⟨g 13, ag 13, fun s c hs hc => (e79 13).1 s c (by omega) hs hc, (e79 13).2, fun X hX => ?_⟩
  refine wh_runs (b := fun q : Int32 × sw_M => fX10_layFits_L88 q.2 k n (nI v) q.1) (fun s => (nI s, g s)) 13 (by show (nI 0, g 0) = _; rw [g0]; rfl) (fun s hs => ?_) hX (by decide)
  show fX10_layFits_L88 (g s) k n (nI v) (nI s) = some (.inl (nI (s + 1), g (s + 1)))
  have hnl : ¬ (12 : Int32) < nI s := nI_nlt (a := 12) (by omega) (by decide)
  unfold fX10_layFits_L88
  rw [if_neg hnl, e_copy (rl_p_age r1 (ag s).age) hv (by omega), gS]
theorem e_lay (k : Int32) (hr : relD σ P K N R Bn z mm ww) : ∃ m, fX10_layFits σ k = some (nI (d_cnt (w_fit σ P K N R k) 31), m) ∧ age σ m ∧ (0 < N → (∀ v, v < 31 → m.1 81 v = w_fit σ P K N R k v) ∧ ∀ v s c, v < 31 → s ≤ 12 → c < K → m.1 79 (65 * v + 5 * s + c) = v_crs K N R (ix (σ.1 49 44)) (σ.1 (P + 6)) (σ.1 (P + 4)) v s c) := by
  have hP := rl_isP hr.1
  have r1 := hr.1
  have r6 := hr.2.2.2.2.2.1
  have hmm := rl_m r1
  have hrr := rl_r r1
  obtain ⟨p1, p2, p3, p4, ⟨p5, p6, p7⟩, p8, p9, p10, p11, p12, p13, p14, p15⟩ := id r1
  obtain ⟨⟨s0, hs0, s1, s2, s3⟩, s4⟩ := id r6
  have hK := p3.k5
  have hR := p3.r6
  obtain ⟨w, hw⟩ : ∃ w, w = w_fit σ P K N R k := ⟨_, rfl⟩
  rw [← hw]
  unfold fX10_layFits
  by_cases hN : N = 0
  · have z : d_cnt w 31 = 0 := by
      have : ∀ n, d_cnt w n = 0 := by
        intro n
        induction n with
        | zero => rfl
        | succ n ih => rw [d_cnt, if_pos (show w n = 0 by rw [hw, w_fit, if_pos hN]), ih]
      exact this 31
    refine ⟨σ, ?_, age.rf, fun h => absurd h (by omega)⟩
    rw [z]
    refine wh_runs (b := fun q : Int32 × Int32 × sw_M => fX10_layFits_L4 q.2.2 k q.1 q.2.1) (fun _ => (0, 0, σ)) 0 rfl (fun v hv => absurd hv (Nat.not_lt_zero v)) ?_ (by decide)
    show fX10_layFits_L4 σ k 0 0 = _
    rw [fX10_layFits_L4, if_neg (by decide), p6, hN, if_pos (by decide)]
    rfl
  obtain ⟨lk, l1, l2, l3, l4⟩ := p15 (by omega)
  have hlk : ix (σ.1 49 44) = lk := by rw [l3]; exact ix_n (by omega)
  rw [hlk]
  obtain ⟨crs, hcrs⟩ : ∃ crs : Nat → Nat → Nat → Int32, crs = fun v s c => v_crs K N R lk (σ.1 (P + 6)) (σ.1 (P + 4)) v s c := ⟨_, rfl⟩
  have hc' : ∀ v s c, v_crs K N R lk (σ.1 (P + 6)) (σ.1 (P + 4)) v s c = crs v s c := fun v s c => by rw [hcrs]
  suffices main : ∃ t, sw_wh sw_F (fun q : Int32 × Int32 × sw_M => fX10_layFits_L4 q.2.2 k q.1 q.2.1) (0, 0, σ) = some t ∧ t.1 = nI (d_cnt w 31) ∧ age σ t.2 ∧ (∀ v, v < 31 → t.2.1 81 v = w v) ∧ ∀ v s c, v < 31 → s ≤ 12 → c < K → t.2.1 79 (65 * v + 5 * s + c) = crs v s c by
    obtain ⟨⟨t1, t2⟩, h1, h2, h3, h4, h5⟩ := main
    exact ⟨t2, by rw [h1, ← h2], h3, fun _ => ⟨h4, fun v s c a b d => by rw [hc']; exact h5 v s c a b d⟩⟩
  refine wh_gen (b := fun q : Int32 × Int32 × sw_M => fX10_layFits_L4 q.2.2 k q.1 q.2.1) (fun v q => q.1 = nI (d_cnt w v) ∧ q.2.1 = nI v ∧ age σ q.2.2 ∧ (∀ v', v' < v → q.2.2.1 81 v' = w v') ∧ ∀ v' s c, v' < v → s ≤ 12 → c < K → q.2.2.1 79 (65 * v' + 5 * s + c) = crs v' s c) (fun t => t.1 = nI (d_cnt w 31) ∧ age σ t.2 ∧ (∀ v, v < 31 → t.2.1 81 v = w v) ∧ ∀ v s c, v < 31 → s ≤ 12 → c < K → t.2.1 79 (65 * v + 5 * s + c) = crs v s c) 31 (fun v q hv hI => ?_) ⟨rfl, rfl, age.rf, fun v' h => absurd h (Nat.not_lt_zero v'), fun v' _ _ h => absurd h (Nat.not_lt_zero v')⟩ (F_big (by decide))
  obtain ⟨x, y, m⟩ := q
  obtain ⟨rfl, rfl, i3, i4, i5⟩ : x = nI (d_cnt w v) ∧ y = nI v ∧ age σ m ∧ (∀ v', v' < v → m.1 81 v' = w v') ∧ ∀ v' s c, v' < v → s ≤ 12 → c < K → m.1 79 (65 * v' + 5 * s + c) = crs v' s c := hI
  show (∃ s', fX10_layFits_L4 m k (nI (d_cnt w v)) (nI v) = some (.inl s') ∧ (s'.1 = nI (d_cnt w (v + 1)) ∧ s'.2.1 = nI (v + 1) ∧ age σ s'.2.2 ∧ (∀ v', v' < v + 1 → s'.2.2.1 81 v' = w v') ∧ ∀ v' s c, v' < v + 1 → s ≤ 12 → c < K → s'.2.2.1 79 (65 * v' + 5 * s + c) = crs v' s c) ∧ v < 31) ∨ (∃ t, fX10_layFits_L4 m k (nI (d_cnt w v)) (nI v) = some (.inr t) ∧ (t.1 = nI (d_cnt w 31) ∧ age σ t.2 ∧ (∀ v, v < 31 → t.2.1 81 v = w v) ∧ ∀ v s c, v < 31 → s ≤ 12 → c < K → t.2.1 79 (65 * v + 5 * s + c) = crs v s c))
  unfold fX10_layFits_L4
  by_cases hv31 : v < 31
  rotate_left
  · obtain rfl : v = 31 := by omega
    rw [if_pos (by decide)]
    exact .inr ⟨_, rfl, rfl, i3, i4, i5⟩
  refine .inl ?_
  have hnl : ¬ (30 : Int32) < nI v := nI_nlt (a := 30) (by omega) (by decide)
  have q := rl_p_age r1 i3
  have m41 : m.1 49 41 = nI N := q.2.2.2.2.1.2.1
  have e49 : m.1 49 = σ.1 49 := age_n i3 (by decide) (by decide) (by decide) (by decide)
  have e62 : m.1 62 = σ.1 62 := age_n i3 (by decide) (by decide) (by decide) (by decide)
  have e64 : m.1 64 = σ.1 64 := age_n i3 (by decide) (by decide) (by decide) (by decide)
  have npos : ¬ nI N ≤ 0 := nI_nle (by omega) (by omega)
  rw [if_neg hnl, m41, if_neg npos]
  obtain ⟨D, hD⟩ : ∃ D, D = v_mix 10 (fun _ => (0 : Int32)) (m.1 66) := ⟨_, rfl⟩
  obtain ⟨A, hA⟩ : ∃ A, A = v_tells K (m.1 62) ((1 : Int32) <<< (nI N &&& 31) - 1) D N := ⟨_, rfl⟩
  obtain ⟨F, hF⟩ : ∃ F, F = upd A lk (A lk + (nI v - m.1 62 (5 * (N - 1) + lk))) := ⟨_, rfl⟩
  have hFj : ∀ c, c < 5 → F c = v_start K N lk (σ.1 (P + 4)) v c := by
    have hAj : ∀ j, j < 5 → A j = v_pall K (σ.1 (P + 4)) (fun _ => 0) N j := by
      intro j hj
      rw [hA, v_tells_eq hK, upd_n (by omega), pours_all (fun p hp => all_bits N (by omega) p hp) N (Nat.le_refl N)]
      refine pall_cg (n := 5) hK (fun p c hp hc => by rw [e62]; exact (hmm p c hp hc).symm) (fun c hc => ?_) N (Nat.le_refl N) j hj
      rw [hD, v_mix, if_pos (by omega)]
    intro c hc
    rw [hF]
    unfold v_start upd
    rw [hAj c hc, hAj lk (by omega), e62, hmm (N - 1) lk (by omega) l1]
  obtain ⟨M, hM⟩ : ∃ M, M = sw_wA m 66 F := ⟨_, rfl⟩
  have hMa : agL m M := by rw [hM]; exact agL_w (.inl rfl)
  obtain ⟨m', a1, a2, a3, a4⟩ := e_row (m := M) (v := v) (k := k) (n := nI (d_cnt w v)) (V := v_start K N lk (σ.1 (P + 4)) v) (ρ := σ.1 (P + 6)) (rl_p_age q hMa.age) (by omega) p3.ρ (fun r c h1 h2 => by rw [hMa.2 64 (by decide) (by decide), e64]; exact (hrr r c h1 h2).symm) (fun c hc => by rw [hM, m_eq]; exact hFj c hc)
  have am : agL m m' := hMa.tr a1
  have ham : age σ m' := i3.tr am.age
  have d79 : ∀ v' s c, v' < v + 1 → s ≤ 12 → c < K → m'.1 79 (65 * v' + 5 * s + c) = crs v' s c := by
    intro v' s c h1 h2 h3
    by_cases e : v' = v
    · rw [e, a2 s c h2 h3, hcrs]
      rfl
    · rw [a3 _ (by omega), hM, m_ne (show (79 : Nat) ≠ 66 by decide)]
      exact i5 v' s c (by omega) h2 h3
  have hfm : fX10_fitsMuch m' (nI v) k = some (w v) := by
    have x49 : m'.1 49 = σ.1 49 := by rw [am.2 49 (by decide) (by decide), e49]
    have xk : ∀ a, 73 ≤ a → a ≤ 78 → m'.1 a = σ.1 a := fun a h1 h2 => by
      rw [am.2 a (by omega) (by omega)]
      exact i3.2 a (by omega) (by omega) (by omega) (by omega) (by omega) (by omega) (by omega) (by omega) (by omega) (by omega)
    have hq := e_fitsM (σ := m') (v := v) (s := s0) (k := k) (C := fun i => crs v (ix (σ.1 73 i)) (ix (σ.1 74 i))) hs0 (by omega) (by rw [x49]; exact s2) (fun i hi => by rw [xk 77 (by omega) (by omega)]; exact (s3 i hi).2.2.2.2) (fun i hi => by
      obtain ⟨⟨a1, a2, a3, a4, a5, a6⟩, ⟨b, b1, b2⟩, ⟨c, d1, d2⟩, _⟩ := s3 i hi
      refine ⟨b, c, b1, by omega, ?_, ?_, ?_⟩
      · rw [xk 73 (by omega) (by omega), b2]
      · rw [xk 74 (by omega) (by omega), d2]
      · show _ = crs v (ix (σ.1 73 i)) (ix (σ.1 74 i))
        rw [d79 v b c (by omega) b1 d1, b2, d2, ix_n (by omega), ix_n (by omega)])
    rw [hq, hw, w_fit, if_neg hN, hlk, s2, ix_n (by omega), xk 75 (by omega) (by omega), xk 76 (by omega) (by omega), xk 77 (by omega) (by omega), xk 78 (by omega) (by omega), hcrs]
  have w01 : w v = 0 ∨ w v = 1 := by
    rw [hw, w_fit, if_neg hN]
    exact fit01 _
  have m81 : m'.1 81 = m.1 81 := am.2 81 (by decide) (by decide)
  have hend : fX10_layFits_L88 m' k (nI (d_cnt w v)) (nI v) (nI 13) = some (.inr (.inl (nI (d_cnt w (v + 1)), nI (v + 1), sw_w m' 81 v (w v)))) := by
    unfold fX10_layFits_L88
    rw [if_pos (by decide), hfm, b1_s, sw_gd_t (in_t hv31 (by decide)), let_s, sw_gd_t (in_t hv31 (by decide)), let_s, let_s, nI_clamp (by omega), nar_b w01, m_w, m_eq, upd_e, tr_01 w01, nI_1, d_cnt]
    rcases w01 with e | e
    · rw [e, Int32.add_zero, if_pos rfl]
    · rw [e, if_neg i10, nI_1]
  have h88 := a4 _ hend
  refine ⟨(nI (d_cnt w (v + 1)), nI (v + 1), sw_w m' 81 v (w v)), ?_, ⟨rfl, rfl, ham.tr (age_w (.inr (.inr (.inr (.inr (.inr (.inr (.inr (.inr (.inr rfl)))))))))), fun v' h => ?_, fun v' s c h1 h2 h3 => ?_⟩, hv31⟩
  · refine wh_map (b := fun q : Int32 × sw_M => fX10_layFits_L20 q.2 k (nI (d_cnt w v)) (nI v) q.1) m 66 (fun _ => 0) 10 (fun i hi => ?_) ?_ (by decide)
    · show fX10_layFits_L20 (sw_wA m 66 (v_mix i (fun _ => 0) (m.1 66))) k (nI (d_cnt w v)) (nI v) (nI i) = _
      have h10 : ¬ (10 : Int32) ≤ nI i := nI_ge (b := 10) hi (by decide)
      unfold fX10_layFits_L20
      rw [if_neg h10, sw_gd_t (in_t hi (by decide)), let_s, let_s, nI_1, nI_clamp (by omega), m_ww]
    · show fX10_layFits_L20 (sw_wA m 66 (v_mix 10 (fun _ => 0) (m.1 66))) k (nI (d_cnt w v)) (nI v) (nI 10) = _
      have ht := e_tellAll (σ := m) (K := K) (N := N) (f := D) (s := (1 : Int32) <<< (nI N &&& 31) - 1) q.2.2.2.1.k hK m41 p7
      rw [← hA] at ht
      have x44 : (sw_wA m 66 A).1 49 44 = nI lk := by rw [m_ne (show (49 : Nat) ≠ 66 by decide), e49]; exact l3
      have x41 : (sw_wA m 66 A).1 49 41 = nI N := by rw [m_ne (show (49 : Nat) ≠ 66 by decide)]; exact m41
      have y41 : (sw_wA m 66 D).1 49 41 = nI N := by rw [m_ne (show (49 : Nat) ≠ 66 by decide)]; exact m41
      have e1 : nI N - 1 = nI (N - 1) := nI_sub (b := 1) (by omega)
      rw [← hD]
      unfold fX10_layFits_L20
      rw [if_pos (by decide), y41, ht, b1_s, let_s, x44, x41, e1, i54, sw_gd_t (in_t (show lk < 10 by omega) (by decide)), sw_gd_t (in_t (show 5 * (N - 1) + lk < 35 by omega) (by decide)), sw_gd_t (in_t (show lk < 10 by omega) (by decide)), let_s, nI_clamp (by omega), nI_clamp (by omega), m_eq, m_ne (show (62 : Nat) ≠ 66 by decide), m_ww, ← hF, ← hM, h88, sw_up_s]
  · show upd (m'.1 81) v (w v) v' = w v'
    by_cases e : v' = v
    · rw [e, upd_e]
    · rw [upd_n e, m81]
      exact i4 v' (by omega)
  · show (sw_w m' 81 v (w v)).1 79 (65 * v' + 5 * s + c) = _
    rw [m_wne (by decide)]
    exact d79 v' s c h1 h2 h3
end KT
