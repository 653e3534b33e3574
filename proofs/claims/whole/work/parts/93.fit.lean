/-! what fits -/
def f_cnt (T U : Nat → Int32) (k : Int32) (i : Nat) : Int32 := if T i ≤ k then (if U i = -1 then 1 else if U i ≤ k then 0 else 1) else 0
def f_fit (T U L S C : Nat → Int32) (k : Int32) : Nat → Int32
  | 0 => 1
  | i + 1 => if f_fit T U L S C k i = 0 then 0 else if f_cnt T U k i = 0 then 1 else if (if C i < L i then (0 : Int32) else 1) = S i then 1 else 0
theorem fit01 {T U L S C : Nat → Int32} {k : Int32} : ∀ i, f_fit T U L S C k i = 0 ∨ f_fit T U L S C k i = 1
  | 0 => .inr rfl
  | i + 1 => by
    rw [f_fit]
    split
    · exact .inl rfl
    · split
      · exact .inr rfl
      · by_cases h : (if C i < L i then (0 : Int32) else 1) = S i
        · rw [if_pos h]
          exact .inr rfl
        · rw [if_neg h]
          exact .inl rfl
theorem fit_0 {T U L S C : Nat → Int32} {k : Int32} {i : Nat} (h : f_fit T U L S C k i = 0) : ∀ d, f_fit T U L S C k (i + d) = 0
  | 0 => h
  | d + 1 => by
    show f_fit T U L S C k ((i + d) + 1) = 0
    rw [f_fit, if_pos (fit_0 h d)]
theorem fit_cg {T U L S C T' U' L' S' C' : Nat → Int32} {k : Int32} {n : Nat} (h : ∀ i, i < n → T' i = T i ∧ U' i = U i ∧ L' i = L i ∧ S' i = S i ∧ C' i = C i) : ∀ i, i ≤ n → f_fit T' U' L' S' C' k i = f_fit T U L S C k i
  | 0, _ => rfl
  | i + 1, hi => by
    obtain ⟨a, b, c, d, e⟩ := h i (by omega)
    rw [f_fit, f_fit, fit_cg h i (by omega), f_cnt, f_cnt, a, b, c, d, e]
def w_fit (σ : sw_M) (P K N R : Nat) (k : Int32) (v : Nat) : Int32 := if N = 0 then 0 else f_fit (σ.1 76) (σ.1 77) (σ.1 75) (σ.1 78) (fun i => v_crs K N R (ix (σ.1 49 44)) (σ.1 (P + 6)) (σ.1 (P + 4)) v (ix (σ.1 73 i)) (ix (σ.1 74 i))) k (ix (σ.1 49 66))
section KR
variable {σ τ : sw_M} {P K N R Bn z : Nat} {mm ww : Nat → Nat}
theorem ix_n {n : Nat} (h : n < 2 ^ 31) : ix (nI n) = n := nI_clamp h
theorem c_counts {i : Nat} {k : Int32} (hi : i < 30) : fX6_counts σ (nI i) k = some (f_cnt (σ.1 44) (σ.1 45) k i) := by
  unfold fX6_counts f_cnt
  rw [sw_gd_t (in_t hi (by decide)), nI_clamp (by omega)]
  by_cases h1 : σ.1 44 i ≤ k
  · rw [if_pos h1, if_pos h1, sw_gd_t (in_t hi (by decide))]
    by_cases h2 : σ.1 45 i = -1
    · rw [if_pos h2, if_pos h2]
    · rw [if_neg h2, if_neg h2, sw_gd_t (in_t hi (by decide))]
      split <;> rfl
  · rw [if_neg h1, if_neg h1]
theorem c_borne {v s : Nat} {k : Int32} {C : Nat → Int32} (hs : s ≤ 30) (hv : v ≤ 30) (h0 : σ.1 39 0 = nI s) (hi : ∀ i, i < s → ∃ b c, b ≤ 12 ∧ c < 5 ∧ σ.1 40 i = nI b ∧ σ.1 41 i = nI c ∧ σ.1 47 (65 * v + 5 * b + c) = C i) : fX6_isBorneOut σ (nI v) k = some (f_fit (σ.1 44) (σ.1 45) (σ.1 42) (σ.1 43) C k s) := by
  unfold fX6_isBorneOut
  suffices main : ∃ t, sw_wh sw_F (fun q : Int32 => fX6_isBorneOut_L2 σ (nI v) k q) 0 = some t ∧ t = f_fit (σ.1 44) (σ.1 45) (σ.1 42) (σ.1 43) C k s by
    obtain ⟨t, h1, h2⟩ := main
    rw [h1, h2]
  refine wh_gen (b := fun q : Int32 => fX6_isBorneOut_L2 σ (nI v) k q) (fun i q => q = nI i ∧ f_fit (σ.1 44) (σ.1 45) (σ.1 42) (σ.1 43) C k i = 1) (fun t => t = f_fit (σ.1 44) (σ.1 45) (σ.1 42) (σ.1 43) C k s) s (fun i q hk hI => ?_) ⟨rfl, rfl⟩ (F_big (by omega))
  obtain ⟨rfl, hc⟩ := hI
  show (∃ s', fX6_isBorneOut_L2 σ (nI v) k (nI i) = some (.inl s') ∧ (s' = nI (i + 1) ∧ f_fit (σ.1 44) (σ.1 45) (σ.1 42) (σ.1 43) C k (i + 1) = 1) ∧ i < s) ∨ (∃ t, fX6_isBorneOut_L2 σ (nI v) k (nI i) = some (.inr t) ∧ t = f_fit (σ.1 44) (σ.1 45) (σ.1 42) (σ.1 43) C k s)
  unfold fX6_isBorneOut_L2
  by_cases his : i < s
  · obtain ⟨b, c, hb, hc5, e1, e2, e3⟩ := hi i his
    have n1 : ¬ f_fit (σ.1 44) (σ.1 45) (σ.1 42) (σ.1 43) C k i = 0 := by rw [hc]; decide
    have ec : fX6_cell (nI v) (nI b) + nI c = nI (65 * v + 5 * b + c) := by rw [cell_n, nI_add]
    rw [h0, if_neg (le_f his (by omega)), c_counts (by omega), b1_s, sw_gd_t (in_t (show i < 30 by omega) (by decide)), sw_gd_t (in_t (show i < 30 by omega) (by decide)), nI_clamp (by omega), e1, e2, ec, sw_gd_t (in_t (show 65 * v + 5 * b + c < 2015 by omega) (by decide)), sw_gd_t (in_t (show i < 30 by omega) (by decide)), nI_clamp (by omega), e3, fX6_isBorneOut_L58, fX6_isBorneOut_L58, sw_gd_t (in_t (show i < 30 by omega) (by decide)), sw_gd_t (in_t (show i < 30 by omega) (by decide)), nI_clamp (by omega), fX6_isBorneOut_L73, let_s, nI_1]
    by_cases h1 : f_cnt (σ.1 44) (σ.1 45) k i = 0
    · rw [if_pos h1]
      exact .inl ⟨_, rfl, ⟨rfl, by rw [f_fit, if_neg n1, if_pos h1]⟩, his⟩
    · rw [if_neg h1]
      have fin : ∀ x : Int32, (if C i < σ.1 42 i then (0 : Int32) else 1) = x → ((∃ s', (if x = σ.1 43 i then some (.inl (nI (i + 1))) else some (.inr 0) : Option (Int32 ⊕ Int32)) = some (.inl s') ∧ (s' = nI (i + 1) ∧ f_fit (σ.1 44) (σ.1 45) (σ.1 42) (σ.1 43) C k (i + 1) = 1) ∧ i < s) ∨ (∃ t, (if x = σ.1 43 i then some (.inl (nI (i + 1))) else some (.inr 0) : Option (Int32 ⊕ Int32)) = some (.inr t) ∧ t = f_fit (σ.1 44) (σ.1 45) (σ.1 42) (σ.1 43) C k s)) := by
        intro x hx
        by_cases h2 : x = σ.1 43 i
        · rw [if_pos h2]
          exact .inl ⟨_, rfl, ⟨rfl, by rw [f_fit, if_neg n1, if_neg h1, hx, if_pos h2]⟩, his⟩
        · rw [if_neg h2]
          refine .inr ⟨_, rfl, ?_⟩
          have z : f_fit (σ.1 44) (σ.1 45) (σ.1 42) (σ.1 43) C k (i + 1) = 0 := by rw [f_fit, if_neg n1, if_neg h1, hx, if_neg h2]
          have := fit_0 z (s - (i + 1))
          rw [show i + 1 + (s - (i + 1)) = s by omega] at this
          exact this.symm
      by_cases h3 : C i < σ.1 42 i
      · rw [if_pos h3]
        exact fin 0 (by rw [if_pos h3])
      · rw [if_neg h3]
        exact fin 1 (by rw [if_neg h3])
  · have ek : i = s := by omega
    rw [h0, ek, if_pos (le_t s (by omega))]
    rw [ek] at hc
    exact .inr ⟨_, rfl, hc.symm⟩
theorem relD_f (hr : relD σ P K N R Bn z mm ww) (h2 : τ.2 = σ.2) (key : ∀ a, a ≠ 39 → a ≠ 46 → a ≠ 47 → τ.1 a = σ.1 a) (hs : rl_s τ P K N R) : relD τ P K N R Bn z mm ww := by
  have hP := rl_isP hr.1
  obtain ⟨r1, r2, r3, r4, r5, r6, r7, r8, r9⟩ := hr
  have e49 := key 49 (by decide) (by decide) (by decide)
  rcases hP with rfl | rfl <;>
  · refine ⟨rl_p_cg (by rw [h2]) ?_ ?_ ?_ ?_ ?_ ?_ ?_ ?_ ?_ ?_ ?_ (by rw [e49]) (by rw [e49]) (by rw [e49]) (by rw [e49]) (by rw [e49]) (by rw [e49]) (by rw [e49]) (by rw [e49]) (by rw [e49]) r1, rl_v_cg ?_ ?_ ?_ r2, rl_a_cg ?_ ?_ ?_ ?_ (by rw [e49]) (by rw [e49]) r3, rl_b_cg ?_ ?_ ?_ ?_ r4, rl_l_cg ?_ ?_ ?_ (by rw [e49]) r5, hs, rl_t_cg ?_ (by rw [e49]) r7, rl_f_cg ?_ ?_ (by rw [e49]) (by rw [e49]) r8, rl_i_cg ?_ ?_ ?_ (by rw [e49]) (by rw [h2]) r9⟩
    all_goals first
      | exact key _ (by decide) (by decide) (by decide)
      | exact congrFun (key _ (by decide) (by decide) (by decide)) _
theorem c_fit (k : Int32) (hr : relD σ P K N R Bn z mm ww) : ∃ m, fX6_fitting P σ k = some (d_ris (w_fit σ P K N R k) 31, m) ∧ relD m P K N R Bn z mm ww ∧ m.2 = σ.2 ∧ (∀ a, a ≠ 39 → a ≠ 46 → a ≠ 47 → m.1 a = σ.1 a) ∧ (0 < N → rl_cr m P K N R) := by
  have hP := rl_isP hr.1
  have r1 := hr.1
  have r6 := hr.2.2.2.2.2.1
  obtain ⟨p1, p2, p3, p4, ⟨p5, p6, p7⟩, p8, p9, p10, p11, p12, p13, p14, p15⟩ := id r1
  obtain ⟨⟨s, hs, s1, s2, s3⟩, s4⟩ := id r6
  have hK := p3.k5
  unfold fX6_fitting
  by_cases hN : N = 0
  · have z : d_ris (w_fit σ P K N R k) 31 = 0 := by
      have : ∀ n, d_ris (w_fit σ P K N R k) n = 0 := by
        intro n
        induction n with
        | zero => rfl
        | succ n ih => rw [d_ris, if_pos (show w_fit σ P K N R k n = 0 by rw [w_fit, if_pos hN]), ih]
      exact this 31
    rw [p5, if_pos (by rw [hN]; rfl), z]
    exact ⟨σ, rfl, hr, rfl, fun _ _ _ _ => rfl, fun h => absurd h (by omega)⟩
  obtain ⟨lk, l1, l2, l3, l4⟩ := p15 (by omega)
  -- the courses stand
  have cr : ∃ m, fX6_followCourses P σ = some m ∧ relD m P K N R Bn z mm ww ∧ m.2 = σ.2 ∧ (∀ a, a ≠ 39 → a ≠ 46 → a ≠ 47 → m.1 a = σ.1 a) ∧ rl_cr m P K N R ∧ m.1 39 0 = σ.1 39 0 := by
    unfold fX6_followCourses
    by_cases h9 : σ.1 39 9 = 0
    · obtain ⟨m, m1, m2, m3⟩ := c_follow r1 (by omega) l1 l2
      have key : ∀ a, a ≠ 39 → a ≠ 46 → a ≠ 47 → (sw_w m 39 9 1).1 a = σ.1 a := fun a h1 h2 h3 => by rw [m_wne h1, m1.2 a h2 h3]
      have hcr : rl_cr (sw_w m 39 9 1) P K N R := by
        refine ⟨by omega, fun lk' e1 e2 x s c hx hs hc => ?_⟩
        have eP := key P (isP_ne0 hP (by decide)) (isP_ne0 hP (by decide)) (isP_ne0 hP (by decide))
        have e4 := key (P + 4) (isP_ne hP (by decide) (by decide)) (isP_ne hP (by decide) (by decide)) (isP_ne hP (by decide) (by decide))
        have e6 := key (P + 6) (isP_ne hP (by decide) (by decide)) (isP_ne hP (by decide) (by decide)) (isP_ne hP (by decide) (by decide))
        have : lk' = lk := by
          rw [eP, l2] at e1
          exact ((nI_eq (by omega) (by omega)).mp e1).symm
        rw [this, e4, e6]
        exact m3 x s c hx hs hc
      have h39 : (sw_w m 39 9 1).1 39 0 = σ.1 39 0 := by
        show upd (m.1 39) 9 1 0 = _
        rw [upd_n (by decide), m1.2 39 (by decide) (by decide)]
      have hs' : rl_s (sw_w m 39 9 1) P K N R := by
        refine ⟨⟨s, hs, by rw [h39]; exact s1, by rw [key 49 (by decide) (by decide) (by decide)]; exact s2, fun i hi => ?_⟩, fun _ => hcr⟩
        have := s3 i hi
        unfold rl_s1 at *
        rw [key 40 (by decide) (by decide) (by decide), key 41 (by decide) (by decide) (by decide), key 42 (by decide) (by decide) (by decide), key 43 (by decide) (by decide) (by decide), key 44 (by decide) (by decide) (by decide), key 45 (by decide) (by decide) (by decide), key 73 (by decide) (by decide) (by decide), key 74 (by decide) (by decide) (by decide), key 75 (by decide) (by decide) (by decide), key 76 (by decide) (by decide) (by decide), key 77 (by decide) (by decide) (by decide), key 78 (by decide) (by decide) (by decide)]
        exact this
      rw [if_pos h9, m2]
      exact ⟨_, rfl, relD_f hr m1.1 key hs', m1.1, key, hcr, h39⟩
    · rw [if_neg h9]
      exact ⟨σ, rfl, hr, rfl, fun _ _ _ _ => rfl, s4 h9, rfl⟩
  obtain ⟨m, c1, c2, c3, c4, c5, c6⟩ := cr
  have n0 : ¬ nI N = 0 := nI_ne0 (by omega) (by omega)
  rw [p5, if_neg n0, c1, b1_s]
  have e8 : m.1 P 8 = nI lk := by rw [c4 P (isP_ne0 hP (by decide)) (isP_ne0 hP (by decide)) (isP_ne0 hP (by decide))]; exact l2
  have e4 := c4 (P + 4) (isP_ne hP (by decide) (by decide)) (isP_ne hP (by decide) (by decide)) (isP_ne hP (by decide) (by decide))
  have e6 := c4 (P + 6) (isP_ne hP (by decide) (by decide)) (isP_ne hP (by decide) (by decide)) (isP_ne hP (by decide) (by decide))
  have hb : ∀ v, v ≤ 30 → fX6_isBorneOut m (nI v) k = some (w_fit σ P K N R k v) := by
    intro v hv
    have hq := c_borne (σ := m) (v := v) (s := s) (k := k) (C := fun i => v_crs K N R lk (σ.1 (P + 6)) (σ.1 (P + 4)) v (ix (σ.1 73 i)) (ix (σ.1 74 i))) hs hv (by rw [c6]; exact s1) (fun i hi => by
      obtain ⟨⟨a1, a2, a3, a4, a5, a6⟩, ⟨b, b1, b2⟩, ⟨c, d1, d2⟩, _⟩ := s3 i hi
      refine ⟨b, c, b1, by omega, ?_, ?_, ?_⟩
      · rw [c4 40 (by decide) (by decide) (by decide), a1, b2]
      · rw [c4 41 (by decide) (by decide) (by decide), a2, d2]
      · rw [c5.2 lk e8 l1 v b c hv b1 (by omega), e4, e6]
        show _ = v_crs K N R lk (σ.1 (P + 6)) (σ.1 (P + 4)) v (ix (σ.1 73 i)) (ix (σ.1 74 i)) 
        rw [b2, d2, ix_n (by omega), ix_n (by omega)])
    rw [hq, w_fit, if_neg hN, s2, l3, ix_n (by omega), ix_n (by omega)]
    congr 1
    refine fit_cg (n := s) (fun i hi => ?_) s (Nat.le_refl s)
    obtain ⟨⟨a1, a2, a3, a4, a5, a6⟩, _⟩ := s3 i hi
    rw [c4 42 (by decide) (by decide) (by decide), c4 43 (by decide) (by decide) (by decide), c4 44 (by decide) (by decide) (by decide), c4 45 (by decide) (by decide) (by decide)]
    exact ⟨a5, a6, a3, a4, rfl⟩
  refine ⟨m, ?_, c2, c3, c4, fun _ => c5⟩
  refine wh_runs (b := fun q : Int32 × Int32 => fX6_fitting_L19 P m k q.1 q.2) (fun v => (d_ris (w_fit σ P K N R k) v, nI v)) 31 rfl (fun v hv => ?_) ?_ (by decide)
  · show fX6_fitting_L19 P m k (d_ris (w_fit σ P K N R k) v) (nI v) = some (.inl (d_ris (w_fit σ P K N R k) (v + 1), nI (v + 1)))
    have hnl : ¬ (30 : Int32) < nI v := nI_nlt (a := 30) (by omega) (by decide)
    unfold fX6_fitting_L19
    rw [if_neg hnl, hb v (by omega), b1_s, fX6_fitting_L43, let_s, let_s, fX6_fitting_L43, let_s, nI_1, d_ris]
    split <;> rfl
  · show fX6_fitting_L19 P m k (d_ris (w_fit σ P K N R k) 31) (nI 31) = _
    unfold fX6_fitting_L19
    rw [if_pos (by decide)]
end KR
