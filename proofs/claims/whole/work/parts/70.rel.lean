/-! the relation of the two halves of the memory -/
def vok (K N Bn : Nat) (mm : Nat → Nat) (u : Nat → Int32) : Prop := v_zero K u ∧ (∃ t, t < 2 ^ N ∧ u 5 = nI t ∧ nv K (n_burs mm K (nI t) N) u) ∧ (∃ e, e < 2 ^ Bn ∧ u 6 = nI e) ∧ (∃ d, d ≤ 999 ∧ u 8 = nI d)
def v_pall (K : Nat) (μ v : Nat → Int32) : Nat → Nat → Int32
  | 0 => v
  | m + 1 => v_pour K μ m (v_pall K μ v m)
def v_its (f : (Nat → Int32) → Nat → Int32) : Nat → (Nat → Int32) → Nat → Int32
  | 0, v => v
  | n + 1, v => f (v_its f n v)
def v_start (K N lk : Nat) (μ : Nat → Int32) (x : Nat) : Nat → Int32 := upd (v_pall K μ (fun _ => 0) N) lk (v_pall K μ (fun _ => 0) N lk + (nI x - μ (5 * (N - 1) + lk)))
def v_crs (K N R lk : Nat) (ρ μ : Nat → Int32) (x s : Nat) : Nat → Int32 := v_its (v_boil ρ R) s (v_start K N lk μ x)
def rl_p (σ : sw_M) (P K N R Bn z : Nat) (mm ww : Nat → Nat) : Prop :=
  sw_pl (σ.2.2 0) = P ∧ sw_pl (σ.2.2 1) ≠ P ∧ cpl σ P K R z ∧ epl σ K R z (σ.1 (P + 8)) ∧
  (σ.1 P 1 = nI N ∧ σ.1 49 41 = nI N ∧ N ≤ 7) ∧ (σ.1 P 3 = nI Bn ∧ σ.1 49 42 = nI Bn ∧ Bn ≤ 4) ∧
  (ok_lim (σ.1 (P + 6)) R ∧ (∀ r c, r < R → c < 4 → σ.1 64 (4 * r + c) = σ.1 (P + 6) (4 * r + c))) ∧
  (∀ p j, p < N → j < K → σ.1 (P + 4) (5 * p + j) = nI (mm (5 * p + j)) ∧ σ.1 62 (5 * p + j) = nI (mm (5 * p + j)) ∧ mm (5 * p + j) ≤ 20) ∧
  (∀ p j, p < Bn → j < K → σ.1 (P + 5) (5 * p + j) = nI (ww (5 * p + j)) ∧ σ.1 63 (5 * p + j) = nI (ww (5 * p + j)) ∧ ww (5 * p + j) ≤ 20) ∧
  (∃ s, s ≤ 100 ∧ σ.1 P 4 = nI s ∧ σ.1 49 45 = nI s) ∧ σ.1 (P + 7) 0 = σ.1 49 21 ∧
  (σ.1 (P + 7) 1 = 0 → ∀ k, k < z → σ.1 (P + 8) k ≠ -6) ∧
  (0 < N → ∃ lk, lk < K ∧ σ.1 P 8 = nI lk ∧ σ.1 49 44 = nI lk ∧ 1 ≤ mm (5 * (N - 1) + lk))
def rl_v (σ : sw_M) (K N Bn : Nat) (mm : Nat → Nat) : Prop := pk (σ.1 28) (σ.1 27) = ck (σ.1 65) ∧ vok K N Bn mm (ck (σ.1 65))
def rl_a (σ : sw_M) (K N Bn : Nat) (mm : Nat → Nat) : Prop := ∃ h l, σ.1 29 1 = nI h ∧ σ.1 29 2 = nI l ∧ σ.1 49 52 = nI h ∧ σ.1 49 53 = nI (l - h) ∧ actsV (σ.1 30) (σ.1 67) (ck (σ.1 65)) h l ∧ ∀ j, j < l → vok K N Bn mm (ln (σ.1 67) j)
def rl_b (σ : sw_M) (K N Bn : Nat) (mm : Nat → Nat) : Prop := ∀ i, i < 3 → σ.1 32 i = σ.1 82 i ∧ (¬ σ.1 82 i = 0 → ln (σ.1 33) i = ln (σ.1 83) i ∧ vok K N Bn mm (ln (σ.1 83) i))
def rl_l (σ : sw_M) : Prop := ∃ y, y ≤ 6 ∧ σ.1 0 8 = nI y ∧ σ.1 49 57 = nI y ∧ ∀ i, i < y → σ.1 48 i = σ.1 69 i
def rl_s1 (σ : sw_M) (K i : Nat) : Prop := (σ.1 40 i = σ.1 73 i ∧ σ.1 41 i = σ.1 74 i ∧ σ.1 42 i = σ.1 75 i ∧ σ.1 43 i = σ.1 78 i ∧ σ.1 44 i = σ.1 76 i ∧ σ.1 45 i = σ.1 77 i) ∧ (∃ b, b ≤ 12 ∧ σ.1 73 i = nI b) ∧ (∃ k, k < K ∧ σ.1 74 i = nI k) ∧ (σ.1 78 i = 0 ∨ σ.1 78 i = 1) ∧ (σ.1 77 i = -1 ∨ 0 ≤ σ.1 77 i)
def rl_cr (σ : sw_M) (P K N R : Nat) : Prop := 0 < N ∧ ∀ lk, σ.1 P 8 = nI lk → lk < K → ∀ x s c, x ≤ 30 → s ≤ 12 → c < 5 → σ.1 47 (65 * x + 5 * s + c) = v_crs K N R lk (σ.1 (P + 6)) (σ.1 (P + 4)) x s c
def rl_s (σ : sw_M) (P K N R : Nat) : Prop := (∃ s, s ≤ 30 ∧ σ.1 39 0 = nI s ∧ σ.1 49 66 = nI s ∧ ∀ i, i < s → rl_s1 σ K i) ∧ (¬ σ.1 39 9 = 0 → rl_cr σ P K N R)
def rl_t (σ : sw_M) : Prop := ∃ t, t ≤ 100000 ∧ σ.1 0 9 = nI t ∧ σ.1 49 67 = nI t
def rl_f (σ : sw_M) : Prop := σ.1 1 2 = σ.1 49 2 ∧ σ.1 1 3 = σ.1 49 3
def rl_i (σ : sw_M) : Prop := (∃ n, n ≤ 1600 ∧ σ.1 2 1 = nI n ∧ σ.1 49 1 = nI n ∧ ∀ j, j < n → ∃ b, b < 256 ∧ σ.1 50 j = nI b ∧ σ.1 3 j = vp_nar .byte (nI b)) ∧ (∀ k, k < 19 → σ.2.1 4 k = sw_key k)
def relD (σ : sw_M) (P K N R Bn z : Nat) (mm ww : Nat → Nat) : Prop := rl_p σ P K N R Bn z mm ww ∧ rl_v σ K N Bn mm ∧ rl_a σ K N Bn mm ∧ rl_b σ K N Bn mm ∧ rl_l σ ∧ rl_s σ P K N R ∧ rl_t σ ∧ rl_f σ ∧ rl_i σ
def rel (σ : sw_M) : Prop := ∃ P K N R Bn z mm ww, relD σ P K N R Bn z mm ww
section CG
variable {σ τ : sw_M} {P K N R Bn z : Nat} {mm ww : Nat → Nat}
theorem rl_p_cg (h2 : τ.2.2 = σ.2.2) (e0 : τ.1 P = σ.1 P) (e4 : τ.1 (P + 4) = σ.1 (P + 4)) (e5 : τ.1 (P + 5) = σ.1 (P + 5)) (e6 : τ.1 (P + 6) = σ.1 (P + 6)) (e7 : τ.1 (P + 7) = σ.1 (P + 7)) (e8 : τ.1 (P + 8) = σ.1 (P + 8))
    (e54 : τ.1 54 = σ.1 54) (e55 : τ.1 55 = σ.1 55) (e62 : τ.1 62 = σ.1 62) (e63 : τ.1 63 = σ.1 63) (e64 : τ.1 64 = σ.1 64)
    (g18 : τ.1 49 18 = σ.1 49 18) (g21 : τ.1 49 21 = σ.1 49 21) (g25 : τ.1 49 25 = σ.1 49 25) (g40 : τ.1 49 40 = σ.1 49 40) (g41 : τ.1 49 41 = σ.1 49 41) (g42 : τ.1 49 42 = σ.1 49 42) (g43 : τ.1 49 43 = σ.1 49 43) (g44 : τ.1 49 44 = σ.1 49 44) (g45 : τ.1 49 45 = σ.1 49 45)
    (h : rl_p σ P K N R Bn z mm ww) : rl_p τ P K N R Bn z mm ww := by
  unfold rl_p cpl epl at *
  simp only [h2, e0, e4, e5, e6, e7, e8, e54, e55, e62, e63, e64, g18, g21, g25, g40, g41, g42, g43, g44, g45]
  exact h
theorem rl_v_cg (e27 : τ.1 27 = σ.1 27) (e28 : τ.1 28 = σ.1 28) (e65 : τ.1 65 = σ.1 65) (h : rl_v σ K N Bn mm) : rl_v τ K N Bn mm := by
  unfold rl_v at *
  rw [e27, e28, e65]
  exact h
theorem rl_a_cg (e29 : τ.1 29 = σ.1 29) (e30 : τ.1 30 = σ.1 30) (e65 : τ.1 65 = σ.1 65) (e67 : τ.1 67 = σ.1 67) (g52 : τ.1 49 52 = σ.1 49 52) (g53 : τ.1 49 53 = σ.1 49 53) (h : rl_a σ K N Bn mm) : rl_a τ K N Bn mm := by
  unfold rl_a at *
  rw [e29, e30, e65, e67, g52, g53]
  exact h
theorem rl_b_cg (e32 : τ.1 32 = σ.1 32) (e33 : τ.1 33 = σ.1 33) (e82 : τ.1 82 = σ.1 82) (e83 : τ.1 83 = σ.1 83) (h : rl_b σ K N Bn mm) : rl_b τ K N Bn mm := by
  unfold rl_b at *
  rw [e32, e33, e82, e83]
  exact h
theorem rl_l_cg (e0 : τ.1 0 8 = σ.1 0 8) (e48 : τ.1 48 = σ.1 48) (e69 : τ.1 69 = σ.1 69) (g57 : τ.1 49 57 = σ.1 49 57) (h : rl_l σ) : rl_l τ := by
  unfold rl_l at *
  rw [e0, e48, e69, g57]
  exact h
theorem rl_s_cg (e39 : τ.1 39 = σ.1 39) (e40 : τ.1 40 = σ.1 40) (e41 : τ.1 41 = σ.1 41) (e42 : τ.1 42 = σ.1 42) (e43 : τ.1 43 = σ.1 43) (e44 : τ.1 44 = σ.1 44) (e45 : τ.1 45 = σ.1 45) (e47 : τ.1 47 = σ.1 47)
    (e73 : τ.1 73 = σ.1 73) (e74 : τ.1 74 = σ.1 74) (e75 : τ.1 75 = σ.1 75) (e76 : τ.1 76 = σ.1 76) (e77 : τ.1 77 = σ.1 77) (e78 : τ.1 78 = σ.1 78) (g66 : τ.1 49 66 = σ.1 49 66) (e0 : τ.1 P = σ.1 P) (e4 : τ.1 (P + 4) = σ.1 (P + 4)) (e6 : τ.1 (P + 6) = σ.1 (P + 6)) (h : rl_s σ P K N R) : rl_s τ P K N R := by
  unfold rl_s rl_s1 rl_cr at *
  simp only [e39, e40, e41, e42, e43, e44, e45, e47, e73, e74, e75, e76, e77, e78, g66, e0, e4, e6]
  exact h
theorem rl_t_cg (e0 : τ.1 0 9 = σ.1 0 9) (g67 : τ.1 49 67 = σ.1 49 67) (h : rl_t σ) : rl_t τ := by
  unfold rl_t at *
  rw [e0, g67]
  exact h
theorem rl_f_cg (e2 : τ.1 1 2 = σ.1 1 2) (e3 : τ.1 1 3 = σ.1 1 3) (g2 : τ.1 49 2 = σ.1 49 2) (g3 : τ.1 49 3 = σ.1 49 3) (h : rl_f σ) : rl_f τ := by
  unfold rl_f at *
  rw [e2, e3, g2, g3]
  exact h
theorem rl_i_cg (e2 : τ.1 2 1 = σ.1 2 1) (e3 : τ.1 3 = σ.1 3) (e50 : τ.1 50 = σ.1 50) (g1 : τ.1 49 1 = σ.1 49 1) (el : τ.2.1 4 = σ.2.1 4) (h : rl_i σ) : rl_i τ := by
  unfold rl_i at *
  rw [e2, e3, e50, g1, el]
  exact h
/-- only what lies ahead is tried out: the class's own rows for that -/
def agc (P : Nat) (σ τ : sw_M) : Prop := τ.2 = σ.2 ∧ ∀ a, a ≠ 35 → a ≠ 36 → a ≠ 37 → a ≠ 38 → a ≠ P + 9 → a ≠ P + 10 → τ.1 a = σ.1 a
/-- the reference's -/
def age (σ τ : sw_M) : Prop := τ.2 = σ.2 ∧ ∀ a, a ≠ 57 → a ≠ 58 → a ≠ 66 → a ≠ 68 → a ≠ 70 → a ≠ 71 → a ≠ 72 → a ≠ 79 → a ≠ 80 → a ≠ 81 → τ.1 a = σ.1 a
theorem agc.rf : agc P σ σ := ⟨rfl, fun _ _ _ _ _ _ _ => rfl⟩
theorem age.rf : age σ σ := ⟨rfl, fun _ _ _ _ _ _ _ _ _ _ _ => rfl⟩
theorem agc.tr {υ : sw_M} (h : agc P σ τ) (h' : agc P τ υ) : agc P σ υ := ⟨h'.1.trans h.1, fun a h1 h2 h3 h4 h5 h6 => (h'.2 a h1 h2 h3 h4 h5 h6).trans (h.2 a h1 h2 h3 h4 h5 h6)⟩
theorem age.tr {υ : sw_M} (h : age σ τ) (h' : age τ υ) : age σ υ := ⟨h'.1.trans h.1, fun a h1 h2 h3 h4 h5 h6 h7 h8 h9 h10 => (h'.2 a h1 h2 h3 h4 h5 h6 h7 h8 h9 h10).trans (h.2 a h1 h2 h3 h4 h5 h6 h7 h8 h9 h10)⟩
theorem rl_isP (h : rl_p σ P K N R Bn z mm ww) : sw_isP P := by
  rw [← h.1]
  unfold sw_pl
  split
  · exact .inl rfl
  · exact .inr rfl
theorem relD_agc (hr : relD σ P K N R Bn z mm ww) (h : agc P σ τ) : relD τ P K N R Bn z mm ww := by
  have key : ∀ a, a ≠ 35 → a ≠ 36 → a ≠ 37 → a ≠ 38 → a ≠ P + 9 → a ≠ P + 10 → τ.1 a = σ.1 a := h.2
  have hP := rl_isP hr.1
  obtain ⟨r1, r2, r3, r4, r5, r6, r7, r8, r9⟩ := hr
  rcases hP with rfl | rfl <;>
  · have e49 := key 49 (by decide) (by decide) (by decide) (by decide) (by decide) (by decide)
    have e0 := key 0 (by decide) (by decide) (by decide) (by decide) (by decide) (by decide)
    have e1 := key 1 (by decide) (by decide) (by decide) (by decide) (by decide) (by decide)
    refine ⟨rl_p_cg (by rw [h.1]) ?_ ?_ ?_ ?_ ?_ ?_ ?_ ?_ ?_ ?_ ?_ (by rw [e49]) (by rw [e49]) (by rw [e49]) (by rw [e49]) (by rw [e49]) (by rw [e49]) (by rw [e49]) (by rw [e49]) (by rw [e49]) r1, rl_v_cg ?_ ?_ ?_ r2, rl_a_cg ?_ ?_ ?_ ?_ (by rw [e49]) (by rw [e49]) r3, rl_b_cg ?_ ?_ ?_ ?_ r4, rl_l_cg (by rw [e0]) ?_ ?_ (by rw [e49]) r5, rl_s_cg ?_ ?_ ?_ ?_ ?_ ?_ ?_ ?_ ?_ ?_ ?_ ?_ ?_ ?_ (by rw [e49]) ?_ ?_ ?_ r6, rl_t_cg (by rw [e0]) (by rw [e49]) r7, rl_f_cg (by rw [e1]) (by rw [e1]) (by rw [e49]) (by rw [e49]) r8, rl_i_cg ?_ ?_ ?_ (by rw [e49]) (by rw [h.1]) r9⟩
    all_goals first
      | exact key _ (by decide) (by decide) (by decide) (by decide) (by decide) (by decide)
      | exact congrFun (key _ (by decide) (by decide) (by decide) (by decide) (by decide) (by decide)) _
theorem relD_age (hr : relD σ P K N R Bn z mm ww) (h : age σ τ) : relD τ P K N R Bn z mm ww := by
  have key : ∀ a, a ≠ 57 → a ≠ 58 → a ≠ 66 → a ≠ 68 → a ≠ 70 → a ≠ 71 → a ≠ 72 → a ≠ 79 → a ≠ 80 → a ≠ 81 → τ.1 a = σ.1 a := h.2
  have hP := rl_isP hr.1
  obtain ⟨r1, r2, r3, r4, r5, r6, r7, r8, r9⟩ := hr
  rcases hP with rfl | rfl <;>
  · have e49 := key 49 (by decide) (by decide) (by decide) (by decide) (by decide) (by decide) (by decide) (by decide) (by decide) (by decide)
    have e0 := key 0 (by decide) (by decide) (by decide) (by decide) (by decide) (by decide) (by decide) (by decide) (by decide) (by decide)
    have e1 := key 1 (by decide) (by decide) (by decide) (by decide) (by decide) (by decide) (by decide) (by decide) (by decide) (by decide)
    refine ⟨rl_p_cg (by rw [h.1]) ?_ ?_ ?_ ?_ ?_ ?_ ?_ ?_ ?_ ?_ ?_ (by rw [e49]) (by rw [e49]) (by rw [e49]) (by rw [e49]) (by rw [e49]) (by rw [e49]) (by rw [e49]) (by rw [e49]) (by rw [e49]) r1, rl_v_cg ?_ ?_ ?_ r2, rl_a_cg ?_ ?_ ?_ ?_ (by rw [e49]) (by rw [e49]) r3, rl_b_cg ?_ ?_ ?_ ?_ r4, rl_l_cg (by rw [e0]) ?_ ?_ (by rw [e49]) r5, rl_s_cg ?_ ?_ ?_ ?_ ?_ ?_ ?_ ?_ ?_ ?_ ?_ ?_ ?_ ?_ (by rw [e49]) ?_ ?_ ?_ r6, rl_t_cg (by rw [e0]) (by rw [e49]) r7, rl_f_cg (by rw [e1]) (by rw [e1]) (by rw [e49]) (by rw [e49]) r8, rl_i_cg ?_ ?_ ?_ (by rw [e49]) (by rw [h.1]) r9⟩
    all_goals first
      | exact key _ (by decide) (by decide) (by decide) (by decide) (by decide) (by decide) (by decide) (by decide) (by decide) (by decide)
      | exact congrFun (key _ (by decide) (by decide) (by decide) (by decide) (by decide) (by decide) (by decide) (by decide) (by decide) (by decide)) _
end CG
