/-! fits, sure, ask -/
theorem cnt_zero (w : Nat → Int32) : ∀ n, d_cnt w n = 0 ↔ ∀ k, k < n → w k = 0
  | 0 => ⟨fun _ k h => absurd h (Nat.not_lt_zero k), fun _ => rfl⟩
  | n + 1 => by
    have ih := cnt_zero w n
    rw [d_cnt]
    constructor
    · intro h k hk
      by_cases e : w n = 0
      · rw [if_pos e] at h
        by_cases ek : k = n
        · rw [ek]; exact e
        · exact ih.mp h k (by omega)
      · rw [if_neg e] at h
        omega
    · intro h
      rw [if_pos (h n (by omega))]
      exact ih.mpr (fun k hk => h k (by omega))
theorem ris_zero (w : Nat → Int32) : d_ris w 31 = 0 ↔ d_cnt w 31 = 0 := by
  constructor
  · intro h
    refine (cnt_zero w 31).mpr (fun k hk => Classical.byContradiction (fun hw => ?_))
    have := (d_bit31 w hk).mpr hw
    rw [h] at this
    have z : ∀ k, k < 31 → ¬ ((0 : Int32) >>> (nI k &&& 31)) &&& 1 = 1 := by decide
    exact z k hk this
  · intro h
    have h0 := (cnt_zero w 31).mp h
    have : ∀ n, n ≤ 31 → d_ris w n = 0 := by
      intro n
      induction n with
      | zero => intro _; rfl
      | succ n ih =>
        intro hn
        rw [d_ris, if_pos (h0 n (by omega)), ih (by omega)]
    exact this 31 (Nat.le_refl 31)
theorem first_ex (w : Nat → Int32) : ∀ n, ¬ d_cnt w n = 0 → ∃ f, f < n ∧ ¬ w f = 0 ∧ ∀ k, k < f → w k = 0
  | 0, h => absurd rfl h
  | n + 1, h => by
    by_cases e : d_cnt w n = 0
    · have h0 := (cnt_zero w n).mp e
      refine ⟨n, by omega, fun hw => h ?_, h0⟩
      rw [d_cnt, if_pos hw, e]
    · obtain ⟨f, f1, f2, f3⟩ := first_ex w n e
      exact ⟨f, by omega, f2, f3⟩
theorem last_ex (w : Nat → Int32) : ∀ n, ¬ d_cnt w n = 0 → ∃ f, f < n ∧ ¬ w f = 0 ∧ ∀ k, f < k → k < n → w k = 0
  | 0, h => absurd rfl h
  | n + 1, h => by
    by_cases e : w n = 0
    · rw [d_cnt, if_pos e] at h
      obtain ⟨f, f1, f2, f3⟩ := last_ex w n h
      refine ⟨f, by omega, f2, fun k k1 k2 => ?_⟩
      by_cases ek : k = n
      · rw [ek]; exact e
      · exact f3 k k1 (by omega)
    · exact ⟨n, by omega, e, fun k k1 k2 => by omega⟩
def s_fnd (w : Nat → Int32) (i : Int32) : Nat → Int32
  | 0 => -1
  | v + 1 => if w v = 0 then s_fnd w i v else if s_fnd w i v < 0 then nI v else if i = 1 then nI v else s_fnd w i v
theorem fnd_first (w : Nat → Int32) {i : Int32} {f : Nat} (hi : ¬ i = 1) (hf : ¬ w f = 0) (h0 : ∀ k, k < f → w k = 0) (h31 : f < 31) : ∀ n, (n ≤ f → s_fnd w i n = -1) ∧ (f < n → s_fnd w i n = nI f)
  | 0 => ⟨fun _ => rfl, fun h => absurd h (Nat.not_lt_zero f)⟩
  | n + 1 => by
    obtain ⟨a, b⟩ := fnd_first w hi hf h0 h31 n
    refine ⟨fun h => ?_, fun h => ?_⟩
    · rw [s_fnd, if_pos (h0 n (by omega))]
      exact a (by omega)
    · rw [s_fnd]
      by_cases e : n = f
      · rw [e] at a ⊢
        rw [if_neg hf, a (Nat.le_refl f), if_pos (by decide)]
      · have hb := b (by omega)
        rw [hb]
        split
        · rfl
        · have hp := nI_pos (n := f) (by omega)
          simp [hp, hi]
theorem fnd_last (w : Nat → Int32) {f : Nat} (hf : ¬ w f = 0) : ∀ n, f < n → (∀ k, f < k → k < n → w k = 0) → s_fnd w 1 n = nI f
  | n + 1, h, h0 => by
    rw [s_fnd]
    by_cases e : n = f
    · rw [e, if_neg hf]
      split
      · rfl
      · rfl
    · rw [if_pos (h0 n (by omega) (by omega))]
      exact fnd_last w hf n (by omega) (fun k k1 k2 => h0 k k1 (by omega))
/-! how many are left -/
def n_same (w : Nat → Int32) (val : Nat → Nat) (x : Nat) : Nat → Nat
  | 0 => 0
  | v + 1 => if w v = 0 then n_same w val x v else if val v = x then n_same w val x v + 1 else n_same w val x v
theorem same_le (w : Nat → Int32) (val : Nat → Nat) (x : Nat) : ∀ n, n_same w val x n ≤ n
  | 0 => Nat.le_refl 0
  | n + 1 => by
    have := same_le w val x n
    rw [n_same]
    split
    · omega
    · split <;> omega
theorem same_mono (w : Nat → Int32) (val : Nat → Nat) (x n : Nat) : ∀ d, n_same w val x n ≤ n_same w val x (n + d)
  | 0 => Nat.le_refl _
  | d + 1 => by
    have := same_mono w val x n d
    show _ ≤ n_same w val x ((n + d) + 1)
    rw [n_same]
    split
    · omega
    · split <;> omega
def r_most (w : Nat → Int32) (val : Nat → Nat) : Nat → Nat
  | 0 => 0
  | v + 1 => if w v = 0 then r_most w val v else max (r_most w val v) (n_same w val (val v) (v + 1))
def c_most (w : Nat → Int32) (val : Nat → Nat) : Nat → Nat
  | 0 => 0
  | v + 1 => if w v = 0 then c_most w val v else max (c_most w val v) (n_same w val (val v) 31)
theorem same_most (w : Nat → Int32) (val : Nat → Nat) (x : Nat) : ∀ n, n_same w val x n ≤ r_most w val n
  | 0 => Nat.le_refl 0
  | n + 1 => by
    have ih := same_most w val x n
    rw [r_most]
    by_cases e : w n = 0
    · rw [if_pos e, n_same, if_pos e]
      exact ih
    · rw [if_neg e]
      by_cases e2 : val n = x
      · rw [e2]
        exact Nat.le_max_right _ _
      · rw [n_same, if_neg e, if_neg e2]
        exact Nat.le_trans ih (Nat.le_max_left _ _)
theorem most_le (w : Nat → Int32) (val : Nat → Nat) : ∀ n, n ≤ 31 → r_most w val n ≤ c_most w val n ∧ c_most w val n ≤ r_most w val 31
  | 0, _ => ⟨Nat.le_refl 0, Nat.zero_le _⟩
  | n + 1, h => by
    obtain ⟨a, b⟩ := most_le w val n (by omega)
    rw [r_most, c_most]
    split
    · exact ⟨a, b⟩
    · have h1 := same_mono w val (val n) (n + 1) (31 - (n + 1))
      rw [show n + 1 + (31 - (n + 1)) = 31 by omega] at h1
      have h2 := same_most w val (val n) 31
      exact ⟨by omega, by omega⟩
theorem most_eq (w : Nat → Int32) (val : Nat → Nat) : c_most w val 31 = r_most w val 31 := by
  obtain ⟨a, b⟩ := most_le w val 31 (Nat.le_refl 31)
  omega
theorem most_31 (w : Nat → Int32) (val : Nat → Nat) : ∀ n, n ≤ 31 → r_most w val n ≤ 31
  | 0, _ => by show 0 ≤ 31; decide
  | n + 1, h => by
    have := most_31 w val n (by omega)
    have := same_le w val (val n) (n + 1)
    rw [r_most]
    split <;> omega
theorem most_31c (w : Nat → Int32) (val : Nat → Nat) : ∀ n, n ≤ 31 → c_most w val n ≤ 31 := fun n h => Nat.le_trans (most_le w val n h).2 (most_31 w val 31 (Nat.le_refl 31))
def t_arr (w : Nat → Int32) (val : Nat → Nat) (T : Nat → Int32) : Nat → Nat → Int32
  | 0 => T
  | v + 1 => if w v = 0 then t_arr w val T v else upd (t_arr w val T v) (val v) (t_arr w val T v (val v) + 1)
theorem t_val (w : Nat → Int32) (val : Nat → Nat) (T : Nat → Int32) (h0 : ∀ c, c < 1000 → T c = 0) (hv : ∀ v, v < 31 → val v < 1000) : ∀ n, n ≤ 31 → ∀ c, c < 1000 → t_arr w val T n c = nI (n_same w val c n)
  | 0, _, c, hc => h0 c hc
  | n + 1, h, c, hc => by
    have ih := t_val w val T h0 hv n (by omega)
    rw [t_arr, n_same]
    by_cases e : w n = 0
    · rw [if_pos e, if_pos e]
      exact ih c hc
    · rw [if_neg e, if_neg e]
      by_cases e2 : val n = c
      · rw [if_pos e2, e2, upd_e, ih c hc, nI_1]
      · rw [if_neg e2, upd_n (fun x => e2 x.symm)]
        exact ih c hc
def a_best (lf : Nat → Nat) : Nat → Nat
  | 0 => 0
  | k + 1 => if lf (a_best lf k) ≤ lf k then a_best lf k else k
theorem best_lt (lf : Nat → Nat) : ∀ k, a_best lf (k + 1) < k + 1
  | 0 => by
    have : a_best lf 1 = 0 := by rw [a_best]; split <;> rfl
    show a_best lf 1 < 1
    rw [this]
    decide
  | k + 1 => by
    have := best_lt lf k
    rw [a_best]
    split <;> omega
theorem add_sub_n {a x b : Nat} (h : b ≤ a) : nI a + (nI x - nI b) = nI (a + x - b) := by
  rw [Int32.sub_eq_add_neg, ← Int32.add_assoc, ← Int32.sub_eq_add_neg, nI_add, nI_sub (by omega)]
section KU
variable {σ τ : sw_M} {P K N R Bn z lk : Nat} {mm ww : Nat → Nat}
theorem pall_n {μ : Nat → Int32} (hK : K ≤ 5) (hm : ∀ p j, p < N → j < K → μ (5 * p + j) = nI (mm (5 * p + j)) ∧ mm (5 * p + j) ≤ 20) (hN : N ≤ 7) : ∀ m, m ≤ N → ∃ n, rep K (v_pall K μ (fun _ => 0) m) n ∧ n_sum n K ≤ 100 * m ∧ ∀ p j, p < m → j < K → mm (5 * p + j) ≤ n j
  | 0, _ => ⟨fun _ => 0, fun j _ => rfl, by rw [n_sum_0.mpr (fun _ _ => rfl)]; exact Nat.zero_le _, fun p _ h => absurd h (Nat.not_lt_zero p)⟩
  | m + 1, h => by
    obtain ⟨n, n1, n2, n3⟩ := pall_n hK hm hN m (by omega)
    have hs := n_sum_b (n := fun j => mm (5 * m + j)) (B := 20) (K := K) (fun j hj => (hm m j (by omega) hj).2)
    refine ⟨fun j => n j + mm (5 * m + j), fun j hj => ?_, ?_, fun p j hp hj => ?_⟩
    · have b1 := n_sum_1 (n := n) hj
      have b2 := (hm m j (by omega) hj).2
      show v_pour K μ m (v_pall K μ (fun _ => 0) m) j = nI (n j + mm (5 * m + j))
      rw [v_pour, v_mix, if_pos hj, n1 j hj, (hm m j (by omega) hj).1, nI_add]
      have l := lesser_nI (a := 999) (b := n j + mm (5 * m + j)) (by decide) (by omega)
      have e3 : min 999 (n j + mm (5 * m + j)) = n j + mm (5 * m + j) := by omega
      rw [e3] at l
      exact l
    · rw [n_sum_add]
      omega
    · show mm (5 * p + j) ≤ n j + mm (5 * m + j)
      by_cases e : p = m
      · rw [e]; omega
      · have := n3 p j (by omega) hj
        omega
theorem nv_start {x : Nat} (r1 : rl_p σ P K N R Bn z mm ww) (hN : 0 < N) (hlk : lk < K) (hx : x ≤ 30) : nv K 999 (v_start K N lk (σ.1 (P + 4)) x) := by
  obtain ⟨p1, p2, p3, p4, ⟨p5, p6, p7⟩, p8, p9, p10, p11⟩ := id r1
  have hK := p3.k5
  obtain ⟨n, n1, n2, n3⟩ := pall_n (μ := σ.1 (P + 4)) (mm := mm) hK (fun p j hp hj => ⟨(p10 p j hp hj).1, (p10 p j hp hj).2.2⟩) p7 N (Nat.le_refl N)
  have hb := n3 (N - 1) lk (by omega) hlk
  have e1 := (p10 (N - 1) lk (by omega) hlk).1
  have hs := n_sum_u (n := n) (x := n lk + x - mm (5 * (N - 1) + lk)) hlk
  have hl := n_sum_1 (n := n) hlk
  refine ⟨nu n lk (n lk + x - mm (5 * (N - 1) + lk)), ?_, fun j hj => ?_, by omega⟩
  · unfold v_start
    exact rep_u n1 (by rw [n1 lk hlk, e1, add_sub_n hb])
  · by_cases e : j = lk
    · rw [e, nu_e]
      omega
    · rw [nu_n e]
      have := n_sum_1 (n := n) hj
      omega
theorem nv_crs {x : Nat} (r1 : rl_p σ P K N R Bn z mm ww) (hN : 0 < N) (hlk : lk < K) (hx : x ≤ 30) : ∀ s, nv K 999 (v_crs K N R lk (σ.1 (P + 6)) (σ.1 (P + 4)) x s)
  | 0 => nv_start r1 hN hlk hx
  | s + 1 => nv_boil r1.2.2.1.ρ r1.2.2.2.2.2.2.1.1 r1.2.2.1.k5 (nv_crs r1 hN hlk hx s) (Nat.le_refl R)
theorem smax_n {a b : Nat} (ha : a < 2 ^ 31) (hb : b < 2 ^ 31) : sw_max (nI a) (nI b) = nI (max a b) := by rw [max_greater, greater_nI ha hb]
theorem c_left {w : Nat → Int32} {val : Nat → Nat} {i j : Nat} (hi : i ≤ 12) (hj : j < 5) (h47 : ∀ v, v < 31 → σ.1 47 (65 * v + 5 * i + j) = nI (val v)) (hv : ∀ v, v < 31 → val v < 1000) : fX6_leftAtMost σ (d_ris w 31) (nI i) (nI j) = some (nI (c_most w val 31)) := by
  have ec : ∀ v, fX6_cell (nI v) (nI i) + nI j = nI (65 * v + 5 * i + j) := fun v => by rw [cell_n, nI_add]
  have hal : ∀ v, v < 31 → fX6_alike σ (d_ris w 31) (nI i) (nI j) (nI v) = some (nI (n_same w val (val v) 31)) := by
    intro v hv31
    unfold fX6_alike
    rw [ec, sw_gd_t (in_t (show 65 * v + 5 * i + j < 2015 by omega) (by decide)), let_s, nI_clamp (by omega), h47 v hv31]
    refine wh_runs (b := fun q : Int32 × Int32 => fX6_alike_L21 σ (d_ris w 31) (nI i) (nI j) (nI (val v)) q.1 q.2) (fun u => (nI (n_same w val (val v) u), nI u)) 31 rfl (fun u hu => ?_) ?_ (by decide)
    · show fX6_alike_L21 σ (d_ris w 31) (nI i) (nI j) (nI (val v)) (nI (n_same w val (val v) u)) (nI u) = some (.inl (nI (n_same w val (val v) (u + 1)), nI (u + 1)))
      have hnl : ¬ (30 : Int32) < nI u := nI_nlt (a := 30) (by omega) (by decide)
      have hb := d_bit31 w hu
      have h1 := hv u hu
      have h2 := hv v hv31
      unfold fX6_alike_L21
      rw [if_neg hnl, ec, sw_gd_t (in_t (show 65 * u + 5 * i + j < 2015 by omega) (by decide)), nI_clamp (by omega), h47 u hu, let_s, fX6_alike_L59, fX6_alike_L59, let_s, let_s, nI_1, nI_1, n_same]
      by_cases e : w u = 0
      · rw [if_neg (fun x => hb.mp x e), if_pos e]
      · rw [if_pos (hb.mpr e), if_neg e]
        by_cases e2 : val u = val v
        · rw [if_pos (by rw [e2]), if_pos e2]
        · rw [if_neg (fun x => e2 ((nI_eq (by omega) (by omega)).mp x)), if_neg e2]
    · show fX6_alike_L21 σ (d_ris w 31) (nI i) (nI j) (nI (val v)) (nI (n_same w val (val v) 31)) (nI 31) = _
      unfold fX6_alike_L21
      rw [if_pos (by decide)]
  unfold fX6_leftAtMost
  refine wh_runs (b := fun q : Int32 × Int32 => fX6_leftAtMost_L6 σ (d_ris w 31) (nI i) (nI j) q.1 q.2) (fun v => (nI (c_most w val v), nI v)) 31 rfl (fun v hv31 => ?_) ?_ (by decide)
  · show fX6_leftAtMost_L6 σ (d_ris w 31) (nI i) (nI j) (nI (c_most w val v)) (nI v) = some (.inl (nI (c_most w val (v + 1)), nI (v + 1)))
    have hnl : ¬ (30 : Int32) < nI v := nI_nlt (a := 30) (by omega) (by decide)
    have hb := d_bit31 w hv31
    have h1 := most_31c w val v (by omega)
    have h2 := same_le w val (val v) 31
    unfold fX6_leftAtMost_L6
    rw [if_neg hnl, hal v hv31, b1_s, smax_n (by omega) (by omega), let_s, fX6_leftAtMost_L39, fX6_leftAtMost_L39, let_s, let_s, nI_1, c_most]
    by_cases e : w v = 0
    · rw [if_neg (fun x => hb.mp x e), if_pos e]
    · rw [if_pos (hb.mpr e), if_neg e]
  · show fX6_leftAtMost_L6 σ (d_ris w 31) (nI i) (nI j) (nI (c_most w val 31)) (nI 31) = _
    unfold fX6_leftAtMost_L6
    rw [if_pos (by decide)]
theorem e_left {m : sw_M} {w : Nat → Int32} {val : Nat → Nat} {i j : Nat} (hi : i ≤ 12) (hj : j < 5) (h79 : ∀ v, v < 31 → m.1 79 (65 * v + 5 * i + j) = nI (val v)) (h81 : ∀ v, v < 31 → m.1 81 v = w v) (hv : ∀ v, v < 31 → val v < 1000) : ∃ T, fX10_leftBy m (nI i) (nI j) = some (nI (r_most w val 31), sw_wA m 80 T) := by
  obtain ⟨T0, hT0⟩ : ∃ T0, T0 = v_mix 1000 (fun _ => (0 : Int32)) (m.1 80) := ⟨_, rfl⟩
  have h0 : ∀ c, c < 1000 → T0 c = 0 := fun c hc => by rw [hT0, v_mix, if_pos hc]
  have tv := t_val w val T0 h0 hv
  refine ⟨t_arr w val T0 31, ?_⟩
  have hin : sw_wh sw_F (fun q : Int32 × Int32 × sw_M => fX10_leftBy_L27 q.2.2 (nI i) (nI j) q.1 q.2.1) (0, 0, sw_wA m 80 T0) = some (nI (r_most w val 31), sw_wA m 80 (t_arr w val T0 31)) := by
    refine wh_runs (b := fun q : Int32 × Int32 × sw_M => fX10_leftBy_L27 q.2.2 (nI i) (nI j) q.1 q.2.1) (fun v => (nI (r_most w val v), nI v, sw_wA m 80 (t_arr w val T0 v))) 31 rfl (fun v hv31 => ?_) ?_ (by decide)
    · show fX10_leftBy_L27 (sw_wA m 80 (t_arr w val T0 v)) (nI i) (nI j) (nI (r_most w val v)) (nI v) = some (.inl (nI (r_most w val (v + 1)), nI (v + 1), sw_wA m 80 (t_arr w val T0 (v + 1))))
      have hnl : ¬ (30 : Int32) < nI v := nI_nlt (a := 30) (by omega) (by decide)
      have hvv := hv v hv31
      have h1 := most_31 w val v (by omega)
      have h2 := same_le w val (val v) v
      unfold fX10_leftBy_L27
      rw [if_neg hnl, sw_gd_t (in_t hv31 (by decide)), nI_clamp (by omega), m_ne (show (81 : Nat) ≠ 80 by decide), h81 v hv31, fX10_leftBy_L88, let_s, nI_1, r_most, t_arr]
      by_cases e : w v = 0
      · rw [if_pos e, if_pos e, if_pos e]
      · rw [if_neg e, if_neg e, if_neg e, cell_e, sw_gd_t (in_t (show 65 * v + 5 * i + j < 2015 by omega) (by decide)), nI_clamp (by omega), m_ne (show (79 : Nat) ≠ 80 by decide), h79 v hv31, let_s, sw_gd_t (in_t hvv (by decide)), sw_gd_t (in_t hvv (by decide)), let_s, sw_gd_t (in_t hvv (by decide)), let_s, nI_clamp (by omega), m_eq, m_ww, m_eq, upd_e, tv v (by omega) _ hvv, nI_1, greater_nI (by omega) (by omega), fX10_leftBy_L88, let_s, nI_1, n_same, if_neg e, if_pos rfl]
    · show fX10_leftBy_L27 (sw_wA m 80 (t_arr w val T0 31)) (nI i) (nI j) (nI (r_most w val 31)) (nI 31) = _
      unfold fX10_leftBy_L27
      rw [if_pos (by decide)]
  unfold fX10_leftBy
  refine wh_map (b := fun q : Int32 × sw_M => fX10_leftBy_L2 q.2 (nI i) (nI j) q.1) m 80 (fun _ => 0) 1000 (fun c hc => ?_) ?_ (by decide)
  · show fX10_leftBy_L2 (sw_wA m 80 (v_mix c (fun _ => 0) (m.1 80))) (nI i) (nI j) (nI c) = _
    have hnl : ¬ (999 : Int32) < nI c := nI_nlt (a := 999) (by omega) (by decide)
    unfold fX10_leftBy_L2
    rw [if_neg hnl, sw_gd_t (in_t hc (by decide)), let_s, let_s, nI_1, nI_clamp (by omega), m_ww]
  · show fX10_leftBy_L2 (sw_wA m 80 (v_mix 1000 (fun _ => 0) (m.1 80))) (nI i) (nI j) (nI 1000) = _
    unfold fX10_leftBy_L2
    rw [if_pos (by decide), ← hT0, hin, sw_up_s]
end KU
