/-! the acts: confess, wash -/
theorem one_bit : ∀ p, p < 7 → (1 : Int32) <<< (nI p &&& 31) = nI (2 ^ p) ∧ 2 ^ p < 128 := by decide +kernel
theorem bit_one : ∀ p, p < 7 → ∀ m, m < 7 → v_bit (nI (2 ^ p)) m = if m = p then 1 else 0 := by decide +kernel
theorem or_one1 : ∀ N, N < 8 → ∀ t, t < 2 ^ N → ∀ p, p < N → v_bit (nI t) p = 0 → nI t ||| nI (2 ^ p) = nI (t + 2 ^ p) ∧ t + 2 ^ p < 2 ^ N := by decide +kernel
theorem or_one2 : ∀ t, t < 128 → ∀ p, p < 7 → v_bit (nI t) p = 0 → ∀ m, m < 7 → v_bit (nI (t + 2 ^ p)) m = if m = p then 1 else v_bit (nI t) m := by decide +kernel
theorem v_pours_one {K p : Nat} {μ u : Nat → Int32} (hp : p < 7) : ∀ N, N ≤ 7 → v_pours K μ (nI (2 ^ p)) u N = if p < N then v_pour K μ p u else u
  | 0, _ => by rw [if_neg (by omega)]; rfl
  | N + 1, hN => by
    have ih := v_pours_one (K := K) (μ := μ) (u := u) hp N (by omega)
    rw [v_pours, bit_one p hp N (by omega)]
    by_cases e : N = p
    · rw [if_pos e, if_pos rfl, ih, if_neg (by omega), if_pos (by omega), e]
    · rw [if_neg e, if_neg (by decide), ih]
      by_cases h : p < N
      · rw [if_pos h, if_pos (by omega)]
      · rw [if_neg h, if_neg (by omega)]
theorem v_tells_one {K p : Nat} {μ u : Nat → Int32} (hp : p < 7) : ∀ N, N ≤ 7 → v_tells K μ (nI (2 ^ p)) u N = if p < N then v_tell K μ p u else u
  | 0, _ => by rw [if_neg (by omega)]; rfl
  | N + 1, hN => by
    have ih := v_tells_one (K := K) (μ := μ) (u := u) hp N (by omega)
    rw [v_tells, bit_one p hp N (by omega)]
    by_cases e : N = p
    · rw [if_pos e, if_pos rfl, ih, if_neg (by omega), if_pos (by omega), e]
    · rw [if_neg e, if_neg (by decide), ih]
      by_cases h : p < N
      · rw [if_pos h, if_pos (by omega)]
      · rw [if_neg h, if_neg (by omega)]
theorem n_burs_or {mm : Nat → Nat} {K p : Nat} {s s' : Int32} (h0 : v_bit s p = 0) (hb : ∀ m, m < 7 → v_bit s' m = if m = p then 1 else v_bit s m) : ∀ N, N ≤ 7 → n_burs mm K s' N = n_burs mm K s N + if p < N then n_sum (fun j => mm (5 * p + j)) K else 0
  | 0, _ => by rw [if_neg (by omega)]; rfl
  | N + 1, hN => by
    have ih := n_burs_or (mm := mm) (K := K) h0 hb N (by omega)
    rw [n_burs, n_burs, hb N (by omega), ih]
    by_cases e : N = p
    · subst e
      rw [if_pos rfl, if_pos rfl, if_neg (Nat.lt_irrefl N), h0, if_neg (by decide), if_pos (Nat.lt_succ_self N)]
      omega
    · rw [if_neg e]
      by_cases h : p < N
      · rw [if_pos h, if_pos (show p < N + 1 by omega)]
        split <;> omega
      · rw [if_neg h, if_neg (show ¬ p < N + 1 by omega)]
        split <;> omega
section KE
variable {σ : sw_M} {P K N R Bn z : Nat} {mm ww : Nat → Nat}
theorem rl_rep (r1 : rl_p σ P K N R Bn z mm ww) : ∀ p, p < N → rep K (fun j => σ.1 (P + 4) (5 * p + j)) (fun j => mm (5 * p + j)) := by
  obtain ⟨p1, p2, p3, p4, p5, p6, p7, p8, p9⟩ := r1
  exact fun p hp j hj => (p8 p j hp hj).1
theorem rl_mm (r1 : rl_p σ P K N R Bn z mm ww) : ∀ p j, p < N → j < K → mm (5 * p + j) ≤ 999 := by
  obtain ⟨p1, p2, p3, p4, p5, p6, p7, p8, p9⟩ := r1
  intro p j hp hj
  have := (p8 p j hp hj).2.2
  omega
theorem told_5 {μ u : Nat → Int32} {s : Int32} : v_told K μ s N u 5 = u 5 ||| s := by rw [v_told, upd_e]
theorem told_hi {μ u : Nat → Int32} {s : Int32} {j : Nat} (hK : K ≤ 5) (hj : 5 < j) : v_told K μ s N u j = u j := by rw [v_told, upd_n (by omega), v_pours_hi (by omega)]
theorem vok_told {u : Nat → Int32} {p t : Nat} (r1 : rl_p σ P K N R Bn z mm ww) (hp : p < N) (ht : u 5 = nI t) (hb : v_bit (nI t) p = 0) (h : vok K N Bn mm u) : vok K N Bn mm (v_told K (σ.1 (P + 4)) (nI (2 ^ p)) N u) := by
  obtain ⟨h1, ⟨t', t1, t2, t3⟩, ⟨e, e1, e2⟩, ⟨d, d1, d2⟩⟩ := h
  have hK := r1.2.2.1.k5
  have hN := r1.2.2.2.2.1.2.2
  have h128 := pow7 hN
  have htt : ∃ t, t < 2 ^ N ∧ u 5 = nI t ∧ nv K (n_burs mm K (nI t) N) u ∧ v_bit (nI t) p = 0 := by
    refine ⟨t', t1, t2, t3, ?_⟩
    rw [← t2, ht]
    exact hb
  obtain ⟨t, t1, t2, t3, hb⟩ := htt
  obtain ⟨o1, o2⟩ := or_one1 N (by omega) t t1 p hp hb
  have o3 := or_one2 t (by omega) p (by omega) hb
  refine ⟨v_zero_told h1, ⟨t + 2 ^ p, o2, by rw [told_5, t2, o1], ?_⟩, ⟨e, e1, by rw [told_hi hK (by decide), e2]⟩, ⟨d, d1, by rw [told_hi hK (by decide), d2]⟩⟩
  rw [n_burs_or hb o3 N hN, if_pos hp, v_told, v_pours_one (by omega) N hN, if_pos hp]
  exact nv_hi hK (nv_pour (rl_rep r1 p hp) (fun j hj => rl_mm r1 p j hp hj) t3)
theorem e_tell1 {p : Nat} {f : Nat → Int32} (r1 : rl_p σ P K N R Bn z mm ww) (hp : p < N) : fX10_tells (sw_wA σ 66 f) (nI p) = some (sw_wA σ 66 (v_tell K (σ.1 62) p f)) ∧ ck (v_tell K (σ.1 62) p f) = v_told K (σ.1 (P + 4)) (nI (2 ^ p)) N (ck f) := by
  have hm := rl_m r1
  obtain ⟨p1, p2, p3, p4, ⟨p5, p6, p7⟩, p8⟩ := r1
  have hp7 : p < 7 := by omega
  refine ⟨?_, ?_⟩
  · have := e_tells (σ := sw_wA σ 66 f) (K := K) (p := p) p4.k p4.k5 hp7
    rw [m_eq, m_mm] at this
    exact this
  · have e := v_tells_one (K := K) (μ := σ.1 62) (u := f) hp7 N p7
    rw [if_pos hp] at e
    have h2 : 2 ^ p < 2 ^ N := Nat.pow_lt_pow_right (by decide) hp
    rw [← e, e_told p4.k5 p7 h2]
    exact v_told_cg (fun q j hq hj => (hm q j hq hj).symm)
theorem k_confess (a : Int32) (h : rel σ) : k_mm (fX9_confess σ a) (fun τ => fX10_confess τ a) := by
  obtain ⟨P, K, N, R, Bn, z, mm, ww, hr⟩ := id h
  have hP := rl_isP hr.1
  obtain ⟨r1, r2, r3, r4, r5, r6, r7, r8, r9⟩ := hr
  obtain ⟨p1, p2, p3, p4, ⟨p5, p6, p7⟩, p8⟩ := id r1
  have hK := p3.k5
  by_cases hb : (if a < 0 then (0 : Int32) else if nI N ≤ a then 0 else 1) = 0
  · have e : fX9_isSilent σ a = 0 := by rw [fX9_isSilent, p1, person_c p5, if_pos hb]
    exact ⟨-1, σ, σ, by rw [fX9_confess, e, if_pos rfl], by show fX10_confess σ a = _; rw [fX10_confess, person_e p6 p7, if_pos hb], h⟩
  obtain ⟨p, hp, rfl⟩ := in_some (by omega) hb
  obtain ⟨t, ht, t1, t2, t3⟩ := rl_told r2
  have h128 := Nat.lt_of_lt_of_le ht (pow7 p7)
  rcases sil_both p1 p5 t1 t2 p7 h128 hp with ⟨hbit, s1, s2⟩ | ⟨hbit, s1, s2⟩
  rotate_left
  · exact ⟨-1, σ, σ, by rw [fX9_confess, s1, if_pos rfl], by show fX10_confess σ (nI p) = _; rw [fX10_confess, person_e p6 p7, if_neg hb, s2, if_neg i10], h⟩
  obtain ⟨h', L', M', k1, k2, k3, k4⟩ := kept r2 r3
  obtain ⟨τ, hτ⟩ : ∃ τ, τ = sw_wA (sw_wA σ 30 L') 29 (upd (upd (σ.1 29) 1 (nI h')) 2 (nI h')) := ⟨_, rfl⟩
  rw [← hτ] at k1
  have q1 : rl_p τ P K N R Bn z mm ww := by
    rw [hτ]
    rcases hP with rfl | rfl <;> exact rl_p_cg rfl rfl rfl rfl rfl rfl rfl rfl rfl rfl rfl rfl rfl rfl rfl rfl rfl rfl rfl rfl rfl r1
  have q27 : τ.1 27 = σ.1 27 := by rw [hτ]; rfl
  have q28 : τ.1 28 = σ.1 28 := by rw [hτ]; rfl
  have q4 : τ.1 (P + 4) = σ.1 (P + 4) := by
    rw [hτ]
    rw [m_ne (isP_ne hP (by decide) (by decide)), m_ne (isP_ne hP (by decide) (by decide))]
  have ct := c_tell (σ := τ) (P := P) (V := 27) (K := K) (N := N) (f := τ.1 27) (g := τ.1 28) (s := nI (2 ^ p)) hP (.inl rfl) q1.2.2.1.k hK q1.2.2.2.2.1.1 p7
  have hself : vt τ 27 (τ.1 27) (τ.1 28) = τ := vt_self
  rw [hself, q27, q28, q4] at ct
  obtain ⟨G, hG⟩ : ∃ G, G = v_pours K (σ.1 (P + 4)) (nI (2 ^ p)) (σ.1 28) N := ⟨_, rfl⟩
  rw [← hG] at ct
  have hu : pk G (upd (σ.1 27) 1 (σ.1 27 1 ||| nI (2 ^ p))) = v_told K (σ.1 (P + 4)) (nI (2 ^ p)) N (ck (σ.1 65)) := by rw [hG, c_told hK, r2.1]
  obtain ⟨υ, hυ⟩ : ∃ υ, υ = vt τ 27 (upd (σ.1 27) 1 (σ.1 27 1 ||| nI (2 ^ p))) G := ⟨_, rfl⟩
  rw [← hυ] at ct
  have u28 : υ.1 28 = G := by rw [hυ]; exact vt_1
  have hok := vok_told (u := ck (σ.1 65)) r1 hp t2 hbit r2.2
  have hsum : v_sum G 5 = v_sum (v_told K (σ.1 (P + 4)) (nI (2 ^ p)) N (ck (σ.1 65))) K := by
    rw [← v_sum_5 hK hok.1]
    exact v_sum_cg (fun j hj => by rw [← hu, pk_lo hj])
  have ec : fX9_confess σ (nI p) = some (v_sum G 5, υ) := by
    have call := c_all (σ := υ) (V := 27)
    have u28' : υ.1 (27 + 1) = G := u28
    rw [u28'] at call
    rw [fX9_confess, s1, if_neg i10, k1, b1_s, q1.1, (one_bit p (by omega)).1, ct, b1_s, call, b1_s]
  have u1 : rl_p υ P K N R Bn z mm ww := by
    rw [hυ, hτ]
    rcases hP with rfl | rfl <;> exact rl_p_cg rfl rfl rfl rfl rfl rfl rfl rfl rfl rfl rfl rfl rfl rfl rfl rfl rfl rfl rfl rfl rfl r1
  have u49 : υ.1 49 = σ.1 49 := by rw [hυ, hτ]; rfl
  have u65 : υ.1 65 = σ.1 65 := by rw [hυ, hτ]; rfl
  have u67 : υ.1 67 = σ.1 67 := by rw [hυ, hτ]; rfl
  have k2' := k2 υ (by rw [u49]) u67 u65
  obtain ⟨ω, hω⟩ : ∃ ω, ω = sw_wA (sw_wA υ 67 M') 49 (upd (upd (υ.1 49) 52 (nI h')) 53 0) := ⟨_, rfl⟩
  rw [← hω] at k2'
  have w1 : rl_p ω P K N R Bn z mm ww := by
    rw [hω]
    have r1 := u1
    rcases hP with rfl | rfl <;> exact rl_p_cg rfl rfl rfl rfl rfl rfl rfl rfl rfl rfl rfl rfl rfl rfl rfl rfl rfl rfl rfl rfl rfl r1
  have w4 : ω.1 (P + 4) = σ.1 (P + 4) := by
    rw [hω, hυ]
    rw [m_ne (isP_ne hP (by decide) (by decide)), m_ne (isP_ne hP (by decide) (by decide)), vt_ne (isP_ne hP (by decide) (by decide)) (isP_ne hP (by decide) (by decide)), q4]
  obtain ⟨e1, e2⟩ := e_tell1 (f := v_mix 10 (σ.1 65) (υ.1 66)) w1 hp
  rw [ck_mix10, w4] at e2
  obtain ⟨F, hF⟩ : ∃ F, F = v_tell K (ω.1 62) p (v_mix 10 (σ.1 65) (υ.1 66)) := ⟨_, rfl⟩
  rw [← hF] at e1 e2
  have x65 : ω.1 65 = σ.1 65 := by rw [hω]; exact u65
  have ee : fX10_confess υ (nI p) = some (v_sum F K, sw_wA (sw_wA ω 66 F) 65 (v_mix 10 F (σ.1 65))) := by
    have s2' : fX10_hasTold υ (nI p) = 0 := by
      rw [← s2, fX10_hasTold, fX10_hasTold, u65]
    rw [fX10_confess, person_e u1.2.2.2.2.1.2.1 p7, if_neg hb, s2', if_pos rfl, k2', b1_s, e1, b1_s, e_keepAir, b1_s, m_eq, m_ne (show 65 ≠ 66 by decide), x65, e_allOf (σ := sw_wA (sw_wA ω 66 F) 65 (v_mix 10 F (σ.1 65))) (K := K) w1.2.2.2.1.k hK, b1_s, m_ne (show 66 ≠ 65 by decide), m_eq]
  have hFs : v_sum F K = v_sum (ck F) K := v_sum_cg (fun j hj => (ck_lo (by omega)).symm)
  refine k_mk ec ee (by rw [hsum, hFs, e2]) ?_
  have hvv : pk G (upd (σ.1 27) 1 (σ.1 27 1 ||| nI (2 ^ p))) = ck (v_mix 10 F (σ.1 65)) := by rw [ck_mix10, e2, hu]
  have hok' : vok K N Bn mm (ck (v_mix 10 F (σ.1 65))) := by
    rw [ck_mix10, e2]
    exact hok
  clear ec ee hFs hsum e1 ct
  subst hω hυ hτ
  rcases hP with rfl | rfl <;> exact ⟨_, _, _, _, _, _, _, _, rl_p_cg rfl rfl rfl rfl rfl rfl rfl rfl rfl rfl rfl rfl rfl rfl rfl rfl rfl rfl rfl rfl rfl r1, ⟨hvv, hok'⟩, rl_a_of k3 k4 rfl rfl rfl rfl rfl rfl, rl_b_cg rfl rfl rfl rfl r4, rl_l_cg rfl rfl rfl rfl r5, rl_s_cg rfl rfl rfl rfl rfl rfl rfl rfl rfl rfl rfl rfl rfl rfl rfl rfl rfl rfl r6, rl_t_cg rfl rfl r7, rl_f_cg rfl rfl rfl rfl r8, rl_i_cg rfl rfl rfl rfl rfl r9⟩
theorem hold_le {w u : Nat → Int32} : ∀ {k : Nat}, ¬ v_hold w u k = 0 → ∀ j, j < k → ¬ u j < w j
  | k + 1, h, j, hj => by
    unfold v_hold at h
    by_cases e : v_hold w u k = 0
    · rw [if_pos e] at h
      exact absurd rfl h
    · rw [if_neg e] at h
      by_cases e2 : u k < w k
      · rw [if_pos e2] at h
        exact absurd rfl h
      · by_cases ej : j = k
        · rw [ej]
          exact e2
        · exact hold_le e j (by omega)
theorem or_bas : ∀ N, N < 5 → ∀ t, t < 2 ^ N → ∀ p, p < N → ¬ v_bit (nI t) p = 1 → nI t ||| (1 : Int32) <<< (nI p &&& 31) = nI (t + 2 ^ p) ∧ t + 2 ^ p < 2 ^ N := by decide +kernel
def v_wash (K q : Nat) (ω u : Nat → Int32) : Nat → Int32 := upd (v_mix K (fun j => u j - ω (5 * q + j)) u) 6 (u 6 ||| (1 : Int32) <<< (nI q &&& 31))
theorem c_wash {τ : sw_M} {q : Nat} (hP : sw_isP P) (h0 : sw_pl (τ.2.2 0) = P) (hKm : τ.1 P 0 = nI K) (hK : K ≤ 5) (hq : q < 4) :
    ∃ f' g', sw_wh sw_F (fun s : Int32 × sw_M => fX9_wash_L54 s.2 (nI q) s.1) (0, τ) = some (v_sum g' 5, vt τ 27 f' g') ∧ pk g' f' = v_wash K q (τ.1 (P + 5)) (pk (τ.1 28) (τ.1 27)) := by
  have nP : P ≠ 28 := isP_ne0 hP (by decide)
  have nP5 : P + 5 ≠ 28 := isP_ne hP (by decide) (by decide)
  refine ⟨upd (τ.1 27) 2 (τ.1 27 2 ||| (1 : Int32) <<< (nI q &&& 31)), v_mix K (fun j => τ.1 28 j - τ.1 (P + 5) (5 * q + j)) (τ.1 28), ?_, ?_⟩
  · refine wh_map (b := fun s : Int32 × sw_M => fX9_wash_L54 s.2 (nI q) s.1) τ 28 (fun j => τ.1 28 j - τ.1 (P + 5) (5 * q + j)) K (fun k hk => ?_) ?_ (by omega)
    · have e0 : sw_pl ((sw_wA τ 28 (v_mix k (fun j => τ.1 28 j - τ.1 (P + 5) (5 * q + j)) (τ.1 28))).2.2 0) = P := h0
      show fX9_wash_L54 (sw_wA τ 28 _) (nI q) (nI k) = _
      unfold fX9_wash_L54
      rw [e0, m_ne nP, hKm, if_neg (le_f hk (by omega)), sw_gd_t (in_t (show k < 5 by omega) (by decide)), c_needs hq (by omega), b1_s, sw_gd_t (in_t (show k < 5 by omega) (by decide)), let_s, let_s, nI_clamp (by omega), m_eq, v_mixk, m_ne nP5, m_ww, nI_1]
    · have e0 : sw_pl ((sw_wA τ 28 (v_mix K (fun j => τ.1 28 j - τ.1 (P + 5) (5 * q + j)) (τ.1 28))).2.2 0) = P := h0
      have call := c_all (σ := sw_w (sw_wA τ 28 (v_mix K (fun j => τ.1 28 j - τ.1 (P + 5) (5 * q + j)) (τ.1 28))) 27 2 (τ.1 27 2 ||| (1 : Int32) <<< (nI q &&& 31))) (V := 27)
      show fX9_wash_L54 (sw_wA τ 28 _) (nI q) (nI K) = _
      unfold fX9_wash_L54
      rw [e0, m_ne nP, hKm, if_pos (le_t K (by omega)), let_s, m_ne (show 27 ≠ 28 by decide), call, b1_s, m_w (i := 27), m_ne (show 27 ≠ 28 by decide), m_comm (show 28 ≠ 27 by decide), m_eq]
      rfl
  · rw [pk_f (by decide) (by decide), pk_mix hK, v_wash]
    have e6 : pk (τ.1 28) (τ.1 27) 6 = τ.1 27 2 := pk_hi (i := 2) (by decide) (by decide)
    rw [e6]
    congr 1
    funext j
    simp only [v_mix]
    by_cases hj : j < K
    · rw [if_pos hj, if_pos hj, pk_lo (by omega)]
    · rw [if_neg hj, if_neg hj]
theorem e_wash {ω : sw_M} {q : Nat} (hKm : ω.1 49 40 = nI K) (hK : K ≤ 5) (hq : q < 4) (hw : ∀ j, j < K → ω.1 63 (5 * q + j) = ω.1 (P + 5) (5 * q + j)) :
    ∃ f', sw_wh sw_F (fun s : Int32 × sw_M => fX10_wash_L36 s.2 (nI q) s.1) (0, ω) = some (v_sum f' K, sw_wA (sw_wA ω 66 f') 65 (v_mix 10 f' (ω.1 65))) ∧ ck f' = v_wash K q (ω.1 (P + 5)) (ck (ω.1 66)) := by
  have n49 : 49 ≠ 66 := by decide
  obtain ⟨G, hG⟩ : ∃ G : Nat → Int32, G = fun j => ω.1 66 j - ω.1 63 (5 * q + j) := ⟨_, rfl⟩
  have e6 : v_mix K G (ω.1 66) 6 = ω.1 66 6 := by rw [v_mix, if_neg (by omega)]
  refine ⟨upd (v_mix K G (ω.1 66)) 6 (ω.1 66 6 ||| (1 : Int32) <<< (nI q &&& 31)), ?_, ?_⟩
  · refine wh_map (b := fun s : Int32 × sw_M => fX10_wash_L36 s.2 (nI q) s.1) ω 66 G K (fun k hk => ?_) ?_ (by omega)
    · have eG : G k = ω.1 66 k - ω.1 63 (5 * q + k) := by rw [hG]
      show fX10_wash_L36 (sw_wA ω 66 _) (nI q) (nI k) = _
      unfold fX10_wash_L36
      rw [m_ne n49, hKm, if_neg (le_f hk (by omega)), sw_gd_t (in_t (show k < 10 by omega) (by decide)), i54, sw_gd_t (in_t (show 5 * q + k < 20 by omega) (by decide)), sw_gd_t (in_t (show k < 10 by omega) (by decide)), let_s, let_s, nI_clamp (show k < 2 ^ 31 by omega), nI_clamp (show 5 * q + k < 2 ^ 31 by omega), m_eq, v_mixk, m_ne (show 63 ≠ 66 by decide), m_ww, nI_1, eG]
    · have all := e_allOf (σ := sw_wA (sw_wA ω 66 (upd (v_mix K G (ω.1 66)) 6 (ω.1 66 6 ||| (1 : Int32) <<< (nI q &&& 31)))) 65 (v_mix 10 (upd (v_mix K G (ω.1 66)) 6 (ω.1 66 6 ||| (1 : Int32) <<< (nI q &&& 31))) (ω.1 65))) (K := K) hKm hK
      rw [m_ne (show 66 ≠ 65 by decide), m_eq] at all
      show fX10_wash_L36 (sw_wA ω 66 _) (nI q) (nI K) = _
      unfold fX10_wash_L36
      rw [m_ne n49, hKm, if_pos (le_t K (by omega)), let_s, m_eq, e6, m_ww, e_keepAir, b1_s, m_eq, m_ne (show 65 ≠ 66 by decide), all, b1_s]
  · have c6 : ck (ω.1 66) 6 = ω.1 66 6 := ck_lo (by decide)
    rw [ck_f (by decide), ck_mix (by omega), v_wash, c6]
    congr 1
    funext j
    simp only [v_mix]
    by_cases hj : j < K
    · rw [if_pos hj, if_pos hj, ck_lo (by omega), hG]
      show ω.1 66 j - ω.1 63 (5 * q + j) = _
      rw [hw j hj]
    · rw [if_neg hj, if_neg hj]
theorem vok_wash {u : Nat → Int32} {q e : Nat} (r1 : rl_p σ P K N R Bn z mm ww) (hq : q < Bn) (he : u 6 = nI e) (he2 : e < 2 ^ Bn) (hb : ¬ v_bit (nI e) q = 1) (hh : ¬ v_hold (fun j => σ.1 (P + 5) (5 * q + j)) u K = 0) (h : vok K N Bn mm u) : vok K N Bn mm (v_wash K q (σ.1 (P + 5)) u) := by
  obtain ⟨h1, ⟨t, t1, t2, t3⟩, _, ⟨d, d1, d2⟩⟩ := h
  obtain ⟨p1, p2, p3, p4, p5, ⟨p6, p7, p8⟩, p9, p10, p11, p12⟩ := r1
  have hK := p3.k5
  have hi : ∀ j, 5 ≤ j → ¬ j = 6 → v_wash K q (σ.1 (P + 5)) u j = u j := fun j h1 h2 => by rw [v_wash, upd_n h2, v_mix, if_neg (by omega)]
  obtain ⟨o1, o2⟩ := or_bas Bn (by omega) e he2 q hq hb
  refine ⟨fun j h2 h3 => ?_, ⟨t, t1, by rw [hi 5 (by decide) (by decide), t2], ?_⟩, ⟨e + 2 ^ q, o2, by rw [v_wash, upd_e, he, o1]⟩, ⟨d, d1, by rw [hi 8 (by decide) (by decide), d2]⟩⟩
  · rw [v_wash, upd_n (by omega), v_mix, if_neg (by omega)]
    exact h1 j h2 h3
  · refine nv_hi (by omega) ?_
    obtain ⟨n, n1, n2, n3⟩ := t3
    have hle : ∀ j, j < K → ww (5 * q + j) ≤ n j := fun j hj => by
      have h3 := hold_le hh j hj
      have h4 := (p11 q j hq hj).1
      have h5 := (p11 q j hq hj).2.2
      have h6 := n2 j hj
      rw [h4, n1 j hj] at h3
      by_cases h7 : ww (5 * q + j) ≤ n j
      · exact h7
      · exact absurd (nI_lt (by omega) (by omega)) h3
    refine ⟨fun j => n j - ww (5 * q + j), fun j hj => ?_, fun j hj => Nat.le_trans (Nat.sub_le _ _) (n2 j hj), Nat.le_trans (n_sum_le (fun j _ => Nat.sub_le _ _)) n3⟩
    rw [v_mix, if_pos hj, n1 j hj, (p11 q j hq hj).1, nI_sub (hle j hj)]
theorem lack_rel {q : Nat} (r1 : rl_p σ P K N R Bn z mm ww) (hq : q < Bn) {u : Nat → Int32} {B : Nat} (hn : nv K B u) : (v_sum (fun k => fX10_greater 0 (σ.1 (P + 5) (5 * q + k) - u k)) K ≤ 0) ↔ ¬ v_hold (fun j => σ.1 (P + 5) (5 * q + j)) u K = 0 := by
  obtain ⟨p1, p2, p3, p4, p5, ⟨p6, p7, p8⟩, p9, p10, p11, p12⟩ := r1
  obtain ⟨n, n1, n2, n3⟩ := hn
  exact lack_hold (w := fun j => σ.1 (P + 5) (5 * q + j)) (m := fun j => ww (5 * q + j)) (fun j hj => (p11 q j hq hj).1) n1 (fun j hj => by have := (p11 q j hq hj).2.2; show ww (5 * q + j) ≤ 999; omega) n2 p3.k5
theorem v_hold_cg {w w' u u' : Nat → Int32} : ∀ {K : Nat}, (∀ j, j < K → w' j = w j) → (∀ j, j < K → u' j = u j) → v_hold w' u' K = v_hold w u K
  | 0, _, _ => rfl
  | K + 1, h1, h2 => by
    rw [v_hold, v_hold, v_hold_cg (fun j hj => h1 j (by omega)) (fun j hj => h2 j (by omega)), h1 K (by omega), h2 K (by omega)]
theorem k_wash (a : Int32) (h : rel σ) : k_mm (fX9_wash σ a) (fun τ => fX10_wash τ a) := by
  obtain ⟨P, K, N, R, Bn, z, mm, ww, hr⟩ := id h
  have hP := rl_isP hr.1
  have hage : age σ (sw_wA σ 66 (v_mix 10 (σ.1 65) (σ.1 66))) := ⟨rfl, fun a _ _ h66 _ _ _ _ _ _ _ => m_ne h66⟩
  have hrel : rel (sw_wA σ 66 (v_mix 10 (σ.1 65) (σ.1 66))) := ⟨_, _, _, _, _, _, _, _, relD_age hr hage⟩
  obtain ⟨r1, r2, r3, r4, r5, r6, r7, r8, r9⟩ := hr
  obtain ⟨p1, p2, p3, p4, p5, ⟨p6, p7, p8⟩, p9⟩ := id r1
  have hK := p3.k5
  have hw := rl_w r1
  by_cases hb : (if a < 0 then (0 : Int32) else if nI Bn ≤ a then 0 else 1) = 0
  · refine ⟨-1, σ, _, by rw [fX9_wash, p1, basin_c p6, if_pos hb], ?_, hrel⟩
    show fX10_wash σ a = _
    rw [fX10_wash, e_fill, b1_s, basin_e (N := Bn) (by rw [m_ne (by decide)]; exact p7) p8, if_pos hb]
  obtain ⟨q, hq, rfl⟩ := in_some (by omega) hb
  obtain ⟨e, he, e1, e2⟩ := rl_eased r2
  obtain ⟨t, ht, t1, t2, t3⟩ := rl_told r2
  have eac : fX9_isEased σ (nI q) = (if v_bit (nI e) q = 1 then 1 else 0) := ea_c e1
  have eae : ∀ x : sw_M, x.1 65 = σ.1 65 → fX10_isEased (sw_wA x 66 (v_mix 10 (σ.1 65) (x.1 66))) (nI q) = (if v_bit (nI e) q = 1 then 1 else 0) := fun x hx => ea_e (by rw [m_ne (by decide), hx, e2])
  have s0 : fX10_wash σ (nI q) = (if fX10_isEased (sw_wA σ 66 (v_mix 10 (σ.1 65) (σ.1 66))) (nI q) = 0 then sw_b1 (fX10_holds (sw_wA σ 66 (v_mix 10 (σ.1 65) (σ.1 66))) (nI q)) fun r5 => if r5 = 0 then some (-1, sw_wA σ 66 (v_mix 10 (σ.1 65) (σ.1 66))) else sw_b1 (fX10_act (sw_wA σ 66 (v_mix 10 (σ.1 65) (σ.1 66)))) fun m8 => sw_wh sw_F (fun s => fX10_wash_L36 s.2 (nI q) s.1) (0, m8) else some (-1, sw_wA σ 66 (v_mix 10 (σ.1 65) (σ.1 66)))) := by
    rw [fX10_wash, e_fill, b1_s, basin_e (N := Bn) (by rw [m_ne (by decide)]; exact p7) p8, if_neg hb]
  by_cases hbit : v_bit (nI e) q = 1
  · refine ⟨-1, σ, _, by rw [fX9_wash, p1, basin_c p6, if_neg hb, eac, if_pos hbit, if_neg i10], ?_, hrel⟩
    show fX10_wash σ (nI q) = _
    rw [s0, eae σ rfl, if_pos hbit, if_neg i10]
  have hold : ∀ x : sw_M, x.1 49 = σ.1 49 → x.1 63 = σ.1 63 → fX10_holds (sw_wA x 66 (v_mix 10 (σ.1 65) (x.1 66))) (nI q) = some (v_hold (fun j => σ.1 (P + 5) (5 * q + j)) (ck (σ.1 65)) K) := by
    intro x x49 x63
    rw [e_holds (K := K) (by rw [m_ne (by decide), x49]; exact p4.k) hK (by omega)]
    congr 1
    refine v_hold_cg (fun j hj => ?_) (fun j hj => ?_)
    · rw [m_ne (by decide), x63]
      exact (hw q j hq hj).symm
    · rw [m_eq, v_mix, if_pos (by omega), ck_lo (by omega)]
  have lack : fX4_lacking P 28 σ (nI q) = some (v_sum (fun k => fX10_greater 0 (σ.1 (P + 5) (5 * q + k) - ck (σ.1 65) k)) K) := by
    rw [c_lacking (K := K) rfl p3.k hK (by omega)]
    congr 1
    exact v_sum_cg (fun j hj => by rw [(rl_vv r2).1 j (by omega), ck_lo (by omega)])
  by_cases hh : v_hold (fun j => σ.1 (P + 5) (5 * q + j)) (ck (σ.1 65)) K = 0
  · have hl : ¬ v_sum (fun k => fX10_greater 0 (σ.1 (P + 5) (5 * q + k) - ck (σ.1 65) k)) K ≤ 0 := fun h => (lack_rel r1 hq t3).mp h hh
    refine ⟨-1, σ, _, by rw [fX9_wash, p1, basin_c p6, if_neg hb, eac, if_neg hbit, if_pos rfl, lack, b1_s, if_neg hl], ?_, hrel⟩
    show fX10_wash σ (nI q) = _
    rw [s0, eae σ rfl, if_neg hbit, if_pos rfl, hold σ rfl rfl, b1_s, if_pos hh]
  have hl := (lack_rel r1 hq t3).mpr hh
  obtain ⟨h', L', M', k1, k2, k3, k4⟩ := kept r2 r3
  obtain ⟨τ, hτ⟩ : ∃ τ, τ = sw_wA (sw_wA σ 30 L') 29 (upd (upd (σ.1 29) 1 (nI h')) 2 (nI h')) := ⟨_, rfl⟩
  rw [← hτ] at k1
  have q1 : rl_p τ P K N R Bn z mm ww := by
    rw [hτ]
    rcases hP with rfl | rfl <;> exact rl_p_cg rfl rfl rfl rfl rfl rfl rfl rfl rfl rfl rfl rfl rfl rfl rfl rfl rfl rfl rfl rfl rfl r1
  have q27 : τ.1 27 = σ.1 27 := by rw [hτ]; rfl
  have q28 : τ.1 28 = σ.1 28 := by rw [hτ]; rfl
  have q5 : τ.1 (P + 5) = σ.1 (P + 5) := by
    rw [hτ]
    rw [m_ne (isP_ne hP (by decide) (by decide)), m_ne (isP_ne hP (by decide) (by decide))]
  obtain ⟨f', g', c1, c2⟩ := c_wash (τ := τ) (q := q) hP q1.1 q1.2.2.1.k hK (by omega)
  rw [q27, q28, q5, r2.1] at c2
  have hok := vok_wash (u := ck (σ.1 65)) r1 hq e2 he hbit hh r2.2
  have ec : fX9_wash σ (nI q) = some (v_sum g' 5, vt τ 27 f' g') := by
    rw [fX9_wash, p1, basin_c p6, if_neg hb, eac, if_neg hbit, if_pos rfl, lack, b1_s, if_pos hl, k1, b1_s, c1]
  obtain ⟨υ, hυ⟩ : ∃ υ, υ = vt τ 27 f' g' := ⟨_, rfl⟩
  rw [← hυ] at ec
  have u1 : rl_p υ P K N R Bn z mm ww := by
    rw [hυ, hτ]
    rcases hP with rfl | rfl <;> exact rl_p_cg rfl rfl rfl rfl rfl rfl rfl rfl rfl rfl rfl rfl rfl rfl rfl rfl rfl rfl rfl rfl rfl r1
  have u49 : υ.1 49 = σ.1 49 := by rw [hυ, hτ]; rfl
  have u65 : υ.1 65 = σ.1 65 := by rw [hυ, hτ]; rfl
  have u67 : υ.1 67 = σ.1 67 := by rw [hυ, hτ]; rfl
  have u63 : υ.1 63 = σ.1 63 := by rw [hυ, hτ]; rfl
  have k2' := k2 (sw_wA υ 66 (v_mix 10 (σ.1 65) (υ.1 66))) (by rw [m_ne (by decide), u49]) (by rw [m_ne (by decide)]; exact u67) (by rw [m_ne (by decide)]; exact u65)
  obtain ⟨ω, hω⟩ : ∃ ω, ω = sw_wA (sw_wA (sw_wA (sw_wA υ 66 (v_mix 10 (σ.1 65) (υ.1 66))) 67 M') 49 (upd (upd ((sw_wA υ 66 (v_mix 10 (σ.1 65) (υ.1 66))).1 49) 52 (nI h')) 53 0)) 66 (v_mix 10 (σ.1 65) ((sw_wA υ 66 (v_mix 10 (σ.1 65) (υ.1 66))).1 66)) := ⟨_, rfl⟩
  rw [← hω] at k2'
  have w1 : rl_p ω P K N R Bn z mm ww := by
    rw [hω]
    have r1 := u1
    rcases hP with rfl | rfl <;> exact rl_p_cg rfl rfl rfl rfl rfl rfl rfl rfl rfl rfl rfl rfl rfl rfl rfl rfl rfl rfl rfl rfl rfl r1
  have w5 : ω.1 (P + 5) = σ.1 (P + 5) := by
    rw [hω, hυ]
    rw [m_ne (isP_ne hP (by decide) (by decide)), m_ne (isP_ne hP (by decide) (by decide)), m_ne (isP_ne hP (by decide) (by decide)), m_ne (isP_ne hP (by decide) (by decide)), vt_ne (isP_ne hP (by decide) (by decide)) (isP_ne hP (by decide) (by decide)), q5]
  have w66 : ck (ω.1 66) = ck (σ.1 65) := by rw [hω, m_eq, ck_mix10]
  have x65 : ω.1 65 = σ.1 65 := by rw [hω]; exact u65
  obtain ⟨F, e3, e4⟩ := e_wash (ω := ω) (q := q) (P := P) (K := K) w1.2.2.2.1.k hK (by omega) (fun j hj => (rl_w w1 q j hq hj).symm)
  rw [w5, w66] at e4
  rw [x65] at e3
  have ee : fX10_wash υ (nI q) = some (v_sum F K, sw_wA (sw_wA ω 66 F) 65 (v_mix 10 F (σ.1 65))) := by
    rw [fX10_wash, e_fill, b1_s, u65, basin_e (N := Bn) (by rw [m_ne (by decide), u49]; exact p7) p8, if_neg hb, eae υ u65, if_neg hbit, if_pos rfl, hold υ u49 u63, b1_s, if_neg hh, k2', b1_s, e3]
  have hFs : v_sum F K = v_sum (ck F) K := v_sum_cg (fun j hj => (ck_lo (by omega)).symm)
  have hsum : v_sum g' 5 = v_sum (v_wash K q (σ.1 (P + 5)) (ck (σ.1 65))) K := by
    rw [← v_sum_5 hK hok.1]
    exact v_sum_cg (fun j hj => by rw [← c2, pk_lo hj])
  refine k_mk ec ee (by rw [hsum, hFs, e4]) ?_
  have hvv : pk g' f' = ck (v_mix 10 F (σ.1 65)) := by rw [ck_mix10, e4, c2]
  have hok' : vok K N Bn mm (ck (v_mix 10 F (σ.1 65))) := by
    rw [ck_mix10, e4]
    exact hok
  clear ec ee hFs hsum e3 c1
  subst hω hυ hτ
  rcases hP with rfl | rfl <;> exact ⟨_, _, _, _, _, _, _, _, rl_p_cg rfl rfl rfl rfl rfl rfl rfl rfl rfl rfl rfl rfl rfl rfl rfl rfl rfl rfl rfl rfl rfl r1, ⟨hvv, hok'⟩, rl_a_of k3 k4 rfl rfl rfl rfl rfl rfl, rl_b_cg rfl rfl rfl rfl r4, rl_l_cg rfl rfl rfl rfl r5, rl_s_cg rfl rfl rfl rfl rfl rfl rfl rfl rfl rfl rfl rfl rfl rfl rfl rfl rfl rfl r6, rl_t_cg rfl rfl r7, rl_f_cg rfl rfl rfl rfl r8, rl_i_cg rfl rfl rfl rfl rfl r9⟩
end KE
