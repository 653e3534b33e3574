/-! alive, mission, law, rest -/
def k_rm (c : Option Int32) (e : Option (Int32 × sw_M)) : Prop := ∃ r υ, c = some r ∧ e = some (r, υ) ∧ rel υ
theorem tr_0 {k : Nat} : fX10_truth 0 <<< (nI k &&& 31) = 0 := by
  have : fX10_truth 0 = 0 := rfl
  rw [this, Int32.zero_shiftLeft]
theorem tr_1 : fX10_truth 1 = 1 := rfl
theorem compl_n : ∀ N, N < 8 → ∀ t, t < 2 ^ N → ∀ p, p < N → (v_bit (nI (2 ^ N - 1 - t)) p = 1 ↔ ¬ v_bit (nI t) p = 1) := by decide +kernel
theorem compl_0 : ∀ N, N < 8 → ∀ t, t < 2 ^ N → ∀ p, p < N → (v_bit (nI (2 ^ N - 1 - t)) p = 1 ↔ v_bit (nI t) p = 0) := by decide +kernel
theorem burs_b {mm : Nat → Nat} {K R t s : Nat} (hm : ∀ p j, p < R → j < K → mm (5 * p + j) ≤ 20) (hK : K ≤ 5) (hb : ∀ p, p < R → (v_bit (nI s) p = 1 ↔ ¬ v_bit (nI t) p = 1)) : ∀ N, N ≤ R → n_burs mm K (nI t) N + n_burs mm K (nI s) N ≤ 100 * N
  | 0, _ => by simp [n_burs]
  | N + 1, h => by
    have ih := burs_b (s := s) hm hK hb N (by omega)
    have hs := n_sum_b (n := fun j => mm (5 * N + j)) (B := 20) (K := K) (fun j hj => hm N j (by omega) hj)
    have hi := hb N (by omega)
    have h5 : 20 * K ≤ 100 := by omega
    rw [n_burs, n_burs]
    by_cases h1 : v_bit (nI t) N = 1
    · rw [if_pos h1, if_neg (fun h2 => hi.mp h2 h1)]
      omega
    · rw [if_neg h1, if_pos (hi.mpr h1)]
      omega
theorem n_sum_1 {n : Nat → Nat} : ∀ {K j : Nat}, j < K → n j ≤ n_sum n K
  | K + 1, j, h => by
    show n j ≤ n_sum n K + n K
    by_cases e : j = K
    · subst e
      omega
    · have := n_sum_1 (n := n) (show j < K by omega)
      omega
/-- where all together is little, the telling adds up -/
theorem pours_n {K R s : Nat} {μ u : Nat → Int32} {mm n : Nat → Nat} (hm : ∀ p, p < R → rep K (fun j => μ (5 * p + j)) (fun j => mm (5 * p + j))) (hn : rep K u n) : ∀ N, N ≤ R → n_sum n K + n_burs mm K (nI s) N ≤ 999 → ∃ n', rep K (v_pours K μ (nI s) u N) n' ∧ n_sum n' K = n_sum n K + n_burs mm K (nI s) N
  | 0, _, _ => ⟨n, hn, rfl⟩
  | N + 1, h, hb => by
    rw [n_burs] at hb
    rw [v_pours, n_burs]
    by_cases h1 : v_bit (nI s) N = 1
    · rw [if_pos h1] at hb
      obtain ⟨n', a1, a2⟩ := pours_n (s := s) hm hn N (by omega) (by omega)
      rw [if_pos h1, if_pos h1]
      refine ⟨fun j => n' j + mm (5 * N + j), fun j hj => ?_, ?_⟩
      · have e1 := a1 j hj
        have e2 : μ (5 * N + j) = nI (mm (5 * N + j)) := hm N (by omega) j hj
        have b1 := n_sum_1 (n := n') hj
        have b2 := n_sum_1 (n := fun j => mm (5 * N + j)) hj
        have b3 : mm (5 * N + j) ≤ n_sum (fun j => mm (5 * N + j)) K := b2
        rw [v_pour, v_mix, if_pos hj, e1, e2, nI_add]
        have l := lesser_nI (a := 999) (b := n' j + mm (5 * N + j)) (by decide) (by omega)
        have e3 : min 999 (n' j + mm (5 * N + j)) = n' j + mm (5 * N + j) := by omega
        rw [e3] at l
        exact l
      · rw [n_sum_add, a2, Nat.add_assoc]
    · rw [if_neg h1] at hb
      rw [if_neg h1, if_neg h1]
      exact pours_n hm hn N (by omega) hb
def v_lawn (ρ : Nat → Int32) (lim : Int32) : Nat → (Nat → Int32) → Nat → Int32
  | 0, v => v
  | r + 1, v => v_turn ρ r lim (v_lawn ρ lim r v)
theorem lawn_cg {ρ ρ' v v' : Nat → Int32} {n K R : Nat} {lim : Int32} (hρ : ok_ρ ρ K R) (hK5 : K ≤ 5) (hK : K ≤ n) (hq : ∀ r c, r < R → c < 4 → ρ' (4 * r + c) = ρ (4 * r + c)) (h : ∀ j, j < n → v' j = v j) : ∀ m, m ≤ R → ∀ j, j < n → v_lawn ρ' lim m v' j = v_lawn ρ lim m v j
  | 0, _, j, hj => h j hj
  | m + 1, hm, j, hj => by
    have hr : m < R := by omega
    exact v_turn_cg hρ hr hK5 hK (fun c hc => hq m c hr hc) (lawn_cg hρ hK5 hK hq h m (by omega)) hj
theorem lawn_hi {ρ v : Nat → Int32} {K R : Nat} {lim : Int32} (hρ : ok_ρ ρ K R) (hK5 : K ≤ 5) {j : Nat} (hj : K ≤ j) : ∀ m, m ≤ R → v_lawn ρ lim m v j = v j
  | 0, _ => rfl
  | m + 1, hm => by
    show v_turn ρ m lim (v_lawn ρ lim m v) j = v j
    rw [v_turn_hi hρ (show m < R by omega) hK5 hj]
    exact lawn_hi hρ hK5 hj m (by omega)
def v_same (a b : Nat → Int32) : Nat → Int32
  | 0 => 1
  | k + 1 => if v_same a b k = 0 then 0 else if a k = b k then 1 else 0
theorem same_iff {a b : Nat → Int32} : ∀ K, (¬ v_same a b K = 0 ↔ ∀ j, j < K → a j = b j)
  | 0 => ⟨fun _ j hj => absurd hj (Nat.not_lt_zero j), fun _ => by show ¬ (1 : Int32) = 0; decide⟩
  | K + 1 => by
    have ih := same_iff (a := a) (b := b) K
    rw [v_same]
    constructor
    · intro h j hj
      by_cases h1 : v_same a b K = 0
      · rw [if_pos h1] at h
        exact absurd rfl h
      · rw [if_neg h1] at h
        by_cases e : j = K
        · subst e
          by_cases h2 : a j = b j
          · exact h2
          · rw [if_neg h2] at h
            exact absurd rfl h
        · exact ih.mp h1 j (by omega)
    · intro h
      rw [if_neg (ih.mpr (fun j hj => h j (by omega))), if_pos (h K (by omega))]
      decide
section KL
variable {σ τ : sw_M} {P K N R Bn z : Nat} {mm ww : Nat → Nat}
theorem k_alive (h : rel σ) : k_rm (fX9_alive σ) (fX10_alive σ) := by
  obtain ⟨P, K, N, R, Bn, z, mm, ww, hr⟩ := h
  have r1 := hr.1
  have hv := (rl_vv hr.2.1).1
  have hrr := rl_r r1
  obtain ⟨p1, p2, p3, p4, p5⟩ := id r1
  have hK := p3.k5
  have hR := p3.r6
  obtain ⟨m1, hm1⟩ : ∃ m1, m1 = sw_wA σ 66 (v_mix 10 (σ.1 65) (σ.1 66)) := ⟨_, rfl⟩
  have ha : age σ m1 := by rw [hm1]; exact age_w (.inr (.inr (.inl rfl)))
  obtain ⟨q1, q2, q3, q4, q5⟩ := rl_p_age r1 ha
  have e66 : ∀ j, j < 5 → m1.1 66 j = σ.1 28 j := by
    intro j hj
    rw [hm1, m_eq, hv j hj]
    show (if j < 10 then σ.1 65 j else σ.1 66 j) = σ.1 65 j
    rw [if_pos (by omega)]
  have e64 : m1.1 64 = σ.1 64 := by rw [hm1]; exact m_ne (by decide)
  suffices main : ∃ x y, sw_wh sw_F (fun s : Int32 × Int32 => fX9_alive_L4 σ s.1 s.2) (0, 0) = some x ∧ sw_wh sw_F (fun s : Int32 × Int32 => fX10_alive_L8 m1 s.1 s.2) (0, 0) = some y ∧ y = (x, m1) by
    obtain ⟨x, y, e1, e2, e3⟩ := main
    refine ⟨x, m1, e1, ?_, _, _, _, _, _, _, _, _, relD_age hr ha⟩
    rw [fX10_alive, e_fill, b1_s, ← hm1, e2, e3]
  refine wh_rel (b := fun s : Int32 × Int32 => fX9_alive_L4 σ s.1 s.2) (c := fun s : Int32 × Int32 => fX10_alive_L8 m1 s.1 s.2) (fun k s t => s = t ∧ s.2 = nI k) (fun x y => y = (x, m1)) R (fun k s t hk hI => ?_) ⟨rfl, rfl⟩ (by omega)
  obtain ⟨x, y⟩ := s
  obtain ⟨rfl, rfl⟩ : (x, y) = t ∧ y = nI k := hI
  show (∃ s' t', fX9_alive_L4 σ x (nI k) = some (.inl s') ∧ fX10_alive_L8 m1 x (nI k) = some (.inl t') ∧ (s' = t' ∧ s'.2 = nI (k + 1)) ∧ k < R) ∨ (∃ x' y', fX9_alive_L4 σ x (nI k) = some (.inr x') ∧ fX10_alive_L8 m1 x (nI k) = some (.inr y') ∧ y' = (x', m1))
  unfold fX9_alive_L4 fX10_alive_L8
  by_cases hkR : k < R
  · have hmk : v_mk (m1.1 64) (m1.1 66) k (m1.1 64 (4 * k + 3)) = v_mk (σ.1 (P + 6)) (σ.1 28) k (σ.1 (P + 6) (4 * k + 3)) := by
      rw [e64, ← hrr k 3 hkR (by decide)]
      exact v_mk_cg (n := 5) p3.ρ hkR hK hK (fun c hc => (hrr k c hkR hc).symm) e66
    rw [p1, p3.r, if_neg (le_f hkR (by omega)), c_limit (by omega), b1_s, c_turning (a := 28) rfl hK hR p3.ρ hkR, b1_s, q4.r, if_neg (le_f hkR (by omega)), i4, i4_3, sw_gd_t (in_t (show 4 * k + 3 < 24 by omega) (by decide)), nI_clamp (by omega), e_makes hK hR q4.ρ hkR, b1_s, hmk]
    by_cases e : v_mk (σ.1 (P + 6)) (σ.1 28) k (σ.1 (P + 6) (4 * k + 3)) ≤ 0
    · rw [if_pos e, if_pos e, fX9_alive_L47, fX10_alive_L40, tr_0, Int32.or_zero, let_s, let_s, let_s, nI_1]
      exact .inl ⟨_, _, rfl, rfl, ⟨rfl, rfl⟩, hkR⟩
    · rw [if_neg e, if_neg e, let_s, fX9_alive_L47, fX10_alive_L40, tr_1, let_s, let_s, let_s, nI_1]
      exact .inl ⟨_, _, rfl, rfl, ⟨rfl, rfl⟩, hkR⟩
  · have ek : k = R := by omega
    rw [p1, p3.r, q4.r, ek, if_pos (le_t R (by omega)), if_pos (le_t R (by omega))]
    exact .inr ⟨_, _, rfl, rfl, rfl⟩
theorem k_mission (h : rel σ) : k_rm (fX9_mission σ) (fX10_mission σ) := by
  obtain ⟨P, K, N, R, Bn, z, mm, ww, hr⟩ := h
  have r1 := hr.1
  have r2 := hr.2.1
  have hv := (rl_vv r2).1
  obtain ⟨t, ht, t1, t2, n, hn1, hn2, hn3⟩ := rl_told r2
  obtain ⟨p1, p2, p3, p4, ⟨p5, p6, p7⟩, p8, p9, p10, p11⟩ := id r1
  have hK := p3.k5
  obtain ⟨S, hS⟩ : ∃ S, S = 2 ^ N - 1 - t := ⟨_, rfl⟩
  have hSN : S < 2 ^ N := by omega
  have hb := burs_b (mm := mm) (t := t) (s := S) (R := N) (K := K) (fun p j hp hj => (p10 p j hp hj).2.2) hK (fun p hp => by rw [hS]; exact compl_n N (by omega) t ht p hp) N (Nat.le_refl N)
  have hsum : n_sum n K + n_burs mm K (nI S) N ≤ 999 := by omega
  obtain ⟨g, f, e1, e2, e3, e4⟩ := e_tell_at (m := σ) (t := S) r1 agc.rf age.rf hSN
  obtain ⟨n', a1, a2⟩ := pours_n (s := S) (rl_rep r1) hn1 N (Nat.le_refl N) hsum
  have hg : age σ (sw_wA σ 66 g) := age_w (.inr (.inr (.inl rfl)))
  have ha : age σ (sw_wA σ 66 f) := age_w (.inr (.inr (.inl rfl)))
  have hall : fX10_allOf (sw_wA σ 66 f) = some (nI (n_sum n K + n_burs mm K (nI S) N)) := by
    rw [e_allOf (K := K) (rl_p_age r1 ha).2.2.2.1.k hK, m_eq, ← a2, ← rep_sum a1]
    congr 1
    refine v_sum_cg (fun j hj => ?_)
    have : ck f j = f j := ck_lo (by omega)
    rw [← this, e3, v_told, upd_n (by omega)]
  have h28 : v_sum (σ.1 28) 5 = nI (n_sum n K) := by
    have z5 : v_sum (ck (σ.1 65)) 5 = v_sum (ck (σ.1 65)) K := v_sum_5 hK r2.2.1
    rw [← rep_sum hn1, ← z5]
    exact v_sum_cg (fun j hj => by rw [ck_lo (by omega)]; exact hv j hj)
  have hsil : fX10_silent (sw_wA σ 66 g) = nI S := by
    rw [hS]
    exact sil_es (rl_p_age r1 hg) (by rw [m_ne (show (65 : Nat) ≠ 66 by decide)]; exact t2) ht
  refine ⟨nI (n_sum n K + n_burs mm K (nI S) N), sw_wA σ 66 f, ?_, ?_, _, _, _, _, _, _, _, _, relD_age hr ha⟩
  · rw [fX9_mission, c_all, b1_s, h28]
    refine wh_runs (b := fun s : Int32 × Int32 => fX9_mission_L10 σ s.1 s.2) (fun k => (nI (n_sum n K + n_burs mm K (nI S) k), nI k)) N rfl (fun k hk => ?_) ?_ (by omega)
    · show fX9_mission_L10 σ (nI (n_sum n K + n_burs mm K (nI S) k)) (nI k) = some (.inl (nI (n_sum n K + n_burs mm K (nI S) (k + 1)), nI (k + 1)))
      have hc := compl_0 N (by omega) t ht k hk
      rw [← hS] at hc
      have hbu : fX4_burden P σ (nI k) = some (nI (n_sum (fun j => mm (5 * k + j)) K)) := by
        rw [c_burden p3.k hK (by omega), rep_sum (rl_rep r1 k hk)]
      unfold fX9_mission_L10
      rw [p1, p5, if_neg (le_f hk (by omega)), sil_c p1 p5 t1 p7 hk, n_burs]
      by_cases b : v_bit (nI t) k = 0
      · rw [if_pos b, if_neg i10, hbu, b1_s, let_s, fX9_mission_L40, let_s, nI_1, nI_add, if_pos (hc.mpr b), Nat.add_assoc]
      · rw [if_neg b, if_pos rfl, fX9_mission_L40, let_s, nI_1, if_neg (fun e => b (hc.mp e))]
    · show fX9_mission_L10 σ (nI (n_sum n K + n_burs mm K (nI S) N)) (nI N) = _
      unfold fX9_mission_L10
      rw [p1, p5, if_pos (le_t N (by omega))]
  · rw [fX10_mission, e1, b1_s, hsil, e2, b1_s, hall, b1_s]
theorem k_law (a : Int32) (h : rel σ) : k_mm (fX9_law σ a) (fun τ => fX10_law τ a) := by
  obtain ⟨P, K, N, R, Bn, z, mm, ww, hr⟩ := id h
  have hP := rl_isP hr.1
  have r1 := hr.1
  have r2 := hr.2.1
  have hrr := rl_r r1
  obtain ⟨p1, p2, p3, p4, p5⟩ := id r1
  have hK := p3.k5
  have hR := p3.r6
  have ia := isIn_n 99 (by decide) a 99 rfl
  by_cases hb : (if a < 0 then (0 : Int32) else if nI (99 + 1) ≤ a then 0 else 1) = 0
  · refine look_n hr (r := -1) ?_ (by show fX10_law σ a = _; rw [fX10_law, ia, if_pos hb])
    rw [fX9_law]
    rcases in_no hb with e1 | ⟨e1, e2⟩
    · rw [if_pos e1]
    · have e3 : ¬ a ≤ 99 := nle_of (n := 99) (by decide) e1 e2
      rw [if_neg e1, if_neg e3]
  obtain ⟨n, hn, rfl⟩ := in_some (K := 99 + 1) (by decide) hb
  have n1 : nI n ≤ 99 := nI_le (b := 99) (by omega) (by decide)
  refine k_look hr (fun τ hτ => ?_)
  obtain ⟨q1, q2, q3, q4, q5⟩ := rl_p_agc r1 hτ
  obtain ⟨f, g, c1, c2⟩ := c_copy (σ := σ)
  have hg : ∀ j, j < 5 → g j = ck (σ.1 65) j := by
    intro j hj
    rw [← r2.1, ← c2, pk_lo hj]
  have e65 : τ.1 65 = σ.1 65 := agc_n hP hτ (by decide)
  have e64 : τ.1 64 = σ.1 64 := agc_n hP hτ (by decide)
  obtain ⟨G, hG⟩ : ∃ G, G = v_mix 10 (τ.1 65) (τ.1 66) := ⟨_, rfl⟩
  have hGj : ∀ j, j < 5 → G j = g j := by
    intro j hj
    rw [hg j hj, hG, ck_lo (by omega), ← e65]
    show (if j < 10 then τ.1 65 j else τ.1 66 j) = _
    rw [if_pos (by omega)]
  have hc : fX3_allUnderLaw P 27 σ (nI n) = some (v_sum (v_lawn (σ.1 (P + 6)) (nI n) R g) 5, vt σ 35 f (v_lawn (σ.1 (P + 6)) (nI n) R g)) := by
    rw [fX3_allUnderLaw, c1, b1_s]
    refine wh_runs (b := fun s : Int32 × sw_M => fX3_allUnderLaw_L11 P 27 s.2 (nI n) s.1) (fun k => (nI k, vt σ 35 f (v_lawn (σ.1 (P + 6)) (nI n) k g))) R rfl (fun k hk => ?_) ?_ (by omega)
    · show fX3_allUnderLaw_L11 P 27 (vt σ 35 f (v_lawn (σ.1 (P + 6)) (nI n) k g)) (nI n) (nI k) = _
      have eP : (vt σ 35 f (v_lawn (σ.1 (P + 6)) (nI n) k g)).1 P = σ.1 P := vt_ne (isP_ne0 hP (by decide)) (isP_ne0 hP (by decide))
      have e6 : (vt σ 35 f (v_lawn (σ.1 (P + 6)) (nI n) k g)).1 (P + 6) = σ.1 (P + 6) := vt_ne (isP_ne hP (by decide) (by decide)) (isP_ne hP (by decide) (by decide))
      have ht := c_turn (σ := vt σ 35 f (v_lawn (σ.1 (P + 6)) (nI n) k g)) (P := P) (a := 35 + 1) (lim := nI n) (r := k) (K := K) (R := R) hP (by decide) rfl hK hR (by rw [e6]; exact p3.ρ) hk
      rw [e6, vt_1, vt_a1] at ht
      have ht' : fX4_turn P 36 (vt σ 35 f (v_lawn (σ.1 (P + 6)) (nI n) k g)) (nI k) (nI n) = _ := ht
      unfold fX3_allUnderLaw_L11
      rw [eP, p3.r, if_neg (le_f hk (by omega)), ht', b2_s, let_s, nI_1]
      rfl
    · show fX3_allUnderLaw_L11 P 27 (vt σ 35 f (v_lawn (σ.1 (P + 6)) (nI n) R g)) (nI n) (nI R) = _
      have eP : (vt σ 35 f (v_lawn (σ.1 (P + 6)) (nI n) R g)).1 P = σ.1 P := vt_ne (isP_ne0 hP (by decide)) (isP_ne0 hP (by decide))
      unfold fX3_allUnderLaw_L11
      rw [eP, p3.r, if_pos (le_t R (by omega)), c_all, b1_s, vt_1]
  have he : (sw_b1 (fX10_fill τ) fun m2 => sw_wh sw_F (fun s : Int32 × sw_M => fX10_law_L18 s.2 (nI n) s.1) (0, m2)) = some (v_sum (v_lawn (τ.1 64) (nI n) R G) K, sw_wA τ 66 (v_lawn (τ.1 64) (nI n) R G)) := by
    rw [e_fill, b1_s, ← hG]
    refine wh_runs (b := fun s : Int32 × sw_M => fX10_law_L18 s.2 (nI n) s.1) (fun k => (nI k, sw_wA τ 66 (v_lawn (τ.1 64) (nI n) k G))) R rfl (fun k hk => ?_) ?_ (by omega)
    · show fX10_law_L18 (sw_wA τ 66 (v_lawn (τ.1 64) (nI n) k G)) (nI n) (nI k) = _
      have ht := e_boilBy (σ := sw_wA τ 66 (v_lawn (τ.1 64) (nI n) k G)) (lim := nI n) (r := k) (K := K) (R := R) hK hR (by rw [m_ne (show (64 : Nat) ≠ 66 by decide)]; exact q4.ρ) hk
      rw [m_ne (show (64 : Nat) ≠ 66 by decide), m_eq, m_mm] at ht
      unfold fX10_law_L18
      rw [m_ne (show (49 : Nat) ≠ 66 by decide), q4.r, if_neg (le_f hk (by omega)), ht, b1_s, let_s, nI_1]
      rfl
    · show fX10_law_L18 (sw_wA τ 66 (v_lawn (τ.1 64) (nI n) R G)) (nI n) (nI R) = _
      unfold fX10_law_L18
      rw [m_ne (show (49 : Nat) ≠ 66 by decide), q4.r, if_pos (le_t R (by omega)), e_allOf (K := K) (by rw [m_ne (show (49 : Nat) ≠ 66 by decide)]; exact q4.k) hK, b1_s, m_eq]
  refine ⟨(v_sum (v_lawn (σ.1 (P + 6)) (nI n) R g) 5, vt σ 35 f (v_lawn (σ.1 (P + 6)) (nI n) R g)), (v_sum (v_lawn (τ.1 64) (nI n) R G) K, sw_wA τ 66 (v_lawn (τ.1 64) (nI n) R G)), ?_, ?_, ?_, agc_vt, age_w (.inr (.inr (.inl rfl)))⟩
  · rw [fX9_law, if_neg (nI_pos (by omega)), if_pos n1, p1, hc, b2_s]
  · show fX10_law τ (nI n) = _
    rw [fX10_law, ia, if_neg hb, he]
  · show v_sum (v_lawn (σ.1 (P + 6)) (nI n) R g) 5 = v_sum (v_lawn (τ.1 64) (nI n) R G) K
    have hz : v_zero K (v_lawn (σ.1 (P + 6)) (nI n) R g) := by
      intro j h1 h2
      rw [lawn_hi p3.ρ hK h1 R (Nat.le_refl R), hg j h2]
      exact r2.2.1 j h1 h2
    rw [v_sum_5 hK hz]
    refine (v_sum_cg (fun j hj => ?_)).symm
    rw [e64]
    exact lawn_cg (n := 5) p3.ρ hK hK (fun r c hr hc => (hrr r c hr hc).symm) hGj R (Nat.le_refl R) j (by omega)
theorem e_rest1 {m : sw_M} {k : Nat} (hKm : m.1 49 40 = nI K) (hK : K ≤ 5) (hRm : m.1 49 43 = nI R) (hR : R ≤ 6) (hρ : ok_ρ (m.1 64) K R) (hk : k < 61) :
    fX10_rest_L6 m (nI k) = some (if v_same (v_mix K (m.1 66) (m.1 68)) (v_boil (m.1 64) R (m.1 66)) K = 0 then .inl (nI (k + 1), sw_wA (sw_wA m 68 (v_mix K (m.1 66) (m.1 68))) 66 (v_boil (m.1 64) R (m.1 66))) else .inr (nI k, sw_wA (sw_wA m 68 (v_mix K (m.1 66) (m.1 68))) 66 (v_boil (m.1 64) R (m.1 66)))) := by
  have hnl : ¬ (60 : Int32) < nI k := nI_nlt (a := 60) (by omega) (by decide)
  rw [fX10_rest_L6, if_neg hnl]
  refine wh_map (b := fun s : Int32 × sw_M => fX10_rest_L14 s.2 (nI k) s.1) m 68 (m.1 66) K (fun i hi => ?_) ?_ (by omega)
  · show fX10_rest_L14 (sw_wA m 68 (v_mix i (m.1 66) (m.1 68))) (nI k) (nI i) = _
    unfold fX10_rest_L14
    rw [m_ne (show (49 : Nat) ≠ 68 by decide), hKm, if_neg (le_f hi (by omega)), sw_gd_t (in_t (show i < 10 by omega) (by decide)), sw_gd_t (in_t (show i < 5 by omega) (by decide)), let_s, let_s, nI_1, nI_clamp (by omega), m_ne (show (66 : Nat) ≠ 68 by decide), m_ww]
  · show fX10_rest_L14 (sw_wA m 68 (v_mix K (m.1 66) (m.1 68))) (nI k) (nI K) = _
    obtain ⟨D, hD⟩ : ∃ D, D = v_mix K (m.1 66) (m.1 68) := ⟨_, rfl⟩
    obtain ⟨F, hF⟩ : ∃ F, F = v_boil (m.1 64) R (m.1 66) := ⟨_, rfl⟩
    have hbo := e_boilAll (σ := sw_wA m 68 D) (K := K) (R := R) (by rw [m_ne (show (49 : Nat) ≠ 68 by decide)]; exact hRm) hK hR (by rw [m_ne (show (64 : Nat) ≠ 68 by decide)]; exact hρ)
    rw [m_ne (show (64 : Nat) ≠ 68 by decide), m_ne (show (66 : Nat) ≠ 68 by decide), ← hF] at hbo
    rw [← hD, ← hF]
    unfold fX10_rest_L14
    rw [m_ne (show (49 : Nat) ≠ 68 by decide), hKm, if_pos (le_t K (by omega)), hbo, b1_s]
    have h49 : (sw_wA (sw_wA m 68 D) 66 F).1 49 = m.1 49 := by rw [m_ne (by decide), m_ne (by decide)]
    have h68 : (sw_wA (sw_wA m 68 D) 66 F).1 68 = D := by rw [m_ne (by decide), m_eq]
    have h66 : (sw_wA (sw_wA m 68 D) 66 F).1 66 = F := m_eq
    have hin : sw_wh sw_F (fun s : Int32 × Int32 => fX10_rest_L48 (sw_wA (sw_wA m 68 D) 66 F) (nI k) s.1 s.2) (1, 0) = some (if v_same D F K = 0 then .inl (nI (k + 1), sw_wA (sw_wA m 68 D) 66 F) else .inr (nI k, sw_wA (sw_wA m 68 D) 66 F)) := by
      refine wh_runs (b := fun s : Int32 × Int32 => fX10_rest_L48 (sw_wA (sw_wA m 68 D) 66 F) (nI k) s.1 s.2) (fun i => (v_same D F i, nI i)) K rfl (fun i hi => ?_) ?_ (by omega)
      · show fX10_rest_L48 (sw_wA (sw_wA m 68 D) 66 F) (nI k) (v_same D F i) (nI i) = some (.inl (v_same D F (i + 1), nI (i + 1)))
        unfold fX10_rest_L48
        rw [h49, hKm, if_neg (le_f hi (by omega)), sw_gd_t (in_t (show i < 5 by omega) (by decide)), sw_gd_t (in_t (show i < 10 by omega) (by decide)), nI_clamp (by omega), h68, h66, fX10_rest_L79, fX10_rest_L80, fX10_rest_L80, let_s, let_s, nI_1, v_same]
        by_cases h1 : v_same D F i = 0
        · rw [if_pos h1, if_pos h1]
        · rw [if_neg h1, if_neg h1]
          split <;> rfl
      · show fX10_rest_L48 (sw_wA (sw_wA m 68 D) 66 F) (nI k) (v_same D F K) (nI K) = _
        unfold fX10_rest_L48
        rw [h49, hKm, if_pos (le_t K (by omega)), let_s, nI_1]
        split <;> rfl
    rw [hin, sw_up_s]
theorem k_rest (h : rel σ) : k_mm (fX9_rest σ) (fun τ => fX10_rest τ) := by
  obtain ⟨P, K, N, R, Bn, z, mm, ww, hr⟩ := id h
  have hP := rl_isP hr.1
  have r1 := hr.1
  have r2 := hr.2.1
  have hrr := rl_r r1
  obtain ⟨p1, p2, p3, p4, p5, p6, ⟨p7, p7'⟩, p8⟩ := id r1
  have hK := p3.k5
  have hR := p3.r6
  refine k_look hr (fun τ hτ => ?_)
  obtain ⟨m1, m2, c1, c2, hbp⟩ := bp_0 r1 r2 hτ
  suffices main : ∃ x y, fX3_boilingsToRest P 27 σ = some x ∧ (sw_b1 (fX10_fill τ) fun m1 => sw_wh sw_F (fun s : Int32 × sw_M => fX10_rest_L6 s.2 s.1) (0, m1)) = some y ∧ (x.1 = y.1 ∧ agc P σ x.2 ∧ age τ y.2) by
    obtain ⟨⟨x1, x2⟩, y, e1, e2, e3⟩ := main
    exact ⟨(x1, x2), y, by rw [fX9_rest, p1, e1, b2_s], e2, e3⟩
  unfold fX3_boilingsToRest
  rw [c1, b1_s, c2, b1_s]
  refine wh_rel (b := fun s : Int32 × sw_M => fX3_boilingsToRest_L10 P 27 s.2 s.1) (c := fun s : Int32 × sw_M => fX10_rest_L6 s.2 s.1) (fun k s t => s.1 = nI k ∧ t.1 = nI k ∧ bp σ τ P K s.2 t.2) (fun x y => x.1 = y.1 ∧ agc P σ x.2 ∧ age τ y.2) 61 (fun k s t hk hI => ?_) ⟨rfl, rfl, hbp⟩ (by decide)
  obtain ⟨y, n1⟩ := s
  obtain ⟨y', n2⟩ := t
  obtain ⟨rfl, rfl, i3⟩ : y = nI k ∧ y' = nI k ∧ bp σ τ P K n1 n2 := hI
  obtain ⟨j1, j2, j3, j4, ⟨B, j5⟩, t, j6, j7⟩ := id i3
  show (∃ s' t', fX3_boilingsToRest_L10 P 27 n1 (nI k) = some (.inl s') ∧ fX10_rest_L6 n2 (nI k) = some (.inl t') ∧ (s'.1 = nI (k + 1) ∧ t'.1 = nI (k + 1) ∧ bp σ τ P K s'.2 t'.2) ∧ k < 61) ∨ (∃ x y, fX3_boilingsToRest_L10 P 27 n1 (nI k) = some (.inr x) ∧ fX10_rest_L6 n2 (nI k) = some (.inr y) ∧ (x.1 = y.1 ∧ agc P σ x.2 ∧ age τ y.2))
  by_cases hk6 : k < 61
  rotate_left
  · have hlt : (60 : Int32) < nI k := nI_lt (a := 60) (by omega) (by omega)
    unfold fX3_boilingsToRest_L10 fX10_rest_L6
    rw [if_pos hlt, if_pos hlt]
    exact .inr ⟨_, _, rfl, rfl, rfl, j1, j2⟩
  have hnl : ¬ (60 : Int32) < nI k := nI_nlt (a := 60) (by omega) (by decide)
  obtain ⟨q1, q2, q3, q4, q5⟩ := rl_p_agc r1 j1
  obtain ⟨s1, s2, s3, s4, s5⟩ := rl_p_age (rl_p_agc r1 hτ) j2
  have e6 : n1.1 (P + 6) = σ.1 (P + 6) := agc_P hP j1 (by decide)
  have x64 : ∀ r c, r < R → c < 4 → n2.1 64 (4 * r + c) = σ.1 (P + 6) (4 * r + c) := by
    intro r c h1 h2
    have : n2.1 64 = σ.1 64 := (age_n j2 (by decide) (by decide) (by decide) (by decide)).trans (agc_n hP hτ (by decide))
    rw [this]
    exact (hrr r c h1 h2).symm
  have cb := c_boilRules (σ := n1) (P := P) (a := 36) (K := K) (R := R) hP (by decide) rfl q3.r hK hR q3.ρ
  have er := e_rest1 (m := n2) (k := k) s4.k hK s4.r hR s4.ρ hk6
  obtain ⟨u, hu⟩ : ∃ u, u = ck (n2.1 66) := ⟨_, rfl⟩
  rw [← hu] at j3 j4 j5
  have u36 : ∀ j, j < 5 → n1.1 36 j = u j := fun j hj => by rw [← j3, pk_lo hj]
  have u66 : ∀ j, j < 10 → n2.1 66 j = u j := fun j hj => by rw [hu, ck_lo hj]
  have hri := rest_iff (ρ := σ.1 (P + 6)) (u := u) p3.ρ p7 hK hR j5
  have ht : v_turned (n1.1 (P + 6)) R (n1.1 36) = v_turned (σ.1 (P + 6)) R u := by
    rw [e6]
    exact v_turned_cg (n := 5) p3.ρ hK hK (fun r c _ _ => rfl) u36 (Nat.le_refl R)
  have hbo : v_boil (n2.1 64) R (n2.1 66) = v_boil (σ.1 (P + 6)) R (n2.1 66) := v_boil_ρ p3.ρ hK x64
  have hbj : ∀ j, j < 10 → v_boil (n2.1 64) R (n2.1 66) j = v_boil (σ.1 (P + 6)) R u j := fun j hj => v_boil_cg (n := 10) p3.ρ hK (by omega) x64 u66 (Nat.le_refl R) j hj
  have hsame : (¬ v_same (v_mix K (n2.1 66) (n2.1 68)) (v_boil (n2.1 64) R (n2.1 66)) K = 0) ↔ v_turned (σ.1 (P + 6)) R u ≤ 0 := by
    rw [same_iff]
    have e : ∀ j, j < K → v_mix K (n2.1 66) (n2.1 68) j = u j := by
      intro j hj
      rw [← u66 j (by omega)]
      show (if j < K then n2.1 66 j else n2.1 68 j) = _
      rw [if_pos hj]
    constructor
    · intro h
      refine hri.2 (fun j hj => ?_)
      rw [← hbj j (by omega), ← h j hj, e j hj]
    · intro h j hj
      rw [e j hj, hbj j (by omega), hri.1 h]
  rw [ht] at cb
  rw [er]
  unfold fX3_boilingsToRest_L10
  rw [if_neg hnl, cb, b2_s]
  by_cases hx : v_turned (σ.1 (P + 6)) R u ≤ 0
  · rw [if_pos hx, if_pos rfl, if_neg (hsame.mpr hx)]
    exact .inr ⟨_, _, rfl, rfl, rfl, j1.tr (agc_w (.inr (.inl rfl))), j2.tr ((age_w (.inr (.inr (.inr (.inl rfl))))).tr (age_w (.inr (.inr (.inl rfl)))))⟩
  · have hs0 : v_same (v_mix K (n2.1 66) (n2.1 68)) (v_boil (n2.1 64) R (n2.1 66)) K = 0 := Classical.byContradiction (fun h => hx (hsame.mp h))
    rw [if_neg hx, if_neg i10, if_pos hs0, let_s, nI_1]
    refine .inl ⟨_, _, rfl, rfl, ⟨rfl, rfl, j1.tr (agc_w (.inr (.inl rfl))), j2.tr ((age_w (.inr (.inr (.inr (.inl rfl))))).tr (age_w (.inr (.inr (.inl rfl))))), ?_, ?_, ⟨B, ?_⟩, t, j6, ?_⟩, hk6⟩
    · rw [m_eq, m_eq, m_ne (show (35 : Nat) ≠ 36 by decide), hbo, e6, pk_boil p3.ρ hK, ck_boil p3.ρ hK, j3, hu]
    · rw [m_eq, hbo, ck_boil p3.ρ hK, ← hu]
      intro j h1 h2
      rw [v_boil_hi p3.ρ hK h1 (Nat.le_refl R)]
      exact j4 j h1 h2
    · rw [m_eq, hbo, ck_boil p3.ρ hK, ← hu]
      exact nv_boil p3.ρ p7 hK j5 (Nat.le_refl R)
    · rw [m_ne (show (35 : Nat) ≠ 36 by decide)]
      exact j7
end KL
