/-! two loops with states of their own -/
theorem wh_rel {S1 S2 T1 T2 : Type} {b : S1 → Option (S1 ⊕ T1)} {c : S2 → Option (S2 ⊕ T2)} (J : Nat → S1 → S2 → Prop) (Q : T1 → T2 → Prop) (N : Nat) (hs : ∀ k s t, k ≤ N → J k s t → (∃ s' t', b s = some (.inl s') ∧ c t = some (.inl t') ∧ J (k + 1) s' t' ∧ k < N) ∨ (∃ x y, b s = some (.inr x) ∧ c t = some (.inr y) ∧ Q x y)) {s0 : S1} {t0 : S2} (h0 : J 0 s0 t0) (h4 : N < 4000) : ∃ x y, sw_wh sw_F b s0 = some x ∧ sw_wh sw_F c t0 = some y ∧ Q x y := by
  have key : ∀ (d k n : Nat) (s : S1) (t : S2), k + d = N → d < n → J k s t → ∃ x y, sw_wh n b s = some x ∧ sw_wh n c t = some y ∧ Q x y := by
    intro d
    induction d with
    | zero =>
      intro k n s t hk hn hI
      obtain ⟨n, rfl⟩ : ∃ m, n = m + 1 := ⟨n - 1, by omega⟩
      rcases hs k s t (by omega) hI with ⟨s', t', e1, e2, h, hlt⟩ | ⟨x, y, e1, e2, h⟩
      · omega
      · refine ⟨x, y, ?_, ?_, h⟩
        · rw [sw_wh, e1]
        · rw [sw_wh, e2]
    | succ d ih =>
      intro k n s t hk hn hI
      obtain ⟨n, rfl⟩ : ∃ m, n = m + 1 := ⟨n - 1, by omega⟩
      rcases hs k s t (by omega) hI with ⟨s', t', e1, e2, h, hlt⟩ | ⟨x, y, e1, e2, h⟩
      · obtain ⟨x, y, g1, g2, g3⟩ := ih (k + 1) n s' t' (by omega) (by omega) h
        refine ⟨x, y, ?_, ?_, g3⟩
        · rw [sw_wh, e1]
          exact g1
        · rw [sw_wh, e2]
          exact g2
      · refine ⟨x, y, ?_, ?_, h⟩
        · rw [sw_wh, e1]
        · rw [sw_wh, e2]
  exact key N 0 sw_F s0 t0 (by omega) (F_big h4) h0
theorem nI_nm {j : Nat} (h : j < 2 ^ 31) : ¬ nI j = -1 := fun e => nI_pos h (by rw [e]; decide)
theorem bit01 : ∀ t, t < 128 → ∀ p, p < 7 → v_bit (nI t) p = 0 ∨ v_bit (nI t) p = 1 := by decide +kernel
theorem pow7 {N : Nat} (h : N ≤ 7) : 2 ^ N ≤ 128 := Nat.pow_le_pow_right (by decide) h
theorem pow4 {N : Nat} (h : N ≤ 4) : 2 ^ N ≤ 16 := Nat.pow_le_pow_right (by decide) h
section KB
variable {σ : sw_M} {P K N R Bn z : Nat} {mm ww : Nat → Nat}
theorem sil_c {p t : Nat} (h1 : sw_pl (σ.2.2 0) = P) (h2 : σ.1 P 1 = nI N) (ht : σ.1 27 1 = nI t) (hN : N ≤ 7) (hp : p < N) : fX9_isSilent σ (nI p) = (if v_bit (nI t) p = 0 then 1 else 0) := by
  have e : ¬ (if nI p < 0 then (0 : Int32) else if nI N ≤ nI p then 0 else 1) = 0 := by
    rw [if_neg (nI_pos (by omega)), if_neg (nI_ge hp (by omega))]
    decide
  unfold fX9_isSilent
  rw [h1, person_c h2, if_neg e, ht]
  rfl
theorem sil_e {p t : Nat} (ht : σ.1 65 5 = nI t) : fX10_hasTold σ (nI p) = (if v_bit (nI t) p = 1 then 1 else 0) := by
  unfold fX10_hasTold
  rw [ht]
  rfl
theorem ea_c {p t : Nat} (ht : σ.1 27 2 = nI t) : fX9_isEased σ (nI p) = (if v_bit (nI t) p = 1 then 1 else 0) := by
  unfold fX9_isEased
  rw [ht]
  rfl
theorem ea_e {p t : Nat} (ht : σ.1 65 6 = nI t) : fX10_isEased σ (nI p) = (if v_bit (nI t) p = 1 then 1 else 0) := by
  unfold fX10_isEased
  rw [ht]
  rfl
theorem sil_both {p t : Nat} (h1 : sw_pl (σ.2.2 0) = P) (h2 : σ.1 P 1 = nI N) (ht : σ.1 27 1 = nI t) (ht2 : σ.1 65 5 = nI t) (hN : N ≤ 7) (h128 : t < 128) (hp : p < N) : (v_bit (nI t) p = 0 ∧ fX9_isSilent σ (nI p) = 1 ∧ fX10_hasTold σ (nI p) = 0) ∨ (v_bit (nI t) p = 1 ∧ fX9_isSilent σ (nI p) = 0 ∧ fX10_hasTold σ (nI p) = 1) := by
  rw [sil_c h1 h2 ht hN hp, sil_e ht2]
  rcases bit01 t h128 p (by omega) with e | e
  · rw [e]
    exact .inl ⟨rfl, rfl, rfl⟩
  · rw [e]
    exact .inr ⟨rfl, rfl, rfl⟩
theorem i10 : ¬ (1 : Int32) = 0 := by decide
theorem rl_told (r : rl_v σ K N Bn mm) : ∃ t, t < 2 ^ N ∧ σ.1 27 1 = nI t ∧ σ.1 65 5 = nI t ∧ nv K (n_burs mm K (nI t) N) (ck (σ.1 65)) := by
  obtain ⟨t, h1, h2, h3⟩ := r.2.2.1
  have h2 : σ.1 65 5 = nI t := h2
  exact ⟨t, h1, by rw [(rl_vv r).2.1, h2], h2, h3⟩
theorem rl_eased (r : rl_v σ K N Bn mm) : ∃ t, t < 2 ^ Bn ∧ σ.1 27 2 = nI t ∧ σ.1 65 6 = nI t := by
  obtain ⟨t, h1, h2⟩ := r.2.2.2.1
  have h2 : σ.1 65 6 = nI t := h2
  exact ⟨t, h1, by rw [(rl_vv r).2.2.1, h2], h2⟩
theorem rl_m (r : rl_p σ P K N R Bn z mm ww) (p j : Nat) (hp : p < N) (hj : j < K) : σ.1 (P + 4) (5 * p + j) = σ.1 62 (5 * p + j) := by
  obtain ⟨p1, p2, p3, p4, p5, p6, p7, p8, p9⟩ := r
  rw [(p8 p j hp hj).1, (p8 p j hp hj).2.1]
theorem rl_w (r : rl_p σ P K N R Bn z mm ww) (p j : Nat) (hp : p < Bn) (hj : j < K) : σ.1 (P + 5) (5 * p + j) = σ.1 63 (5 * p + j) := by
  obtain ⟨p1, p2, p3, p4, p5, p6, p7, p8, p9, p10⟩ := r
  rw [(p9 p j hp hj).1, (p9 p j hp hj).2.1]
theorem rl_r (r : rl_p σ P K N R Bn z mm ww) (q c : Nat) (hq : q < R) (hc : c < 4) : σ.1 (P + 6) (4 * q + c) = σ.1 64 (4 * q + c) := by
  obtain ⟨p1, p2, p3, p4, p5, p6, p7, p8⟩ := r
  exact (p7.2 q c hq hc).symm
theorem k_vat (a : Int32) (h : rel σ) : k_rr (fX9_vat σ a) (fX10_vat σ a) := by
  obtain ⟨P, K, N, R, Bn, z, mm, ww, r1, r2, r3⟩ := h
  exact b_vat r1.1 r1.2.2.1.k r1.2.2.2.1.k r1.2.2.1.k5 (rl_vv r2).1 a
theorem k_mind (a b : Int32) (h : rel σ) : k_rr (fX9_mind σ a b) (fX10_mind σ a b) := by
  obtain ⟨P, K, N, R, Bn, z, mm, ww, r1, r2, r3⟩ := h
  exact b_mind r1.1 r1.2.2.1.k r1.2.2.2.1.k r1.2.2.1.k5 r1.2.2.2.2.1.1 r1.2.2.2.2.1.2.1 r1.2.2.2.2.1.2.2 (rl_m r1) a b
theorem k_wants (a b : Int32) (h : rel σ) : k_rr (fX9_wants σ a b) (fX10_wants σ a b) := by
  obtain ⟨P, K, N, R, Bn, z, mm, ww, r1, r2, r3⟩ := h
  exact b_wants r1.1 r1.2.2.1.k r1.2.2.2.1.k r1.2.2.1.k5 r1.2.2.2.2.2.1.1 r1.2.2.2.2.2.1.2.1 r1.2.2.2.2.2.1.2.2 (rl_w r1) a b
theorem k_rule (a b : Int32) (h : rel σ) : k_rr (fX9_rule σ a b) (fX10_rule σ a b) := by
  obtain ⟨P, K, N, R, Bn, z, mm, ww, r1, r2, r3⟩ := h
  exact b_rule r1.1 r1.2.2.1.r r1.2.2.2.1.r r1.2.2.1.r6 (rl_r r1) a b
theorem k_lacks (a : Int32) (h : rel σ) : k_rr (fX9_lacks σ a) (fX10_lacks σ a) := by
  obtain ⟨P, K, N, R, Bn, z, mm, ww, r1, r2, r3⟩ := h
  exact b_lacks r1.1 r1.2.2.1.k r1.2.2.2.1.k r1.2.2.1.k5 r1.2.2.2.2.2.1.1 r1.2.2.2.2.2.1.2.1 r1.2.2.2.2.2.1.2.2 (rl_w r1) (rl_vv r2).1 a
theorem k_sinners (a : Int32) (h : rel σ) : k_rr (fX9_sinners σ a) (fX10_sinners σ a) := by
  obtain ⟨P, K, N, R, Bn, z, mm, ww, r1, r2, r3⟩ := h
  exact b_sinners r1.1 r1.2.2.1.k r1.2.2.2.1.k r1.2.2.1.k5 r1.2.2.2.2.1.1 r1.2.2.2.2.1.2.1 r1.2.2.2.2.1.2.2 (rl_m r1) a
theorem k_makers (a : Int32) (h : rel σ) : k_rr (fX9_makers σ a) (fX10_makers σ a) := by
  obtain ⟨P, K, N, R, Bn, z, mm, ww, r1, r2, r3⟩ := h
  exact b_makers r1.1 r1.2.2.1.k r1.2.2.2.1.k r1.2.2.1.k5 r1.2.2.1.r r1.2.2.2.1.r r1.2.2.1.r6 (rl_r r1) a
theorem k_inert (h : rel σ) : k_rr (fX9_inert σ) (fX10_inert σ) := by
  obtain ⟨P, K, N, R, Bn, z, mm, ww, r1, r2, r3⟩ := h
  exact b_inert r1.1 r1.2.2.1.k r1.2.2.2.1.k r1.2.2.1.r r1.2.2.2.1.r r1.2.2.1.r6 (rl_r r1)
theorem k_thickest (h : rel σ) : k_rr (fX9_thickest σ) (fX10_thickest σ) := by
  obtain ⟨P, K, N, R, Bn, z, mm, ww, r1, r2, r3⟩ := h
  have hv := (rl_vv r2).1
  obtain ⟨p1, p2, p3, p4, p5⟩ := r1
  have hK := p3.k5
  unfold fX9_thickest fX10_thickest
  refine wh_two (b := fun s : Int32 × Int32 => fX9_thickest_L4 σ s.1 s.2) (c := fun s : Int32 × Int32 => fX10_thickest_L4 σ s.1 s.2) (fun k s => s.2 = nI k ∧ (s.1 = -1 ∨ ∃ j, j < k ∧ s.1 = nI j)) K (fun k s hk hI => ?_) (fun s hI => ?_) (s0 := ((-1 : Int32), (0 : Int32))) ⟨rfl, .inl rfl⟩ (by omega)
  · obtain ⟨x, y⟩ := s
    obtain ⟨rfl, hx⟩ : y = nI k ∧ (x = -1 ∨ ∃ j, j < k ∧ x = nI j) := hI
    show ∃ s', fX9_thickest_L4 σ x (nI k) = some (.inl s') ∧ fX10_thickest_L4 σ x (nI k) = some (.inl s') ∧ s'.2 = nI (k + 1) ∧ (s'.1 = -1 ∨ ∃ j, j < k + 1 ∧ s'.1 = nI j)
    unfold fX9_thickest_L4 fX10_thickest_L4
    rw [p1, p3.k, p4.k, if_neg (le_f hk (by omega)), if_neg (le_f hk (by omega))]
    rcases hx with rfl | ⟨j, hj, rfl⟩
    · rw [if_pos rfl, if_pos (by decide), fX9_thickest_L41, fX10_thickest_L31, fX9_thickest_L43, fX10_thickest_L33]
      simp only [let_s, nI_1]
      exact ⟨_, rfl, rfl, rfl, .inr ⟨k, by omega, rfl⟩⟩
    · rw [if_neg (nI_nm (by omega)), if_neg (nI_pos (by omega)), sw_gd_t (in_t (show k < 5 by omega) (by decide)), sw_gd_t (in_t (show j < 5 by omega) (by decide)), sw_gd_t (in_t (show k < 10 by omega) (by decide)), sw_gd_t (in_t (show j < 10 by omega) (by decide)), nI_clamp (show k < 2 ^ 31 by omega), nI_clamp (show j < 2 ^ 31 by omega), hv k (by omega), hv j (by omega)]
      by_cases h : σ.1 65 k ≤ σ.1 65 j
      · rw [if_pos h, if_pos h, fX9_thickest_L43, fX10_thickest_L33]
        simp only [let_s, nI_1]
        exact ⟨_, rfl, rfl, rfl, .inr ⟨j, by omega, rfl⟩⟩
      · rw [if_neg h, if_neg h, fX9_thickest_L41, fX10_thickest_L31, fX9_thickest_L43, fX10_thickest_L33]
        simp only [let_s, nI_1]
        exact ⟨_, rfl, rfl, rfl, .inr ⟨k, by omega, rfl⟩⟩
  · obtain ⟨x, y⟩ := s
    obtain ⟨rfl, hx⟩ : y = nI K ∧ (x = -1 ∨ ∃ j, j < K ∧ x = nI j) := hI
    show ∃ r, fX9_thickest_L4 σ x (nI K) = some (.inr r) ∧ fX10_thickest_L4 σ x (nI K) = some (.inr r)
    unfold fX9_thickest_L4 fX10_thickest_L4
    rw [p1, p3.k, p4.k, if_pos (le_t K (by omega)), if_pos (le_t K (by omega))]
    exact ⟨_, rfl, rfl⟩
theorem k_thinnest (h : rel σ) : k_rr (fX9_thinnest σ) (fX10_thinnest σ) := by
  obtain ⟨P, K, N, R, Bn, z, mm, ww, r1, r2, r3⟩ := h
  have hv := (rl_vv r2).1
  obtain ⟨p1, p2, p3, p4, p5⟩ := r1
  have hK := p3.k5
  unfold fX9_thinnest fX10_thinnest
  refine wh_two (b := fun s : Int32 × Int32 => fX9_thinnest_L4 σ s.1 s.2) (c := fun s : Int32 × Int32 => fX10_thinnest_L4 σ s.1 s.2) (fun k s => s.2 = nI k ∧ (s.1 = -1 ∨ ∃ j, j < k ∧ s.1 = nI j)) K (fun k s hk hI => ?_) (fun s hI => ?_) (s0 := ((-1 : Int32), (0 : Int32))) ⟨rfl, .inl rfl⟩ (by omega)
  · obtain ⟨x, y⟩ := s
    obtain ⟨rfl, hx⟩ : y = nI k ∧ (x = -1 ∨ ∃ j, j < k ∧ x = nI j) := hI
    show ∃ s', fX9_thinnest_L4 σ x (nI k) = some (.inl s') ∧ fX10_thinnest_L4 σ x (nI k) = some (.inl s') ∧ s'.2 = nI (k + 1) ∧ (s'.1 = -1 ∨ ∃ j, j < k + 1 ∧ s'.1 = nI j)
    unfold fX9_thinnest_L4 fX10_thinnest_L4
    rw [p1, p3.k, p4.k, if_neg (le_f hk (by omega)), if_neg (le_f hk (by omega))]
    rcases hx with rfl | ⟨j, hj, rfl⟩
    · rw [if_pos rfl, if_pos (by decide), fX9_thinnest_L41, fX10_thinnest_L31, fX9_thinnest_L43, fX10_thinnest_L33]
      simp only [let_s, nI_1]
      exact ⟨_, rfl, rfl, rfl, .inr ⟨k, by omega, rfl⟩⟩
    · rw [if_neg (nI_nm (by omega)), if_neg (nI_pos (by omega)), sw_gd_t (in_t (show k < 5 by omega) (by decide)), sw_gd_t (in_t (show j < 5 by omega) (by decide)), sw_gd_t (in_t (show k < 10 by omega) (by decide)), sw_gd_t (in_t (show j < 10 by omega) (by decide)), nI_clamp (show k < 2 ^ 31 by omega), nI_clamp (show j < 2 ^ 31 by omega), hv k (by omega), hv j (by omega)]
      by_cases h : σ.1 65 j ≤ σ.1 65 k
      · rw [if_pos h, if_pos h, fX9_thinnest_L43, fX10_thinnest_L33]
        simp only [let_s, nI_1]
        exact ⟨_, rfl, rfl, rfl, .inr ⟨j, by omega, rfl⟩⟩
      · rw [if_neg h, if_neg h, fX9_thinnest_L41, fX10_thinnest_L31, fX9_thinnest_L43, fX10_thinnest_L33]
        simp only [let_s, nI_1]
        exact ⟨_, rfl, rfl, rfl, .inr ⟨k, by omega, rfl⟩⟩
  · obtain ⟨x, y⟩ := s
    obtain ⟨rfl, hx⟩ : y = nI K ∧ (x = -1 ∨ ∃ j, j < K ∧ x = nI j) := hI
    show ∃ r, fX9_thinnest_L4 σ x (nI K) = some (.inr r) ∧ fX10_thinnest_L4 σ x (nI K) = some (.inr r)
    unfold fX9_thinnest_L4 fX10_thinnest_L4
    rw [p1, p3.k, p4.k, if_pos (le_t K (by omega)), if_pos (le_t K (by omega))]
    exact ⟨_, rfl, rfl⟩
theorem k_heaviest (h : rel σ) : k_rr (fX9_heaviest σ) (fX10_heaviest σ) := by
  obtain ⟨P, K, N, R, Bn, z, mm, ww, r1, r2, r3⟩ := h
  obtain ⟨t, ht, t1, t2, t3⟩ := rl_told r2
  have hm := rl_m r1
  obtain ⟨p1, p2, p3, p4, ⟨p5, p6, p7⟩, p8⟩ := r1
  have h128 := Nat.lt_of_lt_of_le ht (pow7 p7)
  have hb : ∀ p, p < N → fX4_burden P σ (nI p) = fX10_mindOf σ (nI p) := by
    intro p hp
    rw [c_burden p3.k p3.k5 (by omega), e_mindOf p4.k p4.k5 (by omega), v_sum_cg (fun j hj => hm p j hp hj)]
  have he : ∀ p, p < N → ∃ x, fX10_mindOf σ (nI p) = some x := fun p hp => ⟨_, e_mindOf p4.k p4.k5 (by omega)⟩
  unfold fX9_heaviest fX10_heaviest
  refine wh_two (b := fun s : Int32 × Int32 => fX9_heaviest_L4 σ s.1 s.2) (c := fun s : Int32 × Int32 => fX10_heaviest_L4 σ s.1 s.2) (fun k s => s.2 = nI k ∧ (s.1 = -1 ∨ ∃ j, j < k ∧ s.1 = nI j)) N (fun k s hk hI => ?_) (fun s hI => ?_) (s0 := ((-1 : Int32), (0 : Int32))) ⟨rfl, .inl rfl⟩ (by omega)
  · obtain ⟨x, y⟩ := s
    obtain ⟨rfl, hx⟩ : y = nI k ∧ (x = -1 ∨ ∃ j, j < k ∧ x = nI j) := hI
    show ∃ s', fX9_heaviest_L4 σ x (nI k) = some (.inl s') ∧ fX10_heaviest_L4 σ x (nI k) = some (.inl s') ∧ s'.2 = nI (k + 1) ∧ (s'.1 = -1 ∨ ∃ j, j < k + 1 ∧ s'.1 = nI j)
    have hx' : x = -1 ∨ ∃ j, j < k + 1 ∧ x = nI j := by
      rcases hx with e | ⟨j, h1, h2⟩
      · exact .inl e
      · exact .inr ⟨j, by omega, h2⟩
    unfold fX9_heaviest_L4 fX10_heaviest_L4
    rw [p1, p5, p6, if_neg (le_f hk (by omega)), if_neg (le_f hk (by omega))]
    rcases sil_both p1 p5 t1 t2 p7 h128 hk with ⟨_, s1, s2⟩ | ⟨_, s1, s2⟩
    · rw [s1, s2, if_neg i10, if_pos rfl]
      rcases hx with rfl | ⟨j, hj, rfl⟩
      · rw [if_pos rfl, if_pos (by decide), fX9_heaviest_L50, fX10_heaviest_L37, fX9_heaviest_L52, fX10_heaviest_L39]
        simp only [let_s, nI_1]
        exact ⟨_, rfl, rfl, rfl, .inr ⟨k, by omega, rfl⟩⟩
      · obtain ⟨x1, e1⟩ := he k hk
        obtain ⟨x2, e2⟩ := he j (by omega)
        rw [if_neg (nI_nm (by omega)), if_neg (nI_pos (by omega)), hb k hk, hb j (by omega), e1, e2, b1_s, b1_s, b1_s, b1_s]
        by_cases h : x1 ≤ x2
        · rw [if_pos h, if_pos h, fX9_heaviest_L52, fX10_heaviest_L39]
          simp only [let_s, nI_1]
          exact ⟨_, rfl, rfl, rfl, hx'⟩
        · rw [if_neg h, if_neg h, fX9_heaviest_L50, fX10_heaviest_L37, fX9_heaviest_L52, fX10_heaviest_L39]
          simp only [let_s, nI_1]
          exact ⟨_, rfl, rfl, rfl, .inr ⟨k, by omega, rfl⟩⟩
    · rw [s1, s2, if_pos rfl, if_neg i10, fX9_heaviest_L52, fX10_heaviest_L39]
      simp only [let_s, nI_1]
      exact ⟨_, rfl, rfl, rfl, hx'⟩
  · obtain ⟨x, y⟩ := s
    obtain ⟨rfl, hx⟩ : y = nI N ∧ (x = -1 ∨ ∃ j, j < N ∧ x = nI j) := hI
    show ∃ r, fX9_heaviest_L4 σ x (nI N) = some (.inr r) ∧ fX10_heaviest_L4 σ x (nI N) = some (.inr r)
    unfold fX9_heaviest_L4 fX10_heaviest_L4
    rw [p1, p5, p6, if_pos (le_t N (by omega)), if_pos (le_t N (by omega))]
    exact ⟨_, rfl, rfl⟩
theorem bit4 : ∀ t, t < 16 → ∀ p, p < 4 → v_bit (nI t) p = 0 ∨ v_bit (nI t) p = 1 := by decide +kernel
theorem k_wanted (a : Int32) (h : rel σ) : k_rr (fX9_wanted σ a) (fX10_wanted σ a) := by
  obtain ⟨P, K, N, R, Bn, z, mm, ww, r1, r2, r3⟩ := h
  obtain ⟨t, ht, t1, t2⟩ := rl_eased r2
  have hm := rl_w r1
  obtain ⟨p1, p2, p3, p4, p5, ⟨p6, p7, p8⟩, p9⟩ := r1
  have hK := p3.k5
  unfold fX9_wanted fX10_wanted
  rw [p1, kind_c p3.k, kind_e p4.k p4.k5]
  by_cases h : (if a < 0 then (0 : Int32) else if nI K ≤ a then 0 else 1) = 0
  · rw [if_pos h, if_pos h]
    exact ⟨_, rfl, rfl⟩
  obtain ⟨j, hj, rfl⟩ := in_some (by omega) h
  rw [if_neg h, if_neg h]
  refine wh_two (b := fun s : Int32 × Int32 => fX9_wanted_L17 σ (nI j) s.1 s.2) (c := fun s : Int32 × Int32 => fX10_wanted_L14 σ (nI j) s.1 s.2) (fun k s => s.2 = nI k) Bn (fun k s hk hI => ?_) (fun s hI => ?_) (s0 := ((0 : Int32), (0 : Int32))) rfl (by omega)
  · obtain ⟨x, y⟩ := s
    obtain rfl : y = nI k := hI
    show ∃ s', fX9_wanted_L17 σ (nI j) x (nI k) = some (.inl s') ∧ fX10_wanted_L14 σ (nI j) x (nI k) = some (.inl s') ∧ s'.2 = nI (k + 1)
    unfold fX9_wanted_L17 fX10_wanted_L14
    rw [p1, p6, p7, if_neg (le_f hk (by omega)), if_neg (le_f hk (by omega)), ea_c t1, ea_e t2]
    by_cases e : v_bit (nI t) k = 1
    · rw [if_pos e, if_neg (by decide), if_neg (by decide), fX9_wanted_L48, fX10_wanted_L45]
      simp only [let_s, nI_1, Int32.add_zero]
      exact ⟨_, rfl, rfl, rfl⟩
    · rw [if_neg e, if_pos rfl, if_pos rfl, c_needs (by omega) (by omega), b1_s, let_s, fX9_wanted_L48, let_s, i54, sw_gd_t (in_t (show 5 * k + j < 20 by omega) (by decide)), fX10_wanted_L45]
      simp only [let_s, nI_1, nI_clamp (show 5 * k + j < 2 ^ 31 by omega), hm k j hk hj]
      exact ⟨_, rfl, rfl, rfl⟩
  · obtain ⟨x, y⟩ := s
    obtain rfl : y = nI Bn := hI
    show ∃ r, fX9_wanted_L17 σ (nI j) x (nI Bn) = some (.inr r) ∧ fX10_wanted_L14 σ (nI j) x (nI Bn) = some (.inr r)
    unfold fX9_wanted_L17 fX10_wanted_L14
    rw [p1, p6, p7, if_pos (le_t Bn (by omega)), if_pos (le_t Bn (by omega))]
    exact ⟨_, rfl, rfl⟩
theorem lack_n {w u : Nat → Int32} {m n : Nat → Nat} (hw : rep K w m) (hu : rep K u n) (hm : ∀ j, j < K → m j ≤ 999) (hn : ∀ j, j < K → n j ≤ 999) (hK : K ≤ 5) : ∃ x, x ≤ 4995 ∧ v_sum (fun k => fX10_greater 0 (w k - u k)) K = nI x := by
  have hr : rep K (fun k => fX10_greater 0 (w k - u k)) (fun k => m k - n k) := by
    intro j hj
    have h1 := hm j hj
    have h2 := hn j hj
    show fX10_greater 0 (w j - u j) = _
    rw [hw j hj, hu j hj, lack_nI (by omega) (by omega)]
  have hb := n_sum_b (n := fun k => m k - n k) (B := 999) (K := K) (fun j hj => by have := hm j hj; show m j - n j ≤ 999; omega)
  exact ⟨_, by omega, rep_sum hr⟩
theorem k_nearest (h : rel σ) : k_rr (fX9_nearest σ) (fX10_nearest σ) := by
  obtain ⟨P, K, N, R, Bn, z, mm, ww, r1, r2, r3⟩ := h
  obtain ⟨t, ht, t1, t2⟩ := rl_eased r2
  have hm := rl_w r1
  have hv := (rl_vv r2).1
  obtain ⟨t', ht', _, _, n, hn1, hn2, hn3⟩ := rl_told r2
  obtain ⟨p1, p2, p3, p4, p5, ⟨p6, p7, p8⟩, p9, p10, p11, p12⟩ := r1
  have hK := p3.k5
  have hl : ∀ q, q < Bn → ∃ x, x ≤ 4995 ∧ fX4_lacking P 28 σ (nI q) = some (nI x) ∧ fX10_lackOf σ (nI q) = some (nI x) := by
    intro q hq
    have hw : rep K (fun j => σ.1 (P + 5) (5 * q + j)) (fun j => ww (5 * q + j)) := fun j hj => (p11 q j hq hj).1
    have hu : rep K (σ.1 28) n := fun j hj => by
      have := hn1 j hj
      rw [ck_lo (by omega)] at this
      rw [hv j (by omega), this]
    obtain ⟨x, hx, e⟩ := lack_n (K := K) hw hu (fun j hj => by have := (p11 q j hq hj).2.2; show ww (5 * q + j) ≤ 999; omega) hn2 hK
    refine ⟨x, hx, ?_, ?_⟩
    · rw [c_lacking (K := K) rfl p3.k hK (by omega), e]
    · rw [e_lackOf (K := K) p4.k hK (by omega), ← e]
      congr 1
      exact v_sum_cg (fun j hj => by show fX10_greater 0 (σ.1 63 (5 * q + j) - σ.1 65 j) = fX10_greater 0 (σ.1 (P + 5) (5 * q + j) - σ.1 28 j); rw [hm q j hq hj, hv j (by omega)])
  unfold fX9_nearest fX10_nearest
  suffices main : ∃ x y, sw_wh sw_F (fun s : Int32 × Int32 × Int32 => fX9_nearest_L6 σ s.1 s.2.1 s.2.2) ((-1 : Int32), (0 : Int32), (0 : Int32)) = some x ∧ sw_wh sw_F (fun s : Int32 × Int32 => fX10_nearest_L4 σ s.1 s.2) ((-1 : Int32), (0 : Int32)) = some y ∧ x = y by
    obtain ⟨x, y, e1, e2, e3⟩ := main
    exact ⟨x, e1, by rw [e3]; exact e2⟩
  refine wh_rel (b := fun s : Int32 × Int32 × Int32 => fX9_nearest_L6 σ s.1 s.2.1 s.2.2) (c := fun s : Int32 × Int32 => fX10_nearest_L4 σ s.1 s.2) (fun k s t => s.2.2 = nI k ∧ t.2 = nI k ∧ s.1 = t.1 ∧ ((t.1 = -1 ∧ s.2.1 = 0) ∨ ∃ j, j < k ∧ t.1 = nI j ∧ fX10_lackOf σ (nI j) = some s.2.1)) (fun x y => x = y) Bn (fun k s t' hk hI => ?_) (s0 := ((-1 : Int32), (0 : Int32), (0 : Int32))) (t0 := ((-1 : Int32), (0 : Int32))) ⟨rfl, rfl, rfl, .inl ⟨rfl, rfl⟩⟩ (by omega)
  · obtain ⟨a1, a2, a3⟩ := s
    obtain ⟨b1, b2⟩ := t'
    obtain ⟨rfl, rfl, rfl, hx⟩ : a3 = nI k ∧ b2 = nI k ∧ a1 = b1 ∧ ((b1 = -1 ∧ a2 = 0) ∨ ∃ j, j < k ∧ b1 = nI j ∧ fX10_lackOf σ (nI j) = some a2) := hI
    by_cases hkB : k < Bn
    · refine .inl ?_
      show ∃ s' t', fX9_nearest_L6 σ a1 a2 (nI k) = some (.inl s') ∧ fX10_nearest_L4 σ a1 (nI k) = some (.inl t') ∧ (s'.2.2 = nI (k + 1) ∧ t'.2 = nI (k + 1) ∧ s'.1 = t'.1 ∧ ((t'.1 = -1 ∧ s'.2.1 = 0) ∨ ∃ j, j < k + 1 ∧ t'.1 = nI j ∧ fX10_lackOf σ (nI j) = some s'.2.1)) ∧ k < Bn
      obtain ⟨x, hx0, l1, l2⟩ := hl k hkB
      have hx' : (a1 = -1 ∧ a2 = 0) ∨ ∃ j, j < k + 1 ∧ a1 = nI j ∧ fX10_lackOf σ (nI j) = some a2 := by
        rcases hx with e | ⟨j, h1, h2, h3⟩
        · exact .inl e
        · exact .inr ⟨j, by omega, h2, h3⟩
      unfold fX9_nearest_L6 fX10_nearest_L4
      rw [p1, p6, p7, if_neg (le_f hkB (by omega)), if_neg (le_f hkB (by omega)), l1, b1_s, ea_c t1, ea_e t2]
      by_cases e : v_bit (nI t) k = 1
      · rw [if_pos e, if_neg (by decide), if_neg (by decide), fX9_nearest_L61, fX10_nearest_L39]
        simp only [let_s, nI_1]
        exact ⟨_, _, rfl, rfl, ⟨rfl, rfl, rfl, hx'⟩, hkB⟩
      · rw [if_neg e, if_pos rfl, if_pos rfl]
        rcases hx with ⟨rfl, rfl⟩ | ⟨j, hj, rfl, hj2⟩
        · rw [if_pos rfl, if_pos (by decide), fX10_nearest_L37, fX9_nearest_L56, fX9_nearest_L61, fX10_nearest_L39]
          simp only [let_s, nI_1]
          exact ⟨_, _, rfl, rfl, ⟨rfl, rfl, rfl, .inr ⟨k, by omega, rfl, l2⟩⟩, hkB⟩
        · have hj0 : ¬ nI j < 0 := nI_pos (by omega)
          have hj1 : ¬ nI j = -1 := fun e => hj0 (by rw [e]; decide)
          rw [if_neg hj1, if_neg hj0, l2, hj2, b1_s, b1_s]
          by_cases hlt : nI x < a2
          · rw [if_pos hlt, if_neg (Int32.not_le.mpr hlt), fX10_nearest_L37, fX9_nearest_L56, fX9_nearest_L61, fX10_nearest_L39]
            simp only [let_s, nI_1]
            exact ⟨_, _, rfl, rfl, ⟨rfl, rfl, rfl, .inr ⟨k, by omega, rfl, l2⟩⟩, hkB⟩
          · rw [if_neg hlt, if_pos (Int32.not_lt.mp hlt), fX9_nearest_L61, fX10_nearest_L39]
            simp only [let_s, nI_1]
            exact ⟨_, _, rfl, rfl, ⟨rfl, rfl, rfl, hx'⟩, hkB⟩
    · have ek : k = Bn := by omega
      refine .inr ⟨a1, a1, ?_, ?_, rfl⟩
      · show fX9_nearest_L6 σ a1 a2 (nI k) = _
        rw [fX9_nearest_L6, p1, p6, ek, if_pos (le_t Bn (by omega))]
      · show fX10_nearest_L4 σ a1 (nI k) = _
        rw [fX10_nearest_L4, p7, ek, if_pos (le_t Bn (by omega))]
end KB
