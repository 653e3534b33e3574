/-! serve -/
def v_need (ω : Nat → Int32) (s : Int32) (k : Nat) : Nat → Int32
  | 0 => 0
  | b + 1 => if v_bit s b = 1 then v_need ω s k b + ω (5 * b + k) else v_need ω s k b
theorem need_cg {ω ω' : Nat → Int32} {s : Int32} {k Bn : Nat} (h : ∀ b, b < Bn → ω' (5 * b + k) = ω (5 * b + k)) : ∀ b, b ≤ Bn → v_need ω' s k b = v_need ω s k b
  | 0, _ => rfl
  | b + 1, hb => by
    rw [v_need, v_need, need_cg h b (by omega), h b (by omega)]
def v_can (ω u : Nat → Int32) (s : Int32) (Bn : Nat) : Nat → Int32
  | 0 => 1
  | k + 1 => if v_can ω u s Bn k = 0 then 0 else if u k < v_need ω s k Bn then 0 else 1
theorem can01 {ω u : Nat → Int32} {s : Int32} {Bn : Nat} : ∀ k, v_can ω u s Bn k = 0 ∨ v_can ω u s Bn k = 1
  | 0 => .inr rfl
  | k + 1 => by
    rw [v_can]
    split
    · exact .inl rfl
    · split
      · exact .inl rfl
      · exact .inr rfl
theorem can_0 {ω u : Nat → Int32} {s : Int32} {Bn k : Nat} (h : v_can ω u s Bn k = 0) : ∀ d, v_can ω u s Bn (k + d) = 0
  | 0 => h
  | d + 1 => by
    show v_can ω u s Bn ((k + d) + 1) = 0
    rw [v_can, if_pos (can_0 h d)]
theorem can_cg {ω ω' u u' : Nat → Int32} {s : Int32} {Bn K : Nat} (h : ∀ b k, b < Bn → k < K → ω' (5 * b + k) = ω (5 * b + k)) (hu : ∀ k, k < K → u' k = u k) : ∀ k, k ≤ K → v_can ω' u' s Bn k = v_can ω u s Bn k
  | 0, _ => rfl
  | k + 1, hk => by
    rw [v_can, v_can, can_cg h hu k (by omega), hu k (by omega), need_cg (fun b hb => h b k hb (by omega)) Bn (Nat.le_refl Bn)]
theorem srv_and : ∀ Bn, Bn < 5 → ∀ e, e < 2 ^ Bn → ∀ s, s < 2 ^ Bn → (nI s &&& nI e = 0 ↔ nI s &&& (nI (2 ^ Bn - 1 - e) ^^^ (-1)) = 0) := by decide +kernel
theorem srv_hi : ∀ Bn, Bn < 5 → ∀ e, e < 2 ^ Bn → ∀ s, s < 2 ^ Bn → 2 ^ Bn - 1 - e < s → ¬ nI s &&& nI e = 0 := by decide +kernel
theorem srv_sh : ∀ Bn, Bn < 5 → (1 : Int32) <<< (nI Bn &&& 31) = nI (2 ^ Bn) := by decide +kernel
def w_srv (ω u : Nat → Int32) (e K Bn : Nat) : Nat → Nat
  | 0 => 0
  | s + 1 => if nI (s + 1) &&& nI e = 0 then (if fJ6_bitCount_0f7a4 (nI (s + 1)) ≤ fJ6_bitCount_0f7a4 (nI (w_srv ω u e K Bn s)) then w_srv ω u e K Bn s else if v_can ω u (nI (s + 1)) Bn K = 0 then w_srv ω u e K Bn s else s + 1) else w_srv ω u e K Bn s
theorem srv_le {ω u : Nat → Int32} {e K Bn : Nat} : ∀ s, w_srv ω u e K Bn s ≤ s
  | 0 => Nat.le_refl 0
  | s + 1 => by
    have ih := srv_le (ω := ω) (u := u) (e := e) (K := K) (Bn := Bn) s
    rw [w_srv]
    split
    · split
      · omega
      · split <;> omega
    · omega
section KS
variable {σ : sw_M} {P K N R Bn z : Nat} {mm ww : Nat → Nat}
theorem c_can {s : Int32} (hKm : σ.1 P 0 = nI K) (hK : K ≤ 5) (hBm : σ.1 P 3 = nI Bn) (hB : Bn ≤ 4) : fX4_canServe P 28 σ s = some (v_can (σ.1 (P + 5)) (σ.1 28) s Bn K) := by
  have hin : ∀ k, k < K → sw_wh sw_F (fun q : Int32 × Int32 => fX4_canServe_L16 P 28 σ s (nI k) q.1 q.2) (0, 0) = some (if v_need (σ.1 (P + 5)) s k Bn ≤ σ.1 28 k then .inl (nI (k + 1)) else .inr 0) := by
    intro k hk
    refine wh_runs (b := fun q : Int32 × Int32 => fX4_canServe_L16 P 28 σ s (nI k) q.1 q.2) (fun b => (v_need (σ.1 (P + 5)) s k b, nI b)) Bn rfl (fun b hb => ?_) ?_ (by omega)
    · show fX4_canServe_L16 P 28 σ s (nI k) (v_need (σ.1 (P + 5)) s k b) (nI b) = some (.inl (v_need (σ.1 (P + 5)) s k (b + 1), nI (b + 1)))
      unfold fX4_canServe_L16
      rw [hBm, if_neg (le_f hb (by omega)), v_need]
      by_cases h : v_bit s b = 1
      · have h' : (s >>> (nI b &&& 31)) &&& 1 = 1 := h
        rw [if_pos h', if_pos h, c_needs (by omega) (by omega), b1_s, let_s, fX4_canServe_L47, let_s, nI_1]
      · have h' : ¬ (s >>> (nI b &&& 31)) &&& 1 = 1 := h
        rw [if_neg h', if_neg h, fX4_canServe_L47, let_s, nI_1]
    · show fX4_canServe_L16 P 28 σ s (nI k) (v_need (σ.1 (P + 5)) s k Bn) (nI Bn) = _
      unfold fX4_canServe_L16
      rw [hBm, if_pos (le_t Bn (by omega)), sw_gd_t (in_t (n := (sw_s 28).2) (show k < 5 by omega) (by decide)), nI_clamp (by omega), let_s, nI_1]
      split <;> rfl
  unfold fX4_canServe
  suffices main : ∃ t, sw_wh sw_F (fun q : Int32 => fX4_canServe_L2 P 28 σ s q) 0 = some t ∧ t = v_can (σ.1 (P + 5)) (σ.1 28) s Bn K by
    obtain ⟨t, h1, h2⟩ := main
    rw [h1, h2]
  refine wh_gen (b := fun q : Int32 => fX4_canServe_L2 P 28 σ s q) (fun k q => q = nI k ∧ v_can (σ.1 (P + 5)) (σ.1 28) s Bn k = 1) (fun t => t = v_can (σ.1 (P + 5)) (σ.1 28) s Bn K) K (fun k q hk hI => ?_) ⟨rfl, rfl⟩ (F_big (by omega))
  obtain ⟨rfl, hc⟩ := hI
  show (∃ s', fX4_canServe_L2 P 28 σ s (nI k) = some (.inl s') ∧ (s' = nI (k + 1) ∧ v_can (σ.1 (P + 5)) (σ.1 28) s Bn (k + 1) = 1) ∧ k < K) ∨ (∃ t, fX4_canServe_L2 P 28 σ s (nI k) = some (.inr t) ∧ t = v_can (σ.1 (P + 5)) (σ.1 28) s Bn K)
  unfold fX4_canServe_L2
  by_cases hkK : k < K
  · rw [hKm, if_neg (le_f hkK (by omega)), hin k hkK]
    have h1 : ¬ v_can (σ.1 (P + 5)) (σ.1 28) s Bn k = 0 := by rw [hc]; decide
    by_cases hle : v_need (σ.1 (P + 5)) s k Bn ≤ σ.1 28 k
    · rw [if_pos hle]
      exact .inl ⟨_, rfl, ⟨rfl, by rw [v_can, if_neg h1, if_neg (Int32.not_lt.mpr hle)]⟩, hkK⟩
    · rw [if_neg hle]
      refine .inr ⟨_, rfl, ?_⟩
      have h2 : v_can (σ.1 (P + 5)) (σ.1 28) s Bn (k + 1) = 0 := by rw [v_can, if_neg h1, if_pos (Int32.not_le.mp hle)]
      have := can_0 h2 (K - (k + 1))
      rw [show k + 1 + (K - (k + 1)) = K by omega] at this
      exact this.symm
  · have ek : k = K := by omega
    rw [hKm, ek, if_pos (le_t K (by omega))]
    rw [ek] at hc
    exact .inr ⟨_, rfl, hc.symm⟩
theorem e_can {s a1 a2 a3 : Int32} (hKm : σ.1 49 40 = nI K) (hK : K ≤ 5) (hBm : σ.1 49 42 = nI Bn) (hB : Bn ≤ 4) : sw_wh sw_F (fun q : Int32 × Int32 => fX10_serve_L71 σ a1 a2 a3 s q.1 q.2) (1, 0) = some (.inl ((if v_can (σ.1 63) (σ.1 65) s Bn K = 0 then a3 else s), s + 1)) := by
  have hin : ∀ k c, k < K → (c = 0 ∨ c = 1) → sw_wh sw_F (fun q : Int32 × Int32 => fX10_serve_L86 σ a1 a2 a3 s c (nI k) q.1 q.2) (0, 0) = some (.inl ((if c = 0 then 0 else if σ.1 65 k < v_need (σ.1 63) s k Bn then 0 else 1), nI (k + 1))) := by
    intro k c hk h01
    refine wh_runs (b := fun q : Int32 × Int32 => fX10_serve_L86 σ a1 a2 a3 s c (nI k) q.1 q.2) (fun b => (v_need (σ.1 63) s k b, nI b)) Bn rfl (fun b hb => ?_) ?_ (by omega)
    · show fX10_serve_L86 σ a1 a2 a3 s c (nI k) (v_need (σ.1 63) s k b) (nI b) = some (.inl (v_need (σ.1 63) s k (b + 1), nI (b + 1)))
      unfold fX10_serve_L86
      rw [hBm, if_neg (le_f hb (by omega)), v_need]
      by_cases h : v_bit s b = 1
      · have h' : (s >>> (nI b &&& 31)) &&& 1 = 1 := h
        rw [if_pos h', if_pos h, i54, sw_gd_t (in_t (show 5 * b + k < 20 by omega) (by decide)), nI_clamp (by omega), fX10_serve_L124, let_s, let_s, nI_1]
      · have h' : ¬ (s >>> (nI b &&& 31)) &&& 1 = 1 := h
        rw [if_neg h', if_neg h, fX10_serve_L124, let_s, let_s, nI_1, Int32.add_zero]
    · show fX10_serve_L86 σ a1 a2 a3 s c (nI k) (v_need (σ.1 63) s k Bn) (nI Bn) = _
      unfold fX10_serve_L86
      rw [hBm, if_pos (le_t Bn (by omega)), sw_gd_t (in_t (show k < 10 by omega) (by decide)), nI_clamp (by omega), fX10_serve_L154, fX10_serve_L155, fX10_serve_L155, let_s, let_s, nI_1, sw_up_s, sw_up_s]
      by_cases h0 : c = 0
      · rw [if_pos h0, if_pos h0]
      · rw [if_neg h0, if_neg h0]
        split <;> rfl
  refine wh_runs (b := fun q : Int32 × Int32 => fX10_serve_L71 σ a1 a2 a3 s q.1 q.2) (fun k => (v_can (σ.1 63) (σ.1 65) s Bn k, nI k)) K rfl (fun k hk => ?_) ?_ (by omega)
  · show fX10_serve_L71 σ a1 a2 a3 s (v_can (σ.1 63) (σ.1 65) s Bn k) (nI k) = some (.inl (v_can (σ.1 63) (σ.1 65) s Bn (k + 1), nI (k + 1)))
    unfold fX10_serve_L71
    rw [hKm, if_neg (le_f hk (by omega)), hin k _ hk (can01 k), v_can]
  · show fX10_serve_L71 σ a1 a2 a3 s (v_can (σ.1 63) (σ.1 65) s Bn K) (nI K) = _
    unfold fX10_serve_L71
    rw [hKm, if_pos (le_t K (by omega)), fX10_serve_L171, fX10_serve_L171, let_s, let_s, sw_up_s, sw_up_s]
    split <;> rfl
theorem k_serve (a : Int32) (h : rel σ) : k_rr (fX9_serve σ a) (fX10_serve σ a) := by
  obtain ⟨P, K, N, R, Bn, z, mm, ww, r1, r2, r3⟩ := h
  obtain ⟨e, he, t1, t2⟩ := rl_eased r2
  have hm := rl_w r1
  have hv := (rl_vv r2).1
  obtain ⟨p1, p2, p3, p4, p5, ⟨p6, p7, p8⟩, p9⟩ := r1
  have hK := p3.k5
  have h16 := pow4 p8
  have ia := isIn_n 1 (by decide) a 1 rfl
  by_cases ha : (if a < 0 then (0 : Int32) else if nI (1 + 1) ≤ a then 0 else 1) = 0
  · refine ⟨-1, ?_, by rw [fX10_serve, ia, if_pos ha]⟩
    rw [fX9_serve]
    rcases no01 ha with e1 | ⟨e1, e2⟩
    · rw [if_pos e1]
    · rw [if_neg e1, if_neg e2]
  obtain ⟨i, hi, rfl⟩ := in_some (K := 1 + 1) (by decide) ha
  have i1 : nI i ≤ 1 := nI_le (b := 1) (by omega) (by decide)
  obtain ⟨w, hw⟩ : ∃ w : Nat → Nat, w = w_srv (σ.1 (P + 5)) (σ.1 28) e K Bn := ⟨_, rfl⟩
  have hwl : ∀ s, w s ≤ s := fun s => by rw [hw]; exact srv_le s
  have wS : ∀ s, w (s + 1) = if nI (s + 1) &&& nI e = 0 then (if fJ6_bitCount_0f7a4 (nI (s + 1)) ≤ fJ6_bitCount_0f7a4 (nI (w s)) then w s else if v_can (σ.1 (P + 5)) (σ.1 28) (nI (s + 1)) Bn K = 0 then w s else s + 1) else w s := fun s => by rw [hw, w_srv]
  have hpos : 0 < 2 ^ Bn := Nat.two_pow_pos Bn
  have hc : sw_wh sw_F (fun s : Int32 × Int32 => fX9_serve_L15 σ (nI i) s.1 s.2) (0, 1) = some (fX9_countOrBits (nI (w (2 ^ Bn - 1))) (nI i)) := by
    refine wh_runs (b := fun s : Int32 × Int32 => fX9_serve_L15 σ (nI i) s.1 s.2) (fun k => (nI (w k), nI (k + 1))) (2 ^ Bn - 1) (by rw [hw]; rfl) (fun k hk => ?_) ?_ (by omega)
    · show fX9_serve_L15 σ (nI i) (nI (w k)) (nI (k + 1)) = some (.inl (nI (w (k + 1)), nI (k + 1 + 1)))
      have hk2 : k + 1 < 2 ^ Bn := by omega
      have hwk := hwl k
      unfold fX9_serve_L15
      rw [p1, p6, srv_sh Bn (by omega), if_neg (le_f hk2 (by omega)), t1, fewer_n (by omega), c_can p3.k hK p6 p8, b1_s, fX9_serve_L71, fX9_serve_L71, let_s, nI_1, wS]
      by_cases h1 : nI (k + 1) &&& nI e = 0
      · rw [if_pos h1, if_pos h1]
        by_cases h2 : fJ6_bitCount_0f7a4 (nI (k + 1)) ≤ fJ6_bitCount_0f7a4 (nI (w k))
        · rw [if_pos h2, if_pos h2, if_pos rfl]
        · rw [if_neg h2, if_neg h2, if_neg i10]
          split <;> rfl
      · rw [if_neg h1, if_neg h1]
    · show fX9_serve_L15 σ (nI i) (nI (w (2 ^ Bn - 1))) (nI (2 ^ Bn - 1 + 1)) = _
      unfold fX9_serve_L15
      rw [p1, p6, srv_sh Bn (by omega), Nat.sub_add_cancel hpos, if_pos (le_t _ (by omega))]
  have hsame : ∀ d, 2 ^ Bn - 1 - e + d ≤ 2 ^ Bn - 1 → w (2 ^ Bn - 1 - e + d) = w (2 ^ Bn - 1 - e) := by
    intro d
    induction d with
    | zero => intro _; rfl
    | succ d ih =>
      intro hd
      show w (2 ^ Bn - 1 - e + d + 1) = _
      rw [wS, if_neg (srv_hi Bn (by omega) e he (2 ^ Bn - 1 - e + d + 1) (by omega) (by omega)), ih (by omega)]
  have hsame2 : w (2 ^ Bn - 1) = w (2 ^ Bn - 1 - e) := by
    have := hsame e (by omega)
    rw [show 2 ^ Bn - 1 - e + e = 2 ^ Bn - 1 by omega] at this
    exact this
  obtain ⟨S, hS⟩ : ∃ S, S = 2 ^ Bn - 1 - e := ⟨_, rfl⟩
  have hSl : S < 2 ^ Bn := by omega
  have hmay : ((1 : Int32) <<< ((nI Bn) &&& 31) - 1) &&& (nI e ^^^ (-1)) = nI S := by
    rw [hS]
    exact silent_n Bn (by omega) e he
  have hee : sw_wh sw_F (fun s : Int32 × Int32 => fX10_serve_L35 σ (nI i) (nI S) s.1 s.2) (0, 1) = some (if nI i = 0 then fJ6_bitCount_0f7a4 (nI (w S)) else nI (w S)) := by
    refine wh_runs (b := fun s : Int32 × Int32 => fX10_serve_L35 σ (nI i) (nI S) s.1 s.2) (fun k => (nI (w k), nI (k + 1))) S (by rw [hw]; rfl) (fun k hk => ?_) ?_ (by omega)
    · show fX10_serve_L35 σ (nI i) (nI S) (nI (w k)) (nI (k + 1)) = some (.inl (nI (w (k + 1)), nI (k + 1 + 1)))
      have hnl : ¬ nI S < nI (k + 1) := nI_nlt (by omega) (by omega)
      have hwk := hwl k
      have hcan : v_can (σ.1 63) (σ.1 65) (nI (k + 1)) Bn K = v_can (σ.1 (P + 5)) (σ.1 28) (nI (k + 1)) Bn K := can_cg (K := K) (fun b q hb hq => (hm b q hb hq).symm) (fun q hq => (hv q (by omega)).symm) K (Nat.le_refl K)
      have hiff := srv_and Bn (by omega) e he (k + 1) (by omega)
      rw [← hS] at hiff
      unfold fX10_serve_L35
      rw [if_neg hnl, bits_e (show k + 1 < 128 by omega), bits_e (show w k < 128 by omega), b1_s, b1_s, e_can p4.k hK p7 p8, hcan, fX10_serve_L171, let_s, nI_1, wS]
      by_cases h1 : nI (k + 1) &&& nI e = 0
      · rw [if_pos (hiff.mp h1), if_pos h1]
        by_cases h2 : fJ6_bitCount_0f7a4 (nI (k + 1)) ≤ fJ6_bitCount_0f7a4 (nI (w k))
        · rw [if_neg (Int32.not_lt.mpr h2), if_pos h2]
        · rw [if_pos (Int32.not_le.mp h2), if_neg h2]
          split <;> rfl
      · rw [if_neg (fun h => h1 (hiff.mpr h)), if_neg h1]
    · show fX10_serve_L35 σ (nI i) (nI S) (nI (w S)) (nI (S + 1)) = _
      have hlt : nI S < nI (S + 1) := nI_lt (by omega) (by omega)
      have hwk := hwl S
      unfold fX10_serve_L35
      rw [if_pos hlt, bits_e (show w S < 128 by omega), b1_s]
      split <;> rfl
  refine ⟨fX9_countOrBits (nI (w (2 ^ Bn - 1))) (nI i), ?_, ?_⟩
  · rw [fX9_serve, if_neg (nI_pos (by omega)), if_pos i1, hc]
  · have hwk := hwl S
    rw [fX10_serve, ia, if_neg ha, p7, t2, let_s, hmay, hee, hsame2, ← hS, fX9_countOrBits, if_neg (nI_nm (by omega))]
end KS
