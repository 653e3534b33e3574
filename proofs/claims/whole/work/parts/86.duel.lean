/-! duel -/
theorem age_ww {σ τ : sw_M} {a k : Nat} {x : Int32} (h : age σ τ) (ha : τ.1 a = σ.1 a) : age (sw_w σ a k x) (sw_w τ a k x) := by
  refine ⟨h.1, fun b h1 h2 h3 h4 h5 h6 h7 h8 h9 h10 => ?_⟩
  by_cases e : b = a
  · subst e
    rw [m_w, m_w, m_eq, m_eq, ha]
  · rw [m_wne e, m_wne e]
    exact h.2 b h1 h2 h3 h4 h5 h6 h7 h8 h9 h10
theorem agc_ww {σ τ : sw_M} {P a k : Nat} {x : Int32} (h : agc P σ τ) (ha : τ.1 a = σ.1 a) : agc P (sw_w σ a k x) (sw_w τ a k x) := by
  refine ⟨h.1, fun b h1 h2 h3 h4 h5 h6 => ?_⟩
  by_cases e : b = a
  · subst e
    rw [m_w, m_w, m_eq, m_eq, ha]
  · rw [m_wne e, m_wne e]
    exact h.2 b h1 h2 h3 h4 h5 h6
def wh4 (p q k : Nat) : Nat := (k / 2) * 2 ^ p + (k % 2) * 2 ^ q
theorem wh4_c : ∀ p, p < 7 → ∀ q, q < 7 → p ≠ q → ∀ k, k < 4 → ((nI k >>> (1 &&& 31)) <<< (nI p &&& 31)) ||| ((nI k &&& 1) <<< (nI q &&& 31)) = nI (wh4 p q k) := by decide +kernel
theorem wh4_e : ∀ p, p < 7 → ∀ q, q < 7 → p ≠ q → ∀ k, k < 4 → ((nI k / 2) <<< (nI p &&& 31)) ||| ((nI k - nI k / 2 * 2) <<< (nI q &&& 31)) = nI (wh4 p q k) := by decide +kernel
theorem wh4_b : ∀ N, N < 8 → ∀ p, p < N → ∀ q, q < N → p ≠ q → ∀ k, k < 4 → wh4 p q k < 2 ^ N := by decide +kernel
def d_ris (w : Nat → Int32) : Nat → Int32
  | 0 => 0
  | k + 1 => if w k = 0 then d_ris w k else d_ris w k ||| ((1 : Int32) <<< (nI k &&& 31))
theorem d_bit (w : Nat → Int32) : ∀ k, k < 4 → (((d_ris w 4 >>> (nI k &&& 31)) &&& 1 = 1) ↔ ¬ w k = 0) := by
  intro k hk
  by_cases h0 : w 0 = 0 <;> by_cases h1 : w 1 = 0 <;> by_cases h2 : w 2 = 0 <;> by_cases h3 : w 3 = 0 <;>
  · simp only [d_ris, h0, h1, h2, h3, if_true, if_false]
    rcases (show k = 0 ∨ k = 1 ∨ k = 2 ∨ k = 3 by omega) with rfl | rfl | rfl | rfl <;> simp only [h0, h1, h2, h3, not_true, not_false_iff, iff_true, iff_false] <;> decide
def d_g1 (w : Nat → Int32) (B : Int32) (k : Nat) : Int32 := if w k = 0 then (if k / 2 = 0 then 0 else B) else -5
def d_g2 (w : Nat → Int32) (B : Int32) (k : Nat) : Int32 := if w k = 0 then (if k % 2 = 0 then 0 else B) else -5
theorem k_and2 : ∀ k, k < 4 → ((nI k &&& 2 = 0) ↔ k / 2 = 0) ∧ ((nI k &&& 1 = 0) ↔ k % 2 = 0) ∧ nI k ^^^ 2 = nI ((k + 2) % 4) ∧ nI k ^^^ 1 = nI (k / 2 * 2 + 1 - k % 2) ∧ (k + 2) % 4 < 4 ∧ k / 2 * 2 + 1 - k % 2 < 4 := by decide
theorem gain1 {w : Nat → Int32} {B : Int32} {k : Nat} (hk : k < 4) : fX3_gain (d_ris w 4) (nI k) 2 B = d_g1 w B k := by
  have hb := d_bit w k hk
  have ha := (k_and2 k hk).1
  unfold fX3_gain d_g1
  by_cases h : w k = 0
  · rw [if_neg (fun e => hb.mp e h), if_pos h]
    by_cases h2 : k / 2 = 0
    · rw [if_pos (ha.mpr h2), if_pos h2]
    · rw [if_neg (fun e => h2 (ha.mp e)), if_neg h2]
  · rw [if_pos (hb.mpr h), if_neg h]
theorem gain2 {w : Nat → Int32} {B : Int32} {k : Nat} (hk : k < 4) : fX3_gain (d_ris w 4) (nI k) 1 B = d_g2 w B k := by
  have hb := d_bit w k hk
  have ha := (k_and2 k hk).2.1
  unfold fX3_gain d_g2
  by_cases h : w k = 0
  · rw [if_neg (fun e => hb.mp e h), if_pos h]
    by_cases h2 : k % 2 = 0
    · rw [if_pos (ha.mpr h2), if_pos h2]
    · rw [if_neg (fun e => h2 (ha.mp e)), if_neg h2]
  · rw [if_pos (hb.mpr h), if_neg h]
def d_st (w : Nat → Int32) (B C : Int32) (k : Nat) : Int32 := if d_g1 w B k < d_g1 w B ((k + 2) % 4) then 0 else if d_g2 w C k < d_g2 w C (k / 2 * 2 + 1 - k % 2) then 0 else 1
theorem d_ris_cg {w w' : Nat → Int32} (h : ∀ k, k < 4 → (w' k = 0 ↔ w k = 0)) : ∀ k, k ≤ 4 → d_ris w' k = d_ris w k
  | 0, _ => rfl
  | k + 1, hk => by
    rw [d_ris, d_ris, d_ris_cg h k (by omega)]
    have := h k (by omega)
    by_cases e : w k = 0
    · rw [if_pos e, if_pos (this.mpr e)]
    · rw [if_neg e, if_neg (fun x => e (this.mp x))]
def d_cnt (s : Nat → Int32) : Nat → Nat
  | 0 => 0
  | k + 1 => if s k = 0 then d_cnt s k else d_cnt s k + 1
def d_fst (s : Nat → Int32) : Nat → Nat
  | 0 => 0
  | k + 1 => if s k = 0 then d_fst s k else if d_cnt s k = 0 then k else d_fst s k
theorem cnt_le (s : Nat → Int32) : ∀ k, d_cnt s k ≤ k
  | 0 => Nat.le_refl 0
  | k + 1 => by
    have := cnt_le s k
    rw [d_cnt]
    split <;> omega
/-- four yes or no: what the bits say -/
theorem d_all (s : Nat → Int32) : (d_ris s 4 = 0 ↔ d_cnt s 4 = 0) ∧ (¬ d_cnt s 4 = 0 → fJ6_bitCount_0f7a4 (d_ris s 4) = nI (d_cnt s 4) ∧ fJ6_numberOfTrailingZeros_0f7a4 (d_ris s 4) >>> (1 &&& 31) = nI (d_fst s 4) / 2 ∧ fJ6_numberOfTrailingZeros_0f7a4 (d_ris s 4) &&& 1 = nI (d_fst s 4) - nI (d_fst s 4) / 2 * 2) := by
  by_cases h0 : s 0 = 0 <;> by_cases h1 : s 1 = 0 <;> by_cases h2 : s 2 = 0 <;> by_cases h3 : s 3 = 0 <;>
  · simp only [d_ris, d_cnt, d_fst, h0, h1, h2, h3, if_true, if_false]
    decide
theorem e2r : ∀ k, k < 4 → (nI k + 2) - (nI k + 2) / 4 * 4 = nI ((k + 2) % 4) ∧ ((nI k / 2) * 2 + 1) - (nI k - nI k / 2 * 2) = nI (k / 2 * 2 + 1 - k % 2) := by decide
section KD
variable {σ τ : sw_M} {P K N R Bn z : Nat} {mm ww : Nat → Nat}
theorem e_with_at2 {m : sw_M} {t B : Nat} (r1 : rl_p σ P K N R Bn z mm ww) (h3 : nv K B (ck (σ.1 65))) (h : agc P σ τ) (h' : age τ m) (ht : t < 2 ^ N) : ∃ m', fX10_risesWith m (nI t) = some (v_isOut K R z 0 (σ.1 (P + 6)) (σ.1 (P + 8)) 0 (v_told K (σ.1 (P + 4)) (nI t) N (ck (σ.1 65))), m') ∧ age τ m' ∧ m'.1 71 = m.1 71 ∧ m'.1 72 = m.1 72 := by
  have hP := rl_isP r1
  obtain ⟨g, f, e1, e2, e3, e4⟩ := e_tell_at (m := m) (t := t) r1 h h' ht
  have ha : age τ (sw_wA m 66 f) := h'.tr (age_w (.inr (.inr (.inl rfl))))
  obtain ⟨f', a, st, b1, b2⟩ := e_boiled' (τ := sw_wA m 66 f) (sc := 0) (B := B + n_burs mm K (nI t) N) (rl_p_age (rl_p_agc r1 h) ha) (by rw [m_eq, e3]; exact nv_told_at r1 h3)
  have x6 : (sw_wA m 66 f).1 (P + 6) = σ.1 (P + 6) := (age_P hP ha (by decide)).trans (agc_P hP h (by decide))
  have x8 : (sw_wA m 66 f).1 (P + 8) = σ.1 (P + 8) := (age_P hP ha (by decide)).trans (agc_P hP h (by decide))
  rw [x6, x8, isOut_sc, m_eq, e3] at b1
  refine ⟨sw_wA (sw_wA (sw_wA (sw_wA m 66 f) 58 a) 57 st) 66 f', ?_, ha.tr ((age_w (.inr (.inl rfl))).tr ((age_w (.inl rfl)).tr (age_w (.inr (.inr (.inl rfl)))))), rfl, rfl⟩
  · unfold fX10_risesWith
    rw [e1, b1_s, e2, b1_s, b1, b2_s, sw_gd_t]
    rcases (isOut01 (K := K) (R := R) (z := z) (scum := 0) (ρ := σ.1 (P + 6)) (prog := σ.1 (P + 8)) (sc := 0) (u := v_told K (σ.1 (P + 4)) (nI t) N (ck (σ.1 65)))) with e | e
    · rw [e]; decide
    · rw [e]; decide
/-- whether it would be out -/
def d_w (σ : sw_M) (P K N R z p q : Nat) (k : Nat) : Int32 := v_isOut K R z 0 (σ.1 (P + 6)) (σ.1 (P + 8)) 0 (v_told K (σ.1 (P + 4)) (nI (wh4 p q k)) N (ck (σ.1 65)))
def d_b (σ : sw_M) (P K p : Nat) : Int32 := v_sum (fun k => σ.1 (P + 4) (5 * p + k)) K
theorem c_duel {p q : Nat} (r1 : rl_p σ P K N R Bn z mm ww) (r2 : rl_v σ K N Bn mm) (hp : p < N) (hq : q < N) (hpq : p ≠ q) : ∃ m, fX3_duelRests P 27 σ (nI p) (nI q) = some (d_ris (d_st (d_w σ P K N R z p q) (d_b σ P K p) (d_b σ P K q)) 4, m) ∧ agc P σ m := by
  have hP := rl_isP r1
  obtain ⟨p1, p2, p3, p4, ⟨p5, p6, p7⟩, p8⟩ := id r1
  have hK := p3.k5
  obtain ⟨w, hw⟩ : ∃ w, w = d_w σ P K N R z p q := ⟨_, rfl⟩
  obtain ⟨B, hB⟩ : ∃ B, B = d_b σ P K p := ⟨_, rfl⟩
  obtain ⟨C, hC⟩ : ∃ C, C = d_b σ P K q := ⟨_, rfl⟩
  rw [← hw, ← hB, ← hC]
  unfold fX3_duelRests
  suffices main : ∃ t, sw_wh sw_F (fun s : Int32 × Int32 × sw_M => fX3_duelRests_L6 P 27 s.2.2 (nI p) (nI q) s.1 s.2.1) (0, 0, σ) = some t ∧ t.1 = d_ris (d_st w B C) 4 ∧ agc P σ t.2 by
    obtain ⟨⟨t1, t2⟩, h1, h2, h3⟩ := main
    exact ⟨t2, by rw [h1, ← h2], h3⟩
  refine wh_gen (b := fun s : Int32 × Int32 × sw_M => fX3_duelRests_L6 P 27 s.2.2 (nI p) (nI q) s.1 s.2.1) (fun k s => s.1 = d_ris w k ∧ s.2.1 = nI k ∧ agc P σ s.2.2) (fun t => t.1 = d_ris (d_st w B C) 4 ∧ agc P σ t.2) 4 (fun k s hk hI => ?_) ⟨rfl, rfl, agc.rf⟩ (F_big (by decide))
  obtain ⟨x, y, m⟩ := s
  obtain ⟨rfl, rfl, hm⟩ : x = d_ris w k ∧ y = nI k ∧ agc P σ m := hI
  show (∃ s', fX3_duelRests_L6 P 27 m (nI p) (nI q) (d_ris w k) (nI k) = some (.inl s') ∧ (s'.1 = d_ris w (k + 1) ∧ s'.2.1 = nI (k + 1) ∧ agc P σ s'.2.2) ∧ k < 4) ∨ (∃ t, fX3_duelRests_L6 P 27 m (nI p) (nI q) (d_ris w k) (nI k) = some (.inr t) ∧ (t.1 = d_ris (d_st w B C) 4 ∧ agc P σ t.2))
  unfold fX3_duelRests_L6
  by_cases hk4 : k < 4
  · have hnl : ¬ (4 : Int32) ≤ nI k := nI_ge (b := 4) (by omega) (by decide)
    have hb := wh4_b N (by omega) p hp q hq hpq k hk4
    obtain ⟨m', g1, g2⟩ := c_rise_at (most := 1) (t := wh4 p q k) r1 r2 hm (Nat.lt_of_lt_of_le hb (pow7 p7)) (by decide)
    rw [w_ris1] at g1
    have hwk : w k = v_isOut K R z 0 (σ.1 (P + 6)) (σ.1 (P + 8)) 0 (v_told K (σ.1 (P + 4)) (nI (wh4 p q k)) N (ck (σ.1 65))) := by rw [hw]; rfl
    rw [← hwk] at g1
    have g1' : fX3_riseIf P 27 m (nI (wh4 p q k)) 1 = some ((if w k = 0 then -1 else nI 1), m') := g1
    rw [if_neg hnl, wh4_c p (by omega) q (by omega) hpq k hk4, let_s, g1', b2_s, d_ris]
    by_cases e : w k = 0
    · rw [if_pos e, if_pos e, if_pos rfl, fX3_duelRests_L50, let_s, nI_1]
      exact .inl ⟨_, rfl, ⟨rfl, rfl, g2⟩, hk4⟩
    · rw [if_neg e, if_neg e, if_neg (nI_nm (by decide)), let_s, fX3_duelRests_L50, let_s, nI_1]
      exact .inl ⟨_, rfl, ⟨rfl, rfl, g2⟩, hk4⟩
  · obtain rfl : k = 4 := by omega
    have e4 : m.1 (P + 4) = σ.1 (P + 4) := agc_P hP hm (by decide)
    have q3 := (rl_p_agc r1 hm).2.2.1
    have hbp : fX4_burden P m (nI p) = some B := by rw [c_burden q3.k hK (by omega), e4, hB]; rfl
    have hbq : fX4_burden P m (nI q) = some C := by rw [c_burden q3.k hK (by omega), e4, hC]; rfl
    have hin : sw_wh sw_F (fun s : Int32 × Int32 => fX3_duelRests_L62 P 27 m (nI p) (nI q) (d_ris w 4) s.1 s.2) (0, 0) = some (d_ris (d_st w B C) 4, m) := by
      refine wh_runs (b := fun s : Int32 × Int32 => fX3_duelRests_L62 P 27 m (nI p) (nI q) (d_ris w 4) s.1 s.2) (fun k => (d_ris (d_st w B C) k, nI k)) 4 rfl (fun k hk => ?_) ?_ (by decide)
      · show fX3_duelRests_L62 P 27 m (nI p) (nI q) (d_ris w 4) (d_ris (d_st w B C) k) (nI k) = some (.inl (d_ris (d_st w B C) (k + 1), nI (k + 1)))
        have hnl : ¬ (4 : Int32) ≤ nI k := nI_ge (b := 4) (by omega) (by decide)
        obtain ⟨a1, a2, a3, a4, a5, a6⟩ := k_and2 k hk
        have L : ∀ b0, fX3_duelRests_L104 P 27 m (nI p) (nI q) (d_ris w 4) (d_ris (d_st w B C) k) (nI k) b0 = some (.inl ((if b0 = 0 then d_ris (d_st w B C) k else if d_g2 w C k < d_g2 w C (k / 2 * 2 + 1 - k % 2) then d_ris (d_st w B C) k else d_ris (d_st w B C) k ||| ((1 : Int32) <<< (nI k &&& 31))), nI (k + 1))) := by
          intro b0
          unfold fX3_duelRests_L104
          rw [hbq, b1_s, b1_s, a4, gain2 hk, gain2 a6, fX3_duelRests_L144, fX3_duelRests_L144, let_s, fX3_duelRests_L165, fX3_duelRests_L165, let_s, let_s, nI_1]
          by_cases h1 : b0 = 0
          · rw [if_pos h1, if_pos h1, if_pos h1]
            split <;> rfl
          · rw [if_neg h1, if_neg h1, if_neg h1]
            split
            · rw [if_pos rfl]
            · rw [if_neg i10]
        unfold fX3_duelRests_L62
        rw [if_neg hnl, hbp, b1_s, b1_s, a3, gain1 hk, gain1 a5, L, L, d_ris]
        unfold d_st
        by_cases h1 : d_g1 w B k < d_g1 w B ((k + 2) % 4)
        · rw [if_pos h1, if_pos h1, if_pos rfl, if_pos rfl]
        · rw [if_neg h1, if_neg h1, if_neg i10]
          by_cases h2 : d_g2 w C k < d_g2 w C (k / 2 * 2 + 1 - k % 2)
          · rw [if_pos h2, if_pos h2, if_pos rfl]
          · rw [if_neg h2, if_neg h2, if_neg i10]
      · show fX3_duelRests_L62 P 27 m (nI p) (nI q) (d_ris w 4) (d_ris (d_st w B C) 4) (nI 4) = _
        unfold fX3_duelRests_L62
        rw [if_pos (by decide)]
    rw [if_pos (by decide), hin, sw_up_s]
    exact .inr ⟨_, rfl, rfl, hm⟩
def d_mem (m : sw_M) (s : Nat → Int32) (k : Nat) : sw_M := if d_cnt s k = 0 then m else sw_w (sw_w (sw_w m 69 0 (nI (d_fst s k) / 2)) 69 1 (nI (d_fst s k) - nI (d_fst s k) / 2 * 2)) 49 57 2
theorem d_mem71 {m : sw_M} {s : Nat → Int32} {k : Nat} : (d_mem m s k).1 71 = m.1 71 ∧ (d_mem m s k).1 72 = m.1 72 := by
  unfold d_mem
  split <;> exact ⟨rfl, rfl⟩
theorem e_duel {p q B0 : Nat} (r1 : rl_p σ P K N R Bn z mm ww) (h3 : nv K B0 (ck (σ.1 65))) (hp : p < N) (hq : q < N) (hpq : p ≠ q) : ∃ m, age σ m ∧ sw_wh sw_F (fun s : Int32 × sw_M => fX10_duel_L46 s.2 (nI p) (nI q) s.1) (0, σ) = some (nI (d_cnt (d_st (d_w σ P K N R z p q) (d_b σ P K p) (d_b σ P K q)) 4), d_mem m (d_st (d_w σ P K N R z p q) (d_b σ P K p) (d_b σ P K q)) 4) := by
  have hP := rl_isP r1
  have hmm := rl_m r1
  obtain ⟨p1, p2, p3, p4, ⟨p5, p6, p7⟩, p8⟩ := id r1
  have hK := p3.k5
  obtain ⟨w, hw⟩ : ∃ w, w = d_w σ P K N R z p q := ⟨_, rfl⟩
  obtain ⟨B, hB⟩ : ∃ B, B = d_b σ P K p := ⟨_, rfl⟩
  obtain ⟨C, hC⟩ : ∃ C, C = d_b σ P K q := ⟨_, rfl⟩
  rw [← hw, ← hB, ← hC]
  suffices main : ∃ t, sw_wh sw_F (fun s : Int32 × sw_M => fX10_duel_L46 s.2 (nI p) (nI q) s.1) (0, σ) = some t ∧ ∃ m, age σ m ∧ t = (nI (d_cnt (d_st w B C) 4), d_mem m (d_st w B C) 4) by
    obtain ⟨t, h1, m, h2, h3⟩ := main
    exact ⟨m, h2, by rw [h1, h3]⟩
  refine wh_gen (b := fun s : Int32 × sw_M => fX10_duel_L46 s.2 (nI p) (nI q) s.1) (fun k s => s.1 = nI k ∧ age σ s.2 ∧ (∀ j, j < k → s.2.1 71 j = d_g1 w B j) ∧ (∀ j, j < k → s.2.1 72 j = d_g2 w C j)) (fun t => ∃ m, age σ m ∧ t = (nI (d_cnt (d_st w B C) 4), d_mem m (d_st w B C) 4)) 4 (fun k s hk hI => ?_) ⟨rfl, age.rf, fun j hj => absurd hj (Nat.not_lt_zero j), fun j hj => absurd hj (Nat.not_lt_zero j)⟩ (F_big (by decide))
  obtain ⟨y, m⟩ := s
  obtain ⟨rfl, hm, h71, h72⟩ : y = nI k ∧ age σ m ∧ (∀ j, j < k → m.1 71 j = d_g1 w B j) ∧ (∀ j, j < k → m.1 72 j = d_g2 w C j) := hI
  show (∃ s', fX10_duel_L46 m (nI p) (nI q) (nI k) = some (.inl s') ∧ (s'.1 = nI (k + 1) ∧ age σ s'.2 ∧ (∀ j, j < k + 1 → s'.2.1 71 j = d_g1 w B j) ∧ (∀ j, j < k + 1 → s'.2.1 72 j = d_g2 w C j)) ∧ k < 4) ∨ (∃ t, fX10_duel_L46 m (nI p) (nI q) (nI k) = some (.inr t) ∧ ∃ m, age σ m ∧ t = (nI (d_cnt (d_st w B C) 4), d_mem m (d_st w B C) 4))
  unfold fX10_duel_L46
  by_cases hk4 : k < 4
  · have hnl : ¬ (4 : Int32) ≤ nI k := nI_ge (b := 4) (by omega) (by decide)
    have hb := wh4_b N (by omega) p hp q hq hpq k hk4
    obtain ⟨m', g1, g2, g3, g4⟩ := e_with_at2 (t := wh4 p q k) r1 h3 agc.rf hm hb
    have hwk : w k = v_isOut K R z 0 (σ.1 (P + 6)) (σ.1 (P + 8)) 0 (v_told K (σ.1 (P + 4)) (nI (wh4 p q k)) N (ck (σ.1 65))) := by rw [hw]; rfl
    rw [← hwk] at g1
    have e62 : m'.1 62 = σ.1 62 := age_n g2 (by decide) (by decide) (by decide) (by decide)
    have q4 := (rl_p_age r1 g2).2.2.2.1
    have hmp : ∀ m'' : sw_M, m''.1 49 = m'.1 49 → m''.1 62 = m'.1 62 → fX10_mindOf m'' (nI p) = some B ∧ fX10_mindOf m'' (nI q) = some C := by
      intro m'' x49 x62
      have k49 : m''.1 49 40 = nI K := by rw [x49]; exact q4.k
      refine ⟨?_, ?_⟩
      · rw [e_mindOf k49 hK (by omega), x62, e62, hB, d_b]
        congr 1
        exact v_sum_cg (fun j hj => (hmm p j hp hj).symm)
      · rw [e_mindOf k49 hK (by omega), x62, e62, hC, d_b]
        congr 1
        exact v_sum_cg (fun j hj => (hmm q j hq hj).symm)
    have k2 : ∀ k, k < 4 → (k / 2 = 0 ∧ nI k / 2 = 0 ∨ ¬ k / 2 = 0 ∧ nI k / 2 = 1) ∧ (k % 2 = 0 ∧ nI k - nI k / 2 * 2 = 0 ∨ ¬ k % 2 = 0 ∧ nI k - nI k / 2 * 2 = 1) := by decide
    have fin : ∀ (x1 x2 : Int32), x1 = d_g1 w B k → x2 = d_g2 w C k → (∃ s', some (.inl (nI k + 1, sw_w (sw_w m' 71 k x1) 72 k x2)) = (some (.inl s') : Option ((Int32 × sw_M) ⊕ (Int32 × sw_M))) ∧ (s'.1 = nI (k + 1) ∧ age σ s'.2 ∧ (∀ j, j < k + 1 → s'.2.1 71 j = d_g1 w B j) ∧ (∀ j, j < k + 1 → s'.2.1 72 j = d_g2 w C j)) ∧ k < 4) := by
      intro x1 x2 e1 e2
      refine ⟨_, rfl, ⟨nI_1 k, g2.tr ((age_w (.inr (.inr (.inr (.inr (.inr (.inl rfl))))))).tr (age_w (.inr (.inr (.inr (.inr (.inr (.inr (.inl rfl))))))))), fun j hj => ?_, fun j hj => ?_⟩, hk4⟩
      · show upd (m'.1 71) k x1 j = _
        by_cases e : j = k
        · subst e
          rw [upd_e, e1]
        · rw [upd_n e, g3]
          exact h71 j (by omega)
      · show upd (m'.1 72) k x2 j = _
        by_cases e : j = k
        · subst e
          rw [upd_e, e2]
        · rw [upd_n e, g4]
          exact h72 j (by omega)
    refine .inl ?_
    rw [if_neg hnl, wh4_e p (by omega) q (by omega) hpq k hk4, g1, b2_s, (hmp m' rfl rfl).1, b1_s, fX10_duel_L92, fX10_duel_L92, sw_gd_t (in_t (show k < 4 by omega) (by decide)), sw_gd_t (in_t (show k < 4 by omega) (by decide)), nI_clamp (by omega), let_s, let_s, (hmp (sw_w m' 71 k (nI k / 2 * B)) rfl rfl).2, b1_s, (hmp (sw_w m' 71 k (-5)) rfl rfl).2, b1_s, fX10_duel_L117, fX10_duel_L117, fX10_duel_L117, fX10_duel_L117, sw_gd_t (in_t (show k < 4 by omega) (by decide)), sw_gd_t (in_t (show k < 4 by omega) (by decide)), sw_gd_t (in_t (show k < 4 by omega) (by decide)), sw_gd_t (in_t (show k < 4 by omega) (by decide)), nI_clamp (by omega), let_s, let_s, let_s, let_s, let_s, let_s, let_s, let_s]
    by_cases e : w k = 0
    · rw [if_pos e, if_pos e]
      refine fin _ _ ?_ ?_
      · rw [d_g1, if_pos e]
        rcases (k2 k hk4).1 with ⟨a, b⟩ | ⟨a, b⟩
        · rw [b, if_pos a, Int32.zero_mul]
        · rw [b, if_neg a, Int32.one_mul]
      · rw [d_g2, if_pos e]
        rcases (k2 k hk4).2 with ⟨a, b⟩ | ⟨a, b⟩
        · rw [b, if_pos a, Int32.zero_mul]
        · rw [b, if_neg a, Int32.one_mul]
    · rw [if_neg e, if_neg e]
      exact fin _ _ (by rw [d_g1, if_neg e]) (by rw [d_g2, if_neg e])
  · obtain rfl : k = 4 := by omega
    refine .inr ?_
    rw [if_pos (by decide)]
    have hin : sw_wh sw_F (fun s : Int32 × Int32 × sw_M => fX10_duel_L129 s.2.2 s.1 s.2.1) (0, 0, m) = some (nI (d_cnt (d_st w B C) 4), d_mem m (d_st w B C) 4) := by
      refine wh_runs (b := fun s : Int32 × Int32 × sw_M => fX10_duel_L129 s.2.2 s.1 s.2.1) (fun k => (nI (d_cnt (d_st w B C) k), nI k, d_mem m (d_st w B C) k)) 4 rfl (fun k hk => ?_) ?_ (by decide)
      · show fX10_duel_L129 (d_mem m (d_st w B C) k) (nI (d_cnt (d_st w B C) k)) (nI k) = some (.inl (nI (d_cnt (d_st w B C) (k + 1)), nI (k + 1), d_mem m (d_st w B C) (k + 1)))
        have hnl : ¬ (4 : Int32) ≤ nI k := nI_ge (b := 4) (by omega) (by decide)
        obtain ⟨a1, a2, a3, a4, a5, a6⟩ := k_and2 k hk
        obtain ⟨b1, b2⟩ := e2r k hk
        have stay : ∀ s : Nat → Int32, s k = 0 → fX10_duel_L219 (d_mem m s k) (nI (d_cnt s k)) (nI k) = some (.inl (nI (d_cnt s (k + 1)), nI (k + 1), d_mem m s (k + 1))) := by
          intro s e
          have h1 : d_cnt s (k + 1) = d_cnt s k := by rw [d_cnt, if_pos e]
          have h2 : d_fst s (k + 1) = d_fst s k := by rw [d_fst, if_pos e]
          have h3 : d_mem m s (k + 1) = d_mem m s k := by rw [d_mem, d_mem, h1, h2]
          rw [fX10_duel_L219, let_s, nI_1, h1, h3]
        have go : ∀ s : Nat → Int32, ¬ s k = 0 → (if nI (d_cnt s k) = 0 then sw_let (sw_w (d_mem m s k) 69 0 (nI k / 2)) fun m9 => sw_let (sw_w m9 69 1 (nI k - nI k / 2 * 2)) fun m11 => sw_let (sw_w m11 49 57 2) fun m13 => fX10_duel_L216 m13 (nI (d_cnt s k)) (nI k) else fX10_duel_L216 (d_mem m s k) (nI (d_cnt s k)) (nI k)) = some (.inl (nI (d_cnt s (k + 1)), nI (k + 1), d_mem m s (k + 1))) := by
          intro s e
          have hc := cnt_le s k
          have h1 : d_cnt s (k + 1) = d_cnt s k + 1 := by rw [d_cnt, if_neg e]
          by_cases h0 : d_cnt s k = 0
          · have h2 : d_fst s (k + 1) = k := by rw [d_fst, if_neg e, if_pos h0]
            have h3 : d_mem m s (k + 1) = sw_w (sw_w (sw_w m 69 0 (nI k / 2)) 69 1 (nI k - nI k / 2 * 2)) 49 57 2 := by rw [d_mem, h1, h2, if_neg (by omega)]
            have h4 : d_mem m s k = m := by rw [d_mem, if_pos h0]
            rw [if_pos (show nI (d_cnt s k) = 0 by rw [h0]; rfl), let_s, let_s, let_s, fX10_duel_L216, let_s, fX10_duel_L219, let_s, nI_1, nI_1, h1, h3, h4]
          · have h2 : d_fst s (k + 1) = d_fst s k := by rw [d_fst, if_neg e, if_neg h0]
            have h3 : d_mem m s (k + 1) = d_mem m s k := by rw [d_mem, d_mem, h1, h2, if_neg h0, if_neg (by omega)]
            rw [if_neg (nI_ne0 (by omega) (by omega)), fX10_duel_L216, let_s, fX10_duel_L219, let_s, nI_1, nI_1, h1, h3]
        unfold fX10_duel_L129
        rw [if_neg hnl, b1, b2, sw_gd_t (in_t a5 (by decide)), sw_gd_t (in_t (show k < 4 by omega) (by decide)), sw_gd_t (in_t a6 (by decide)), sw_gd_t (in_t (show k < 4 by omega) (by decide)), nI_clamp (by omega), nI_clamp (by omega), nI_clamp (by omega), d_mem71.1, d_mem71.2, h71 k (by omega), h71 _ a5, h72 k (by omega), h72 _ a6]
        by_cases e1 : d_g1 w B k < d_g1 w B ((k + 2) % 4)
        · rw [if_pos e1]
          exact stay _ (by rw [d_st, if_pos e1])
        · rw [if_neg e1]
          by_cases e2 : d_g2 w C k < d_g2 w C (k / 2 * 2 + 1 - k % 2)
          · rw [if_neg (Int32.not_le.mpr e2)]
            exact stay _ (by rw [d_st, if_neg e1, if_pos e2])
          · rw [if_pos (Int32.not_lt.mp e2)]
            exact go _ (by rw [d_st, if_neg e1, if_neg e2]; decide)
      · show fX10_duel_L129 (d_mem m (d_st w B C) 4) (nI (d_cnt (d_st w B C) 4)) (nI 4) = _
        unfold fX10_duel_L129
        rw [if_pos (by decide)]
    rw [hin, sw_up_s]
    exact ⟨_, rfl, m, hm, rfl⟩
end KD
section KD2
variable {σ τ : sw_M} {P K N R Bn z : Nat} {mm ww : Nat → Nat}
theorem rel_lie0 (hr : relD σ P K N R Bn z mm ww) : relD (sw_w (sw_w σ 0 8 0) 49 57 0) P K N R Bn z mm ww := by
  have hP := rl_isP hr.1
  obtain ⟨r1, r2, r3, r4, r5, r6, r7, r8, r9⟩ := hr
  have q5 : rl_l (sw_w (sw_w σ 0 8 0) 49 57 0) := ⟨0, by decide, rfl, rfl, fun i hi => absurd hi (Nat.not_lt_zero i)⟩
  rcases hP with rfl | rfl <;> exact ⟨rl_p_cg rfl rfl rfl rfl rfl rfl rfl rfl rfl rfl rfl rfl rfl rfl rfl rfl rfl rfl rfl rfl rfl r1, rl_v_cg rfl rfl rfl r2, rl_a_cg rfl rfl rfl rfl rfl rfl r3, rl_b_cg rfl rfl rfl rfl r4, q5, rl_s_cg rfl rfl rfl rfl rfl rfl rfl rfl rfl rfl rfl rfl rfl rfl rfl rfl rfl rfl r6, rl_t_cg rfl rfl r7, rl_f_cg rfl rfl rfl rfl r8, rl_i_cg rfl rfl rfl rfl rfl r9⟩
theorem rel_lie2 {x y : Int32} (hr : relD σ P K N R Bn z mm ww) : relD (sw_w (sw_w (sw_w (sw_w (sw_w (sw_w (sw_w σ 48 0 x) 48 1 y) 0 8 2) 49 57 0) 69 0 x) 69 1 y) 49 57 2) P K N R Bn z mm ww := by
  have hP := rl_isP hr.1
  obtain ⟨r1, r2, r3, r4, r5, r6, r7, r8, r9⟩ := hr
  have q5 : rl_l (sw_w (sw_w (sw_w (sw_w (sw_w (sw_w (sw_w σ 48 0 x) 48 1 y) 0 8 2) 49 57 0) 69 0 x) 69 1 y) 49 57 2) := by
    refine ⟨2, by decide, rfl, rfl, fun i hi => ?_⟩
    rcases (show i = 0 ∨ i = 1 by omega) with rfl | rfl <;> rfl
  rcases hP with rfl | rfl <;> exact ⟨rl_p_cg rfl rfl rfl rfl rfl rfl rfl rfl rfl rfl rfl rfl rfl rfl rfl rfl rfl rfl rfl rfl rfl r1, rl_v_cg rfl rfl rfl r2, rl_a_cg rfl rfl rfl rfl rfl rfl r3, rl_b_cg rfl rfl rfl rfl r4, q5, rl_s_cg rfl rfl rfl rfl rfl rfl rfl rfl rfl rfl rfl rfl rfl rfl rfl rfl rfl rfl r6, rl_t_cg rfl rfl r7, rl_f_cg rfl rfl rfl rfl r8, rl_i_cg rfl rfl rfl rfl rfl r9⟩
theorem k_duel (a b : Int32) (h : rel σ) : k_mm (fX9_duel σ a b) (fun τ => fX10_duel τ a b) := by
  obtain ⟨P, K, N, R, Bn, z, mm, ww, hr⟩ := id h
  have hP := rl_isP hr.1
  have hz := rel_lie0 hr
  obtain ⟨σ1, hσ1⟩ : ∃ σ1, σ1 = sw_w σ 0 8 0 := ⟨_, rfl⟩
  have r1 : rl_p σ1 P K N R Bn z mm ww := by
    have r1 := hr.1
    rw [hσ1]
    rcases hP with rfl | rfl <;> exact rl_p_cg rfl rfl rfl rfl rfl rfl rfl rfl rfl rfl rfl rfl rfl rfl rfl rfl rfl rfl rfl rfl rfl r1
  have r2 : rl_v σ1 K N Bn mm := by
    have r2 := hr.2.1
    rw [hσ1]
    exact rl_v_cg rfl rfl rfl r2
  rw [← hσ1] at hz
  have hdc : fX9_duel σ a b = if a = b then some ((-1 : Int32), σ1) else if fX9_isSilent σ1 a = 0 then some ((-1 : Int32), σ1) else if fX9_isSilent σ1 b = 0 then some ((-1 : Int32), σ1) else sw_b2 (fX3_duelRests (sw_pl (σ1.2.2 0)) 27 σ1 a b) fun r6 m7 => if r6 = 0 then some (((0 : Int32), m7)) else sw_let (fJ6_numberOfTrailingZeros_0f7a4 r6) fun v10 => sw_let (sw_w m7 48 0 (v10 >>> (1 &&& 31))) fun m12 => sw_let (sw_w m12 48 1 (v10 &&& 1)) fun m14 => sw_let (sw_w m14 0 8 2) fun m16 => some ((fJ6_bitCount_0f7a4 r6, m16)) := by
    rw [fX9_duel, let_s, ← hσ1]
  have no : fX9_duel σ a b = some (-1, σ1) → fX10_duel σ1 a b = some (-1, sw_w σ1 49 57 0) → k_mm (fX9_duel σ a b) (fun τ => fX10_duel τ a b) := fun h1 h2 => ⟨-1, σ1, _, h1, h2, _, _, _, _, _, _, _, _, hz⟩
  obtain ⟨p1, p2, p3, p4, ⟨p5, p6, p7⟩, p8⟩ := id r1
  obtain ⟨t0, h0, h1, h2, h3⟩ := rl_told r2
  have h128 := Nat.lt_of_lt_of_le h0 (pow7 p7)
  have pe : ∀ (m : sw_M), m.1 49 41 = nI N → ∀ x, fX10_isPerson m x = (if x < 0 then 0 else if nI N ≤ x then 0 else 1) := fun m hm x => person_e hm p7 x
  have pe1 := pe (sw_w σ1 49 57 0) p6
  by_cases ha : (if a < 0 then (0 : Int32) else if nI N ≤ a then 0 else 1) = 0
  · refine no ?_ ?_
    · have e : fX9_isSilent σ1 a = 0 := by rw [fX9_isSilent, p1, person_c p5, if_pos ha]
      rw [hdc, if_pos e]
      split <;> rfl
    · rw [fX10_duel, let_s, pe1, if_pos ha]
  by_cases hb : (if b < 0 then (0 : Int32) else if nI N ≤ b then 0 else 1) = 0
  · refine no ?_ ?_
    · have e : fX9_isSilent σ1 b = 0 := by rw [fX9_isSilent, p1, person_c p5, if_pos hb]
      rw [hdc, if_pos e]
      split
      · rfl
      · split <;> rfl
    · rw [fX10_duel, let_s, pe1, if_neg ha, pe1, if_pos hb]
  obtain ⟨p, hp, rfl⟩ := in_some (by omega) ha
  obtain ⟨q, hq, rfl⟩ := in_some (by omega) hb
  by_cases hpq : p = q
  · refine no ?_ ?_
    · rw [hdc, if_pos (by rw [hpq])]
    · rw [fX10_duel, let_s, pe1, if_neg ha, pe1, if_neg hb, if_pos (by rw [hpq])]
  have hne : ¬ nI p = nI q := fun e => hpq ((nI_eq (by omega) (by omega)).mp e)
  have tz : (sw_w σ1 49 57 0).1 65 5 = nI t0 := h2
  rcases sil_both p1 p5 h1 h2 p7 h128 hp with ⟨b1, s1, s2⟩ | ⟨b1, s1, s2⟩
  rotate_left
  · refine no ?_ ?_
    · rw [hdc, if_neg hne, if_pos s1]
    · have e : fX10_hasTold (sw_w σ1 49 57 0) (nI p) = 1 := s2
      rw [fX10_duel, let_s, pe1, if_neg ha, pe1, if_neg hb, if_neg hne, e, if_neg i10]
  rcases sil_both p1 p5 h1 h2 p7 h128 hq with ⟨b2, s3, s4⟩ | ⟨b2, s3, s4⟩
  rotate_left
  · refine no ?_ ?_
    · rw [hdc, if_neg hne, s1, if_neg i10, if_pos s3]
    · have e : fX10_hasTold (sw_w σ1 49 57 0) (nI p) = 0 := s2
      have e' : fX10_hasTold (sw_w σ1 49 57 0) (nI q) = 1 := s4
      rw [fX10_duel, let_s, pe1, if_neg ha, pe1, if_neg hb, if_neg hne, e, if_pos rfl, e', if_neg i10]
  obtain ⟨m7, c1, c2⟩ := c_duel r1 r2 hp hq hpq
  obtain ⟨S, hS⟩ : ∃ S, S = d_st (d_w σ1 P K N R z p q) (d_b σ1 P K p) (d_b σ1 P K q) := ⟨_, rfl⟩
  rw [← hS] at c1
  have hall := d_all S
  rw [hdc, if_neg hne, s1, if_neg i10, s3, if_neg i10, p1, c1, b2_s]
  have e49 : m7.1 49 = σ1.1 49 := agc_n hP c2 (by decide)
  have e62 : m7.1 62 = σ1.1 62 := agc_n hP c2 (by decide)
  have e65 : m7.1 65 = σ1.1 65 := agc_n hP c2 (by decide)
  have e4 : m7.1 (P + 4) = σ1.1 (P + 4) := agc_P hP c2 (by decide)
  have e6 : m7.1 (P + 6) = σ1.1 (P + 6) := agc_P hP c2 (by decide)
  have e8 : m7.1 (P + 8) = σ1.1 (P + 8) := agc_P hP c2 (by decide)
  have hz7 : relD (sw_w m7 49 57 0) P K N R Bn z mm ww := relD_agc hz (agc_ww c2 e49)
  -- the reference, on a memory that is like it
  have ref : ∀ τ : sw_M, τ.1 49 = m7.1 49 → τ.1 65 = m7.1 65 → τ.1 62 = m7.1 62 → τ.1 (P + 4) = m7.1 (P + 4) → τ.1 (P + 6) = m7.1 (P + 6) → τ.1 (P + 8) = m7.1 (P + 8) → rl_p (sw_w τ 49 57 0) P K N R Bn z mm ww → ∃ m, age (sw_w τ 49 57 0) m ∧ fX10_duel τ (nI p) (nI q) = some (nI (d_cnt S 4), d_mem m S 4) := by
    intro τ x49 x65 x62 x4 x6 x8 y1
    have y3 : nv K (n_burs mm K (nI t0) N) (ck ((sw_w τ 49 57 0).1 65)) := by
      show nv K (n_burs mm K (nI t0) N) (ck (τ.1 65))
      rw [x65, e65]
      exact h3
    obtain ⟨m, g1, g2⟩ := e_duel y1 y3 hp hq hpq
    have hw : d_w (sw_w τ 49 57 0) P K N R z p q = d_w σ1 P K N R z p q := by
      have z6 : (sw_w τ 49 57 0).1 (P + 6) = σ1.1 (P + 6) := by rw [m_wne (by rcases hP with rfl | rfl <;> decide), x6, e6]
      have z8 : (sw_w τ 49 57 0).1 (P + 8) = σ1.1 (P + 8) := by rw [m_wne (by rcases hP with rfl | rfl <;> decide), x8, e8]
      have z4 : (sw_w τ 49 57 0).1 (P + 4) = σ1.1 (P + 4) := by rw [m_wne (by rcases hP with rfl | rfl <;> decide), x4, e4]
      have z65 : (sw_w τ 49 57 0).1 65 = σ1.1 65 := by rw [m_wne (by decide), x65, e65]
      funext k
      unfold d_w
      rw [z6, z8, z4, z65]
    have hbu : ∀ i, d_b (sw_w τ 49 57 0) P K i = d_b σ1 P K i := by
      intro i
      have z4 : (sw_w τ 49 57 0).1 (P + 4) = σ1.1 (P + 4) := by rw [m_wne (by rcases hP with rfl | rfl <;> decide), x4, e4]
      unfold d_b
      rw [z4]
    rw [hw, hbu, hbu, ← hS] at g2
    refine ⟨m, g1, ?_⟩
    have n41 : (sw_w τ 49 57 0).1 49 41 = nI N := by
      show τ.1 49 41 = nI N
      rw [x49, e49]
      exact p6
    have t65 : (sw_w τ 49 57 0).1 65 5 = nI t0 := by
      show τ.1 65 5 = nI t0
      rw [x65, e65]
      exact h2
    have hbp : fX10_hasTold (sw_w τ 49 57 0) (nI p) = 0 := by rw [sil_e t65, b1]; rfl
    have hbq : fX10_hasTold (sw_w τ 49 57 0) (nI q) = 0 := by rw [sil_e t65, b2]; rfl
    rw [fX10_duel, let_s, pe _ n41, if_neg ha, pe _ n41, if_neg hb, if_neg hne, hbp, if_pos rfl, hbq, if_pos rfl, g2]
  by_cases h0 : d_cnt S 4 = 0
  · rw [if_pos (hall.1.mpr h0)]
    obtain ⟨m, g1, g2⟩ := ref m7 rfl rfl rfl rfl rfl rfl hz7.1
    rw [h0, d_mem, if_pos h0] at g2
    exact ⟨0, m7, m, rfl, g2, _, _, _, _, _, _, _, _, relD_age hz7 g1⟩
  · obtain ⟨a1, a2, a3⟩ := hall.2 h0
    rw [if_neg (fun e => h0 (hall.1.mp e)), let_s, let_s, let_s, let_s, a1, a2, a3]
    obtain ⟨x, hx⟩ : ∃ x, x = nI (d_fst S 4) / 2 := ⟨_, rfl⟩
    obtain ⟨y, hy⟩ : ∃ y, y = nI (d_fst S 4) - x * 2 := ⟨_, rfl⟩
    have hy' : nI (d_fst S 4) - nI (d_fst S 4) / 2 * 2 = y := by rw [hy, hx]
    rw [hy', ← hx]
    obtain ⟨m, g1, g2⟩ := ref (sw_w (sw_w (sw_w m7 48 0 x) 48 1 y) 0 8 2) (by rw [m_wne (by decide), m_wne (by decide), m_wne (by decide)]) (by rw [m_wne (by decide), m_wne (by decide), m_wne (by decide)]) (by rw [m_wne (by decide), m_wne (by decide), m_wne (by decide)]) (by rw [m_wne (by omega), m_wne (by rcases hP with rfl | rfl <;> decide), m_wne (by rcases hP with rfl | rfl <;> decide)]) (by rw [m_wne (by omega), m_wne (by rcases hP with rfl | rfl <;> decide), m_wne (by rcases hP with rfl | rfl <;> decide)]) (by rw [m_wne (by omega), m_wne (by rcases hP with rfl | rfl <;> decide), m_wne (by rcases hP with rfl | rfl <;> decide)]) (by
      have r1 := hz7.1
      rcases hP with rfl | rfl <;> exact rl_p_cg rfl rfl rfl rfl rfl rfl rfl rfl rfl rfl rfl rfl rfl rfl rfl rfl rfl rfl rfl rfl rfl r1)
    rw [d_mem, if_neg h0, hy', ← hx] at g2
    refine ⟨nI (d_cnt S 4), _, _, rfl, g2, P, K, N, R, Bn, z, mm, ww, ?_⟩
    have f1 := age_ww (a := 69) (k := 0) (x := x) g1 (g1.2 69 (by decide) (by decide) (by decide) (by decide) (by decide) (by decide) (by decide) (by decide) (by decide) (by decide))
    have f2 := age_ww (a := 69) (k := 1) (x := y) f1 (f1.2 69 (by decide) (by decide) (by decide) (by decide) (by decide) (by decide) (by decide) (by decide) (by decide) (by decide))
    have f3 := age_ww (a := 49) (k := 57) (x := 2) f2 (f2.2 49 (by decide) (by decide) (by decide) (by decide) (by decide) (by decide) (by decide) (by decide) (by decide) (by decide))
    refine relD_age ?_ f3
    have hm7 := rel_lie2 (x := x) (y := y) hz7
    have comm : sw_w (sw_w (sw_w (sw_w (sw_w m7 49 57 0) 48 0 x) 48 1 y) 0 8 2) 49 57 0 = sw_w (sw_w (sw_w (sw_w m7 48 0 x) 48 1 y) 0 8 2) 49 57 0 := by
      simp only [m_w]
      rw [m_ne (show (48 : Nat) ≠ 49 by decide), m_eq, m_mm, m_ne (show (0 : Nat) ≠ 48 by decide), m_ne (show (0 : Nat) ≠ 49 by decide), m_ne (show (49 : Nat) ≠ 0 by decide), m_ne (show (49 : Nat) ≠ 48 by decide), m_eq, upd_uu, m_comm (show (49 : Nat) ≠ 48 by decide), m_comm (show (49 : Nat) ≠ 0 by decide), m_mm, m_eq, m_mm, m_ne (show (0 : Nat) ≠ 48 by decide), m_ne (show (49 : Nat) ≠ 0 by decide), m_ne (show (49 : Nat) ≠ 48 by decide)]
    rw [comm] at hm7
    exact hm7
end KD2
