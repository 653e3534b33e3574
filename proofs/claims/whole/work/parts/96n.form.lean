/-! a formula's state in both -/
def msf (k : Nat) : Nat := if k = 0 then 1 else if k = 1 then 2 else if k = 2 then 4 else if k = 3 then 5 else if k = 4 then 6 else 7
def mtf (k : Nat) : Nat := if k = 0 then 1 else if k = 1 then 2 else if k = 2 then 3 else if k = 3 then 5 else if k = 4 then 6 else 7
def opx (x : Nat) : Nat := if x = 60 ∨ x = 62 ∨ x = 61 ∨ x = 43 ∨ x = 45 ∨ x = 42 ∨ x = 47 ∨ x = 37 then x else 0
def sg (B : Nat → Nat) (n p : Nat) : Nat := if teT B n p = 2 then (if teY B n p = krN 11 then 38 else if teY B n p = krN 10 then 124 else 0) else if teT B n p = 4 then opx (teX B n p) else 0
def cF (Q : Nat) (σ : sw_M) (u z : Nat) : Prop := σ.1 (Q + 7) 0 = nI u ∧ σ.1 (Q + 7) 2 = nI z ∧ (σ.1 (Q + 7) 1 = 0 → ∀ i, i < z → σ.1 (Q + 8) i ≠ -6)
def eF (τ : sw_M) (u z dp : Nat) : Prop := τ.1 49 20 = nI u ∧ τ.1 49 22 = nI u ∧ τ.1 49 17 = nI z ∧ τ.1 49 23 = nI dp
def us (B : Nat → Nat) (n Q : Nat) (σ0 τ0 σ τ : sw_M) (p : Nat) (sk : Nat → Nat) (l d u z : Nat) : Prop :=
  pz B n Q σ0 τ0 σ τ p ∧ sw_pl (σ.2.2 1) = Q ∧ cF Q σ u z ∧ eF τ u z d ∧ stR τ sk l ∧ (∀ i, i < z → q_enc (τ.1 52 i) (τ.1 53 i) (σ.1 (Q + 8) i)) ∧ l ≤ u + d ∧ u ≤ 30 ∧ d ≤ 7 ∧ z ≤ 9 * u
/-- m of the stack's signs, from l on, wait -/
def os (B : Nat → Nat) (n Q : Nat) (σ0 τ0 σ τ : sw_M) (p : Nat) (sk : Nat → Nat) (l m d u zr : Nat) : Prop :=
  pz B n Q σ0 τ0 σ τ p ∧ sw_pl (σ.2.2 1) = Q ∧ cF Q σ u (zr + m) ∧ eF τ u zr (d + nots sk l m) ∧ stR τ sk (l + m) ∧ (∀ i, i < zr → q_enc (τ.1 52 i) (τ.1 53 i) (σ.1 (Q + 8) i)) ∧ (∀ j, j < m → σ.1 (Q + 8) (zr + j) = fcode (sk (l + m - 1 - j))) ∧ l + m + 1 ≤ u + (d + nots sk l m) ∧ u ≤ 30 ∧ d ≤ 7 ∧ zr + m ≤ 9 * u ∧ ∀ i, l ≤ i → i < l + m → ¬ sk i = 20
theorem op_1 : ∀ x, x < 128 → isS x = true → ∀ k, k < 5 → (if k = 0 then (0 : Int32) else if k = 1 then 0 else if k = 2 then (if nI x = 60 then nI x else if nI x = 62 then nI x else if nI x = 61 then nI x else 0) else if k = 3 then (if nI x = 43 then nI x else if nI x = 45 then nI x else 0) else if nI x = 42 then nI x else if nI x = 47 then nI x else if nI x = 37 then nI x else 0) = if opx x ≠ 0 ∧ tg (opx x) = msf k then nI (opx x) else 0 := by
  intro x hx hs k hk
  have key : ∀ x, x < 128 → (isS x = true → ((if opx x ≠ 0 ∧ tg (opx x) = 1 then nI (opx x) else 0) = 0 ∧ (if opx x ≠ 0 ∧ tg (opx x) = 2 then nI (opx x) else 0) = 0 ∧ (if nI x = 60 then nI x else if nI x = 62 then nI x else if nI x = 61 then nI x else 0) = (if opx x ≠ 0 ∧ tg (opx x) = 4 then nI (opx x) else 0)) ∧ (if nI x = 43 then nI x else if nI x = 45 then nI x else 0) = (if opx x ≠ 0 ∧ tg (opx x) = 5 then nI (opx x) else 0) ∧ (if nI x = 42 then nI x else if nI x = 47 then nI x else if nI x = 37 then nI x else 0) = (if opx x ≠ 0 ∧ tg (opx x) = 6 then nI (opx x) else 0)) := by decide +kernel
  obtain ⟨⟨a0, a1, a2⟩, a3, a4⟩ := key x hx hs
  rcases (show k = 0 ∨ k = 1 ∨ k = 2 ∨ k = 3 ∨ k = 4 by omega) with rfl | rfl | rfl | rfl | rfl
  · exact a0.symm
  · exact a1.symm
  · exact a2
  · exact a3
  · exact a4
theorem op_2 : ∀ x, x < 128 → isS x = true → (if nI x = 60 then nI x else if nI x = 62 then nI x else if nI x = 61 then nI x else if nI x = 43 then nI x else if nI x = 45 then nI x else if nI x = 42 then nI x else if nI x = 47 then nI x else if nI x = 37 then nI x else 0) = nI (opx x) := by decide +kernel
theorem op_3 : ∀ x, x < 128 → opx x ≠ 0 → ¬ nI x = 41 := by decide +kernel
theorem op_4 (x : Nat) : opx x = 0 ∨ opx x = 60 ∨ opx x = 62 ∨ opx x = 61 ∨ opx x = 43 ∨ opx x = 45 ∨ opx x = 42 ∨ opx x = 47 ∨ opx x = 37 := by
  unfold opx
  split <;> omega
section PJ
variable {σ τ σ0 τ0 σ' τ' : sw_M} {B : Nat → Nat} {n p Q : Nat}
theorem p_sign (h : pz B n Q σ0 τ0 σ τ p) : fX10_sign τ = nI (sg B n p) ∧ (∀ k, k < 5 → fX5_signOfLevel σ (nI k) = if sg B n p ≠ 0 ∧ tg (sg B n p) = msf k then nI (sg B n p) else 0) ∧ (sg B n p ≠ 0 → teT B n p ≠ 1 ∧ teT B n p ≠ 0 ∧ ¬ τ.1 49 6 = 41 ∧ okc (sg B n p) ∧ sg B n p ≠ 20 ∧ sg B n p ≠ 21) := by
  have hw := fun k hk => p_word (k := k) hk h
  have hsg := fun c (hc : 4 < c) (hc2 : c < 2 ^ 31) => p_sg (c := c) hc hc2 h
  obtain ⟨⟨_, _, h1⟩, ⟨_, _, h2, _⟩, _⟩ := id h
  obtain ⟨_, _, f4, _, f6, f7, _, f9⟩ := h1
  have e6 := h2.2.2.1
  have lvl : ∀ k, k < 5 → fX5_signOfLevel σ (nI k) = if k = 0 then (if σ.1 2 7 = 10 then 124 else 0) else if k = 1 then (if σ.1 2 7 = 11 then 38 else 0) else if k = 2 then (if σ.1 2 9 = 60 then σ.1 2 9 else if σ.1 2 9 = 62 then σ.1 2 9 else if σ.1 2 9 = 61 then σ.1 2 9 else 0) else if k = 3 then (if σ.1 2 9 = 43 then σ.1 2 9 else if σ.1 2 9 = 45 then σ.1 2 9 else 0) else if σ.1 2 9 = 42 then σ.1 2 9 else if σ.1 2 9 = 47 then σ.1 2 9 else if σ.1 2 9 = 37 then σ.1 2 9 else 0 := by
    intro k hk
    rcases (show k = 0 ∨ k = 1 ∨ k = 2 ∨ k = 3 ∨ k = 4 by omega) with rfl | rfl | rfl | rfl | rfl <;> rfl
  by_cases hT2 : teT B n p = 2
  · have v := te_vw hT2
    have s1 := (es_1 h2).mpr hT2
    have n9 : σ.1 2 9 = 0 := by rw [f9, if_neg (by omega)]
    have d6 : ∀ c : Int32, c ≠ 1 → ¬ τ.1 49 6 = c := fun c hc e => hc (by rw [← e, s1])
    have r11 := kfind_iff v (i := 11) (by decide)
    have r10 := kfind_iff v (i := 10) (by decide)
    have k7 : σ.1 2 7 = kfind (teX B n p) := by rw [f7, if_pos hT2]
    have hsign : fX10_sign τ = if teY B n p = krN 11 then 38 else if teY B n p = krN 10 then 124 else 0 := by
      have w11 : fX10_isWord τ 6385252 = if teY B n p = krN 11 then 1 else 0 := by
        rcases hw 11 (by decide) with ⟨a, b, _⟩ | ⟨a, b⟩
        · rw [k7] at a
          rw [if_pos (r11.mp a)]; exact b
        · rw [k7] at a
          rw [if_neg (fun x => a (r11.mpr x))]; exact b
      have w10 : fX10_isWord τ 28530 = if teY B n p = krN 10 then 1 else 0 := by
        rcases hw 10 (by decide) with ⟨a, b, _⟩ | ⟨a, b⟩
        · rw [k7] at a
          rw [if_pos (r10.mp a)]; exact b
        · rw [k7] at a
          rw [if_neg (fun x => a (r10.mpr x))]; exact b
      unfold fX10_sign
      rw [w11, w10, if_neg (d6 60 (by decide)), if_neg (d6 62 (by decide)), if_neg (d6 61 (by decide)), if_neg (d6 43 (by decide)), if_neg (d6 45 (by decide)), if_neg (d6 42 (by decide)), if_neg (d6 47 (by decide)), if_neg (d6 37 (by decide))]
      by_cases a : teY B n p = krN 11
      · rw [if_pos a, if_neg i10, if_pos a]
      · rw [if_neg a, if_pos rfl, if_neg a]
        by_cases b : teY B n p = krN 10
        · rw [if_pos b, if_neg i10, if_pos b]
        · rw [if_neg b, if_pos rfl, if_neg b]
    have esg : sg B n p = if teY B n p = krN 11 then 38 else if teY B n p = krN 10 then 124 else 0 := by rw [sg, if_pos hT2]
    have hd : krN 11 ≠ krN 10 := by decide
    rw [hsign]
    by_cases a : teY B n p = krN 11
    · have b : ¬ teY B n p = krN 10 := fun x => hd (a.symm.trans x)
      have ka : σ.1 2 7 = 11 := by rw [k7]; exact r11.mpr a
      have kb : ¬ σ.1 2 7 = 10 := by rw [ka]; decide
      rw [if_pos a] at esg
      rw [if_pos a, esg]
      refine ⟨rfl, fun k hk => ?_, fun _ => ⟨by omega, by omega, d6 41 (by decide), by unfold okc; omega, by decide, by decide⟩⟩
      rw [lvl k hk, if_neg kb, if_pos ka, n9]
      rcases (show k = 0 ∨ k = 1 ∨ k = 2 ∨ k = 3 ∨ k = 4 by omega) with rfl | rfl | rfl | rfl | rfl <;> decide
    · have ka : ¬ σ.1 2 7 = 11 := fun x => a (r11.mp (by rw [← k7]; exact x))
      by_cases b : teY B n p = krN 10
      · have kb : σ.1 2 7 = 10 := by rw [k7]; exact r10.mpr b
        rw [if_neg a, if_pos b] at esg
        rw [if_neg a, if_pos b, esg]
        refine ⟨rfl, fun k hk => ?_, fun _ => ⟨by omega, by omega, d6 41 (by decide), by unfold okc; omega, by decide, by decide⟩⟩
        rw [lvl k hk, if_pos kb, if_neg ka, n9]
        rcases (show k = 0 ∨ k = 1 ∨ k = 2 ∨ k = 3 ∨ k = 4 by omega) with rfl | rfl | rfl | rfl | rfl <;> decide
      · have kb : ¬ σ.1 2 7 = 10 := fun x => b (r10.mp (by rw [← k7]; exact x))
        rw [if_neg a, if_neg b] at esg
        rw [if_neg a, if_neg b, esg]
        refine ⟨rfl, fun k hk => ?_, fun x => absurd rfl x⟩
        rw [lvl k hk, if_neg kb, if_neg ka, n9]
        rcases (show k = 0 ∨ k = 1 ∨ k = 2 ∨ k = 3 ∨ k = 4 by omega) with rfl | rfl | rfl | rfl | rfl <;> decide
  · have n7 : σ.1 2 7 = -1 := by rw [f7, if_neg hT2]
    have w0 : ∀ k, k < 19 → fX10_isWord τ (lN (krN k)) = 0 := fun k hk => by
      rcases hw k hk with ⟨_, _, c⟩ | ⟨_, b⟩
      · exact absurd c hT2
      · exact b
    have w11 : fX10_isWord τ 6385252 = 0 := w0 11 (by decide)
    have w10 : fX10_isWord τ 28530 = 0 := w0 10 (by decide)
    by_cases hT4 : teT B n p = 4
    · have hx := te_sign hT4
      have hb : teX B n p < 128 := by
        have : isS (teX B n p) = true := hx
        unfold isS at this
        have := of_decide_eq_true this
        omega
      have o1 := op_1 _ hb hx
      have o2 := op_2 _ hb hx
      have o3 := op_3 _ hb
      have o4 := op_4 (teX B n p)
      have n9 : σ.1 2 9 = nI (teX B n p) := by rw [f9, if_pos hT4]
      have n6 : τ.1 49 6 = nI (teX B n p) := by
        rw [e6, esort, hT4]
        rfl
      have esg : sg B n p = opx (teX B n p) := by rw [sg, if_neg hT2, if_pos hT4]
      rw [esg]
      refine ⟨?_, fun k hk => ?_, fun x => ⟨by omega, by omega, ?_, ?_⟩⟩
      · unfold fX10_sign
        rw [w11, w10, if_pos rfl, if_pos rfl, n6]
        exact o2
      · rw [lvl k hk, n7, n9, if_neg (show ¬ (-1 : Int32) = 10 by decide), if_neg (show ¬ (-1 : Int32) = 11 by decide)]
        exact o1 k hk
      · rw [n6]; exact o3 x
      · refine ⟨?_, ?_, ?_⟩
        · unfold okc; omega
        · omega
        · omega
    · have n9 : σ.1 2 9 = 0 := by rw [f9, if_neg hT4]
      have esg : sg B n p = 0 := by rw [sg, if_neg hT2, if_neg hT4]
      have hl : teT B n p < 5 := teT_lt
      have n6 : τ.1 49 6 = 0 ∨ τ.1 49 6 = 3 ∨ τ.1 49 6 = 2 := by
        rw [e6, esort]
        by_cases a : teT B n p = 0
        · rw [if_pos a]; exact .inl rfl
        · rw [if_neg a]
          by_cases b : teT B n p = 1
          · rw [if_pos b]; exact .inr (.inl rfl)
          · rw [if_neg b, if_neg hT2, if_pos (by omega)]; exact .inr (.inr rfl)
      rw [esg]
      refine ⟨?_, fun k hk => ?_, fun x => absurd rfl x⟩
      · unfold fX10_sign
        rw [w11, w10, if_pos rfl, if_pos rfl]
        rcases n6 with e | e | e <;> rw [e] <;> decide
      · rw [lvl k hk, n7, n9]
        rcases (show k = 0 ∨ k = 1 ∨ k = 2 ∨ k = 3 ∨ k = 4 by omega) with rfl | rfl | rfl | rfl | rfl <;> decide
/-- the class writes one step down -/
theorem c_add {z u : Nat} {c : Int32} (hP : sw_isP Q) (h : cF Q σ u z) (hz : z < 270) : ∃ m, fX2_add (Q + 7) σ c = some m ∧ cF Q m u (z + 1) ∧ ffc Q σ m ∧ m.1 2 = σ.1 2 ∧ m.2.1 = σ.2.1 ∧ m.1 (Q + 8) z = c ∧ (∀ i, i ≠ z → m.1 (Q + 8) i = σ.1 (Q + 8) i) := by
  obtain ⟨h1, h2, h3⟩ := h
  have lt : nI z < 270 := nI_lt (b := 270) hz (by decide)
  obtain ⟨m5, hm5⟩ : ∃ m5, m5 = sw_w (sw_w σ (Q + 8) z c) (Q + 7) 2 (nI (z + 1)) := ⟨_, rfl⟩
  have a7 : ∀ k, k ≠ 2 → m5.1 (Q + 7) k = σ.1 (Q + 7) k := fun k hk => by rw [hm5, w_at, upd_n hk, m_wne (by omega)]
  have a72 : m5.1 (Q + 7) 2 = nI (z + 1) := by rw [hm5, w_at, upd_e]
  have a8 : m5.1 (Q + 8) = upd (σ.1 (Q + 8)) z c := by rw [hm5, m_wne (by omega), w_at]
  have ao : ∀ a, a ≠ Q + 7 → a ≠ Q + 8 → m5.1 a = σ.1 a := fun a b1 b2 => by rw [hm5, m_wne b1, m_wne b2]
  have q2 : (2 : Nat) ≠ Q + 7 ∧ (2 : Nat) ≠ Q + 8 := by rcases hP with rfl | rfl <;> decide
  have hst : fX2_add (Q + 7) σ c = if c = -6 then some (sw_w m5 (Q + 7) 1 1) else some m5 := by
    have e2 : (sw_w σ (Q + 7 + 1) z c).1 (Q + 7) 2 = nI z := by rw [m_wne (by omega)]; exact h2
    rw [fX2_add, h2, if_pos lt, sw_gd_t (in_t hz (by decide)), nI_clamp (by omega), let_s, e2, nI_1, let_s, let_s]
    rw [hm5]
  by_cases hc : c = -6
  · refine ⟨sw_w m5 (Q + 7) 1 1, by rw [hst, if_pos hc], ⟨?_, ?_, fun x => ?_⟩, ⟨?_, fun a b1 b2 b3 => ?_, fun a b1 => ?_⟩, ?_, ?_, ?_, fun i hi => ?_⟩
    · rw [w_at, upd_n (by decide), a7 0 (by decide)]; exact h1
    · rw [w_at, upd_n (by decide)]; exact a72
    · rw [w_at, upd_e] at x
      exact absurd x (by decide)
    · rw [hm5]; rfl
    · rw [m_wne b2]; exact ao a b2 b3
    · rw [hm5]; rfl
    · rw [m_wne q2.1]; exact ao 2 q2.1 q2.2
    · rw [hm5]; rfl
    · rw [m_wne (by omega), a8, upd_e]
    · rw [m_wne (by omega), a8, upd_n hi]
  · refine ⟨m5, by rw [hst, if_neg hc], ⟨?_, a72, fun x i hi => ?_⟩, ⟨?_, fun a b1 b2 b3 => ao a b2 b3, fun a b1 => ?_⟩, ao 2 q2.1 q2.2, ?_, ?_, fun i hi => ?_⟩
    · rw [a7 0 (by decide)]; exact h1
    · rw [a8]
      by_cases e : i = z
      · rw [e, upd_e]; exact hc
      · rw [upd_n e]
        refine h3 ?_ i (by omega)
        rw [← a7 1 (by decide)]; exact x
    · rw [hm5]; rfl
    · rw [hm5]; rfl
    · rw [hm5]; rfl
    · rw [a8, upd_e]
    · rw [a8, upd_n hi]
/-- only the formula's cells of the class changed -/
theorem pz_ff (hP : sw_isP Q) (h : pz B n Q σ0 τ0 σ τ p) (hf : ffc Q σ σ') (h2 : σ'.1 2 = σ.1 2) (hl : σ'.2.1 = σ.2.1) : pz B n Q σ0 τ0 σ' τ p := by
  have ne : ∀ b, b < 5 → b ≠ 2 → σ'.1 b = σ.1 b := fun b hb hb2 => hf.2.1 b hb2 (by rcases hP with rfl | rfl <;> omega) (by rcases hP with rfl | rfl <;> omega)
  obtain ⟨⟨⟨b1, b2, b3⟩, c2, c3⟩, c4, c5, c6, c7, c8⟩ := h
  refine ⟨⟨⟨b1, fun j hj => by rw [ne 3 (by decide) (by decide)]; exact b2 j hj, fun k hk => by rw [hl]; exact b3 k hk⟩, c2, by rw [h2, hl]; exact c3⟩, c4, by rw [ne 1 (by decide) (by decide)]; exact c5, by rw [ne 1 (by decide) (by decide)]; exact c6, c7.tr ⟨hf.1, fun a a1 a2 a3 => hf.2.1 a a2 (by omega) (by omega), fun a a1 _ => hf.2.2 a a1⟩, c8⟩
/-- only the formula's cells of the reference changed -/
theorem pz_fe (h : pz B n Q σ0 τ0 σ τ p) (hf : ffe τ τ') (hk : ∀ k, k ≤ 8 → τ'.1 49 k = τ.1 49 k) (h9 : τ'.2.1 49 = τ.2.1 49) : pz B n Q σ0 τ0 σ τ' p := by
  obtain ⟨c1, ⟨b1, h2, ⟨f5, f4, f6, f7, y, f8⟩, h3, h3'⟩, c5, c6, c7, c8⟩ := h
  refine ⟨c1, ⟨⟨b1.1, fun j hj => ?_⟩, h2, ⟨?_, fun t => ?_, ?_, ?_, fun t => ?_, fun t => ?_⟩, ?_, ?_⟩, c5, c6, c7, c8.tr ⟨hf.1, fun a a1 a2 a3 a4 _ _ _ => hf.2.1 a a1 a2 a3 a4, fun a a1 _ => hf.2.2.1 a a1, fun k hps => ?_⟩⟩
  · rw [hf.2.1 50 (by decide) (by decide) (by decide) (by decide)]; exact b1.2 j hj
  · rw [hk 5 (by decide)]; exact f5
  · rw [hk 4 (by decide)]; exact f4 t
  · rw [hk 6 (by decide)]; exact f6
  · rw [hk 7 (by decide)]; exact f7
  · rw [h9]; exact y t
  · rw [hk 8 (by decide)]; exact f8 t
  · rw [hk 2 (by decide)]; exact h3
  · rw [hk 3 (by decide)]; exact h3'
  · by_cases h8 : k ≤ 8
    · exact hk k h8
    · refine hf.2.2.2 k (by omega) ?_ ?_ ?_ ?_ ?_ <;> (intro e; rw [e] at hps; exact absurd hps (by decide))
end PJ
