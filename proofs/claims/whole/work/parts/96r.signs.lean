/-! signs, brackets and the end of a formula in both -/
section PN
variable {σ τ σ0 τ0 σ' τ' : sw_M} {B : Nat → Nat} {n p Q : Nat} {sk : Nat → Nat} {l d u z : Nat}
theorem wh_non {S T : Type} {b : S → Option (S ⊕ T)} {s : S} {n : Nat} (h : b s = none) : sw_wh (n + 1) b s = none := by rw [sw_wh, h]
theorem hbr_t (h : sk l = 20) : ∀ m, hbr sk (l + 1 + m) = true
  | 0 => by
    show (hbr sk l || decide (sk l = 20)) = true
    rw [h, decide_eq_true rfl, Bool.or_true]
  | m + 1 => by
    show (hbr sk (l + 1 + m) || decide (sk (l + 1 + m) = 20)) = true
    rw [hbr_t h m, Bool.true_or]
theorem hrl_up : ∀ m, (∀ i, l ≤ i → i < l + m → ¬ sk i = 20 ∧ 5 ≤ tg (sk i)) → hrl sk (l + m) = hrl sk l
  | 0, _ => rfl
  | m + 1, h => by
    have a := h (l + m) (by omega) (by omega)
    show (if sk (l + m) = 20 then false else if tg (sk (l + m)) ≤ 4 then decide (tg (sk (l + m)) = 4) else hrl sk (l + m)) = _
    rw [if_neg a.1, if_neg (by omega), hrl_up m (fun i x y => h i x (by omega))]
theorem hrl_top (h : topt sk l < 4) : hrl sk l = false := by
  cases l with
  | zero => rfl
  | succ i =>
    show (if sk i = 20 then false else if tg (sk i) ≤ 4 then decide (tg (sk i) = 4) else hrl sk i) = false
    unfold topt at h
    rw [if_neg (by omega), show i + 1 - 1 = i by omega] at h
    by_cases e : sk i = 20
    · rw [if_pos e]
    · rw [if_neg e] at h
      rw [if_neg e, if_pos (by omega), decide_eq_false (by omega)]
theorem hrl_one (h : ¬ sk l = 20) (h4 : tg (sk l) = 4) : hrl sk (l + 1) = true := by
  show (if sk l = 20 then false else if tg (sk l) ≤ 4 then decide (tg (sk l) = 4) else hrl sk l) = true
  rw [if_neg h, if_pos (by omega), decide_eq_true h4]
theorem stop_t {t : Nat} (h : topt sk l < t) : l = 0 ∨ sk (l - 1) = 20 ∨ tg (sk (l - 1)) < t := by
  unfold topt at h
  by_cases a : l = 0
  · exact .inl a
  · by_cases b : sk (l - 1) = 20
    · exact .inr (.inl b)
    · rw [if_neg a, if_neg b] at h
      exact .inr (.inr h)
theorem tg_3 {c : Nat} (h : ¬ c = 21) : tg c ≠ 3 ∧ 1 ≤ tg c := by
  unfold tg
  rw [if_neg h]
  repeat' split
  all_goals omega
/-- a sign is put on the stack -/
theorem us_sign {c : Nat} (h : us B n Q σ0 τ0 σ τ p sk l d u z) (hlo : l + 1 ≤ u + d) (hc : okc c) : us B n Q σ0 τ0 σ (sw_w (sw_w τ 56 l (nI c)) 49 19 (nI (l + 1))) p (psh sk l c) (l + 1) d u z ∧ ffe τ (sw_w (sw_w τ 56 l (nI c)) 49 19 (nI (l + 1))) := by
  obtain ⟨h1, h2, h3, ⟨e1, e2, e3, e4⟩, ⟨s1, s2, s3⟩, h6, h7, h8, h9, h10⟩ := h
  obtain ⟨t, ht⟩ : ∃ t, t = sw_w (sw_w τ 56 l (nI c)) 49 19 (nI (l + 1)) := ⟨_, rfl⟩
  rw [← ht]
  have f2 : ffe τ t := by rw [ht]; exact (ffe_t (.inr (.inr rfl))).tr (ffe_w (.inr (.inl rfl)))
  have k2 : ∀ k, k ≠ 19 → t.1 49 k = τ.1 49 k := fun k a => by rw [ht, w_at, upd_n a, m_wne (by decide)]
  have k19 : t.1 49 19 = nI (l + 1) := by rw [ht, w_at, upd_e]
  have k56 : t.1 56 = upd (τ.1 56) l (nI c) := by rw [ht, m_wne (by decide), w_at]
  have ko : ∀ a, a ≠ 49 → a ≠ 56 → t.1 a = τ.1 a := fun a b b' => by rw [ht, m_wne b, m_wne b']
  refine ⟨⟨pz_fe h1 f2 (fun k hk => k2 k (by omega)) (by rw [ht]; rfl), h2, h3, ⟨?_, ?_, ?_, ?_⟩, ⟨k19, by omega, fun i hi => ?_⟩, fun i hi => ?_, hlo, h8, h9, h10⟩, f2⟩
  · rw [k2 20 (by decide)]; exact e1
  · rw [k2 22 (by decide)]; exact e2
  · rw [k2 17 (by decide)]; exact e3
  · rw [k2 23 (by decide)]; exact e4
  · rw [k56]
    by_cases e : i = l
    · rw [e, upd_e, psh_e]; exact ⟨rfl, hc⟩
    · rw [upd_n e, psh_n e]; exact s3 i (by omega)
  · rw [ko 52 (by decide) (by decide), ko 53 (by decide) (by decide)]; exact h6 i hi
theorem o_sign {m zr : Nat} (hP : sw_isP Q) (h : os B n Q σ0 τ0 σ τ p sk l m d u zr) (hlo : l + 1 ≤ u + d) (hc : sg B n p ≠ 0) (ht : topt sk l < tg (sg B n p)) (hall : ∀ i, l ≤ i → i < l + m → tg (sg B n p) ≤ tg (sk i)) (hr : tg (sg B n p) = 4 → hrl sk (l + m) = false) : ∃ σ' τ', fX7_readNext σ = some σ' ∧ (∀ a, Ol (a + 1) τ = Ur sw_F a τ') ∧ us B n Q σ0 τ0 σ' τ' (nx B n p) (psh sk l (sg B n p)) (l + 1) d u (zr + m) ∧ cfr σ σ' ∧ ffe τ τ' := by
  obtain ⟨q1, -, q3⟩ := p_sign h.1
  obtain ⟨q4, -, q6, q7, q8, q9⟩ := q3 hc
  have hlt := okc_lt q7
  obtain ⟨g1, g2⟩ := tg_e _ hlt
  have t0 := h.1.2.1.2.2.2.1
  have hst : stR τ sk (l + m) := h.2.2.2.2.1
  obtain ⟨τ1, a1, a2, a3, a4⟩ := os_clo hP h g2 (by omega) (stop_t ht) hall
  obtain ⟨b1, b2⟩ := us_sign a2 hlo q7
  obtain ⟨σ', τ', c1, c2, c3, c4, c5⟩ := us_tok hP b1 q4
  refine ⟨σ', τ', c1, fun a => ?_, c3, c4, a3.tr (b2.tr (ffe_e c5))⟩
  have s1 : τ1.1 49 19 = nI l := a2.2.2.2.2.1.1
  have s2 : l ≤ 60 := a2.2.2.2.2.1.2.1
  have w1 : ∀ x, (sw_w τ1 56 l x).1 49 19 = nI l := fun x => by rw [m_wne (by decide)]; exact s1
  have e118 : fX10_formula_L118 τ 1 (nI (sg B n p)) = sw_b1 (fX10_unit τ') fun m10 => fX10_formula_L159 m10 1 := by
    rw [fX10_formula_L118, g1, a1, b1_s, s1, sw_gd_t (in_t (show l < 160 by omega) (by decide)), nI_clamp (by omega), let_s, w1, nI_1, let_s, c2, b1_s]
  have n0 : ¬ nI (sg B n p) = 0 := fun e => hc ((nI_eq (b := 0) (by omega) (by decide)).mp e)
  have e99 : fX10_formula_L35 τ 1 = sw_b1 (fX10_unit τ') fun m10 => fX10_formula_L159 m10 1 := by
    rw [fX10_formula_L35, if_neg i10, if_pos t0, let_s, q1, if_neg q6, fX10_formula_L99, if_neg n0, g1, ← e118]
    by_cases e : nI (tg (sg B n p)) = 4
    · have e4 : tg (sg B n p) = 4 := (nI_eq (b := 4) (by omega) (by decide)).mp e
      rw [if_pos e, e_hrl hst, b1_s, hr e4]
      rfl
    · rw [if_neg e]
  show Ol (a + 1) τ = sw_b1 (fX10_unit τ') fun m => Ol a m
  cases hx : fX10_unit τ' with
  | none =>
    rw [hx] at e99
    unfold Ol
    rw [wh_non (b := fun s : Int32 × sw_M => fX10_formula_L35 s.2 s.1) (s := ((1 : Int32), τ)) e99]
    rfl
  | some x =>
    rw [hx] at e99
    unfold Ol
    rw [wh_one (b := fun s : Int32 × sw_M => fX10_formula_L35 s.2 s.1) (s := ((1 : Int32), τ)) (s' := ((1 : Int32), x)) e99]
    rfl
theorem us_pop {x y : Nat} (h : us B n Q σ0 τ0 σ τ p sk (l + 1) (d + 1) u z) (hlo : l ≤ u + d) (hx : τ.1 49 19 - 1 = nI l) : ∃ τ', τ' = sw_w (sw_w τ 49 19 (nI l)) 49 23 (nI d) ∧ us B n Q σ0 τ0 σ τ' p sk l d u z ∧ ffe τ τ' := by
  obtain ⟨h1, h2, h3, ⟨e1, e2, e3, e4⟩, ⟨s1, s2, s3⟩, h6, h7, h8, h9, h10⟩ := h
  obtain ⟨t, ht⟩ : ∃ t, t = sw_w (sw_w τ 49 19 (nI l)) 49 23 (nI d) := ⟨_, rfl⟩
  have f2 : ffe τ t := by rw [ht]; exact (ffe_w (.inr (.inl rfl))).tr (ffe_w (.inr (.inr (.inr (.inr rfl)))))
  have k2 : ∀ k, k ≠ 19 → k ≠ 23 → t.1 49 k = τ.1 49 k := fun k a b => by rw [ht, w_at, upd_n b, w_at, upd_n a]
  have ko : ∀ a, a ≠ 49 → t.1 a = τ.1 a := fun a b => by rw [ht, m_wne b, m_wne b]
  refine ⟨t, ht, ⟨pz_fe h1 f2 (fun k hk => k2 k (by omega) (by omega)) (by rw [ht]; rfl), h2, h3, ⟨?_, ?_, ?_, ?_⟩, ⟨?_, by omega, fun i hi => ?_⟩, fun i hi => ?_, hlo, h8, by omega, h10⟩, f2⟩
  · rw [k2 20 (by decide) (by decide)]; exact e1
  · rw [k2 22 (by decide) (by decide)]; exact e2
  · rw [k2 17 (by decide) (by decide)]; exact e3
  · rw [ht, w_at, upd_e]
  · rw [ht, w_at, upd_n (by decide), w_at, upd_e]
  · rw [ko 56 (by decide)]; exact s3 i (by omega)
  · rw [ko 52 (by decide), ko 53 (by decide)]; exact h6 i hi
/-- a bracket is closed -/
theorem o_shut {m zr : Nat} (hP : sw_isP Q) (h : os B n Q σ0 τ0 σ τ p sk (l + 1) m (d + 1) u zr) (hlo : l ≤ u + d) (hb : sk l = 20) (h41 : τ.1 49 6 = 41) (hT : teT B n p = 4) : ∃ σ' τ', fX7_readNext σ = some σ' ∧ (∀ a, Ol (a + 1) τ = Ol a τ') ∧ us B n Q σ0 τ0 σ' τ' (nx B n p) sk l d u (zr + m) ∧ cfr σ σ' ∧ ffe τ τ' := by
  have t0 := h.1.2.1.2.2.2.1
  have hst : stR τ sk (l + 1 + m) := h.2.2.2.2.1
  obtain ⟨τ1, a1, a2, a3, a4⟩ := os_clo (t := 0) hP h (by decide) (by omega) (.inr (.inl (by rw [show l + 1 - 1 = l by omega]; exact hb))) (fun _ _ _ => by omega)
  have s1 : τ1.1 49 19 = nI (l + 1) := a2.2.2.2.2.1.1
  have s2 : l + 1 ≤ 60 := a2.2.2.2.2.1.2.1
  have s3 : τ1.1 49 23 = nI (d + 1) := a2.2.2.2.1.2.2.2
  have d7 : d + 1 ≤ 7 := a2.2.2.2.2.2.2.2.2.1
  have m1 : ∀ k, k < 100 → nI (k + 1) - 1 = nI k := by decide +kernel
  obtain ⟨τ2, b1, b2, b3⟩ := us_pop (x := 0) (y := 0) a2 hlo (by rw [s1]; exact m1 l (by omega))
  obtain ⟨σ', τ', c1, c2, c3, c4, c5⟩ := us_tok hP b2 (by omega)
  refine ⟨σ', τ', c1, fun a => ?_, c3, c4, a3.tr (b3.tr (ffe_e c5))⟩
  have w2 : (sw_w τ1 49 19 (nI l)).1 49 23 = nI (d + 1) := by rw [w_at, upd_n (by decide)]; exact s3
  have e35 : fX10_formula_L35 τ 1 = some (.inl (1, τ')) := by
    rw [fX10_formula_L35, if_neg i10, if_pos t0, let_s, if_pos h41, e_hbr hst, hbr_t hb, if_pos rfl, b1_s, if_neg i10, show (0 : Int32) = nI 0 from rfl, a1, b1_s, s1, m1 l (by omega), let_s, w2, m1 d (by omega), let_s, ← b1, c2, b1_s]
    rfl
  unfold Ol
  rw [wh_one (b := fun s : Int32 × sw_M => fX10_formula_L35 s.2 s.1) (s := ((1 : Int32), τ)) (s' := ((1 : Int32), τ')) e35]
/-- no sign goes on -/
theorem o_fin {a : Nat} (h : pz B n Q σ0 τ0 σ τ p) (hst : stR τ sk l) (hs : sg B n p = 0 ∨ (tg (sg B n p) = 4 ∧ hrl sk l = true)) (h41 : τ.1 49 6 = 41 → hbr sk l = false) : Ol (a + 2) τ = fX10_formula_L162 τ := by
  obtain ⟨q1, -, q3⟩ := p_sign h
  have t0 := h.2.1.2.2.2.1
  have e99 : fX10_formula_L99 τ 1 (nI (sg B n p)) = some (.inl (0, τ)) := by
    rw [fX10_formula_L99]
    rcases hs with e | ⟨e, e'⟩
    · rw [e, if_pos (show nI 0 = 0 from rfl)]; rfl
    · by_cases e0 : sg B n p = 0
      · rw [e0, if_pos (show nI 0 = 0 from rfl)]; rfl
      · have hlt := okc_lt (q3 e0).2.2.2.1
        rw [if_neg (show ¬ nI (sg B n p) = 0 from fun x => e0 ((nI_eq (b := 0) (by omega) (by decide)).mp x)), (tg_e _ hlt).1, e, if_pos (show nI 4 = 4 from rfl), e_hrl hst, e', if_pos rfl, b1_s, if_neg i10]
        rfl
  have e35 : fX10_formula_L35 τ 1 = some (.inl (0, τ)) := by
    rw [fX10_formula_L35, if_neg i10, if_pos t0, let_s, q1]
    by_cases e : τ.1 49 6 = 41
    · rw [if_pos e, e_hbr hst, h41 e, b1_s]
      exact e99
    · rw [if_neg e]; exact e99
  unfold Ol
  rw [wh_one (b := fun s : Int32 × sw_M => fX10_formula_L35 s.2 s.1) (s := ((1 : Int32), τ)) (s' := ((0 : Int32), τ)) e35]
  have e0 : fX10_formula_L35 τ 0 = sw_up (fX10_formula_L162 τ) := by rw [fX10_formula_L35, if_pos rfl]
  cases hx : fX10_formula_L162 τ with
  | none =>
    rw [hx] at e0
    rw [wh_non (b := fun s : Int32 × sw_M => fX10_formula_L35 s.2 s.1) (s := ((0 : Int32), τ)) e0]
  | some x =>
    rw [hx] at e0
    rw [wh_end (b := fun s : Int32 × sw_M => fX10_formula_L35 s.2 s.1) (s := ((0 : Int32), τ)) (t := x) e0]
end PN
