/-! the state of both while they read -/
def psl (k : Nat) : Bool := decide (k = 2 ∨ k = 3 ∨ k = 4 ∨ k = 5 ∨ k = 6 ∨ k = 7 ∨ k = 8 ∨ k = 17 ∨ k = 19 ∨ k = 20 ∨ k = 22 ∨ k = 23 ∨ k = 24 ∨ k = 33 ∨ k = 34 ∨ k = 35 ∨ k = 36 ∨ k = 37 ∨ k = 38 ∨ k = 39 ∨ k = 46 ∨ k = 47 ∨ k = 48)
def pfr (Q : Nat) (σ0 σ : sw_M) : Prop := σ.2.2 = σ0.2.2 ∧ (∀ a, a ≠ 1 → a ≠ 2 → ¬ (Q ≤ a ∧ a ≤ Q + 10) → σ.1 a = σ0.1 a) ∧ ∀ a, a ≠ 2 → ¬ (Q ≤ a ∧ a ≤ Q + 3) → σ.2.1 a = σ0.2.1 a
def qfr (τ0 τ : sw_M) : Prop := τ.2.2 = τ0.2.2 ∧ (∀ a, a ≠ 49 → a ≠ 52 → a ≠ 53 → a ≠ 56 → a ≠ 59 → a ≠ 60 → a ≠ 61 → τ.1 a = τ0.1 a) ∧ (∀ a, a ≠ 49 → a ≠ 51 → τ.2.1 a = τ0.2.1 a) ∧ ∀ k, psl k = false → τ.1 49 k = τ0.1 49 k
def pz (B : Nat → Nat) (n Q : Nat) (σ0 τ0 σ τ : sw_M) (p : Nat) : Prop := cS B n σ p ∧ eS B n τ p ∧ σ.1 1 2 = 0 ∧ σ.1 1 3 = -1 ∧ pfr Q σ0 σ ∧ qfr τ0 τ
def pq (Q : Nat) (σ0 τ0 σ τ : sw_M) : Prop := σ.1 1 2 = τ.1 49 2 ∧ σ.1 1 3 = τ.1 49 3 ∧ ¬ τ.1 49 2 ≤ 0 ∧ pfr Q σ0 σ ∧ qfr τ0 τ
section PB
variable {σ τ σ0 τ0 σ' τ' : sw_M} {B : Nat → Nat} {n p Q : Nat}
theorem pfr.rf : pfr Q σ σ := ⟨rfl, fun _ _ _ _ => rfl, fun _ _ _ => rfl⟩
theorem qfr.rf : qfr σ σ := ⟨rfl, fun _ _ _ _ _ _ _ _ => rfl, fun _ _ _ => rfl, fun _ _ => rfl⟩
theorem pfr.tr (h : pfr Q σ0 σ) (h' : pfr Q σ σ') : pfr Q σ0 σ' := ⟨h'.1.trans h.1, fun a a1 a2 a3 => (h'.2.1 a a1 a2 a3).trans (h.2.1 a a1 a2 a3), fun a a1 a2 => (h'.2.2 a a1 a2).trans (h.2.2 a a1 a2)⟩
theorem qfr.tr (h : qfr τ0 τ) (h' : qfr τ τ') : qfr τ0 τ' := ⟨h'.1.trans h.1, fun a a1 a2 a3 a4 a5 a6 a7 => (h'.2.1 a a1 a2 a3 a4 a5 a6 a7).trans (h.2.1 a a1 a2 a3 a4 a5 a6 a7), fun a a1 a2 => (h'.2.2.1 a a1 a2).trans (h.2.2.1 a a1 a2), fun k hk => (h'.2.2.2 k hk).trans (h.2.2.2 k hk)⟩
theorem pfr_c (h : cfr σ σ') : pfr Q σ σ' := ⟨h.1, fun a _ a2 _ => h.2.1 a a2, fun a a1 _ => h.2.2 a a1⟩
theorem qfr_e (h : efr τ τ') : qfr τ τ' := ⟨h.1, fun a a1 _ _ _ _ _ _ => h.2.1 a a1, fun a a1 _ => h.2.2.1 a a1, fun k hk => h.2.2.2 k (fun e => by rw [e] at hk; exact absurd hk (by decide)) (fun e => by rw [e] at hk; exact absurd hk (by decide)) (fun e => by rw [e] at hk; exact absurd hk (by decide)) (fun e => by rw [e] at hk; exact absurd hk (by decide))⟩
theorem pfr_w {a k : Nat} {x : Int32} (ha : a = 1 ∨ a = 2 ∨ (Q ≤ a ∧ a ≤ Q + 10)) : pfr Q σ (sw_w σ a k x) := ⟨rfl, fun b b1 b2 b3 => m_wne (fun e => by
  rw [e] at b1 b2 b3
  rcases ha with h | h | h
  · exact b1 h
  · exact b2 h
  · exact b3 h), fun _ _ _ => rfl⟩
theorem qfr_w {k : Nat} {x : Int32} (hk : psl k = true) : qfr τ (sw_w τ 49 k x) := ⟨rfl, fun b b1 _ _ _ _ _ _ => m_wne b1, fun _ _ _ => rfl, fun j hj => by
  show upd (τ.1 49) k x j = _
  exact upd_n (fun e => by rw [e, hk] at hj; exact absurd hj (by decide))⟩
theorem qfr_t {a k : Nat} {x : Int32} (ha : a = 52 ∨ a = 53 ∨ a = 56 ∨ a = 59 ∨ a = 60 ∨ a = 61) : qfr τ (sw_w τ a k x) := ⟨rfl, fun b b1 b2 b3 b4 b5 b6 b7 => m_wne (fun e => by
  rw [e] at b1 b2 b3 b4 b5 b6 b7
  rcases ha with h | h | h | h | h | h
  · exact b2 h
  · exact b3 h
  · exact b4 h
  · exact b5 h
  · exact b6 h
  · exact b7 h), fun _ _ _ => rfl, fun j _ => by
  rw [m_wne (by omega)]⟩
theorem p_next (h : pz B n Q σ0 τ0 σ τ p) (hT : ¬ teT B n p = 1) : ∃ σ' τ', fX7_readNext σ = some σ' ∧ fX10_token τ = some τ' ∧ pz B n Q σ0 τ0 σ' τ' (nx B n p) ∧ cfr σ σ' ∧ efr τ τ' := by
  obtain ⟨h1, h2, h3, h4, h5, h6⟩ := h
  obtain ⟨σ', a1, a2, a3⟩ := c_rn h1
  obtain ⟨τ', b1, b2, b3⟩ := e_rn h2 hT
  refine ⟨σ', τ', a1, b1, ⟨a2, b2, ?_, ?_, h5.tr (pfr_c a3), h6.tr (qfr_e b3)⟩, a3, b3⟩
  · rw [a3.2.1 1 (by decide)]; exact h3
  · rw [a3.2.1 1 (by decide)]; exact h4
/-- the class alone goes on, behind a token that is none -/
theorem p_fail {w : Int32} (hw : ¬ w ≤ 0) (h : pz B n Q σ0 τ0 σ τ p) : ∃ σ' τ', fX5_refuse σ w = some (0, σ') ∧ fX10_wrong τ w = some τ' ∧ pq Q σ0 τ0 σ' τ' := by
  obtain ⟨h1, h2, h3, h4, h5, h6⟩ := h
  refine ⟨_, _, c_ref h1, e_wro h2, rfl, rfl, ?_, h5.tr ((pfr_w (.inl rfl)).tr (pfr_w (.inl rfl))), h6.tr ((qfr_w (by decide)).tr (qfr_w (by decide)))⟩
  show ¬ upd (upd (τ.1 49) 2 (flt B n p w)) 3 (nI p) 2 ≤ 0
  rw [upd_n (by decide), upd_e]
  exact flt_pos hw
theorem es_1 (h : etk B n p (τ.1 49) (τ.2.1 49 9)) : τ.1 49 6 = 1 ↔ teT B n p = 2 := by
  rw [h.2.2.1]
  unfold esort
  have hl : teT B n p < 5 := teT_lt
  by_cases h0 : teT B n p = 0
  · rw [if_pos h0, h0]; decide
  · rw [if_neg h0]
    by_cases h1 : teT B n p = 1
    · rw [if_pos h1, h1]; decide
    · rw [if_neg h1]
      by_cases h2 : teT B n p = 2
      · rw [if_pos h2, h2]; decide
      · rw [if_neg h2]
        by_cases h3 : teT B n p = 3
        · rw [if_pos h3, h3]; decide
        · rw [if_neg h3]
          refine ⟨fun e => ?_, fun e => absurd e h2⟩
          have hx := te_sign (show teT B n p = 4 by omega)
          have hn : ∀ b, b < 256 → isS b = true → ¬ nI b = 1 := by decide +kernel
          have hb : teX B n p < 256 := by
            have : isS (teX B n p) = true := hx
            unfold isS at this
            have := of_decide_eq_true this
            omega
          exact absurd e (hn _ hb hx)
theorem es_2 (h : etk B n p (τ.1 49) (τ.2.1 49 9)) : τ.1 49 6 = 2 ↔ teT B n p = 3 := by
  rw [h.2.2.1]
  unfold esort
  have hl : teT B n p < 5 := teT_lt
  by_cases h0 : teT B n p = 0
  · rw [if_pos h0, h0]; decide
  · rw [if_neg h0]
    by_cases h1 : teT B n p = 1
    · rw [if_pos h1, h1]; decide
    · rw [if_neg h1]
      by_cases h2 : teT B n p = 2
      · rw [if_pos h2, h2]; decide
      · rw [if_neg h2]
        by_cases h3 : teT B n p = 3
        · rw [if_pos h3, h3]; decide
        · rw [if_neg h3]
          refine ⟨fun e => ?_, fun e => absurd e h3⟩
          have hx := te_sign (show teT B n p = 4 by omega)
          have hn : ∀ b, b < 256 → isS b = true → ¬ nI b = 2 := by decide +kernel
          have hb : teX B n p < 256 := by
            have : isS (teX B n p) = true := hx
            unfold isS at this
            have := of_decide_eq_true this
            omega
          exact absurd e (hn _ hb hx)
theorem es_0 (h : etk B n p (τ.1 49) (τ.2.1 49 9)) : τ.1 49 6 = 0 ↔ teT B n p = 0 := by
  rw [h.2.2.1]
  unfold esort
  have hl : teT B n p < 5 := teT_lt
  by_cases h0 : teT B n p = 0
  · rw [if_pos h0, h0]; decide
  · rw [if_neg h0]
    by_cases h1 : teT B n p = 1
    · rw [if_pos h1, h1]; decide
    · rw [if_neg h1]
      by_cases h2 : teT B n p = 2
      · rw [if_pos h2, h2]; decide
      · rw [if_neg h2]
        by_cases h3 : teT B n p = 3
        · rw [if_pos h3, h3]; decide
        · rw [if_neg h3]
          refine ⟨fun e => ?_, fun e => absurd e h0⟩
          have hx := te_sign (show teT B n p = 4 by omega)
          have hn : ∀ b, b < 256 → isS b = true → ¬ nI b = 0 := by decide +kernel
          have hb : teX B n p < 256 := by
            have : isS (teX B n p) = true := hx
            unfold isS at this
            have := of_decide_eq_true this
            omega
          exact absurd e (hn _ hb hx)
/-- a sign is a sign for both -/
theorem p_sg {c : Nat} (hc : 4 < c) (hc2 : c < 2 ^ 31) (h : pz B n Q σ0 τ0 σ τ p) : (σ.1 2 9 = nI c ↔ τ.1 49 6 = nI c) ∧ (σ.1 2 9 = nI c → teT B n p = 4) := by
  obtain ⟨⟨_, _, h1⟩, ⟨_, _, h2, _⟩, _⟩ := h
  obtain ⟨_, _, f4, _, _, _, _, f9⟩ := h1
  have hl : teT B n p < 5 := teT_lt
  rw [f9, h2.2.2.1]
  unfold esort
  by_cases h4 : teT B n p = 4
  · rw [h4]
    exact ⟨Iff.rfl, fun _ => rfl⟩
  · have z : ¬ (0 : Int32) = nI c := fun e => nI_ne0 (by omega) hc2 e.symm
    rw [if_neg h4]
    refine ⟨⟨fun e => absurd e z, fun e => ?_⟩, fun e => absurd e z⟩
    have s : ∀ t, t < 5 → ¬ t = c → ¬ nI t = nI c := fun t ht hne x => hne ((nI_eq (by omega) hc2).mp x)
    by_cases h0 : teT B n p = 0
    · rw [if_pos h0] at e; exact absurd e (s 0 (by decide) (by omega))
    · rw [if_neg h0] at e
      by_cases h1 : teT B n p = 1
      · rw [if_pos h1] at e; exact absurd e (s 3 (by decide) (by omega))
      · rw [if_neg h1] at e
        by_cases h2 : teT B n p = 2
        · rw [if_pos h2] at e; exact absurd e (s 1 (by decide) (by omega))
        · rw [if_neg h2] at e
          by_cases h3 : teT B n p = 3
          · rw [if_pos h3] at e; exact absurd e (s 2 (by decide) (by omega))
          · omega
theorem p_word {k : Nat} (hk : k < 19) (h : pz B n Q σ0 τ0 σ τ p) : (σ.1 2 7 = nI k ∧ fX10_isWord τ (lN (krN k)) = 1 ∧ teT B n p = 2) ∨ (¬ σ.1 2 7 = nI k ∧ fX10_isWord τ (lN (krN k)) = 0) := by
  obtain ⟨⟨_, _, h1⟩, ⟨_, _, h2, _⟩, _⟩ := h
  obtain ⟨_, _, f4, _, f6, f7, _, f9⟩ := h1
  have s1 := es_1 h2
  unfold fX10_isWord
  by_cases hT : teT B n p = 2
  · have v := te_vw hT
    have ey := h2.2.2.2.2.1 hT
    rw [f7, if_pos hT, if_pos (s1.mpr hT), ey]
    have iff := kfind_iff v hk
    by_cases e : teY B n p = krN k
    · rw [if_pos ((cmp_0 _ _).mpr (by rw [e]))]
      exact .inl ⟨iff.mpr e, rfl, hT⟩
    · rw [if_neg (fun x => e ((lN_inj (vw_lt v).2 (vw_lt (key_vw hk)).2).mp ((cmp_0 _ _).mp x)))]
      exact .inr ⟨fun x => e (iff.mp x), rfl⟩
  · rw [f7, if_neg hT, if_neg (fun x => hT (s1.mp x))]
    exact .inr ⟨fun x => nI_nm (by omega) x.symm, rfl⟩
theorem own_iff {y : Nat} (hy : y < 2 ^ 63) (hl : τ.2.1 49 9 = lN y) : fX10_isOwn τ = 0 ↔ ∀ i, i < 19 → ¬ y = krN i := by
  have c : ∀ x : Nat, x < 2 ^ 63 → (lg_cmp (τ.2.1 49 9) (lN x) = 0 ↔ y = x) := fun x hx => by rw [cmp_0, hl, lN_inj hy hx]
  have k : ∀ i, i < 19 → krN i < 2 ^ 63 := fun i hi => (vw_lt (key_vw hi)).2
  have u : fX10_isOwn τ = if y = krN 0 then 1 else if y = krN 1 then 1 else if y = krN 7 then 1 else if y = krN 2 then 1 else if y = krN 8 then 1 else if y = krN 3 then 1 else if y = krN 9 then 1 else if y = krN 4 then 1 else if y = krN 5 then 1 else if y = krN 6 then 1 else if y = krN 13 then 1 else if y = krN 14 then 1 else if y = krN 15 then 1 else if y = krN 16 then 1 else if y = krN 17 then 1 else if y = krN 18 then 1 else if y = krN 11 then 1 else if y = krN 10 then 1 else if y = krN 12 then 1 else 0 := by
    have e : ∀ i, i < 19 → ∀ a b : Int32, (if lg_cmp (τ.2.1 49 9) (lN (krN i)) = 0 then a else b) = if y = krN i then a else b := fun i hi a b => by
      by_cases h : y = krN i
      · rw [if_pos h, if_pos ((c _ (k i hi)).mpr h)]
      · rw [if_neg h, if_neg (fun x => h ((c _ (k i hi)).mp x))]
    rw [← e 0 (by decide), ← e 1 (by decide), ← e 7 (by decide), ← e 2 (by decide), ← e 8 (by decide), ← e 3 (by decide), ← e 9 (by decide), ← e 4 (by decide), ← e 5 (by decide), ← e 6 (by decide), ← e 13 (by decide), ← e 14 (by decide), ← e 15 (by decide), ← e 16 (by decide), ← e 17 (by decide), ← e 18 (by decide), ← e 11 (by decide), ← e 10 (by decide), ← e 12 (by decide)]
    rfl
  rw [u]
  constructor
  · intro h i hi e
    have hr : i = 0 ∨ i = 1 ∨ i = 2 ∨ i = 3 ∨ i = 4 ∨ i = 5 ∨ i = 6 ∨ i = 7 ∨ i = 8 ∨ i = 9 ∨ i = 10 ∨ i = 11 ∨ i = 12 ∨ i = 13 ∨ i = 14 ∨ i = 15 ∨ i = 16 ∨ i = 17 ∨ i = 18 := by omega
    have key : ∀ (a : Prop) [Decidable a] (x : Int32), (if a then (1 : Int32) else x) = 0 → ¬ a ∧ x = 0 := by
      intro a _ x hx
      by_cases ha : a
      · rw [if_pos ha] at hx; exact absurd hx (by decide)
      · rw [if_neg ha] at hx; exact ⟨ha, hx⟩
    obtain ⟨q0, h⟩ := key _ _ h
    obtain ⟨q1, h⟩ := key _ _ h
    obtain ⟨q7, h⟩ := key _ _ h
    obtain ⟨q2, h⟩ := key _ _ h
    obtain ⟨q8, h⟩ := key _ _ h
    obtain ⟨q3, h⟩ := key _ _ h
    obtain ⟨q9, h⟩ := key _ _ h
    obtain ⟨q4, h⟩ := key _ _ h
    obtain ⟨q5, h⟩ := key _ _ h
    obtain ⟨q6, h⟩ := key _ _ h
    obtain ⟨q13, h⟩ := key _ _ h
    obtain ⟨q14, h⟩ := key _ _ h
    obtain ⟨q15, h⟩ := key _ _ h
    obtain ⟨q16, h⟩ := key _ _ h
    obtain ⟨q17, h⟩ := key _ _ h
    obtain ⟨q18, h⟩ := key _ _ h
    obtain ⟨q11, h⟩ := key _ _ h
    obtain ⟨q10, h⟩ := key _ _ h
    obtain ⟨q12, h⟩ := key _ _ h
    rcases hr with rfl | rfl | rfl | rfl | rfl | rfl | rfl | rfl | rfl | rfl | rfl | rfl | rfl | rfl | rfl | rfl | rfl | rfl | rfl
    · exact q0 e
    · exact q1 e
    · exact q2 e
    · exact q3 e
    · exact q4 e
    · exact q5 e
    · exact q6 e
    · exact q7 e
    · exact q8 e
    · exact q9 e
    · exact q10 e
    · exact q11 e
    · exact q12 e
    · exact q13 e
    · exact q14 e
    · exact q15 e
    · exact q16 e
    · exact q17 e
    · exact q18 e
  · intro h
    rw [if_neg (h 0 (by decide)), if_neg (h 1 (by decide)), if_neg (h 7 (by decide)), if_neg (h 2 (by decide)), if_neg (h 8 (by decide)), if_neg (h 3 (by decide)), if_neg (h 9 (by decide)), if_neg (h 4 (by decide)), if_neg (h 5 (by decide)), if_neg (h 6 (by decide)), if_neg (h 13 (by decide)), if_neg (h 14 (by decide)), if_neg (h 15 (by decide)), if_neg (h 16 (by decide)), if_neg (h 17 (by decide)), if_neg (h 18 (by decide)), if_neg (h 11 (by decide)), if_neg (h 10 (by decide)), if_neg (h 12 (by decide))]
theorem p_name (h : pz B n Q σ0 τ0 σ τ p) : (fX7_isName σ = 1 ∧ fX10_isName τ = 1 ∧ teT B n p = 2 ∧ vw (teX B n p) (teY B n p) ∧ σ.2.1 2 6 = lN (teX B n p) ∧ τ.2.1 49 9 = lN (teY B n p)) ∨ (fX7_isName σ = 0 ∧ fX10_isName τ = 0) := by
  obtain ⟨⟨_, _, h1⟩, ⟨_, _, h2, _⟩, _⟩ := h
  obtain ⟨_, _, f4, _, f6, f7, _, f9⟩ := h1
  have s1 := es_1 h2
  unfold fX7_isName fX10_isName
  rw [f4, f7]
  by_cases hT : teT B n p = 2
  · have v := te_vw hT
    have ey := h2.2.2.2.2.1 hT
    have hown := own_iff (vw_lt v).2 ey
    have hno := kfind_no v
    rw [if_pos (show nI (teT B n p) = 2 by rw [hT]; rfl), if_pos hT, if_pos (s1.mpr hT)]
    by_cases e : kfind (teX B n p) = -1
    · rw [if_pos e, if_pos (hown.mpr (hno.mp e))]
      exact .inl ⟨rfl, rfl, hT, v, f6 hT, ey⟩
    · rw [if_neg e, if_neg (fun x => e (hno.mpr (hown.mp x)))]
      exact .inr ⟨rfl, rfl⟩
  · have : ¬ nI (teT B n p) = 2 := fun x => hT ((nI_t _ teT_lt 2 (by decide)).mp x)
    rw [if_neg this, if_neg (fun x => hT (s1.mp x))]
    exact .inr ⟨rfl, rfl⟩
end PB
