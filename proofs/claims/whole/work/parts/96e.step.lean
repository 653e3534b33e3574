/-! both read the tape, in step -/
def nx (B : Nat → Nat) (n p : Nat) : Nat := tkP B n (teE B n p)
theorem te_pos {B : Nat → Nat} {n p : Nat} (hp : p ≤ n) : p ≤ teE B n p ∧ teE B n p ≤ n ∧ (¬ teT B n p = 0 → p < teE B n p) := by
  unfold teE
  by_cases h1 : n ≤ p
  · rw [if_pos h1]
    exact ⟨Nat.le_refl p, hp, fun h => absurd (by rw [teT, if_pos h1]) h⟩
  · rw [if_neg h1]
    by_cases h2 : isL (B p) = true
    · rw [if_pos h2]
      obtain ⟨s1, s2, s3, s4⟩ := tend_spec (fun i => isL (B i)) n (n - p) p (by omega)
      have s1' : p ≤ tkL B n p := s1
      have s4' : tkL B n p ≤ n := s4 hp
      refine ⟨s1', s4', fun _ => ?_⟩
      have : ¬ tkL B n p = p := by
        intro e
        have e' : t_end (fun i => isL (B i)) n (n - p) p = p := e
        rw [e'] at s3
        exact s3 ⟨by omega, h2⟩
      omega
    · rw [if_neg h2]
      by_cases h3 : isD (B p) = true
      · rw [if_pos h3]
        obtain ⟨s1, s2, s3, s4⟩ := tend_spec (fun i => isD (B i)) n (n - p) p (by omega)
        have s1' : p ≤ tkD B n p := s1
        have s4' : tkD B n p ≤ n := s4 hp
        refine ⟨s1', s4', fun _ => ?_⟩
        have : ¬ tkD B n p = p := by
          intro e
          have e' : t_end (fun i => isD (B i)) n (n - p) p = p := e
          rw [e'] at s3
          exact s3 ⟨by omega, h3⟩
        omega
      · rw [if_neg h3]
        exact ⟨by omega, by omega, fun _ => by omega⟩
theorem nx_pos {B : Nat → Nat} {n p : Nat} (hp : p ≤ n) : p ≤ nx B n p ∧ nx B n p ≤ n ∧ (¬ teT B n p = 0 → p < nx B n p) := by
  obtain ⟨a1, a2, a3⟩ := te_pos (B := B) hp
  obtain ⟨s1, s2, s3, s4⟩ := tend_spec (fun i => isB (B i)) n (n - teE B n p) (teE B n p) (by omega)
  have s1' : teE B n p ≤ nx B n p := s1
  have s4' : nx B n p ≤ n := s4 a2
  exact ⟨by omega, s4', fun h => Nat.lt_of_lt_of_le (a3 h) s1'⟩
theorem te_sign {B : Nat → Nat} {n p : Nat} (h : teT B n p = 4) : isS (teX B n p) = true := by
  unfold teT at h
  by_cases h1 : n ≤ p
  · rw [if_pos h1] at h
    exact absurd h (by decide)
  · rw [if_neg h1] at h
    by_cases h2 : isL (B p) = true
    · rw [if_pos h2] at h
      split at h <;> exact absurd h (by decide)
    · rw [if_neg h2] at h
      by_cases h3 : isD (B p) = true
      · rw [if_pos h3] at h
        split at h <;> exact absurd h (by decide)
      · rw [if_neg h3] at h
        by_cases h4 : isS (B p) = true
        · rw [teX, if_neg h2, if_neg h3]
          exact h4
        · rw [if_neg h4] at h
          exact absurd h (by decide)
def cfr (σ τ : sw_M) : Prop := τ.2.2 = σ.2.2 ∧ (∀ a, a ≠ 2 → τ.1 a = σ.1 a) ∧ ∀ a, a ≠ 2 → τ.2.1 a = σ.2.1 a
def efr (σ τ : sw_M) : Prop := τ.2.2 = σ.2.2 ∧ (∀ a, a ≠ 49 → τ.1 a = σ.1 a) ∧ (∀ a, a ≠ 49 → τ.2.1 a = σ.2.1 a) ∧ ∀ k, k ≠ 4 → k ≠ 6 → k ≠ 7 → k ≠ 8 → τ.1 49 k = σ.1 49 k
def cS (B : Nat → Nat) (n : Nat) (σ : sw_M) (p : Nat) : Prop := cB σ B n ∧ p ≤ n ∧ ctk B n p (σ.1 2) (σ.2.1 2 6)
def eS (B : Nat → Nat) (n : Nat) (σ : sw_M) (p : Nat) : Prop := eB σ B n ∧ p ≤ n ∧ etk B n p (σ.1 49) (σ.2.1 49 9) ∧ σ.1 49 2 = 0 ∧ σ.1 49 3 = -1
section PA
variable {σ τ : sw_M} {B : Nat → Nat} {n p : Nat}
theorem cfr.rf : cfr σ σ := ⟨rfl, fun _ _ => rfl, fun _ _ => rfl⟩
theorem cfr.tr {υ : sw_M} (h : cfr σ τ) (h' : cfr τ υ) : cfr σ υ := ⟨h'.1.trans h.1, fun a ha => (h'.2.1 a ha).trans (h.2.1 a ha), fun a ha => (h'.2.2 a ha).trans (h.2.2 a ha)⟩
theorem efr.rf : efr σ σ := ⟨rfl, fun _ _ => rfl, fun _ _ => rfl, fun _ _ _ _ _ => rfl⟩
theorem efr.tr {υ : sw_M} (h : efr σ τ) (h' : efr τ υ) : efr σ υ := ⟨h'.1.trans h.1, fun a ha => (h'.2.1 a ha).trans (h.2.1 a ha), fun a ha => (h'.2.2.1 a ha).trans (h.2.2.1 a ha), fun k a b c d => (h'.2.2.2 k a b c d).trans (h.2.2.2 k a b c d)⟩
theorem cM_fr {f : Nat → Int32} {y : Int64} : cfr σ (cM σ f y) := ⟨rfl, fun _ h => cM_n h, fun _ h => cM_ln h⟩
theorem cB_fr (h : cB σ B n) (hf : cfr σ τ) : cB τ B n := ⟨h.1, fun j hj => by rw [hf.2.1 3 (by decide)]; exact h.2.1 j hj, fun k hk => by rw [hf.2.2 4 (by decide)]; exact h.2.2 k hk⟩
theorem eB_fr (h : eB σ B n) (hf : efr σ τ) : eB τ B n := ⟨h.1, fun j hj => by rw [hf.2.1 50 (by decide)]; exact h.2 j hj⟩
theorem c_rn (h : cS B n σ p) : ∃ m, fX7_readNext σ = some m ∧ cS B n m (nx B n p) ∧ cfr σ m := by
  obtain ⟨h1, h2, h3⟩ := h
  obtain ⟨f, y, e1, e2⟩ := c_next (a := teE B n p) h1 (te_pos h2).2.1 h3.1 h3.2.1
  exact ⟨_, e1, ⟨cB_fr h1 cM_fr, (nx_pos h2).2.1, e2⟩, cM_fr⟩
theorem e_rn (h : eS B n σ p) (hT : ¬ teT B n p = 1) : ∃ m, fX10_token σ = some m ∧ eS B n m (nx B n p) ∧ efr σ m := by
  obtain ⟨h1, h2, h3, h4, h5⟩ := h
  obtain ⟨f, y, e1, e2, e3⟩ := e_next (a := teE B n p) h1 (te_pos h2).2.1 h3.1 (h3.2.1 hT)
  have fr : efr σ (eM σ f y) := ⟨rfl, fun _ h => eM_n h, fun _ h => eM_ln h, fun k a b c d => e3 k a b c d⟩
  refine ⟨_, e1, ⟨eB_fr h1 fr, (nx_pos h2).2.1, e2, ?_, ?_⟩, fr⟩
  · rw [fr.2.2.2 2 (by decide) (by decide) (by decide) (by decide)]; exact h4
  · rw [fr.2.2.2 3 (by decide) (by decide) (by decide) (by decide)]; exact h5
/-- which fault it is -/
def flt (B : Nat → Nat) (n p : Nat) (w : Int32) : Int32 := if teT B n p = 1 then 1 else w
theorem nI_t : ∀ t, t < 5 → ∀ u, u < 5 → (nI t = nI u ↔ t = u) := by decide
theorem teT_lt : teT B n p < 5 := by
  unfold teT
  split
  · decide
  · split
    · split <;> decide
    · split
      · split <;> decide
      · split <;> decide
theorem c_ref {w : Int32} (h : cS B n σ p) : fX5_refuse σ w = some (0, sw_w (sw_w σ 1 2 (flt B n p w)) 1 3 (nI p)) := by
  obtain ⟨h1, h2, f1, f3, f4, f5, _⟩ := h
  have e5 : ∀ x, (sw_w σ 1 2 x).1 2 5 = nI p := fun x => by rw [m_wne (by decide)]; exact f5
  unfold fX5_refuse flt
  rw [f4, fX5_refuse_L17, fX5_refuse_L17, let_s, let_s, let_s, let_s, e5, e5]
  by_cases h : teT B n p = 1
  · rw [if_pos h, if_pos (show nI (teT B n p) = 1 by rw [h]; rfl)]
  · have : ¬ nI (teT B n p) = 1 := fun x => h ((nI_t _ teT_lt 1 (by decide)).mp x)
    rw [if_neg this, if_neg h]
theorem es_3 (h : etk B n p (σ.1 49) (σ.2.1 49 9)) : σ.1 49 6 = 3 ↔ teT B n p = 1 := by
  rw [h.2.2.1]
  unfold esort
  have hl : teT B n p < 5 := teT_lt
  by_cases h0 : teT B n p = 0
  · rw [if_pos h0, h0]; decide
  · rw [if_neg h0]
    by_cases h1 : teT B n p = 1
    · rw [if_pos h1, h1]; decide
    · rw [if_neg h1]
      by_cases h2 : teT B n p = 2
      · rw [if_pos h2, h2]; decide
      · rw [if_neg h2]
        by_cases h3 : teT B n p = 3
        · rw [if_pos h3, h3]; decide
        · rw [if_neg h3]
          refine ⟨fun e => ?_, fun e => absurd e h1⟩
          have hx := te_sign (show teT B n p = 4 by omega)
          have hn : ∀ b, b < 256 → isS b = true → ¬ nI b = 3 := ey_3
          have hb : teX B n p < 256 := by
            have : isS (teX B n p) = true := hx
            unfold isS at this
            have := of_decide_eq_true this
            omega
          exact absurd e (hn _ hb hx)
theorem e_wro {w : Int32} (h : eS B n σ p) : fX10_wrong σ w = some (sw_w (sw_w σ 49 2 (flt B n p w)) 49 3 (nI p)) := by
  obtain ⟨h1, h2, h3, h4, h5⟩ := h
  have e7 : ∀ x, (sw_w σ 49 2 x).1 49 7 = nI p := fun x => by
    show upd (σ.1 49) 2 x 7 = nI p
    rw [upd_n (by decide)]
    exact h3.2.2.2.1
  have s3 := es_3 h3
  unfold fX10_wrong flt
  rw [h4, if_pos (by decide), fX10_wrong_L22, fX10_wrong_L22, let_s, let_s, let_s, let_s, e7, e7]
  by_cases h : teT B n p = 1
  · rw [if_pos (s3.mpr h), if_pos h]
  · rw [if_neg (fun x => h (s3.mp x)), if_neg h]
theorem flt_pos {w : Int32} (hw : ¬ w ≤ 0) : ¬ flt B n p w ≤ 0 := by
  unfold flt
  split
  · decide
  · exact hw
end PA
