/-! a formula's moves in both -/
def Ol (k : Nat) (τ : sw_M) : Option sw_M := sw_wh k (fun s => fX10_formula_L35 s.2 s.1) ((1 : Int32), τ)
def Ur (a k : Nat) (τ : sw_M) : Option sw_M := sw_b1 (sw_wh a (fun s => fX10_unit_L2 s.2 s.1) ((1 : Int32), τ)) fun m => Ol k m
def psh (sk : Nat → Nat) (l c : Nat) : Nat → Nat := fun i => if i = l then c else sk i
section PK
variable {σ τ σ0 τ0 σ' τ' : sw_M} {B : Nat → Nat} {n p Q : Nat} {sk : Nat → Nat} {l d u z : Nat}
theorem psh_e {c : Nat} : psh sk l c l = c := if_pos rfl
theorem psh_n {c i : Nat} (h : ¬ i = l) : psh sk l c i = sk i := if_neg h
theorem cF_c (hP : sw_isP Q) (h : cF Q σ u z) (hf : cfr σ σ') : cF Q σ' u z := by
  have e7 : σ'.1 (Q + 7) = σ.1 (Q + 7) := hf.2.1 _ (by rcases hP with rfl | rfl <;> decide)
  have e8 : σ'.1 (Q + 8) = σ.1 (Q + 8) := hf.2.1 _ (by rcases hP with rfl | rfl <;> decide)
  unfold cF
  rw [e7, e8]
  exact h
theorem eF_e (h : eF τ u z d) (hf : efr τ τ') : eF τ' u z d := by
  obtain ⟨a, b, c, e⟩ := h
  refine ⟨?_, ?_, ?_, ?_⟩
  · rw [hf.2.2.2 20 (by decide) (by decide) (by decide) (by decide)]; exact a
  · rw [hf.2.2.2 22 (by decide) (by decide) (by decide) (by decide)]; exact b
  · rw [hf.2.2.2 17 (by decide) (by decide) (by decide) (by decide)]; exact c
  · rw [hf.2.2.2 23 (by decide) (by decide) (by decide) (by decide)]; exact e
theorem stR_e (h : stR τ sk l) (hf : efr τ τ') : stR τ' sk l := by
  obtain ⟨a, b, c⟩ := h
  refine ⟨?_, b, fun i hi => ?_⟩
  · rw [hf.2.2.2 19 (by decide) (by decide) (by decide) (by decide)]; exact a
  · rw [hf.2.1 56 (by decide)]; exact c i hi
/-- the token that follows -/
theorem us_tok (hP : sw_isP Q) (h : us B n Q σ0 τ0 σ τ p sk l d u z) (hT : ¬ teT B n p = 1) : ∃ σ' τ', fX7_readNext σ = some σ' ∧ fX10_token τ = some τ' ∧ us B n Q σ0 τ0 σ' τ' (nx B n p) sk l d u z ∧ cfr σ σ' ∧ efr τ τ' := by
  obtain ⟨h1, h2, h3, h4, h5, h6, h7⟩ := h
  obtain ⟨σ', τ', a1, a2, a3, a4, a5⟩ := p_next h1 hT
  refine ⟨σ', τ', a1, a2, ⟨a3, by rw [a4.1]; exact h2, cF_c hP h3 a4, eF_e h4 a5, stR_e h5 a5, fun i hi => ?_, h7⟩, a4, a5⟩
  rw [a4.2.1 (Q + 8) (by rcases hP with rfl | rfl <;> decide), a5.2.1 52 (by decide), a5.2.1 53 (by decide)]
  exact h6 i hi
/-- one unit more is counted -/
theorem us_unit (hP : sw_isP Q) (h : us B n Q σ0 τ0 σ τ p sk l d u z) (hu : u < 30) : ∃ σ' τ', σ' = sw_w σ (Q + 7) 0 (nI (u + 1)) ∧ fX10_countUnit τ = some τ' ∧ us B n Q σ0 τ0 σ' τ' p sk l d (u + 1) z ∧ ffc Q σ σ' ∧ ffe τ τ' ∧ σ'.1 2 = σ.1 2 ∧ σ'.1 (Q + 8) = σ.1 (Q + 8) ∧ (∀ k, k ≤ 8 → τ'.1 49 k = τ.1 49 k) := by
  obtain ⟨h1, h2, ⟨c1, c2, c3⟩, ⟨e1, e2, e3, e4⟩, ⟨s1, s2, s3⟩, h6, h7, h8, h9, h10⟩ := h
  have q2 : (2 : Nat) ≠ Q + 7 := by rcases hP with rfl | rfl <;> decide
  have f1 : ffc Q σ (sw_w σ (Q + 7) 0 (nI (u + 1))) := ⟨rfl, fun a _ a2 _ => m_wne a2, fun _ _ => rfl⟩
  have e8 : (sw_w σ (Q + 7) 0 (nI (u + 1))).1 (Q + 8) = σ.1 (Q + 8) := m_wne (by omega)
  obtain ⟨t, ht⟩ : ∃ t, t = sw_w (sw_w τ 49 20 (nI (u + 1))) 49 22 (nI (u + 1)) := ⟨_, rfl⟩
  have f2 : ffe τ t := by rw [ht]; exact (ffe_w (.inr (.inr (.inl rfl)))).tr (ffe_w (.inr (.inr (.inr (.inl rfl)))))
  have k2 : ∀ k, k ≠ 20 → k ≠ 22 → t.1 49 k = τ.1 49 k := fun k a b => by rw [ht, w_at, upd_n b, w_at, upd_n a]
  have k20 : t.1 49 20 = nI (u + 1) := by rw [ht, w_at, upd_n (by decide), w_at, upd_e]
  have k22 : t.1 49 22 = nI (u + 1) := by rw [ht, w_at, upd_e]
  have ko : ∀ a, a ≠ 49 → t.1 a = τ.1 a := fun a b => by rw [ht, m_wne b, m_wne b]
  have hc : fX10_countUnit τ = some t := by
    have w2 : (sw_w τ 49 20 (nI (u + 1))).1 49 22 = nI u := by rw [w_at, upd_n (by decide)]; exact e2
    rw [fX10_countUnit, e1, nI_1, let_s, w2, nI_1, let_s, ht]
  refine ⟨_, t, rfl, hc, ⟨pz_fe (pz_ff hP h1 f1 (m_wne q2) rfl) f2 (fun k hk => k2 k (by omega) (by omega)) (by rw [ht]; rfl), h2, ⟨?_, ?_, fun x => ?_⟩, ⟨k20, k22, ?_, ?_⟩, ⟨?_, s2, fun i hi => ?_⟩, fun i hi => ?_, by omega, by omega, h9, by omega⟩, f1, f2, m_wne q2, e8, fun k hk => k2 k (by omega) (by omega)⟩
  · rw [w_at, upd_e]
  · rw [w_at, upd_n (by decide)]; exact c2
  · rw [w_at, upd_n (by decide)] at x
    rw [e8]
    exact c3 x
  · rw [k2 17 (by decide) (by decide)]; exact e3
  · rw [k2 23 (by decide) (by decide)]; exact e4
  · rw [k2 19 (by decide) (by decide)]; exact s1
  · rw [ko 56 (by decide)]; exact s3 i hi
  · rw [e8, ko 52 (by decide), ko 53 (by decide)]; exact h6 i hi
/-- a bracket or a not is opened -/
theorem us_push {c : Nat} (hP : sw_isP Q) (h : us B n Q σ0 τ0 σ τ p sk l d u z) (hd : d < 7) (hc : okc c) (hT : ¬ teT B n p = 1) : ∃ σ' τ', fX7_readNext σ = some σ' ∧ fX10_openUp τ (nI c) = some τ' ∧ us B n Q σ0 τ0 σ' τ' (nx B n p) (psh sk l c) (l + 1) (d + 1) u z ∧ cfr σ σ' ∧ ffe τ τ' := by
  obtain ⟨h1, h2, h3, ⟨e1, e2, e3, e4⟩, ⟨s1, s2, s3⟩, h6, h7, h8, h9, h10⟩ := h
  obtain ⟨t, ht⟩ : ∃ t, t = sw_w (sw_w (sw_w τ 56 l (nI c)) 49 19 (nI (l + 1))) 49 23 (nI (d + 1)) := ⟨_, rfl⟩
  have f2 : ffe τ t := by rw [ht]; exact (ffe_t (.inr (.inr rfl))).tr ((ffe_w (.inr (.inl rfl))).tr (ffe_w (.inr (.inr (.inr (.inr rfl))))))
  have k2 : ∀ k, k ≠ 19 → k ≠ 23 → t.1 49 k = τ.1 49 k := fun k a b => by rw [ht, w_at, upd_n b, w_at, upd_n a, m_wne (by decide)]
  have k19 : t.1 49 19 = nI (l + 1) := by rw [ht, w_at, upd_n (by decide), w_at, upd_e]
  have k23 : t.1 49 23 = nI (d + 1) := by rw [ht, w_at, upd_e]
  have k56 : t.1 56 = upd (τ.1 56) l (nI c) := by rw [ht, m_wne (by decide), m_wne (by decide), w_at]
  have ko : ∀ a, a ≠ 49 → a ≠ 56 → t.1 a = τ.1 a := fun a b b' => by rw [ht, m_wne b, m_wne b, m_wne b']
  have hu : us B n Q σ0 τ0 σ t p (psh sk l c) (l + 1) (d + 1) u z := by
    refine ⟨pz_fe h1 f2 (fun k hk => k2 k (by omega) (by omega)) (by rw [ht]; rfl), h2, h3, ⟨?_, ?_, ?_, k23⟩, ⟨k19, by omega, fun i hi => ?_⟩, fun i hi => ?_, by omega, h8, by omega, h10⟩
    · rw [k2 20 (by decide) (by decide)]; exact e1
    · rw [k2 22 (by decide) (by decide)]; exact e2
    · rw [k2 17 (by decide) (by decide)]; exact e3
    · rw [k56]
      by_cases e : i = l
      · rw [e, upd_e, psh_e]; exact ⟨rfl, hc⟩
      · rw [upd_n e, psh_n e]; exact s3 i (by omega)
    · rw [ko 52 (by decide) (by decide), ko 53 (by decide) (by decide)]; exact h6 i hi
  obtain ⟨σ', τ', a1, a2, a3, a4, a5⟩ := us_tok hP hu hT
  refine ⟨σ', τ', a1, ?_, a3, a4, f2.tr (ffe_e a5)⟩
  have w1 : (sw_w τ 56 l (nI c)).1 49 19 = nI l := by rw [m_wne (by decide)]; exact s1
  have w2 : (sw_w (sw_w τ 56 l (nI c)) 49 19 (nI (l + 1))).1 49 23 = nI d := by rw [w_at, upd_n (by decide), m_wne (by decide)]; exact e4
  have w3 : t.1 49 2 = 0 := by rw [k2 2 (by decide) (by decide)]; exact h1.2.1.2.2.2.1
  rw [fX10_openUp, s1, sw_gd_t (in_t (show l < 160 by omega) (by decide)), nI_clamp (by omega), let_s, w1, nI_1, let_s, w2, nI_1, let_s, ← ht, if_pos w3, a2, b1_s]
/-- a number or a word that is asked, written down by both -/
theorem us_atom {s a v : Int32} (hP : sw_isP Q) (h : us B n Q σ0 τ0 σ τ p sk l d u z) (hz : z < 270) (hz9 : z + 1 ≤ 9 * u) (hv : q_enc s a v) : ∃ σ' τ', fX2_add (Q + 7) σ v = some σ' ∧ fX10_add τ s a = some τ' ∧ us B n Q σ0 τ0 σ' τ' p sk l d u (z + 1) ∧ ffc Q σ σ' ∧ ffe τ τ' ∧ σ'.1 2 = σ.1 2 ∧ σ'.1 (Q + 8) z = v ∧ (∀ i, i ≠ z → σ'.1 (Q + 8) i = σ.1 (Q + 8) i) := by
  obtain ⟨h1, h2, h3, ⟨e1, e2, e3, e4⟩, ⟨s1, s2, s3⟩, h6, h7, h8, h9, h10⟩ := h
  obtain ⟨m, a1, a2, a3, a4, a5, a6, a7⟩ := c_add (c := v) hP h3 hz
  refine ⟨m, e_ad τ z s a, a1, e_add e3 (by omega), ⟨pz_fe (pz_ff hP h1 a3 a4 a5) ad_fr (fun k hk => ad_49 (by omega)) rfl, by rw [a3.1]; exact h2, a2, ⟨?_, ?_, ad_17, ?_⟩, ⟨?_, s2, fun i hi => ?_⟩, fun i hi => ?_, h7, h8, h9, hz9⟩, a3, ad_fr, a4, a6, a7⟩
  · rw [ad_49 (by decide)]; exact e1
  · rw [ad_49 (by decide)]; exact e2
  · rw [ad_49 (by decide)]; exact e4
  · rw [ad_49 (by decide)]; exact s1
  · rw [ad_56]; exact s3 i hi
  · rw [ad_52, ad_53]
    by_cases e : i = z
    · rw [e, upd_e, upd_e, a6]; exact hv
    · rw [upd_n e, upd_n e, a7 i e]; exact h6 i (by omega)
/-- nothing waits -/
theorem os_0 (h : us B n Q σ0 τ0 σ τ p sk l d u z) (hl : l + 1 ≤ u + d) : os B n Q σ0 τ0 σ τ p sk l 0 d u z :=
  ⟨h.1, h.2.1, h.2.2.1, h.2.2.2.1, h.2.2.2.2.1, h.2.2.2.2.2.1, fun j hj => absurd hj (by omega), hl, h.2.2.2.2.2.2.2.1, h.2.2.2.2.2.2.2.2.1, h.2.2.2.2.2.2.2.2.2, fun i a b => absurd a (by omega)⟩
theorem ad_long {s a : Int32} (h : fX10_add τ s a = some τ') : τ'.2.1 = τ.2.1 := by
  unfold fX10_add at h
  have h := (sw_gd_e h).2
  rw [let_s] at h
  have h := (sw_gd_e h).2
  rw [let_s, let_s] at h
  cases h
  rfl
theorem cl_long {a : Int32} : ∀ {f : Nat} {τ τ' : sw_M}, sw_wh f (fun s => fX10_close_L0 s a) τ = some τ' → τ'.2.1 = τ.2.1
  | 0, _, _, h => by cases h
  | f + 1, τ, τ', h => by
    have key : ∀ r, fX10_close_L0 τ a = some r → (∃ m, r = .inl m ∧ m.2.1 = τ.2.1) ∨ r = .inr τ := by
      intro r hr
      unfold fX10_close_L0 at hr
      split at hr
      · cases hr; exact .inr rfl
      · have hr := (sw_gd_e hr).2
        split at hr
        · cases hr; exact .inr rfl
        · have hr := (sw_gd_e hr).2
          split at hr
          · cases hr; exact .inr rfl
          · rw [let_s] at hr
            have hr := (sw_gd_e hr).2
            split at hr
            · obtain ⟨m, e1, e2⟩ := sw_b1_e hr
              rw [let_s] at e2
              cases e2
              exact .inl ⟨_, rfl, (ad_long e1).trans rfl⟩
            · have hr := (sw_gd_e hr).2
              obtain ⟨m, e1, e2⟩ := sw_b1_e hr
              cases e2
              exact .inl ⟨_, rfl, (ad_long e1).trans rfl⟩
    cases hc : fX10_close_L0 τ a with
    | none => rw [sw_wh, hc] at h; cases h
    | some r =>
      rcases key r hc with ⟨m, rfl, e⟩ | rfl
      · rw [wh_one (b := fun s => fX10_close_L0 s a) hc] at h
        rw [cl_long h, e]
      · rw [wh_end (b := fun s => fX10_close_L0 s a) hc] at h
        cases h
        rfl
/-- all that waits is done -/
theorem os_clo {m t zr : Nat} (hP : sw_isP Q) (h : os B n Q σ0 τ0 σ τ p sk l m d u zr) (ht : t ≤ 6) (hlo : l ≤ u + d) (hstop : l = 0 ∨ sk (l - 1) = 20 ∨ tg (sk (l - 1)) < t) (hall : ∀ i, l ≤ i → i < l + m → t ≤ tg (sk i)) : ∃ τ', fX10_close τ (nI t) = some τ' ∧ us B n Q σ0 τ0 σ τ' p sk l d u (zr + m) ∧ ffe τ τ' ∧ (∀ k, k ≤ 8 → τ'.1 49 k = τ.1 49 k) := by
  obtain ⟨h1, h2, h3, ⟨e1, e2, e3, e4⟩, h5, h6, h7, h8, h9, h10, h11, h12⟩ := h
  obtain ⟨τ', a1, a2, a3, a4, a5, a6, a7, a8, a9⟩ := e_clo ht hstop m τ zr d sw_F h5 (fun i a b => ⟨h12 i a b, hall i a b⟩) e3 (by omega) e4 (by have := h5.2.1; unfold sw_F; omega)
  refine ⟨τ', a1, ⟨pz_fe h1 a2 (fun k hk => a6 k (by omega) (by omega) (by omega)) ?_, h2, h3, ⟨?_, ?_, a4, a5⟩, a3, fun i hi => ?_, hlo, h9, h10, h11⟩, a2, fun k hk => a6 k (by omega) (by omega) (by omega)⟩
  · rw [cl_long a1]
  · rw [a6 20 (by decide) (by decide) (by decide)]; exact e1
  · rw [a6 22 (by decide) (by decide) (by decide)]; exact e2
  · by_cases e : i < zr
    · rw [(a7 i e).1, (a7 i e).2]; exact h6 i e
    · obtain ⟨j, rfl⟩ : ∃ j, i = zr + j := ⟨i - zr, by omega⟩
      rw [h7 j (by omega)]
      exact a8 j (by omega)
end PK
