/-! what the lines are made of, both sides -/
def nmR (σ τ : sw_M) (A o c : Nat) : Prop := ∃ C W : Nat → Nat, (∀ j, j < c → vw (C j) (W j) ∧ σ.2.1 A j = lN (C j) ∧ τ.2.1 51 (o + j) = lN (W j)) ∧ ∀ i j, i < j → j < c → ¬ C i = C j
def lfd (W : Nat → Nat) (y : Nat) : Nat → Int32
  | 0 => -1
  | k + 1 => if W k = y then nI k else lfd W y k
theorem nmd_lt {f : Nat → Nat} : ∀ {k : Nat}, (∀ i, i < k → f i ≤ 57) → nmd f k < 10 ^ k
  | 0, _ => by show 0 < 1; decide
  | k + 1, h => by
    have h1 := h k (by omega)
    have h2 := nmd_lt (f := f) (k := k) (fun i hi => h i (by omega))
    show nmd f k * 10 + (f k - 48) < 10 ^ k * 10
    omega
theorem te_num {B : Nat → Nat} {n p : Nat} (h : teT B n p = 3) : teX B n p < 10000 := by
  unfold teT at h
  by_cases h1 : n ≤ p
  · rw [if_pos h1] at h
    exact absurd h (by decide)
  · rw [if_neg h1] at h
    by_cases h2 : isL (B p) = true
    · rw [if_pos h2] at h
      split at h <;> exact absurd h (by decide)
    · rw [if_neg h2] at h
      by_cases h3 : isD (B p) = true
      · rw [if_pos h3] at h
        by_cases h4 : (tkD B n p < n ∧ isL (B (tkD B n p)) = true) ∨ 4 < tkD B n p - p
        · rw [if_pos h4] at h
          exact absurd h (by decide)
        · have sp := tend_spec (fun i => isD (B i)) n (n - p) p (by omega)
          rw [teX, if_neg h2, if_pos h3]
          have hl : tkD B n p - p ≤ 4 := by
            have : ¬ 4 < tkD B n p - p := fun x => h4 (.inr x)
            omega
          have hlt := nmd_lt (f := fun i => B (p + i)) (k := tkD B n p - p) (fun i hi => by
            have := (sp.2.1 (p + i) (by omega) (by show p + i < tkD B n p; omega)).2
            have q : 48 ≤ B (p + i) ∧ B (p + i) ≤ 57 := of_decide_eq_true this
            exact q.2)
          have h10 : 10 ^ (tkD B n p - p) ≤ 10 ^ 4 := Nat.pow_le_pow_right (by decide) hl
          have h11 : (10 : Nat) ^ 4 = 10000 := by decide
          omega
      · rw [if_neg h3] at h
        split at h <;> exact absurd h (by decide)
section PC
variable {σ τ σ0 τ0 σ' τ' : sw_M} {B : Nat → Nat} {n p Q : Nat}
theorem e_find {W : Nat → Nat} {y o c : Nat} (hW : ∀ j, j < c → W j < 2 ^ 63 ∧ τ.2.1 51 (o + j) = lN (W j)) (hy : y < 2 ^ 63) (h9 : τ.2.1 49 9 = lN y) (ho : o + c ≤ 16) : fX10_find τ (nI o) (nI c) = some (lfd W y c) := by
  unfold fX10_find
  refine wh_runs (b := fun q : Int32 × Int32 => fX10_find_L5 τ (nI o) (nI c) q.1 q.2) (fun k => (lfd W y k, nI k)) c rfl (fun k hk => ?_) ?_ (by omega)
  · show fX10_find_L5 τ (nI o) (nI c) (lfd W y k) (nI k) = some (.inl (lfd W y (k + 1), nI (k + 1)))
    obtain ⟨a1, a2⟩ := hW k hk
    unfold fX10_find_L5
    rw [if_neg (le_f hk (by omega)), nI_add, sw_gd_t (in_t (show o + k < 16 by omega) (by decide)), nI_clamp (by omega), a2, h9, fX10_find_L34, fX10_find_L34, let_s, let_s, nI_1, lfd]
    by_cases e : W k = y
    · rw [if_pos ((cmp_0 _ _).mpr (by rw [e])), if_pos e]
    · rw [if_neg (fun x => e ((lN_inj a1 hy).mp ((cmp_0 _ _).mp x))), if_neg e]
  · show fX10_find_L5 τ (nI o) (nI c) (lfd W y c) (nI c) = _
    unfold fX10_find_L5
    rw [if_pos (le_t c (by omega))]
theorem lfd_no {W : Nat → Nat} {y : Nat} : ∀ {c : Nat}, (∀ j, j < c → ¬ W j = y) → lfd W y c = -1
  | 0, _ => rfl
  | c + 1, h => by
    rw [lfd, if_neg (h c (by omega))]
    exact lfd_no (fun j hj => h j (by omega))
theorem lfd_yes {W : Nat → Nat} {y j : Nat} (hj : W j = y) : ∀ {c : Nat}, j < c → (∀ i, i < c → W i = y → i = j) → lfd W y c = nI j
  | c + 1, h, hu => by
    rw [lfd]
    by_cases e : W c = y
    · rw [if_pos e, hu c (by omega) e]
    · rw [if_neg e]
      by_cases ej : j = c
      · rw [ej] at hj
        exact absurd hj e
      · exact lfd_yes hj (by omega) (fun i hi => hu i (by omega))
theorem p_find {A o c x y M : Nat} (hn : nmR σ τ A o c) (v : vw x y) (hs : (sw_s A).2 = M) (hM : M < 4000) (hc : c ≤ M) (ho : o + c ≤ 16) (h9 : τ.2.1 49 9 = lN y) :
    (fX7_find A σ (nI c) (lN x) = some (-1) ∧ fX10_find τ (nI o) (nI c) = some (-1) ∧ ∀ j, j < c → ¬ σ.2.1 A j = lN x) ∨ (∃ j, j < c ∧ fX7_find A σ (nI c) (lN x) = some (nI j) ∧ fX10_find τ (nI o) (nI c) = some (nI j)) := by
  obtain ⟨C, W, h1, h2⟩ := hn
  have hv := vw_lt v
  have cf := c_ffind (σ := σ) (s := lN x) hs hM hc
  have ef := e_find (τ := τ) (W := W) (y := y) (o := o) (c := c) (fun j hj => ⟨(vw_lt (h1 j hj).1).2, (h1 j hj).2.2⟩) hv.2 h9 ho
  rw [cf, ef]
  have eqv : ∀ j, j < c → (σ.2.1 A j = lN x ↔ W j = y) := fun j hj => by
    rw [(h1 j hj).2.1, lN_inj (vw_lt (h1 j hj).1).1 hv.1, vw_iff (h1 j hj).1 v]
  rcases ffr_spec (σ.2.1 A) (lN x) c 0 with ⟨a1, a2⟩ | ⟨j, a1, a2, a3, a4, a5⟩
  · have a2' : ∀ j, j < c → ¬ σ.2.1 A j = lN x := fun j hj => a2 j (by omega) (by omega)
    exact .inl ⟨by rw [a1], by rw [lfd_no (fun j hj x => a2' j hj ((eqv j hj).mpr x))], a2'⟩
  · have hj : j < c := by omega
    refine .inr ⟨j, hj, by rw [a4], ?_⟩
    have hw := (eqv j hj).mp a3
    rw [lfd_yes hw hj (fun i hi ei => ?_)]
    have c1 : C i = C j := by rw [vw_iff (h1 i hi).1 (h1 j hj).1, ei, hw]
    by_cases lt : i < j
    · exact absurd c1 (h2 i j lt hj)
    · by_cases gt : j < i
      · exact absurd c1.symm (h2 j i gt hi)
      · omega
/-! what the reference does behind a fault: nothing -/
theorem f_nz (h : ¬ τ.1 49 2 ≤ 0) : ¬ τ.1 49 2 = 0 := fun e => h (by rw [e]; decide)
theorem f_want {x : Int64} (h : ¬ τ.1 49 2 ≤ 0) : fX10_want τ x = some τ := by rw [fX10_want, if_neg h]
theorem f_told {a b : Int32} (h : ¬ τ.1 49 2 ≤ 0) : fX10_toldNumber τ a b = some (0, τ) := by rw [fX10_toldNumber, if_neg h]
theorem f_old (h : ¬ τ.1 49 2 ≤ 0) : fX10_oldKind τ = some (0, τ) := by rw [fX10_oldKind, if_neg h]
theorem f_210 (h : ¬ τ.1 49 2 ≤ 0) : fX10_readLine_L210 τ = some τ := by rw [fX10_readLine_L210, if_neg (f_nz h), fX10_readLine_L231, if_neg (f_nz h)]
theorem bo0 : sw_bo 0 = true := by decide
theorem bo1 : sw_bo 1 = true := by decide
theorem p_key {k : Nat} (hk : k < 19) (h : pz B n Q σ0 τ0 σ τ p) : (∃ σ' τ', fX5_readKey σ (nI k) = some (1, σ') ∧ fX10_want τ (lN (krN k)) = some τ' ∧ pz B n Q σ0 τ0 σ' τ' (nx B n p) ∧ cfr σ σ' ∧ efr τ τ' ∧ teT B n p = 2) ∨ (∃ σ' τ', fX5_readKey σ (nI k) = some (0, σ') ∧ fX10_want τ (lN (krN k)) = some τ' ∧ pq Q σ0 τ0 σ' τ') := by
  have h0 : τ.1 49 2 = 0 := h.2.1.2.2.2.1
  have z : (0 : Int32) ≤ 0 := by decide
  unfold fX5_readKey fX10_want
  rw [h0, if_pos z]
  rcases p_word hk h with ⟨a, b, c⟩ | ⟨a, b⟩
  · obtain ⟨σ', τ', e1, e2, e3, e4, e5⟩ := p_next h (by omega)
    rw [if_pos a, e1, b1_s, b, if_neg i10, e2, b1_s]
    exact .inl ⟨σ', τ', rfl, rfl, e3, e4, e5, c⟩
  · obtain ⟨σ', τ', e1, e2, e3⟩ := p_fail (w := 2) (by decide) h
    rw [if_neg a, e1, b2_s, sw_gd_t bo0, b, if_pos rfl, e2, b1_s]
    exact .inr ⟨σ', τ', rfl, rfl, e3⟩
theorem p_num {lo hi : Nat} (hlo : lo < 10000) (hhi : hi < 10000) (h : pz B n Q σ0 τ0 σ τ p) : (∃ v σ' τ', lo ≤ v ∧ v ≤ hi ∧ fX5_readNumber σ (nI lo) (nI hi) = some (nI v, σ') ∧ fX10_toldNumber τ (nI lo) (nI hi) = some (nI v, τ') ∧ pz B n Q σ0 τ0 σ' τ' (nx B n p) ∧ cfr σ σ' ∧ efr τ τ') ∨ (∃ x σ' τ', fX5_readNumber σ (nI lo) (nI hi) = some (-1, σ') ∧ fX10_toldNumber τ (nI lo) (nI hi) = some (x, τ') ∧ pq Q σ0 τ0 σ' τ') := by
  have h0 : τ.1 49 2 = 0 := h.2.1.2.2.2.1
  have z : (0 : Int32) ≤ 0 := by decide
  have s2 := es_2 h.2.1.2.2.1
  have f4 := h.1.2.2.2.2.1
  unfold fX5_readNumber fX10_toldNumber
  rw [h0, if_pos z, f4]
  by_cases hT : teT B n p = 3
  · have f8 := h.1.2.2.2.2.2.2.2.2.1 hT
    have g8 := h.2.1.2.2.1.2.2.2.2.2 hT
    have hx : teX B n p < 10000 := te_num hT
    rw [if_pos (show nI (teT B n p) = 3 by rw [hT]; rfl), if_pos (s2.mpr hT), let_s, f8, g8]
    have bad : ∃ σ' τ', fX5_readNumber_L37 σ = some (-1, σ') ∧ (∃ x, fX10_toldNumber_L41 τ = some (x, τ')) ∧ pq Q σ0 τ0 σ' τ' := by
      obtain ⟨σ', τ', e1, e2, e3⟩ := p_fail (w := 4) (by decide) h
      refine ⟨σ', τ', by rw [fX5_readNumber_L37, e1, b2_s], ⟨τ'.1 49 8, ?_⟩, e3⟩
      rw [fX10_toldNumber_L41, e2, b1_s, fX10_toldNumber_L46, let_s, if_neg (f_nz e3.2.2.1)]
    obtain ⟨σ1, τ1, b1, ⟨x, b2⟩, b3⟩ := bad
    by_cases c1 : teX B n p < lo
    · rw [if_pos (nI_lt c1 (by omega)), if_pos (nI_lt c1 (by omega)), b1, b2]
      exact .inr ⟨x, σ1, τ1, rfl, rfl, b3⟩
    · rw [if_neg (nI_nlt (by omega) (by omega)), if_neg (nI_nlt (by omega) (by omega))]
      by_cases c2 : teX B n p ≤ hi
      · obtain ⟨σ', τ', e1, e2, e3, e4, e5⟩ := p_next h (by omega)
        rw [if_pos (nI_le c2 (by omega)), if_pos (nI_le c2 (by omega)), e1, b1_s, fX10_toldNumber_L46, let_s, h0, if_pos rfl, e2, b1_s, g8]
        exact .inl ⟨teX B n p, σ', τ', by omega, c2, rfl, rfl, e3, e4, e5⟩
      · rw [if_neg (nI_ge (by omega) (by omega)), if_neg (nI_ge (by omega) (by omega)), b1, b2]
        exact .inr ⟨x, σ1, τ1, rfl, rfl, b3⟩
  · have : ¬ nI (teT B n p) = 3 := fun x => hT ((nI_t _ teT_lt 3 (by decide)).mp x)
    obtain ⟨σ', τ', e1, e2, e3⟩ := p_fail (w := 2) (by decide) h
    rw [if_neg this, if_neg (fun x => hT (s2.mp x)), e1, b2_s, e2, b1_s, fX10_toldNumber_L46, let_s, if_neg (f_nz e3.2.2.1)]
    exact .inr ⟨_, σ', τ', rfl, rfl, e3⟩
/-- a kind told already; it stays the token -/
theorem p_kind {K : Nat} (hK : K ≤ 5) (hP : sw_isP Q) (hQ : sw_pl (σ.2.2 1) = Q) (h1 : σ.1 Q 0 = nI K) (h2 : τ.1 49 33 = nI K) (hn : nmR σ τ (Q + 1) 0 K) (h : pz B n Q σ0 τ0 σ τ p) : (∃ k, k < K ∧ fX5_knownKind σ = some (nI k, σ) ∧ fX10_oldKind τ = some (nI k, τ) ∧ teT B n p = 2) ∨ (∃ σ' τ', fX5_knownKind σ = some (-1, σ') ∧ fX10_oldKind τ = some (0, τ') ∧ pq Q σ0 τ0 σ' τ') := by
  have h0 : τ.1 49 2 = 0 := h.2.1.2.2.2.1
  have z : (0 : Int32) ≤ 0 := by decide
  unfold fX5_knownKind fX10_oldKind
  rw [h0, if_pos z, hQ, h1, h2]
  rcases p_name h with ⟨a1, a2, a3, a4, a5, a6⟩ | ⟨a1, a2⟩
  · rw [a1, a2, if_neg i10, if_neg i10, a5]
    have hs : (sw_s (Q + 1)).2 = 5 := by rcases hP with rfl | rfl <;> rfl
    rcases p_find (o := 0) hn a4 hs (by decide) hK (by omega) a6 with ⟨c1, c2, c3⟩ | ⟨j, c1, c2, c3⟩
    · obtain ⟨σ', τ', e1, e2, e3⟩ := p_fail (w := 5) (by decide) h
      have c2' : fX10_find τ 0 (nI K) = some (-1) := c2
      rw [c1, b1_s, if_pos rfl, e1, b2_s, c2', b1_s, if_neg (by decide), e2, b1_s, fX10_oldKind_L41, if_neg e3.2.2.1]
      exact .inr ⟨σ', τ', rfl, rfl, e3⟩
    · have c3' : fX10_find τ 0 (nI K) = some (nI j) := c3
      rw [c2, b1_s, if_neg (nI_nm (by omega)), c3', b1_s, if_pos (nI_pos' (by omega)), fX10_oldKind_L41, h0, if_pos z, h2, c3', b1_s]
      exact .inl ⟨j, c1, rfl, rfl, a3⟩
  · obtain ⟨σ', τ', e1, e2, e3⟩ := p_fail (w := 2) (by decide) h
    rw [a1, a2, if_pos rfl, if_pos rfl, e1, b2_s, e2, b1_s, fX10_oldKind_L41, if_neg e3.2.2.1]
    exact .inr ⟨σ', τ', rfl, rfl, e3⟩
/-- the end of a line -/
theorem p_semi (h : pz B n Q σ0 τ0 σ τ p) : (∃ σ' τ', fX5_readSign σ 59 = some (1, σ') ∧ fX10_readLine_L210 τ = some τ' ∧ pz B n Q σ0 τ0 σ' τ' (nx B n p) ∧ cfr σ σ' ∧ efr τ τ' ∧ teT B n p = 4) ∨ (∃ σ' τ', fX5_readSign σ 59 = some (0, σ') ∧ fX10_readLine_L210 τ = some τ' ∧ pq Q σ0 τ0 σ' τ') := by
  have h0 : τ.1 49 2 = 0 := h.2.1.2.2.2.1
  obtain ⟨s1, s2⟩ := p_sg (c := 59) (by decide) (by decide) h
  have s1' : σ.1 2 9 = 59 ↔ τ.1 49 6 = 59 := s1
  have s2' : σ.1 2 9 = 59 → teT B n p = 4 := s2
  unfold fX5_readSign fX10_readLine_L210
  rw [h0, if_pos rfl]
  by_cases e : σ.1 2 9 = 59
  · have e4 := s2' e
    obtain ⟨σ', τ', e1, e2, e3, e4', e5⟩ := p_next h (by omega)
    rw [if_pos e, e1, b1_s, if_pos (s1'.mp e), fX10_readLine_L231, h0, if_pos rfl, e2, b1_s]
    exact .inl ⟨σ', τ', rfl, rfl, e3, e4', e5, e4⟩
  · obtain ⟨σ', τ', e1, e2, e3⟩ := p_fail (w := 2) (by decide) h
    rw [if_neg e, e1, b2_s, sw_gd_t bo0, if_neg (fun x => e (s1'.mpr x)), e2, b1_s, fX10_readLine_L231, if_neg (f_nz e3.2.2.1)]
    exact .inr ⟨σ', τ', rfl, rfl, e3⟩
end PC
