/-! a formula's codes run; what is asked; the unit's loop -/
def qf (asks prog : Nat → Int32) (z : Nat) : Nat → List Int32 → Option (List Int32)
  | 0, st => some st
  | k + 1, st => match qf asks prog z k st with
    | none => none
    | some s => q_step asks (prog (z + k)) s
def good (prog : Nat → Int32) (z k c : Nat) : Prop := ∀ (asks : Nat → Int32) (st : List Int32), st.length + c ≤ 30 → ∃ w, qf asks prog z k st = some (w :: st)
theorem qf_run {asks prog : Nat → Int32} : ∀ k, q_run asks prog k = qf asks prog 0 k []
  | 0 => rfl
  | k + 1 => by
    rw [q_run, qf, qf_run k, Nat.zero_add]
    cases qf asks prog 0 k [] <;> rfl
theorem qf_add {asks prog : Nat → Int32} {z k : Nat} {st s : List Int32} (h : qf asks prog z k st = some s) : ∀ j, qf asks prog z (k + j) st = qf asks prog (z + k) j s
  | 0 => h
  | j + 1 => by
    rw [← Nat.add_assoc, qf, qf_add h j, qf, Nat.add_assoc]
theorem qf_one {asks prog : Nat → Int32} {z k : Nat} {st s : List Int32} (h : qf asks prog z k st = some s) : qf asks prog z (k + 1) st = q_step asks (prog (z + k)) s := by rw [qf, h]
theorem good_wk {prog : Nat → Int32} {z k c c' : Nat} (h : good prog z k c) (hc : c ≤ c') : good prog z k c' := fun asks st hs => h asks st (by omega)
theorem qf_cg {asks prog prog' : Nat → Int32} {z : Nat} {st : List Int32} : ∀ k, (∀ i, z ≤ i → i < z + k → prog' i = prog i) → qf asks prog' z k st = qf asks prog z k st
  | 0, _ => rfl
  | k + 1, h => by rw [qf, qf, qf_cg k (fun i a b => h i a (by omega)), h (z + k) (by omega) (by omega)]
theorem good_cg {prog prog' : Nat → Int32} {z k c : Nat} (h : good prog z k c) (he : ∀ i, z ≤ i → i < z + k → prog' i = prog i) : good prog' z k c := fun asks st hs => by
  rw [qf_cg k he]
  exact h asks st hs
theorem good_join {prog : Nat → Int32} {z k j c e : Nat} (h : good prog z k c) (h' : good prog (z + k) j e) (hc : 1 ≤ c) (h1 : prog (z + k + j) < -6) (h2 : prog (z + k + j) ≠ -33) : good prog z (k + j + 1) (c + e) := fun asks st hs => by
  obtain ⟨w, hw⟩ := h asks st (by omega)
  obtain ⟨v, hv⟩ := h' asks (w :: st) (by rw [List.length_cons]; omega)
  refine ⟨q_join (-(prog (z + k + j))) w v, ?_⟩
  rw [qf_one ((qf_add hw j).trans hv), ← Nat.add_assoc]
  unfold q_step
  rw [if_neg h2, if_pos h1]
theorem good_not {prog : Nat → Int32} {z k c : Nat} (h : good prog z k c) (h1 : prog (z + k) = -33) : good prog z (k + 1) c := fun asks st hs => by
  obtain ⟨w, hw⟩ := h asks st hs
  refine ⟨if w = 0 then 1 else 0, ?_⟩
  rw [qf_one hw, h1]
  unfold q_step
  rw [if_pos rfl]
theorem good_one {prog : Nat → Int32} {z : Nat} (h1 : ¬ prog z < -6) (h2 : prog z ≠ -33) : good prog z 1 1 := fun asks st hs => by
  refine ⟨if prog z < 0 then asks (ix ((-1) - prog z)) else prog z, ?_⟩
  rw [qf_one (show qf asks prog z 0 st = some st from rfl)]
  unfold q_step
  rw [Nat.add_zero, if_neg h2, if_neg h1, if_pos (by omega)]
theorem ite11 {c : Prop} [Decidable c] {α : Type} {a b : α} : (if (if c then (1 : Int32) else 0) = 1 then a else b) = if c then a else b := by
  by_cases h : c
  · rw [if_pos h, if_pos rfl, if_pos h]
  · rw [if_neg h, if_neg (by decide), if_neg h]
section PL
variable {σ τ σ0 τ0 σ' τ' : sw_M} {B : Nat → Nat} {n p Q : Nat} {sk : Nat → Nat} {l d u z : Nat}
theorem ask_w : fX10_asked τ = if fX10_isWord τ 6384748 = 1 then 0 else if fX10_isWord τ 461330343027 = 1 then 1 else if fX10_isWord τ 1836020596 = 1 then 2 else if fX10_isWord τ 465557353332 = 1 then 3 else if fX10_isWord τ 32762613647897203 = 1 then 4 else if fX10_isWord τ 6578553 = 1 then 5 else -1 := by
  unfold fX10_asked fX10_isWord
  by_cases h : τ.1 49 6 = 1
  · simp only [if_pos h, ite11]
  · simp only [if_neg h]
    rfl
/-- the word that is asked -/
theorem p_ask (h : pz B n Q σ0 τ0 σ τ p) : (∃ j, j < 6 ∧ teT B n p = 2 ∧ σ.1 2 7 = nI (13 + j) ∧ fX10_asked τ = nI j) ∨ (σ.1 2 7 < 13 ∧ fX10_asked τ = -1) := by
  have w : ∀ k, k < 19 → fX10_isWord τ (lN (krN k)) = if σ.1 2 7 = nI k then 1 else 0 := fun k hk => by
    rcases p_word hk h with ⟨a, b, _⟩ | ⟨a, b⟩
    · rw [if_pos a]; exact b
    · rw [if_neg a]; exact b
  have hask : fX10_asked τ = if σ.1 2 7 = nI 13 then 0 else if σ.1 2 7 = nI 14 then 1 else if σ.1 2 7 = nI 15 then 2 else if σ.1 2 7 = nI 16 then 3 else if σ.1 2 7 = nI 17 then 4 else if σ.1 2 7 = nI 18 then 5 else -1 := by
    rw [ask_w, show fX10_isWord τ 6384748 = _ from w 13 (by decide), show fX10_isWord τ 461330343027 = _ from w 14 (by decide), show fX10_isWord τ 1836020596 = _ from w 15 (by decide), show fX10_isWord τ 465557353332 = _ from w 16 (by decide), show fX10_isWord τ 32762613647897203 = _ from w 17 (by decide), show fX10_isWord τ 6578553 = _ from w 18 (by decide)]
    simp only [ite11]
  have f7 := h.1.2.2.2.2.2.2.2.1
  rw [hask]
  by_cases hT : teT B n p = 2
  · rw [if_pos hT] at f7
    rcases kfind_ex (teX B n p) with e | ⟨i, hi, e⟩
    · refine .inr ?_
      rw [f7, e]
      decide
    · rw [f7, e]
      by_cases h13 : i < 13
      · refine .inr ?_
        have dd : ∀ i, i < 13 → nI i < 13 ∧ (if nI i = nI 13 then (0 : Int32) else if nI i = nI 14 then 1 else if nI i = nI 15 then 2 else if nI i = nI 16 then 3 else if nI i = nI 17 then 4 else if nI i = nI 18 then 5 else -1) = -1 := by decide
        exact dd i h13
      · refine .inl ⟨i - 13, by omega, hT, by rw [show 13 + (i - 13) = i by omega], ?_⟩
        rcases (show i = 13 ∨ i = 14 ∨ i = 15 ∨ i = 16 ∨ i = 17 ∨ i = 18 by omega) with rfl | rfl | rfl | rfl | rfl | rfl <;> decide
  · rw [if_neg hT] at f7
    refine .inr ?_
    rw [f7]
    decide
theorem ur_s {a k : Nat} (h : fX10_unit_L2 τ 1 = some (.inl (1, τ'))) : Ur (a + 1) k τ = Ur a k τ' := by
  unfold Ur
  rw [wh_one (b := fun s : Int32 × sw_M => fX10_unit_L2 s.2 s.1) (s := ((1 : Int32), τ)) (s' := ((1 : Int32), τ')) h]
theorem ur_e {a k : Nat} (h : fX10_unit_L2 τ 1 = some (.inl (0, τ))) (h' : fX10_unit_L101 τ = some τ') : Ur (a + 2) k τ = Ol k τ' := by
  unfold Ur
  have e : fX10_unit_L2 τ 0 = some (.inr τ') := by rw [fX10_unit_L2, if_pos rfl, h']; rfl
  rw [wh_one (b := fun s : Int32 × sw_M => fX10_unit_L2 s.2 s.1) (s := ((1 : Int32), τ)) (s' := ((0 : Int32), τ)) h, wh_end (b := fun s : Int32 × sw_M => fX10_unit_L2 s.2 s.1) (s := ((0 : Int32), τ)) (t := τ') e, b1_s]
theorem ol_f {k : Nat} (h : ¬ τ.1 49 2 ≤ 0) : Ol (k + 1) τ = some τ := by
  unfold Ol
  have e : fX10_formula_L35 τ 1 = some (.inr τ) := by
    rw [fX10_formula_L35, if_neg i10, if_neg (f_nz h), fX10_formula_L162, if_neg (f_nz h), fX10_formula_L181, if_neg (f_nz h)]
    rfl
  rw [wh_end (b := fun s : Int32 × sw_M => fX10_formula_L35 s.2 s.1) (s := ((1 : Int32), τ)) (t := τ) e]
theorem ur_f {a k : Nat} (h : ¬ τ.1 49 2 ≤ 0) : Ur (a + 1) (k + 1) τ = some τ := by
  unfold Ur
  have e : fX10_unit_L2 τ 1 = some (.inr τ) := by
    rw [fX10_unit_L2, if_neg i10, if_neg (f_nz h), fX10_unit_L101, if_neg h]
    rfl
  rw [wh_end (b := fun s : Int32 × sw_M => fX10_unit_L2 s.2 s.1) (s := ((1 : Int32), τ)) (t := τ) e, b1_s, ol_f h]
/-- behind a fault a bracket or a not is opened and left -/
theorem f_open {c : Int32} (h : pq Q σ0 τ0 σ τ) (hl : τ.1 49 19 = nI l) (hl2 : l ≤ 60) : ∃ τ', fX10_openUp τ c = some τ' ∧ pq Q σ0 τ0 σ τ' := by
  obtain ⟨t, ht⟩ : ∃ t, t = sw_w (sw_w (sw_w τ 56 l c) 49 19 (nI (l + 1))) 49 23 ((sw_w (sw_w τ 56 l c) 49 19 (nI (l + 1))).1 49 23 + 1) := ⟨_, rfl⟩
  have hq : pq Q σ0 τ0 σ t := by
    rw [ht]
    exact pq_ew (by decide) (by decide) (pq_ew (by decide) (by decide) (pq_et (.inr (.inr (.inl rfl))) h))
  have w1 : (sw_w τ 56 l c).1 49 19 = nI l := by rw [m_wne (by decide)]; exact hl
  refine ⟨t, ?_, hq⟩
  rw [fX10_openUp, hl, sw_gd_t (in_t (show l < 160 by omega) (by decide)), nI_clamp (by omega), let_s, w1, nI_1, let_s, let_s, ← ht, if_neg (f_nz hq.2.2.1)]
theorem f_cntU (h : pq Q σ0 τ0 σ τ) : ∃ τ', fX10_countUnit τ = some τ' ∧ pq Q σ0 τ0 σ τ' ∧ τ'.1 49 19 = τ.1 49 19 := by
  refine ⟨_, rfl, pq_ew (by decide) (by decide) (pq_ew (by decide) (by decide) h), ?_⟩
  rw [w_at, upd_n (by decide), w_at, upd_n (by decide)]
end PL
