/-! lines: a vat written into a row of ten, and taken from it -/
def ls (L u : Nat → Int32) (i : Nat) : Nat → Int32 := fun q => if 10 * i ≤ q ∧ q < 10 * i + 10 then u (q - 10 * i) else L q
def ln (L : Nat → Int32) (i : Nat) : Nat → Int32 := fun j => if j < 10 then L (10 * i + j) else 0
theorem mul10 (i : Nat) : nI i * 10 = nI (10 * i) := by
  rw [Nat.mul_comm]
  exact (Int32.ofNat_mul i 10).symm
theorem add5 (n : Nat) : nI n + 5 = nI (n + 5) := nI_add n 5
theorem add10 (n : Nat) : nI n + 10 = nI (n + 10) := nI_add n 10
theorem add51 (n : Nat) : nI (n + 5) + 1 = nI (n + 6) := nI_add (n + 5) 1
theorem add52 (n : Nat) : nI (n + 5) + 2 = nI (n + 7) := nI_add (n + 5) 2
theorem add53 (n : Nat) : nI (n + 5) + 3 = nI (n + 8) := nI_add (n + 5) 3
theorem add54 (n : Nat) : nI (n + 5) + 4 = nI (n + 9) := nI_add (n + 5) 4
theorem cg_t {a b : Nat} {n0 n1 : Nat} (h0 : a + 5 ≤ n0) (h1 : b + 5 ≤ n1) (ha : a < 2 ^ 31) (hb : b < 2 ^ 31) : sw_cg (nI a) (nI b) 5 n0 n1 = true := by
  have e5 : (5 : Int32).toNatClampNeg = 5 := by decide
  refine decide_eq_true ⟨nI_pos ha, nI_pos hb, by decide, ?_, ?_⟩
  · rw [nI_clamp ha, e5]; exact h0
  · rw [nI_clamp hb, e5]; exact h1
theorem ls_eq {L g f : Nat → Int32} {i : Nat} : upd (upd (upd (upd (upd (va_cpy g L 0 (10 * i) 5) (10 * i + 5) (f 1)) (10 * i + 6) (f 2)) (10 * i + 7) (f 3)) (10 * i + 8) (f 4)) (10 * i + 9) (f 5) = ls L (pk g f) i := by
  funext q
  simp only [ls]
  by_cases h : 10 * i ≤ q ∧ q < 10 * i + 10
  · rw [if_pos h]
    obtain ⟨d, rfl⟩ : ∃ d, q = 10 * i + d := ⟨q - 10 * i, by omega⟩
    have ed : 10 * i + d - 10 * i = d := by omega
    rw [ed]
    by_cases h5 : d < 5
    · rw [upd_n (by omega), upd_n (by omega), upd_n (by omega), upd_n (by omega), upd_n (by omega), pk_cpy_in (by omega) (by omega), pk_lo h5, ed, Nat.zero_add]
    · rcases (show d = 5 ∨ d = 6 ∨ d = 7 ∨ d = 8 ∨ d = 9 by omega) with rfl | rfl | rfl | rfl | rfl
      · rw [upd_n (by omega), upd_n (by omega), upd_n (by omega), upd_n (by omega), upd_e]
        exact (pk_hi (i := 1) (by decide) (by decide)).symm
      · rw [upd_n (by omega), upd_n (by omega), upd_n (by omega), upd_e]
        exact (pk_hi (i := 2) (by decide) (by decide)).symm
      · rw [upd_n (by omega), upd_n (by omega), upd_e]
        exact (pk_hi (i := 3) (by decide) (by decide)).symm
      · rw [upd_n (by omega), upd_e]
        exact (pk_hi (i := 4) (by decide) (by decide)).symm
      · rw [upd_e]
        exact (pk_hi (i := 5) (by decide) (by decide)).symm
  · rw [if_neg h, upd_n (by omega), upd_n (by omega), upd_n (by omega), upd_n (by omega), upd_n (by omega), pk_cpy_out (by omega)]
theorem c_save {σ : sw_M} {V A i : Nat} (nA : V ≠ A) (hi : 10 * i + 10 ≤ (sw_s A).2) (hA : (sw_s A).2 < 2 ^ 31) : fX8_save V A σ (nI i) = some (sw_wA σ A (ls (σ.1 A) (pk (σ.1 (V + 1)) (σ.1 V)) i)) := by
  have z0 : (0 : Int32).toNatClampNeg = 0 := by decide
  have z5 : (5 : Int32).toNatClampNeg = 5 := by decide
  have hle : nI (10 * i + 10) ≤ Int32.ofNat (sw_s A).2 := nI_le hi hA
  have hcg : sw_cg 0 (nI (10 * i)) 5 5 (sw_s A).2 = true := cg_t (a := 0) (by decide) (by omega) (by decide) (by omega)
  unfold fX8_save
  rw [let_s, mul10, if_neg (nI_pos (by omega)), add10, if_pos hle, sw_gd_t hcg, let_s, z0, z5, nI_clamp (by omega), add5, add51, add52, add53, add54, sw_gd_t (in_t (by omega) hA), let_s, nI_clamp (by omega), m_ne nA, m_ww, sw_gd_t (in_t (by omega) hA), let_s, nI_clamp (by omega), m_ne nA, m_ww, sw_gd_t (in_t (by omega) hA), let_s, nI_clamp (by omega), m_ne nA, m_ww, sw_gd_t (in_t (by omega) hA), let_s, nI_clamp (by omega), m_ne nA, m_ww, sw_gd_t (in_t (by omega) hA), let_s, nI_clamp (by omega), m_ne nA, m_ww, ls_eq]
theorem ln_eq {L g f : Nat → Int32} {i : Nat} : pk (va_cpy L g (10 * i) 0 5) (upd (upd (upd (upd (upd f 1 (L (10 * i + 5))) 2 (L (10 * i + 6))) 3 (L (10 * i + 7))) 4 (L (10 * i + 8))) 5 (L (10 * i + 9))) = ln L i := by
  funext j
  simp only [ln]
  by_cases h5 : j < 5
  · rw [pk_lo h5, if_pos (by omega), pk_cpy_in (by omega) (by omega), Nat.sub_zero]
  · by_cases h10 : j < 10
    · rw [if_pos h10]
      rcases (show j = 5 ∨ j = 6 ∨ j = 7 ∨ j = 8 ∨ j = 9 by omega) with rfl | rfl | rfl | rfl | rfl
      · refine (pk_hi (i := 1) (by decide) (by decide)).trans ?_
        rw [upd_n (by decide), upd_n (by decide), upd_n (by decide), upd_n (by decide), upd_e]
      · refine (pk_hi (i := 2) (by decide) (by decide)).trans ?_
        rw [upd_n (by decide), upd_n (by decide), upd_n (by decide), upd_e]
      · refine (pk_hi (i := 3) (by decide) (by decide)).trans ?_
        rw [upd_n (by decide), upd_n (by decide), upd_e]
      · refine (pk_hi (i := 4) (by decide) (by decide)).trans ?_
        rw [upd_n (by decide), upd_e]
      · refine (pk_hi (i := 5) (by decide) (by decide)).trans ?_
        rw [upd_e]
    · rw [if_neg h10]
      simp only [pk, h5, h10, if_false]
theorem c_load {σ : sw_M} {V A i : Nat} (nA : A ≠ V) (nA1 : A ≠ V + 1) (hi : 10 * i + 10 ≤ (sw_s A).2) (hA : (sw_s A).2 < 2 ^ 31) : ∃ f g, fX8_load V A σ (nI i) = some (vt σ V f g) ∧ pk g f = ln (σ.1 A) i := by
  have z0 : (0 : Int32).toNatClampNeg = 0 := by decide
  have z5 : (5 : Int32).toNatClampNeg = 5 := by decide
  have hle : nI (10 * i + 10) ≤ Int32.ofNat (sw_s A).2 := nI_le hi hA
  have hcg : sw_cg (nI (10 * i)) 0 5 (sw_s A).2 5 = true := cg_t (b := 0) (by omega) (by decide) (by omega) (by decide)
  have e : ∀ g', sw_wA σ (V + 1) g' = vt σ V (σ.1 V) g' := fun g' => by rw [vt, m_self]
  refine ⟨_, _, ?_, ln_eq (g := σ.1 (V + 1)) (f := σ.1 V)⟩
  unfold fX8_load
  rw [let_s, mul10, if_neg (nI_pos (by omega)), add10, if_pos hle, sw_gd_t hcg, let_s, z0, z5, nI_clamp (by omega), add5, add51, add52, add53, add54, e, sw_gd_t (in_t (by omega) hA), let_s, nI_clamp (by omega), vt_ne nA nA1, vt_w0, sw_gd_t (in_t (by omega) hA), let_s, nI_clamp (by omega), vt_ne nA nA1, vt_w0, sw_gd_t (in_t (by omega) hA), let_s, nI_clamp (by omega), vt_ne nA nA1, vt_w0, sw_gd_t (in_t (by omega) hA), let_s, nI_clamp (by omega), vt_ne nA nA1, vt_w0, sw_gd_t (in_t (by omega) hA), let_s, nI_clamp (by omega), vt_ne nA nA1, vt_w0]
