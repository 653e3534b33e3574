/-! a unit of a formula in both -/
def nosg (B : Nat → Nat) (n p s : Nat) (sk : Nat → Nat) (l : Nat) : Prop := sg B n p = 0 ∨ tg (sg B n p) < s ∨ (tg (sg B n p) = 4 ∧ hrl sk l = true)
def okR (B : Nat → Nat) (n Q : Nat) (σ0 τ0 : sw_M) (t s : Nat) (X : Nat → Option sw_M) (σ τ : sw_M) (p : Nat) (sk : Nat → Nat) (l d u z : Nat) (σ' : sw_M) : Prop :=
  ∃ (τ' : sw_M) (p' : Nat) (sk' : Nat → Nat) (m u' zr k : Nat), (∀ a, X (a + k) = Ol a τ') ∧ k + p ≤ p' ∧ os B n Q σ0 τ0 σ' τ' p' sk' l m d u' zr ∧ (∀ i, i < l → sk' i = sk i) ∧ (∀ i, l ≤ i → i < l + m → t ≤ tg (sk' i)) ∧ nosg B n p' s sk' (l + m) ∧ u < u' ∧ zr + m + 1 + d ≤ z + 9 * (u' - u) ∧ z ≤ zr + m ∧ (∀ i, i < z → σ'.1 (Q + 8) i = σ.1 (Q + 8) i) ∧ good (σ'.1 (Q + 8)) z (zr + m - z) (u' - u) ∧ ffc Q σ σ' ∧ ffe τ τ'
def foR (B : Nat → Nat) (n Q : Nat) (σ0 τ0 : sw_M) (t s : Nat) (C : Option (Int32 × sw_M)) (X : Nat → Option sw_M) (σ τ : sw_M) (p : Nat) (sk : Nat → Nat) (l d u z : Nat) : Prop :=
  (∃ σ', C = some (1, σ') ∧ okR B n Q σ0 τ0 t s X σ τ p sk l d u z σ') ∨ (∃ σ' τ' k, C = some (0, σ') ∧ pq Q σ0 τ0 σ' τ' ∧ k + p ≤ n ∧ ∀ a, X (a + k + 2) = some τ')
section PM
variable {σ τ σ0 τ0 σ' τ' : sw_M} {B : Nat → Nat} {n p Q : Nat} {sk : Nat → Nat} {l d u z : Nat}
theorem l2_0 (h : τ.1 49 2 = 0) (hn : fX10_isWord τ 7237492 = 0 ∨ fX10_mayNot τ = some 0) : fX10_unit_L2 τ 1 = fX10_unit_L53 τ 1 := by
  rw [fX10_unit_L2, if_neg i10, if_pos h]
  by_cases e : fX10_isWord τ 7237492 = 0
  · rw [if_pos e]
  · rw [if_neg e]
    rcases hn with x | x
    · exact absurd x e
    · rw [x, b1_s, if_pos rfl]
theorem full_0 (h : us B n Q σ0 τ0 σ τ p sk l d u z) (hu : u < 30) : fX10_isFull τ = 0 := by
  obtain ⟨_, _, _, ⟨e1, e2, _⟩, _⟩ := h
  rw [fX10_isFull, e1, e2, if_neg (show ¬ nI u = 60 from fun e => absurd ((nI_eq (b := 60) (by omega) (by decide)).mp e) (by omega)), if_neg (show ¬ nI u = 30 from fun e => absurd ((nI_eq (b := 30) (by omega) (by decide)).mp e) (by omega))]
theorem full_1 (h : us B n Q σ0 τ0 σ τ p sk l d u z) (hu : ¬ u < 30) : ¬ fX10_isFull τ = 0 := by
  obtain ⟨_, _, _, ⟨e1, e2, _⟩, _, _, _, h8, _⟩ := h
  have : u = 30 := by omega
  subst this
  rw [fX10_isFull, e1, e2]
  decide
theorem u30 (h : us B n Q σ0 τ0 σ τ p sk l d u z) : σ.1 ((sw_pl (σ.2.2 1)) + 7) 0 < 30 ↔ u < 30 := by
  obtain ⟨_, h2, ⟨c1, _⟩, _, _, _, _, h8, _⟩ := h
  rw [h2, c1]
  exact ⟨fun x => Nat.lt_of_not_le fun y => absurd x (by rw [show u = 30 by omega]; decide), fun x => nI_lt (b := 30) x (by decide)⟩
/-- a unit that is none -/
theorem u_none {rec : Nat → sw_M → Int32 → Int32 → Option (Int32 × sw_M)} {n1 : Nat} (h : us B n Q σ0 τ0 σ τ p sk l d u z) (hc : fX5_readUnit rec σ (nI d) = sw_b2 (fX5_refuse σ 2) fun r4 m5 => sw_gd (sw_bo r4) <| some (r4, m5)) (hx : ∀ τ', fX10_wrong τ 2 = some τ' → pq Q σ0 τ0 σ' τ' → True) {t s : Nat} (hr : ∀ σ' τ', fX10_wrong τ 2 = some τ' → pq Q σ0 τ0 σ' τ' → ∃ τ'', pq Q σ0 τ0 σ' τ'' ∧ ∀ k, Ur n1 (k + 1) τ = some τ'') : foR B n Q σ0 τ0 t s (fX5_readUnit rec σ (nI d)) (fun k => Ur n1 k τ) σ τ p sk l d u z := by
  obtain ⟨σ', τ', a1, a2, a3⟩ := p_fail (w := 2) (by decide) h.1
  obtain ⟨τ'', b1, b2⟩ := hr σ' τ' a2 a3
  refine .inr ⟨σ', τ'', 0, ?_, b1, ?_, fun a => b2 (a + 1)⟩
  · rw [hc, a1, b2_s]
    rfl
  · have := h.1.1.2.1
    omega
/-- a number, or a word that is asked -/
theorem u_atom {rec : Nat → sw_M → Int32 → Int32 → Option (Int32 × sw_M)} {n1 t s : Nat} (hP : sw_isP Q) (h : us B n Q σ0 τ0 σ τ p sk l d u z) (hat : teT B n p = 3 ∨ (∃ j, j < 6 ∧ teT B n p = 2 ∧ σ.1 2 7 = nI (13 + j) ∧ fX10_asked τ = nI j)) (hs : ∀ c, tg c < s) : foR B n Q σ0 τ0 t s (fX5_readUnit rec σ (nI d)) (fun k => Ur (n1 + 2) k τ) σ τ p sk l d u z := by
  have hb1 : h.1.1.2.1 = h.1.1.2.1 := rfl
  have hpn : p ≤ n := h.1.1.2.1
  have ct := h.1.1.2.2
  have et := h.1.2.1.2.2.1
  have t0 := h.1.2.1.2.2.2.1
  have f4 : σ.1 2 4 = nI (teT B n p) := ct.2.2.1
  have f9 : σ.1 2 9 = 0 := by
    rw [ct.2.2.2.2.2.2.2, if_neg (by rcases hat with a | ⟨_, _, a, _⟩ <;> omega)]
  have n40 : ¬ σ.1 2 9 = 40 := by rw [f9]; decide
  have e6 : τ.1 49 6 = 2 ∨ τ.1 49 6 = 1 := by
    rcases hat with a | ⟨_, _, a, _⟩
    · exact .inl ((es_2 et).mpr a)
    · exact .inr ((es_1 et).mpr a)
  have e40 : ¬ τ.1 49 6 = 40 := by rcases e6 with e | e <;> rw [e] <;> decide
  have hnot : fX10_isWord τ 7237492 = 0 := by
    rcases p_word (k := 12) (by decide) h.1 with ⟨a, _, c⟩ | ⟨_, b⟩
    · rcases hat with x | ⟨j, hj, x, y, _⟩
      · omega
      · rw [y] at a
        exact absurd ((nI_eq (by omega) (by decide)).mp a) (by omega)
    · exact b
  have hl2 : fX10_unit_L2 τ 1 = some (.inl (0, τ)) := by rw [l2_0 t0 (.inl hnot), fX10_unit_L53, if_neg e40]
  have t0' : τ.1 49 2 ≤ 0 := by rw [t0]; decide
  -- the class
  obtain ⟨b, hb, hcl⟩ : ∃ b : Int32, (b = 0 ↔ teT B n p = 3) ∧ fX5_readUnit rec σ (nI d) = fX5_readUnit_L51 rec σ (nI d) b := by
    rcases hat with a | ⟨j, hj, a, y, _⟩
    · refine ⟨0, ⟨fun _ => a, fun _ => rfl⟩, ?_⟩
      have f7 : σ.1 2 7 = -1 := by rw [ct.2.2.2.2.2.1, if_neg (by omega)]
      rw [fX5_readUnit, f7, if_pos (by decide), fX5_readUnit_L17, f4, a, if_pos (show nI 3 = 3 from rfl)]
    · refine ⟨1, ⟨fun e => absurd e i10, fun e => by omega⟩, ?_⟩
      have n13 : ¬ σ.1 2 7 < 13 := by
        rw [y]
        rcases (show j = 0 ∨ j = 1 ∨ j = 2 ∨ j = 3 ∨ j = 4 ∨ j = 5 by omega) with rfl | rfl | rfl | rfl | rfl | rfl <;> decide
      rw [fX5_readUnit, if_neg n13, fX5_readUnit_L17, f4, a, if_neg (by decide), if_neg i10]
  -- the reference
  obtain ⟨v2, hv, hrl⟩ : ∃ v2 : Int32, ((teT B n p = 3 ∧ v2 = -1) ∨ ∃ j, j < 6 ∧ teT B n p = 2 ∧ σ.1 2 7 = nI (13 + j) ∧ v2 = nI j) ∧ fX10_unit_L101 τ = fX10_unit_L126 τ v2 := by
    rcases hat with a | ⟨j, hj, a, y, w⟩
    · have e2 : τ.1 49 6 = 2 := (es_2 et).mpr a
      have ea : fX10_asked τ = -1 := by
        rw [fX10_asked, if_neg (by rw [e2]; decide)]
      exact ⟨-1, .inl ⟨a, rfl⟩, by rw [fX10_unit_L101, if_pos t0', ea, let_s, if_pos e2]⟩
    · refine ⟨nI j, .inr ⟨j, hj, a, y, rfl⟩, ?_⟩
      have e1 : τ.1 49 6 = 1 := (es_1 et).mpr a
      have nn : ¬ nI j < 0 := by
        rcases (show j = 0 ∨ j = 1 ∨ j = 2 ∨ j = 3 ∨ j = 4 ∨ j = 5 by omega) with rfl | rfl | rfl | rfl | rfl | rfl <;> decide
      rw [fX10_unit_L101, if_pos t0', w, let_s, if_neg (by rw [e1]; decide), if_neg nn]
  by_cases hu : u < 30
  · obtain ⟨σ1, τ1, g1, g2, g3, g4, g5, g6, g7, g8⟩ := us_unit hP h hu
    have hz9 : z + 1 ≤ 9 * (u + 1) := by have := h.2.2.2.2.2.2.2.2.2; omega
    have hz2 : z < 270 := by have := h.2.2.2.2.2.2.2.2.2; omega
    obtain ⟨s', a', v, ⟨hq, hg1, hg2⟩, hcv, hev⟩ : ∃ s' a' v : Int32, (q_enc s' a' v ∧ ¬ v < -6 ∧ v ≠ -33) ∧ (fX5_readUnit_L51 rec σ (nI d) b = fX5_readUnit_L204 rec (Q + 7) σ1 v) ∧ (fX10_unit_L126 τ v2 = fX10_unit_L172 τ1 a' s') := by
      have c1 : fX5_readUnit_L51 rec σ (nI d) b = if b = 0 then fX5_readUnit_L204 rec (Q + 7) σ1 (σ.1 2 8) else fX5_readUnit_L204 rec (Q + 7) σ1 ((-1) - ((σ.1 2 7) - 13)) := by
        have x0 : σ.1 ((sw_pl (σ.2.2 1)) + 7) 0 + 1 = nI (u + 1) := by rw [h.2.1, h.2.2.1.1, nI_1]
        have xs : sw_w σ ((sw_pl (σ.2.2 1)) + 7) 0 (nI (u + 1)) = σ1 := by rw [h.2.1, g1]
        rw [fX5_readUnit_L51, if_pos ((u30 h).mpr hu), if_neg n40, fX5_readUnit_L96, x0, xs, let_s, g6, if_neg n40, g3.2.1]
      have r1 : fX10_unit_L126 τ v2 = if (0 : Int32) ≤ v2 then fX10_unit_L160 τ1 v2 1 else fX10_unit_L160 τ1 v2 0 := by
        rw [fX10_unit_L126, if_pos (full_0 h hu), fX10_unit_L138, if_pos t0', g2, b1_s]
      rw [c1, r1]
      rcases hv with ⟨a, rfl⟩ | ⟨j, hj, a, y, rfl⟩
      · have f8 : σ.1 2 8 = nI (teX B n p) := ct.2.2.2.2.2.2.1 a
        have k8 : τ1.1 49 8 = nI (teX B n p) := by rw [g8 8 (by decide)]; exact et.2.2.2.2.2 a
        have nn : ¬ nI (teX B n p) < 0 := by
          have := te_num a
          exact nI_nlt (a := teX B n p) (b := 0) (by omega) (by omega)
        refine ⟨0, nI (teX B n p), nI (teX B n p), ⟨.inl ⟨rfl, rfl, nn⟩, fun w => nn (Int32.lt_trans w (by decide)), fun w => nn (by rw [w]; decide)⟩, ?_, ?_⟩
        · rw [if_pos (hb.mpr a), f8]
        · rw [if_neg (by decide), fX10_unit_L160, if_neg (by decide), k8]
      · have nn : (0 : Int32) ≤ nI j := by
          rcases (show j = 0 ∨ j = 1 ∨ j = 2 ∨ j = 3 ∨ j = 4 ∨ j = 5 by omega) with rfl | rfl | rfl | rfl | rfl | rfl <;> decide
        have gg : ¬ -1 - nI j < -6 ∧ -1 - nI j ≠ -33 := by
          rcases (show j = 0 ∨ j = 1 ∨ j = 2 ∨ j = 3 ∨ j = 4 ∨ j = 5 by omega) with rfl | rfl | rfl | rfl | rfl | rfl <;> decide
        refine ⟨1, nI j, -1 - nI j, ⟨.inr (.inl ⟨j, hj, rfl, rfl, rfl⟩), gg⟩, ?_, ?_⟩
        · rw [if_neg (fun e => by have := hb.mp e; omega), y]
          rcases (show j = 0 ∨ j = 1 ∨ j = 2 ∨ j = 3 ∨ j = 4 ∨ j = 5 by omega) with rfl | rfl | rfl | rfl | rfl | rfl <;> rfl
        · rw [if_pos nn, fX10_unit_L160, if_pos nn]
    obtain ⟨σ2, τ2, k1, k2, k3, k4, k5, k6, k7, k8⟩ := us_atom hP g3 hz2 hz9 hq
    obtain ⟨σ3, τ3, m1, m2, m3, m4, m5⟩ := us_tok hP k3 (by rcases hat with a | ⟨_, _, a, _⟩ <;> omega)
    have e8 : σ3.1 (Q + 8) = σ2.1 (Q + 8) := m4.2.1 _ (by rcases hP with rfl | rfl <;> decide)
    have hlu : l ≤ u + d := h.2.2.2.2.2.2.1
    have hd7 : d ≤ 7 := h.2.2.2.2.2.2.2.2.1
    refine .inl ⟨σ3, ?_, τ3, nx B n p, sk, 0, u + 1, z + 1, 0, fun a => ?_, ?_, os_0 m3 (by omega), fun _ _ => rfl, fun i a b => absurd a (by omega), .inr (.inl (hs _)), by omega, by omega, by omega, fun i hi => ?_, ?_, ?_, ?_⟩
    · rw [hcl, hcv, fX5_readUnit_L204, k1, b1_s, m1, b1_s]
    · show Ur (n1 + 2) a τ = Ol a τ3
      refine ur_e hl2 ?_
      rw [hrl, hev, fX10_unit_L172, k2, b1_s, m2, b1_s]
    · have := (nx_pos hpn (B := B)).1
      omega
    · rw [e8, k8 i (by omega), g7]
    · rw [show z + 1 + 0 - z = 1 by omega, show u + 1 - u = 1 by omega, e8]
      exact good_one (by rw [k7]; exact hg1) (by rw [k7]; exact hg2)
    · exact g4.tr (k4.tr (ffc_c m4))
    · exact g5.tr (k5.tr (ffe_e m5))
  · obtain ⟨σ', τ', a1, a2, a3⟩ := p_fail (w := 2) (by decide) h.1
    refine .inr ⟨σ', τ', 0, ?_, a3, by omega, fun a => ?_⟩
    · rw [hcl, fX5_readUnit_L51, if_neg (fun x => hu ((u30 h).mp x)), a1, b2_s]
      rfl
    · show Ur (n1 + 2) (a + 0 + 2) τ = some τ'
      rw [ur_e hl2 (τ' := τ') ?_]
      · exact ol_f a3.2.2.1
      · rw [hrl, fX10_unit_L126, if_neg (full_1 h hu), fX10_unit_L133, a2, b1_s, fX10_unit_L138, if_neg a3.2.2.1]
end PM
