/-! a formula: the levels -/
theorem lvf : ∀ ℓ, ℓ < 5 → mtf ℓ ≤ msf ℓ ∧ mtf ℓ ≤ mtf (ℓ + 1) ∧ msf ℓ < msf (ℓ + 1) ∧ (ℓ = 2 ∨ mtf ℓ = msf ℓ) ∧ (ℓ < 2 ∨ 4 ≤ msf ℓ) ∧ (¬ msf ℓ = 4 ∨ ℓ = 2) ∧ (¬ ℓ = 2 ∨ (msf ℓ = 4 ∧ mtf (ℓ + 1) = 5 ∧ msf (ℓ + 1) = 5)) ∧ (msf (ℓ + 1) = msf ℓ + 1 ∨ (msf ℓ = 2 ∧ msf (ℓ + 1) = 4)) := by decide
theorem d30 : ∀ a, a ≤ 30 → ¬ (30 : Int32) < nI a := by decide
theorem l5 : ∀ ℓ, ℓ < 5 → nI ℓ < 5 ∧ (nI ℓ = 2 ↔ ℓ = 2) := by decide
theorem fneg : ∀ c, c < 128 → ¬ c = 21 → fcode c = -(nI c) := fun c _ h => by rw [fcode, if_neg h]
section PP
variable {σ τ σ0 τ0 σ' τ' : sw_M} {B : Nat → Nat} {n p Q : Nat} {sk : Nat → Nat} {l d u z : Nat}
theorem topt_cg {sk' : Nat → Nat} (h : ∀ i, i < l → sk' i = sk i) : topt sk' l = topt sk l := by
  unfold topt
  by_cases e : l = 0
  · rw [if_pos e, if_pos e]
  · rw [if_neg e, if_neg e, h (l - 1) (by omega)]
/-- one part of a level behind another -/
theorem lvl_lp {N ℓ : Nat} {X : Nat → Option sw_M} (hP : sw_isP Q) (ih : FF B n Q σ0 τ0 N) (hℓ : ℓ < 5) (hN : 7 - (ℓ + 1) + 8 * (7 - d) ≤ N) (h0 : us B n Q σ0 τ0 σ τ p sk l d u z) (htop : topt sk l < msf ℓ) : ∀ (f a : Nat) (σ1 τ1 : sw_M) (p1 : Nat) (sk1 : Nat → Nat) (m u1 zr k : Nat), 31 ≤ f + a → 1 ≤ a → (∀ a, X (a + k) = Ol a τ1) → k + p ≤ p1 → os B n Q σ0 τ0 σ1 τ1 p1 sk1 l m d u1 zr → (∀ i, i < l → sk1 i = sk i) → (∀ i, l ≤ i → i < l + m → mtf ℓ ≤ tg (sk1 i)) → (ℓ = 2 → ∀ i, l ≤ i → i < l + m → 5 ≤ tg (sk1 i)) → nosg B n p1 (msf (ℓ + 1)) sk1 (l + m) → u < u1 → a ≤ u1 - u → zr + m + 1 + d ≤ z + 9 * (u1 - u) → z ≤ zr + m → (∀ i, i < z → σ1.1 (Q + 8) i = σ.1 (Q + 8) i) → good (σ1.1 (Q + 8)) z (zr + m - z) (u1 - u) → ffc Q σ σ1 → ffe τ τ1 →
    foR B n Q σ0 τ0 (mtf ℓ) (msf ℓ) (sw_wh f (fun s : Int32 × sw_M => fX5_readFormula_L49 (sw_rd N) s.2 (nI ℓ) (nI d) s.1) (nI a, σ1)) X σ τ p sk l d u z := by
  obtain ⟨v1, v2, v3, v4, v5, v6, v7, v8⟩ := lvf ℓ hℓ
  obtain ⟨w1, w2⟩ := l5 ℓ hℓ
  have hlu : l ≤ u + d := h0.2.2.2.2.2.2.1
  have hz9 : z ≤ 9 * u := h0.2.2.2.2.2.2.2.2.2
  intro f
  induction f with
  | zero =>
    intro a σ1 τ1 p1 sk1 m u1 zr k hf _ _ _ hos _ _ _ _ _ hau
    have : u1 ≤ 30 := hos.2.2.2.2.2.2.2.2.1
    omega
  | succ f ihf =>
    intro a σ1 τ1 p1 sk1 m u1 zr k hf ha hX hk hos hsk hpe hp5 hno huu hau hzz hzr hpre hgood hfc hfe
    have hu30 : u1 ≤ 30 := hos.2.2.2.2.2.2.2.2.1
    have hp1 : p1 ≤ n := hos.1.1.2.1
    obtain ⟨q1, q2, q3⟩ := p_sign hos.1
    have q2 := q2 ℓ hℓ
    by_cases hs : sg B n p1 ≠ 0 ∧ tg (sg B n p1) = msf ℓ
    · rw [if_pos hs] at q2
      obtain ⟨hs0, hst⟩ := hs
      obtain ⟨q4, q5, q6, q7, q8, q9⟩ := q3 hs0
      have hlt := okc_lt q7
      have n0 : ¬ nI (sg B n p1) = 0 := fun e => hs0 ((nI_eq (b := 0) (by omega) (by decide)).mp e)
      have htp1 : topt sk1 l < msf ℓ := by rw [topt_cg hsk]; exact htop
      have h20 : ∀ i, l ≤ i → i < l + m → ¬ sk1 i = 20 := hos.2.2.2.2.2.2.2.2.2.2.2
      obtain ⟨σ2, τ2, a1, a2, a3, a4, a5⟩ := o_sign hP hos (by omega) hs0 (by rw [hst]; exact htp1) (fun i x y => by
        rw [hst]
        rcases v4 with e | e
        · have := hp5 e i x y
          rcases v7 with b | b
          · exact absurd e b
          · omega
        · rw [← e]; exact hpe i x y) (fun e => by
        have e2 : ℓ = 2 := by
          rcases v6 with b | b
          · omega
          · exact b
        rw [hrl_up m (fun i x y => ⟨h20 i x y, hp5 e2 i x y⟩)]
        exact hrl_top (by omega))
      have hnx := nx_pos (B := B) hp1
      have hr := ih (ℓ + 1) d (l + 1) u1 (zr + m) (nx B n p1) sw_F σ2 τ2 (psh sk1 l (sg B n p1)) (by omega) hN (by unfold sw_F; omega) a3 (by rw [topt_s, if_neg q8, hst]; exact v3) (fun x => .inr (by
        rw [topt_s, if_neg q8, hst]
        rcases v5 with b | b <;> omega))
      have hL : fX5_readFormula_L49 (sw_rd N) σ1 (nI ℓ) (nI d) (nI a) = sw_b2 (sw_rd N 0 σ2 (nI (ℓ + 1)) (nI d)) fun r7 m8 => if r7 = 0 then some (.inr (0, m8)) else sw_b1 (fX2_add (sw_pl (m8.2.2 1) + 7) m8 (-(nI (sg B n p1)))) fun m11 => if nI ℓ = 2 then some (.inr (1, m11)) else sw_let (nI a + 1) fun v14 => some (.inl (v14, m11)) := by
        rw [fX5_readFormula_L49, if_neg (d30 a (by omega)), q2, let_s, if_neg n0, a1, b1_s, nI_1]
      have e82 : σ2.1 (Q + 8) = σ1.1 (Q + 8) := a4.2.1 _ (by rcases hP with rfl | rfl <;> decide)
      have hpx := hnx.2.2 q5
      rcases hr with ⟨σ3, r1, τ3, p3, sk3, m3, u3, zr3, k3, r2, r3, r4, r5, r6, r7, r8, r9, r10, r11, r12, r13, r14⟩ | ⟨σ3, τ3, k3, r1, r2, r3, r4⟩
      · have sc : sk3 l = sg B n p1 := by rw [r5 l (by omega), psh_e]
        obtain ⟨σ4, b1, b2, b3, b4, b5⟩ := os_in (d := d) hP r4 (by rw [sc, if_neg q9]; rfl) (by rw [sc]; exact q8) (by omega)
        have hp3 : sw_pl (σ3.2.2 1) = Q := r4.2.1
        have hfc4 : fcode (sk3 l) = -(nI (sg B n p1)) := by rw [sc, fneg _ hlt q9]
        obtain ⟨x1, x2, x3⟩ := fc_enc _ hlt (by unfold okc at q7; omega)
        have hL2 : fX5_readFormula_L49 (sw_rd N) σ1 (nI ℓ) (nI d) (nI a) = if nI ℓ = 2 then some (.inr (1, σ4)) else some (.inl (nI (a + 1), σ4)) := by
          rw [hL, r1, b2_s, if_neg i10, hp3, ← hfc4, b1, b1_s, nI_1]
          rfl
        have hu3 : u3 ≤ 30 := r4.2.2.2.2.2.2.2.2.1
        have y1 : ∀ b, X (b + (k3 + 1 + k)) = Ol b τ3 := fun b => by
          rw [show b + (k3 + 1 + k) = b + k3 + 1 + k by omega, hX, a2, show Ur sw_F (b + k3) τ2 = _ from r2 b]
        have y2 : ∀ i, i < l → sk3 i = sk i := fun i hi => by rw [r5 i (by omega), psh_n (by omega), hsk i hi]
        have y3 : ∀ i, l ≤ i → i < l + (m3 + 1) → mtf ℓ ≤ tg (sk3 i) := fun i x y => by
          by_cases e : i = l
          · rw [e, sc, hst]; exact v1
          · exact Nat.le_trans v2 (r6 i (by omega) (by omega))
        have y4 : ∀ i, i < z → σ4.1 (Q + 8) i = σ.1 (Q + 8) i := fun i hi => by rw [b5 i (by omega), r11 i (by omega), e82, hpre i hi]
        have y5 : good (σ4.1 (Q + 8)) z (zr3 + (m3 + 1) - z) (u3 - u) := by
          have g1 : good (σ4.1 (Q + 8)) z (zr + m - z) (u1 - u) := good_cg hgood fun i x y => by rw [b5 i (by omega), r11 i (by omega), e82]
          have g2 : good (σ4.1 (Q + 8)) (z + (zr + m - z)) (zr3 + m3 - (zr + m)) (u3 - u1) := by
            rw [show z + (zr + m - z) = zr + m by omega]
            exact good_cg r12 fun i x y => b5 i (by omega)
          have hc4 : σ4.1 (Q + 8) (z + (zr + m - z) + (zr3 + m3 - (zr + m))) = -(nI (sg B n p1)) := by
            rw [show z + (zr + m - z) + (zr3 + m3 - (zr + m)) = zr3 + m3 by omega, b4, hfc4]
          have g3 := good_join g1 g2 (by omega) (by rw [hc4]; exact x1) (by rw [hc4]; exact x2)
          rw [show zr3 + (m3 + 1) - z = zr + m - z + (zr3 + m3 - (zr + m)) + 1 by omega, show u3 - u = u1 - u + (u3 - u1) by omega]
          exact g3
        have y6 : ffc Q σ σ4 := hfc.tr ((ffc_c a4).tr (r13.tr b3))
        have y7 : ffe τ τ3 := hfe.tr (a5.tr r14)
        have y8 : nosg B n p3 (msf (ℓ + 1)) sk3 (l + (m3 + 1)) := by rw [show l + (m3 + 1) = l + 1 + m3 by omega]; exact r7
        by_cases e2 : ℓ = 2
        · rw [if_pos (w2.mpr e2)] at hL2
          rw [wh_end (b := fun s : Int32 × sw_M => fX5_readFormula_L49 (sw_rd N) s.2 (nI ℓ) (nI d) s.1) (s := (nI a, σ1)) (t := ((1 : Int32), σ4)) hL2]
          refine .inl ⟨σ4, rfl, τ3, p3, sk3, m3 + 1, u3, zr3, k3 + 1 + k, y1, by omega, b2, y2, y3, ?_, by omega, by omega, by omega, y4, y5, y6, y7⟩
          obtain ⟨c1, c2, c3⟩ : msf ℓ = 4 ∧ mtf (ℓ + 1) = 5 ∧ msf (ℓ + 1) = 5 := by
            rcases v7 with b | b
            · exact absurd e2 b
            · exact b
          rcases y8 with x | x | x
          · exact .inl x
          · rw [c3] at x
            by_cases e4 : tg (sg B n p3) = 4
            · refine .inr (.inr ⟨e4, ?_⟩)
              rw [show l + (m3 + 1) = l + 1 + m3 by omega, hrl_up m3 (fun i x y => ⟨r4.2.2.2.2.2.2.2.2.2.2.2 i x y, by rw [← c2]; exact r6 i x y⟩)]
              exact hrl_one (by rw [sc]; exact q8) (by rw [sc, hst]; exact c1)
            · exact .inr (.inl (by rw [c1]; omega))
          · exact .inr (.inr x)
        · rw [if_neg (fun x => e2 (w2.mp x))] at hL2
          rw [wh_one (b := fun s : Int32 × sw_M => fX5_readFormula_L49 (sw_rd N) s.2 (nI ℓ) (nI d) s.1) (s := (nI a, σ1)) (s' := (nI (a + 1), σ4)) hL2]
          exact ihf (a + 1) σ4 τ3 p3 sk3 (m3 + 1) u3 zr3 (k3 + 1 + k) (by omega) (by omega) y1 (by omega) b2 y2 y3 (fun x => absurd x e2) y8 (by omega) (by omega) (by omega) (by omega) y4 y5 y6 y7
      · have hL2 : fX5_readFormula_L49 (sw_rd N) σ1 (nI ℓ) (nI d) (nI a) = some (.inr (0, σ3)) := by rw [hL, r1, b2_s, if_pos rfl]
        rw [wh_end (b := fun s : Int32 × sw_M => fX5_readFormula_L49 (sw_rd N) s.2 (nI ℓ) (nI d) s.1) (s := (nI a, σ1)) (t := ((0 : Int32), σ3)) hL2]
        refine .inr ⟨σ3, τ3, k3 + 1 + k, rfl, r2, by omega, fun b => ?_⟩
        rw [show b + (k3 + 1 + k) + 2 = b + k3 + 2 + 1 + k by omega, hX, a2, show Ur sw_F (b + k3 + 2) τ2 = _ from r4 b]
    · rw [if_neg hs] at q2
      have hL2 : fX5_readFormula_L49 (sw_rd N) σ1 (nI ℓ) (nI d) (nI a) = some (.inr (1, σ1)) := by rw [fX5_readFormula_L49, if_neg (d30 a (by omega)), q2, let_s, if_pos rfl]
      rw [wh_end (b := fun s : Int32 × sw_M => fX5_readFormula_L49 (sw_rd N) s.2 (nI ℓ) (nI d) s.1) (s := (nI a, σ1)) (t := ((1 : Int32), σ1)) hL2]
      refine .inl ⟨σ1, rfl, τ1, p1, sk1, m, u1, zr, k, hX, hk, hos, hsk, hpe, ?_, huu, hzz, hzr, hpre, hgood, hfc, hfe⟩
      rcases hno with x | x | x
      · exact .inl x
      · by_cases e0 : sg B n p1 = 0
        · exact .inl e0
        · have ne : ¬ tg (sg B n p1) = msf ℓ := fun y => hs ⟨e0, y⟩
          have n3 := (tg_3 (q3 e0).2.2.2.2.2).1
          exact .inr (.inl (by rcases v8 with b | ⟨b, b'⟩ <;> omega))
      · exact .inr (.inr x)
/-- a level -/
theorem s_form {N : Nat} (hP : sw_isP Q) (ih : FF B n Q σ0 τ0 N) (ihn : NN B n Q σ0 τ0 N) (ihu : UU B n Q σ0 τ0 N) : FF B n Q σ0 τ0 (N + 1) := by
  intro ℓ d l u z p n1 σ τ sk hℓ hN hn1 h ht hnt
  rw [rd_0]
  have hd7 : d ≤ 7 := h.2.2.2.2.2.2.2.2.1
  by_cases h5 : ℓ < 5
  · obtain ⟨w1, w2⟩ := l5 ℓ h5
    obtain ⟨v1, v2, v3, v4, v5, v6, v7, v8⟩ := lvf ℓ h5
    by_cases hno : ℓ = 2 ∧ σ.1 2 7 = 12
    · obtain ⟨e2, e12⟩ := hno
      subst e2
      have e : fX5_readFormula (sw_rd N) σ (nI 2) (nI d) = sw_b2 (sw_rd N 1 σ (nI d) 0) fun r m => sw_gd (sw_bo r) <| some (r, m) := by rw [fX5_readFormula, if_pos w1, if_pos (w2.mpr rfl), if_pos e12]
      rw [e]
      exact foR_gd (ihn d l u z p n1 σ τ sk (by omega) hn1 h ht e12)
    · have e : fX5_readFormula (sw_rd N) σ (nI ℓ) (nI d) = fX5_readFormula_L34 (sw_rd N) σ (nI ℓ) (nI d) := by
        rw [fX5_readFormula, if_pos w1]
        by_cases e2 : ℓ = 2
        · rw [if_pos (w2.mpr e2), if_neg (fun x => hno ⟨e2, x⟩)]
        · rw [if_neg (fun x => e2 (w2.mp x))]
      have hr := ih (ℓ + 1) d l u z p n1 σ τ sk (by omega) (by omega) hn1 h (by omega) (fun x => by
        by_cases e2 : ℓ = 2
        · exact .inl (fun y => hno ⟨e2, y⟩)
        · exact hnt (by omega))
      rw [e, fX5_readFormula_L34, nI_1]
      rcases hr with ⟨σ1, r1, τ1, p1, sk1, m, u1, zr, k, r2, r3, r4, r5, r6, r7, r8, r9, r10, r11, r12, r13, r14⟩ | ⟨σ1, τ1, k, r1, r2, r3, r4⟩
      · rw [r1, b2_s, if_neg i10]
        refine lvl_lp hP ih h5 (by omega) h ht sw_F 1 σ1 τ1 p1 sk1 m u1 zr k (by unfold sw_F; omega) (by omega) r2 r3 r4 r5 (fun i x y => Nat.le_trans v2 (r6 i x y)) (fun e2 i x y => ?_) r7 r8 (by omega) r9 r10 r11 r12 r13 r14
        have := r6 i x y
        rcases v7 with b | b
        · exact absurd e2 b
        · omega
      · rw [r1, b2_s, if_pos rfl]
        exact .inr ⟨σ1, τ1, k, rfl, r2, r3, r4⟩
  · have e5 : ℓ = 5 := by omega
    subst e5
    have e : fX5_readFormula (sw_rd N) σ (nI 5) (nI d) = sw_b2 (sw_rd N 2 σ (nI d) 0) fun r m => sw_gd (sw_bo r) <| some (r, m) := by rw [fX5_readFormula, if_neg (by decide)]
    rw [e]
    exact foR_gd (ihu d l u z p n1 σ τ sk (by omega) hn1 h (hnt (by decide)))
theorem ff_all (hP : sw_isP Q) : ∀ N, FF B n Q σ0 τ0 N ∧ NN B n Q σ0 τ0 N ∧ UU B n Q σ0 τ0 N
  | 0 => ⟨fun ℓ d l u z p n1 σ τ sk h1 h2 => absurd h2 (by omega), fun d l u z p n1 σ τ sk h => absurd h (by omega), fun d l u z p n1 σ τ sk h => absurd h (by omega)⟩
  | N + 1 => by
    obtain ⟨a, b, c⟩ := ff_all hP N
    exact ⟨s_form hP a b c, s_not hP a, s_unit hP a⟩
end PP
