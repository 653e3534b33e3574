/-! a formula: not and the unit, over what is inside -/
def FF (B : Nat → Nat) (n Q : Nat) (σ0 τ0 : sw_M) (N : Nat) : Prop := ∀ (ℓ d l u z p n1 : Nat) (σ τ : sw_M) (sk : Nat → Nat), ℓ ≤ 5 → 7 - ℓ + 8 * (7 - d) ≤ N → 12 ≤ n1 + d → us B n Q σ0 τ0 σ τ p sk l d u z → topt sk l < msf ℓ → (3 ≤ ℓ → ¬ σ.1 2 7 = 12 ∨ 4 ≤ topt sk l) → foR B n Q σ0 τ0 (mtf ℓ) (msf ℓ) (sw_rd N 0 σ (nI ℓ) (nI d)) (fun k => Ur n1 k τ) σ τ p sk l d u z
def NN (B : Nat → Nat) (n Q : Nat) (σ0 τ0 : sw_M) (N : Nat) : Prop := ∀ (d l u z p n1 : Nat) (σ τ : sw_M) (sk : Nat → Nat), 1 + 8 * (7 - d) ≤ N → 12 ≤ n1 + d → us B n Q σ0 τ0 σ τ p sk l d u z → topt sk l < 4 → σ.1 2 7 = 12 → foR B n Q σ0 τ0 (mtf 2) (msf 2) (sw_rd N 1 σ (nI d) 0) (fun k => Ur n1 k τ) σ τ p sk l d u z
def UU (B : Nat → Nat) (n Q : Nat) (σ0 τ0 : sw_M) (N : Nat) : Prop := ∀ (d l u z p n1 : Nat) (σ τ : sw_M) (sk : Nat → Nat), 1 + 8 * (7 - d) ≤ N → 12 ≤ n1 + d → us B n Q σ0 τ0 σ τ p sk l d u z → (¬ σ.1 2 7 = 12 ∨ 4 ≤ topt sk l) → foR B n Q σ0 τ0 (mtf 5) (msf 5) (sw_rd N 2 σ (nI d) 0) (fun k => Ur n1 k τ) σ τ p sk l d u z
section PO
variable {σ τ σ0 τ0 σ' τ' : sw_M} {B : Nat → Nat} {n p Q : Nat} {sk : Nat → Nat} {l d u z : Nat}
theorem nots_s : ∀ m, nots sk l (m + 1) = nots sk (l + 1) m + if sk l = 21 then 1 else 0
  | 0 => by
    show nots sk l 0 + (if sk (l + 0) = 21 then 1 else 0) = 0 + _
    rfl
  | m + 1 => by
    show nots sk l (m + 1) + (if sk (l + (m + 1)) = 21 then 1 else 0) = nots sk (l + 1) m + (if sk (l + 1 + m) = 21 then 1 else 0) + _
    rw [nots_s m, show l + (m + 1) = l + 1 + m by omega]
    omega
/-- the sign that waited below comes to those that wait -/
theorem os_in {m dp zr : Nat} (hP : sw_isP Q) (h : os B n Q σ0 τ0 σ τ p sk (l + 1) m dp u zr) (hd : dp = d + if sk l = 21 then 1 else 0) (h20 : ¬ sk l = 20) (hz : zr + m + 1 ≤ 9 * u) : ∃ σ', fX2_add (Q + 7) σ (fcode (sk l)) = some σ' ∧ os B n Q σ0 τ0 σ' τ p sk l (m + 1) d u zr ∧ ffc Q σ σ' ∧ σ'.1 (Q + 8) (zr + m) = fcode (sk l) ∧ (∀ i, i ≠ zr + m → σ'.1 (Q + 8) i = σ.1 (Q + 8) i) := by
  obtain ⟨h1, h2, h3, ⟨e1, e2, e3, e4⟩, h5, h6, h7, h8, h9, h10, h11, h12⟩ := h
  have hn : d + nots sk l (m + 1) = dp + nots sk (l + 1) m := by rw [nots_s, hd]; omega
  obtain ⟨σ', a1, a2, a3, a4, a5, a6, a7⟩ := c_add (c := fcode (sk l)) hP h3 (by omega)
  refine ⟨σ', a1, ⟨pz_ff hP h1 a3 a4 a5, by rw [a3.1]; exact h2, a2, ⟨e1, e2, e3, by rw [hn]; exact e4⟩, by rw [show l + (m + 1) = l + 1 + m by omega]; exact h5, fun i hi => by rw [a7 i (by omega)]; exact h6 i hi, fun j hj => ?_, by rw [hn]; omega, h9, ?_, by omega, fun i x y => ?_⟩, a3, a6, a7⟩
  · by_cases e : j = m
    · rw [e, a6, show l + (m + 1) - 1 - m = l by omega]
    · rw [a7 (zr + j) (by omega), h7 j (by omega), show l + (m + 1) - 1 - j = l + 1 + m - 1 - j by omega]
  · split at hd <;> omega
  · by_cases e : i = l
    · rw [e]; exact h20
    · exact h12 i (by omega) (by omega)
theorem foR_gd {t s : Nat} {C : Option (Int32 × sw_M)} {X : Nat → Option sw_M} (h : foR B n Q σ0 τ0 t s C X σ τ p sk l d u z) : foR B n Q σ0 τ0 t s (sw_b2 C fun r m => sw_gd (sw_bo r) <| some (r, m)) X σ τ p sk l d u z := by
  rcases h with ⟨σ', h1, h2⟩ | ⟨σ', τ', k, h1, h2, h3, h4⟩
  · exact .inl ⟨σ', by rw [h1]; rfl, h2⟩
  · exact .inr ⟨σ', τ', k, by rw [h1]; rfl, h2, h3, h4⟩
theorem d6 : ∀ d, d < 7 → nI d ≤ 6 := by decide
theorem rd_0 {N : Nat} {a b : Int32} : sw_rd (N + 1) 0 σ a b = fX5_readFormula (sw_rd N) σ a b := by rw [sw_rd, if_pos rfl]
theorem rd_1 {N : Nat} {a b : Int32} : sw_rd (N + 1) 1 σ a b = fX5_readNot (sw_rd N) σ a := by rw [sw_rd, if_neg (by decide), if_pos rfl]
theorem rd_2 {N : Nat} {a b : Int32} : sw_rd (N + 1) 2 σ a b = fX5_readUnit (sw_rd N) σ a := by rw [sw_rd, if_neg (by decide), if_neg (by decide)]
theorem tg_7 (c : Nat) : tg c < 7 := by
  unfold tg
  repeat' split
  all_goals omega
theorem sg_c {c : Nat} (hc : 4 < c) (hc2 : c < 2 ^ 31) (x : Int32) (hx : x = nI c) (h : pz B n Q σ0 τ0 σ τ p) : (σ.1 2 9 = x ↔ τ.1 49 6 = x) ∧ (σ.1 2 9 = x → teT B n p = 4) := by
  rw [hx]
  exact p_sg hc hc2 h
theorem topt_s {c : Nat} : topt (psh sk l c) (l + 1) = if c = 20 then 0 else tg c := by
  unfold topt
  rw [if_neg (by omega), show l + 1 - 1 = l by omega, psh_e]
/-- not -/
theorem s_not {N : Nat} (hP : sw_isP Q) (ih : FF B n Q σ0 τ0 N) : NN B n Q σ0 τ0 (N + 1) := by
  intro d l u z p n1 σ τ sk hN hn1 h ht h12
  rw [rd_1]
  have t0 := h.1.2.1.2.2.2.1
  have hd7 : d ≤ 7 := h.2.2.2.2.2.2.2.2.1
  have hlu : l ≤ u + d := h.2.2.2.2.2.2.1
  have hz9 : z ≤ 9 * u := h.2.2.2.2.2.2.2.2.2
  have hpn : p ≤ n := h.1.1.2.1
  have hst := h.2.2.2.2.1
  have e23 : τ.1 49 23 = nI d := h.2.2.2.1.2.2.2
  obtain ⟨hw, hT⟩ : fX10_isWord τ 7237492 = 1 ∧ teT B n p = 2 := by
    rcases p_word (k := 12) (by decide) h.1 with ⟨_, b, c⟩ | ⟨a, _⟩
    · exact ⟨b, c⟩
    · exact absurd h12 a
  have hm : fX10_mayNot τ = some 1 := by rw [e_may hst, if_neg (by omega)]
  by_cases hd : d < 7
  · obtain ⟨σ1, τ1, a1, a2, a3, a4, a5⟩ := us_push (c := 21) hP h hd (by unfold okc; omega) (by omega)
    obtain ⟨n2, rfl⟩ : ∃ n2, n1 = n2 + 1 := ⟨n1 - 1, by omega⟩
    have hl2 : fX10_unit_L2 τ 1 = some (.inl (1, τ1)) := by
      rw [fX10_unit_L2, if_neg i10, if_pos t0, hw, if_neg i10, hm, b1_s, if_neg i10, e23, if_pos (show nI d ≤ 6 from d6 d hd), fX10_unit_L44, show (21 : Int32) = nI 21 from rfl, a2, b1_s]
    have hX : (fun k => Ur (n2 + 1) k τ) = fun k => Ur n2 k τ1 := funext fun k => ur_s hl2
    have hr := ih 2 (d + 1) (l + 1) u z (nx B n p) n2 σ1 τ1 (psh sk l 21) (by decide) (by omega) (by omega) a3 (by rw [topt_s]; decide) (fun x => absurd x (by decide))
    have hc : fX5_readNot (sw_rd N) σ (nI d) = sw_b2 (sw_rd N 0 σ1 (nI 2) (nI (d + 1))) fun r4 m5 => if r4 = 0 then some (0, m5) else sw_b1 (fX2_add (sw_pl (m5.2.2 1) + 7) m5 (-33)) fun m8 => some (1, m8) := by
      rw [fX5_readNot, if_pos (show nI d < 7 from nI_lt (b := 7) hd (by decide)), a1, b1_s, nI_1]
      rfl
    rw [hX, hc]
    have hnx := (nx_pos (B := B) hpn)
    have e8 : σ1.1 (Q + 8) = σ.1 (Q + 8) := a4.2.1 _ (by rcases hP with rfl | rfl <;> decide)
    rcases hr with ⟨σ2, r1, τ2, p2, sk2, m, u2, zr, k, r2, r3, r4, r5, r6, r7, r8, r9, r10, r11, r12, r13, r14⟩ | ⟨σ2, τ2, k, r1, r2, r3, r4⟩
    · have s21 : sk2 l = 21 := by rw [r5 l (by omega), psh_e]
      have hsz : zr + m + 1 ≤ 9 * u2 := by omega
      obtain ⟨σ3, b1, b2, b3, b4, b5⟩ := os_in (d := d) hP r4 (by rw [s21]; rfl) (by rw [s21]; decide) hsz
      have hp2 : sw_pl (σ2.2.2 1) = Q := r4.2.1
      refine .inl ⟨σ3, ?_, τ2, p2, sk2, m + 1, u2, zr, k, r2, by omega, b2, fun i hi => ?_, fun i x y => ?_, ?_, r8, by omega, by omega, fun i hi => ?_, ?_, ?_, ?_⟩
      · rw [r1, b2_s, if_neg i10, hp2, show (-33 : Int32) = fcode (sk2 l) by rw [s21]; rfl, b1, b1_s]
      · rw [r5 i (by omega), psh_n (by omega)]
      · by_cases e : i = l
        · rw [e, s21]; decide
        · exact r6 i (by omega) (by omega)
      · rw [show l + (m + 1) = l + 1 + m by omega]; exact r7
      · rw [b5 i (by omega), r11 i hi, e8]
      · rw [show zr + (m + 1) - z = zr + m - z + 1 by omega]
        refine good_not (good_cg r12 fun i x y => b5 i (by omega)) ?_
        rw [show z + (zr + m - z) = zr + m by omega, b4, s21]
        rfl
      · exact (ffc_c a4).tr (r13.tr b3)
      · exact a5.tr r14
    · exact .inr ⟨σ2, τ2, k, by rw [r1, b2_s, if_pos rfl], r2, by omega, r4⟩
  · obtain ⟨σ', τ', a1, a2, a3⟩ := p_fail (w := 2) (by decide) h.1
    obtain ⟨τ2, b1, b2⟩ := f_open (c := 21) (l := l) a3 (by rw [wro_k a2 (by decide)]; exact hst.1) hst.2.1
    obtain ⟨n2, rfl⟩ : ∃ n2, n1 = n2 + 2 := ⟨n1 - 2, by omega⟩
    have hl2 : fX10_unit_L2 τ 1 = some (.inl (1, τ2)) := by
      rw [fX10_unit_L2, if_neg i10, if_pos t0, hw, if_neg i10, hm, b1_s, if_neg i10, e23, if_neg (show ¬ nI d ≤ 6 by rw [show d = 7 by omega]; decide), a2, b1_s, fX10_unit_L44, b1, b1_s]
    refine .inr ⟨σ', τ2, 0, ?_, b2, by omega, fun a => ?_⟩
    · rw [fX5_readNot, if_neg (show ¬ nI d < 7 by rw [show d = 7 by omega]; decide), a1, b2_s]
      rfl
    · show Ur (n2 + 1 + 1) (a + 0 + 1 + 1) τ = some τ2
      rw [ur_s hl2, ur_f b2.2.2.1]
/-- a unit -/
theorem s_unit {N : Nat} (hP : sw_isP Q) (ih : FF B n Q σ0 τ0 N) : UU B n Q σ0 τ0 (N + 1) := by
  intro d l u z p n1 σ τ sk hN hn1 h hnt
  rw [rd_2]
  have t0 := h.1.2.1.2.2.2.1
  have t0' : τ.1 49 2 ≤ 0 := by rw [t0]; decide
  have hd7 : d ≤ 7 := h.2.2.2.2.2.2.2.2.1
  have hlu : l ≤ u + d := h.2.2.2.2.2.2.1
  have hz9 : z ≤ 9 * u := h.2.2.2.2.2.2.2.2.2
  have hpn : p ≤ n := h.1.1.2.1
  have hst := h.2.2.2.2.1
  have ct := h.1.1.2.2
  have et := h.1.2.1.2.2.1
  have e23 : τ.1 49 23 = nI d := h.2.2.2.1.2.2.2
  have f4 : σ.1 2 4 = nI (teT B n p) := ct.2.2.1
  have hs7 : ∀ c, tg c < msf 5 := tg_7
  have h53 : fX10_unit_L2 τ 1 = fX10_unit_L53 τ 1 := by
    refine l2_0 t0 ?_
    rcases p_word (k := 12) (by decide) h.1 with ⟨a, _, _⟩ | ⟨_, b⟩
    · rcases hnt with x | x
      · exact absurd a x
      · exact .inr (by rw [e_may hst, if_pos x])
    · exact .inl b
  rcases p_ask h.1 with ⟨j, hj, hT, h7, ha⟩ | ⟨h7, ha⟩
  · obtain ⟨n2, rfl⟩ : ∃ n2, n1 = n2 + 2 := ⟨n1 - 2, by omega⟩
    exact u_atom hP h (.inr ⟨j, hj, hT, h7, ha⟩) hs7
  · by_cases hT3 : teT B n p = 3
    · obtain ⟨n2, rfl⟩ : ∃ n2, n1 = n2 + 2 := ⟨n1 - 2, by omega⟩
      exact u_atom hP h (.inl hT3) hs7
    · have n3 : ¬ σ.1 2 4 = 3 := by
        rw [f4]
        exact fun e => hT3 ((nI_eq (b := 3) (by have := teT_lt (B := B) (n := n) (p := p); omega) (by decide)).mp e)
      have hcl : fX5_readUnit (sw_rd N) σ (nI d) = if σ.1 2 9 = 40 then fX5_readUnit_L51 (sw_rd N) σ (nI d) 0 else sw_b2 (fX5_refuse σ 2) fun r4 m5 => sw_gd (sw_bo r4) <| some (r4, m5) := by
        rw [fX5_readUnit, if_pos h7, fX5_readUnit_L17, if_neg n3, if_pos rfl]
      have hsg := sg_c (c := 40) (by decide) (by decide) 40 rfl h.1
      by_cases h40 : σ.1 2 9 = 40
      · have e40 : τ.1 49 6 = 40 := hsg.1.mp h40
        have hT4 : teT B n p = 4 := hsg.2 h40
        have hcl : fX5_readUnit (sw_rd N) σ (nI d) = fX5_readUnit_L51 (sw_rd N) σ (nI d) 0 := by rw [hcl, if_pos h40]
        by_cases hok : u < 30 ∧ d < 7
        · obtain ⟨hu, hd⟩ := hok
          obtain ⟨σ1, τ1, g1, g2, g3, g4, g5, g6, g7, g8⟩ := us_unit hP h hu
          obtain ⟨σ2, τ2, a1, a2, a3, a4, a5⟩ := us_push (c := 20) hP g3 hd (by unfold okc; omega) (by omega)
          obtain ⟨n2, rfl⟩ : ∃ n2, n1 = n2 + 1 := ⟨n1 - 1, by omega⟩
          have hl2 : fX10_unit_L2 τ 1 = some (.inl (1, τ2)) := by
            rw [h53, fX10_unit_L53, if_pos e40, if_pos (full_0 h hu), e23, if_pos (d6 d hd), fX10_unit_L83, g2, b1_s, show (20 : Int32) = nI 20 from rfl, a2, b1_s]
          have hX : (fun k => Ur (n2 + 1) k τ) = fun k => Ur n2 k τ2 := funext fun k => ur_s hl2
          have hr := ih 0 (d + 1) (l + 1) (u + 1) z (nx B n p) n2 σ2 τ2 (psh sk l 20) (by decide) (by omega) (by omega) a3 (by rw [topt_s]; decide) (fun x => absurd x (by decide))
          have hc : fX5_readUnit_L51 (sw_rd N) σ (nI d) 0 = sw_b2 (sw_rd N 0 σ2 (nI 0) (nI (d + 1))) fun r7 m8 => if r7 = 0 then some (0, m8) else if m8.1 2 9 = 41 then sw_b1 (fX7_readNext m8) fun m12 => some (1, m12) else sw_b2 (fX5_refuse m8 2) fun r14 m15 => sw_gd (sw_bo r14) <| some (r14, m15) := by
            have x0 : σ.1 ((sw_pl (σ.2.2 1)) + 7) 0 + 1 = nI (u + 1) := by rw [h.2.1, h.2.2.1.1, nI_1]
            have xs : sw_w σ ((sw_pl (σ.2.2 1)) + 7) 0 (nI (u + 1)) = σ1 := by rw [h.2.1, g1]
            rw [fX5_readUnit_L51, if_pos ((u30 h).mpr hu), if_pos h40, if_pos (show nI d < 7 from nI_lt (b := 7) hd (by decide)), fX5_readUnit_L96, x0, xs, let_s, g6, if_pos h40, a1, b1_s, nI_1]
            rfl
          rw [hX, hcl, hc]
          have hnx := (nx_pos (B := B) hpn)
          have e8 : σ2.1 (Q + 8) = σ.1 (Q + 8) := (a4.2.1 _ (by rcases hP with rfl | rfl <;> decide)).trans g7
          rcases hr with ⟨σ3, r1, τ3, p3, sk3, m, u3, zr, k, r2, r3, r4, r5, r6, r7, r8, r9, r10, r11, r12, r13, r14⟩ | ⟨σ3, τ3, k, r1, r2, r3, r4⟩
          · have s20 : sk3 l = 20 := by rw [r5 l (by omega), psh_e]
            have hp3 : p3 ≤ n := r4.1.1.2.1
            have hs41 := sg_c (c := 41) (by decide) (by decide) 41 rfl r4.1
            by_cases h41 : σ3.1 2 9 = 41
            · have e41 : τ3.1 49 6 = 41 := hs41.1.mp h41
              obtain ⟨σ4, τ4, b1, b2, b3, b4, b5⟩ := o_shut (l := l) (d := d) hP r4 (by omega) s20 e41 (hs41.2 h41)
              have e84 : σ4.1 (Q + 8) = σ3.1 (Q + 8) := b4.2.1 _ (by rcases hP with rfl | rfl <;> decide)
              have hnx3 := (nx_pos (B := B) hp3)
              have hT43 := hs41.2 h41
              refine .inl ⟨σ4, ?_, τ4, nx B n p3, sk3, 0, u3, zr + m, k + 1, fun a => ?_, ?_, os_0 b3 (by omega), fun i hi => ?_, fun i x y => absurd x (by omega), .inr (.inl (hs7 _)), by omega, by omega, by omega, fun i hi => ?_, ?_, ?_, ?_⟩
              · rw [r1, b2_s, if_neg i10, if_pos h41, b1, b1_s]
              · show Ur n2 (a + (k + 1)) τ2 = Ol a τ4
                rw [show a + (k + 1) = a + 1 + k by omega, show Ur n2 (a + 1 + k) τ2 = _ from r2 (a + 1), b2]
              · have := hnx3.2.2 (by omega)
                omega
              · rw [r5 i (by omega), psh_n (by omega)]
              · rw [e84, r11 i hi, e8]
              · rw [e84, Nat.add_zero]
                exact good_wk r12 (by omega)
              · exact g4.tr ((ffc_c a4).tr (r13.tr (ffc_c b4)))
              · exact g5.tr (a5.tr (r14.tr b5))
            · have e41 : ¬ τ3.1 49 6 = 41 := fun x => h41 (hs41.1.mpr x)
              obtain ⟨σ4, τ4, b1, b2, b3⟩ := p_fail (w := 2) (by decide) r4.1
              have hst3 : stR τ3 sk3 (l + 1 + m) := r4.2.2.2.2.1
              have hsg3 : sg B n p3 = 0 ∨ (tg (sg B n p3) = 4 ∧ hrl sk3 (l + 1 + m) = true) := by
                rcases r7 with x | x | x
                · exact .inl x
                · by_cases y : sg B n p3 = 0
                  · exact .inl y
                  · have := (tg_3 ((p_sign r4.1).2.2 y).2.2.2.2.2).2
                    have : tg (sg B n p3) < 1 := x
                    omega
                · exact .inr x
              refine .inr ⟨σ4, τ4, k, ?_, b3, by omega, fun a => ?_⟩
              · rw [r1, b2_s, if_neg i10, if_neg h41, b1, b2_s]
                rfl
              · show Ur n2 (a + k + 2) τ2 = some τ4
                have t03 := r4.1.2.1.2.2.2.1
                rw [show a + k + 2 = a + 2 + k by omega, show Ur n2 (a + 2 + k) τ2 = _ from r2 (a + 2), o_fin r4.1 hst3 hsg3 (fun x => absurd x e41), fX10_formula_L162, if_pos t03, e_hbr hst3, hbr_t s20, if_pos rfl, b1_s, if_neg i10, b2, b1_s, fX10_formula_L181, if_neg (f_nz b3.2.2.1)]
          · exact .inr ⟨σ3, τ3, k, by rw [r1, b2_s, if_pos rfl], r2, by omega, r4⟩
        · obtain ⟨σ', τ', a1, a2, a3⟩ := p_fail (w := 2) (by decide) h.1
          obtain ⟨τ2, b1, b2, b3⟩ := f_cntU a3
          obtain ⟨τ3, c1, c2⟩ := f_open (c := 20) (l := l) b2 (by rw [b3, wro_k a2 (by decide)]; exact hst.1) hst.2.1
          obtain ⟨n2, rfl⟩ : ∃ n2, n1 = n2 + 2 := ⟨n1 - 2, by omega⟩
          have h78 : fX10_unit_L78 τ 1 = some (.inl (1, τ3)) := by rw [fX10_unit_L78, a2, b1_s, fX10_unit_L83, b1, b1_s, c1, b1_s]
          have hl2 : fX10_unit_L2 τ 1 = some (.inl (1, τ3)) := by
            rw [h53, fX10_unit_L53, if_pos e40, h78]
            by_cases hu : u < 30
            · rw [if_pos (full_0 h hu), e23, if_neg (show ¬ nI d ≤ 6 by rw [show d = 7 by omega]; decide)]
            · rw [if_neg (full_1 h hu)]
          refine .inr ⟨σ', τ3, 0, ?_, c2, by omega, fun a => ?_⟩
          · rw [hcl, fX5_readUnit_L51]
            by_cases hu : u < 30
            · rw [if_pos ((u30 h).mpr hu), if_pos h40, if_neg (show ¬ nI d < 7 by rw [show d = 7 by omega]; decide), a1, b2_s]
              rfl
            · rw [if_neg (fun x => hu ((u30 h).mp x)), a1, b2_s]
              rfl
          · show Ur (n2 + 1 + 1) (a + 0 + 1 + 1) τ = some τ3
            rw [ur_s hl2, ur_f c2.2.2.1]
      · have e40 : ¬ τ.1 49 6 = 40 := fun x => h40 (hsg.1.mpr x)
        obtain ⟨σ', τ', a1, a2, a3⟩ := p_fail (w := 2) (by decide) h.1
        obtain ⟨n2, rfl⟩ : ∃ n2, n1 = n2 + 2 := ⟨n1 - 2, by omega⟩
        have e2 : ¬ τ.1 49 6 = 2 := fun x => hT3 ((es_2 et).mp x)
        refine .inr ⟨σ', τ', 0, ?_, a3, by omega, fun a => ?_⟩
        · rw [hcl, if_neg h40, a1, b2_s]
          rfl
        · show Ur (n2 + 2) (a + 0 + 2) τ = some τ'
          rw [ur_e (τ' := τ') (by rw [h53, fX10_unit_L53, if_neg e40]) ?_]
          · exact ol_f a3.2.2.1
          · rw [fX10_unit_L101, if_pos t0', ha, let_s, if_neg e2, if_pos (by decide), fX10_unit_L133, a2, b1_s, fX10_unit_L138, if_neg a3.2.2.1]
end PO
