/-! a line in both -/
section PR
variable {σ τ σ0 τ0 σ' τ' : sw_M} {B : Nat → Nat} {n p Q K N R Bn : Nat}
theorem ps0 (h : fX10_isWord τ 1802071652 = 0 ∨ (5 : Int32) ≤ τ.1 49 33) : fX10_readLine τ = fX10_readLine_L25 τ := by
  rw [fX10_readLine]
  by_cases e : fX10_isWord τ 1802071652 = 0
  · rw [if_pos e]
  · rw [if_neg e, if_pos (h.resolve_left e)]
theorem ps1 (h : fX10_isWord τ 123581014175598 = 0 ∨ (7 : Int32) ≤ τ.1 49 34) : fX10_readLine_L25 τ = fX10_readLine_L51 τ := by
  rw [fX10_readLine_L25]
  by_cases e : fX10_isWord τ 123581014175598 = 0
  · rw [if_pos e]
  · rw [if_neg e, if_pos (h.resolve_left e)]
theorem ps2 (h : fX10_isWord τ 422775975027 = 0 ∨ (6 : Int32) ≤ τ.1 49 36) : fX10_readLine_L51 τ = fX10_readLine_L77 τ := by
  rw [fX10_readLine_L51]
  by_cases e : fX10_isWord τ 422775975027 = 0
  · rw [if_pos e]
  · rw [if_neg e, if_pos (h.resolve_left e)]
theorem ps3 (h : fX10_isWord τ 422541748590 = 0 ∨ (4 : Int32) ≤ τ.1 49 35) : fX10_readLine_L77 τ = fX10_readLine_L102 τ := by
  rw [fX10_readLine_L77]
  by_cases e : fX10_isWord τ 422541748590 = 0
  · rw [if_pos e]
  · rw [if_neg e, if_pos (h.resolve_left e)]
theorem ps4 (h : fX10_isWord τ 491395442035 = 0 ∨ ¬ τ.1 49 24 = 0) : fX10_readLine_L102 τ = fX10_readLine_L126 τ := by
  rw [fX10_readLine_L102]
  by_cases e : fX10_isWord τ 491395442035 = 0
  · rw [if_pos e]
  · rw [if_neg e, if_neg (h.resolve_left e)]
theorem ps5 (h : fX10_isWord τ 1935897965 = 0 ∨ ¬ τ.1 49 46 = 0) : fX10_readLine_L126 τ = fX10_readLine_L165 τ := by
  rw [fX10_readLine_L126]
  by_cases e : fX10_isWord τ 1935897965 = 0
  · rw [if_pos e]
  · rw [if_neg e, if_neg (h.resolve_left e)]
theorem ps6 (h : fX10_isWord τ 1685217655 = 0 ∨ ¬ τ.1 49 47 = 0) : fX10_readLine_L165 τ = fX10_readLine_L205 τ := by
  rw [fX10_readLine_L165]
  by_cases e : fX10_isWord τ 1685217655 = 0
  · rw [if_pos e]
  · rw [if_neg e, if_neg (h.resolve_left e)]
theorem nl8 : ∀ m, m ≤ 8 → ∀ v, v < m → ¬ nI m ≤ nI v := by decide
theorem lo_gd {c : Option (Int32 × sw_M)} {e : Option sw_M} (h : lo B n Q σ0 τ0 p c e) : lo B n Q σ0 τ0 p (sw_b2 c fun r m => sw_gd (sw_bo r) <| some (r, m)) e := by
  rcases h with ⟨σ', τ', p', K, N, R, Bn, h1, h2⟩ | ⟨σ', τ', h1, h2⟩
  · exact .inl ⟨σ', τ', p', K, N, R, Bn, by rw [h1]; rfl, h2⟩
  · exact .inr ⟨σ', τ', by rw [h1]; rfl, h2⟩
theorem l_205 (h : pz B n Q σ0 τ0 σ τ p) : lo B n Q σ0 τ0 p (sw_b2 (fX5_refuse σ 2) fun r m => sw_gd (sw_bo r) <| some (r, m)) (fX10_readLine_L205 τ) := by
  obtain ⟨σ', τ', a1, a2, a3⟩ := p_fail (w := 2) (by decide) h
  rw [a1, fX10_readLine_L205, a2, b1_s, f_210 a3.2.2.1]
  exact .inr ⟨σ', τ', rfl, rfl, a3⟩
theorem l_line (hP : sw_isP Q) (hQ : sw_pl (σ.2.2 1) = Q) (h : pz B n Q σ0 τ0 σ τ p) (hd : dR Q σ τ K N R Bn) (hf : fR Q σ τ) : lo B n Q σ0 τ0 p (fX5_readLine σ) (fX10_readLine τ) := by
  have pass : ∀ j, j < 19 → ¬ σ.1 2 7 = nI j → fX10_isWord τ (lN (krN j)) = 0 := fun j hj e => by
    rcases p_word hj h with ⟨a, _⟩ | ⟨_, b⟩
    · exact absurd a e
    · exact b
  have one : ∀ j, j < 19 → σ.1 2 7 = nI j → fX10_isWord τ (lN (krN j)) = 1 ∧ teT B n p = 2 := fun j hj e => by
    rcases p_word hj h with ⟨_, b, c⟩ | ⟨a, _⟩
    · exact ⟨b, c⟩
    · exact absurd e a
  obtain ⟨⟨k1, k2, k3⟩, ⟨n1, n2, n3⟩, ⟨r1, r2, r3⟩, ⟨b1, b2, b3⟩, d5, d6, d7, d8, -⟩ := id hd
  rw [fX5_readLine, let_s]
  by_cases e0 : σ.1 2 7 = 0
  · obtain ⟨w1, hT⟩ := one 0 (by decide) e0
    have w1 : ¬ fX10_isWord τ 1802071652 = 0 := fun x => by
      have y : fX10_isWord τ 1802071652 = 1 := w1
      rw [x] at y
      exact absurd y (by decide)
    have ps : ∀ j, j < 7 → j ≠ 0 → fX10_isWord τ (lN (krN j)) = 0 := fun j hj hn => pass j (by omega) (by rw [e0]; exact fun x => hn ((nI_eq (a := 0) (b := j) (by decide) (by omega)).mp x).symm)
    rw [if_pos e0]
    refine lo_gd ?_
    by_cases hc : K < 5
    · rw [fX10_readLine, if_neg w1, if_neg (show ¬ (5 : Int32) ≤ τ.1 49 33 by rw [k2]; exact nl8 5 (by decide) K hc)]
      exact l_kind hP hQ h hd hf hT hc
    · have e : K = 5 := by omega
      subst e
      rw [ps0 (τ := τ) (.inr (by rw [k2]; decide)), ps1 (τ := τ) (.inl (ps 1 (by decide) (by decide))), ps2 (τ := τ) (.inl (ps 2 (by decide) (by decide))), ps3 (τ := τ) (.inl (ps 3 (by decide) (by decide))), ps4 (τ := τ) (.inl (ps 4 (by decide) (by decide))), ps5 (τ := τ) (.inl (ps 5 (by decide) (by decide))), ps6 (τ := τ) (.inl (ps 6 (by decide) (by decide))), fX5_readKind, hQ, k1, if_neg (by decide)]
      exact l_205 h
  · rw [if_neg e0]
    by_cases e1 : σ.1 2 7 = 1
    · obtain ⟨w1, hT⟩ := one 1 (by decide) e1
      have w1 : ¬ fX10_isWord τ 123581014175598 = 0 := fun x => by
        have y : fX10_isWord τ 123581014175598 = 1 := w1
        rw [x] at y
        exact absurd y (by decide)
      have ps : ∀ j, j < 7 → j ≠ 1 → fX10_isWord τ (lN (krN j)) = 0 := fun j hj hn => pass j (by omega) (by rw [e1]; exact fun x => hn ((nI_eq (a := 1) (b := j) (by decide) (by omega)).mp x).symm)
      rw [if_pos e1]
      refine lo_gd ?_
      by_cases hc : N < 7
      · rw [ps0 (τ := τ) (.inl (ps 0 (by decide) (by decide))), fX10_readLine_L25, if_neg w1, if_neg (show ¬ (7 : Int32) ≤ τ.1 49 34 by rw [n2]; exact nl8 7 (by decide) N hc)]
        exact l_person hP hQ h hd hf hT hc
      · have e : N = 7 := by omega
        subst e
        rw [ps0 (τ := τ) (.inl (ps 0 (by decide) (by decide))), ps1 (τ := τ) (.inr (by rw [n2]; decide)), ps2 (τ := τ) (.inl (ps 2 (by decide) (by decide))), ps3 (τ := τ) (.inl (ps 3 (by decide) (by decide))), ps4 (τ := τ) (.inl (ps 4 (by decide) (by decide))), ps5 (τ := τ) (.inl (ps 5 (by decide) (by decide))), ps6 (τ := τ) (.inl (ps 6 (by decide) (by decide))), fX5_readPerson, hQ, n1, if_neg (by decide)]
        exact l_205 h
    · rw [if_neg e1]
      by_cases e2 : σ.1 2 7 = 2
      · obtain ⟨w1, hT⟩ := one 2 (by decide) e2
        have w1 : ¬ fX10_isWord τ 422775975027 = 0 := fun x => by
          have y : fX10_isWord τ 422775975027 = 1 := w1
          rw [x] at y
          exact absurd y (by decide)
        have ps : ∀ j, j < 7 → j ≠ 2 → fX10_isWord τ (lN (krN j)) = 0 := fun j hj hn => pass j (by omega) (by rw [e2]; exact fun x => hn ((nI_eq (a := 2) (b := j) (by decide) (by omega)).mp x).symm)
        rw [if_pos e2]
        refine lo_gd ?_
        by_cases hc : R < 6
        · rw [ps0 (τ := τ) (.inl (ps 0 (by decide) (by decide))), ps1 (τ := τ) (.inl (ps 1 (by decide) (by decide))), fX10_readLine_L51, if_neg w1, if_neg (show ¬ (6 : Int32) ≤ τ.1 49 36 by rw [r2]; exact nl8 6 (by decide) R hc)]
          exact l_rule hP hQ h hd hf hT hc
        · have e : R = 6 := by omega
          subst e
          rw [ps0 (τ := τ) (.inl (ps 0 (by decide) (by decide))), ps1 (τ := τ) (.inl (ps 1 (by decide) (by decide))), ps2 (τ := τ) (.inr (by rw [r2]; decide)), ps3 (τ := τ) (.inl (ps 3 (by decide) (by decide))), ps4 (τ := τ) (.inl (ps 4 (by decide) (by decide))), ps5 (τ := τ) (.inl (ps 5 (by decide) (by decide))), ps6 (τ := τ) (.inl (ps 6 (by decide) (by decide))), fX5_readRule, hQ, r1, if_neg (by decide)]
          exact l_205 h
      · rw [if_neg e2]
        by_cases e3 : σ.1 2 7 = 3
        · obtain ⟨w1, hT⟩ := one 3 (by decide) e3
          have w1 : ¬ fX10_isWord τ 422541748590 = 0 := fun x => by
            have y : fX10_isWord τ 422541748590 = 1 := w1
            rw [x] at y
            exact absurd y (by decide)
          have ps : ∀ j, j < 7 → j ≠ 3 → fX10_isWord τ (lN (krN j)) = 0 := fun j hj hn => pass j (by omega) (by rw [e3]; exact fun x => hn ((nI_eq (a := 3) (b := j) (by decide) (by omega)).mp x).symm)
          rw [if_pos e3]
          refine lo_gd ?_
          by_cases hc : Bn < 4
          · rw [ps0 (τ := τ) (.inl (ps 0 (by decide) (by decide))), ps1 (τ := τ) (.inl (ps 1 (by decide) (by decide))), ps2 (τ := τ) (.inl (ps 2 (by decide) (by decide))), fX10_readLine_L77, if_neg w1, if_neg (show ¬ (4 : Int32) ≤ τ.1 49 35 by rw [b2]; exact nl8 4 (by decide) Bn hc)]
            exact l_basin hP hQ h hd hf hT hc
          · have e : Bn = 4 := by omega
            subst e
            rw [ps0 (τ := τ) (.inl (ps 0 (by decide) (by decide))), ps1 (τ := τ) (.inl (ps 1 (by decide) (by decide))), ps2 (τ := τ) (.inl (ps 2 (by decide) (by decide))), ps3 (τ := τ) (.inr (by rw [b2]; decide)), ps4 (τ := τ) (.inl (ps 4 (by decide) (by decide))), ps5 (τ := τ) (.inl (ps 5 (by decide) (by decide))), ps6 (τ := τ) (.inl (ps 6 (by decide) (by decide))), fX5_readBasin, hQ, b1, if_neg (by decide)]
            exact l_205 h
        · rw [if_neg e3]
          by_cases e4 : σ.1 2 7 = 4
          · obtain ⟨w1, hT⟩ := one 4 (by decide) e4
            have w1 : ¬ fX10_isWord τ 491395442035 = 0 := fun x => by
              have y : fX10_isWord τ 491395442035 = 1 := w1
              rw [x] at y
              exact absurd y (by decide)
            have ps : ∀ j, j < 7 → j ≠ 4 → fX10_isWord τ (lN (krN j)) = 0 := fun j hj hn => pass j (by omega) (by rw [e4]; exact fun x => hn ((nI_eq (a := 4) (b := j) (by decide) (by omega)).mp x).symm)
            rw [if_pos e4]
            refine lo_gd ?_
            rcases hf with hf | ⟨u, z, f1, f2, f3, f4, f5, f6, f7, -⟩
            · rw [ps0 (τ := τ) (.inl (ps 0 (by decide) (by decide))), ps1 (τ := τ) (.inl (ps 1 (by decide) (by decide))), ps2 (τ := τ) (.inl (ps 2 (by decide) (by decide))), ps3 (τ := τ) (.inl (ps 3 (by decide) (by decide))), fX10_readLine_L102, if_neg w1, if_pos hf.2.2.2.1]
              exact l_rises hP hQ h hd hf hT
            · rw [ps0 (τ := τ) (.inl (ps 0 (by decide) (by decide))), ps1 (τ := τ) (.inl (ps 1 (by decide) (by decide))), ps2 (τ := τ) (.inl (ps 2 (by decide) (by decide))), ps3 (τ := τ) (.inl (ps 3 (by decide) (by decide))), ps4 (τ := τ) (.inr (by rw [f7]; decide)), ps5 (τ := τ) (.inl (ps 5 (by decide) (by decide))), ps6 (τ := τ) (.inl (ps 6 (by decide) (by decide))), fX5_readRises, hQ, f5, if_neg (show ¬ nI u ≤ 0 from nI_nle f1 (by omega))]
              exact l_205 h
          · rw [if_neg e4]
            by_cases e5 : σ.1 2 7 = 5
            · obtain ⟨w1, hT⟩ := one 5 (by decide) e5
              have w1 : ¬ fX10_isWord τ 1935897965 = 0 := fun x => by
                have y : fX10_isWord τ 1935897965 = 1 := w1
                rw [x] at y
                exact absurd y (by decide)
              have ps : ∀ j, j < 7 → j ≠ 5 → fX10_isWord τ (lN (krN j)) = 0 := fun j hj hn => pass j (by omega) (by rw [e5]; exact fun x => hn ((nI_eq (a := 5) (b := j) (by decide) (by omega)).mp x).symm)
              rw [if_pos e5]
              refine lo_gd ?_
              by_cases hc : σ.1 Q 6 = 0
              · rw [ps0 (τ := τ) (.inl (ps 0 (by decide) (by decide))), ps1 (τ := τ) (.inl (ps 1 (by decide) (by decide))), ps2 (τ := τ) (.inl (ps 2 (by decide) (by decide))), ps3 (τ := τ) (.inl (ps 3 (by decide) (by decide))), ps4 (τ := τ) (.inl (ps 4 (by decide) (by decide))), fX10_readLine_L126, if_neg w1, if_pos (by rw [← d7]; exact hc)]
                exact l_scum hP hQ h hd hf e5 hc
              · rw [ps0 (τ := τ) (.inl (ps 0 (by decide) (by decide))), ps1 (τ := τ) (.inl (ps 1 (by decide) (by decide))), ps2 (τ := τ) (.inl (ps 2 (by decide) (by decide))), ps3 (τ := τ) (.inl (ps 3 (by decide) (by decide))), ps4 (τ := τ) (.inl (ps 4 (by decide) (by decide))), ps5 (τ := τ) (.inr (by rw [← d7]; exact hc)), ps6 (τ := τ) (.inl (ps 6 (by decide) (by decide))), fX5_readScum, hQ, if_neg hc]
                exact l_205 h
            · rw [if_neg e5]
              by_cases e6 : σ.1 2 7 = 6
              · obtain ⟨w1, hT⟩ := one 6 (by decide) e6
                have w1 : ¬ fX10_isWord τ 1685217655 = 0 := fun x => by
                  have y : fX10_isWord τ 1685217655 = 1 := w1
                  rw [x] at y
                  exact absurd y (by decide)
                have ps : ∀ j, j < 7 → j ≠ 6 → fX10_isWord τ (lN (krN j)) = 0 := fun j hj hn => pass j (by omega) (by rw [e6]; exact fun x => hn ((nI_eq (a := 6) (b := j) (by decide) (by omega)).mp x).symm)
                rw [if_pos e6]
                refine lo_gd ?_
                by_cases hc : σ.1 Q 7 = 0
                · rw [ps0 (τ := τ) (.inl (ps 0 (by decide) (by decide))), ps1 (τ := τ) (.inl (ps 1 (by decide) (by decide))), ps2 (τ := τ) (.inl (ps 2 (by decide) (by decide))), ps3 (τ := τ) (.inl (ps 3 (by decide) (by decide))), ps4 (τ := τ) (.inl (ps 4 (by decide) (by decide))), ps5 (τ := τ) (.inl (ps 5 (by decide) (by decide))), fX10_readLine_L165, if_neg w1, if_pos (by rw [← d8]; exact hc)]
                  exact l_draw hP hQ h hd hf e6 hc
                · rw [ps0 (τ := τ) (.inl (ps 0 (by decide) (by decide))), ps1 (τ := τ) (.inl (ps 1 (by decide) (by decide))), ps2 (τ := τ) (.inl (ps 2 (by decide) (by decide))), ps3 (τ := τ) (.inl (ps 3 (by decide) (by decide))), ps4 (τ := τ) (.inl (ps 4 (by decide) (by decide))), ps5 (τ := τ) (.inl (ps 5 (by decide) (by decide))), ps6 (τ := τ) (.inr (by rw [← d8]; exact hc)), fX5_readDraw, hQ, if_neg hc]
                  exact l_205 h
              · rw [if_neg e6]
                rw [ps0 (τ := τ) (.inl (pass 0 (by decide) e0)), ps1 (τ := τ) (.inl (pass 1 (by decide) e1)), ps2 (τ := τ) (.inl (pass 2 (by decide) e2)), ps3 (τ := τ) (.inl (pass 3 (by decide) e3)), ps4 (τ := τ) (.inl (pass 4 (by decide) e4)), ps5 (τ := τ) (.inl (pass 5 (by decide) e5)), ps6 (τ := τ) (.inl (pass 6 (by decide) e6))]
                exact l_205 h
end PR
