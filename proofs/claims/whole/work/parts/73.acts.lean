/-! undo, redo, the boxes, seen -/
theorem k_mk {c : Option (Int32 × sw_M)} {e : sw_M → Option (Int32 × sw_M)} {r r' : Int32} {τ υ : sw_M} (h1 : c = some (r, τ)) (h2 : e τ = some (r', υ)) (hr : r = r') (h3 : rel υ) : k_mm c e := ⟨r, τ, υ, h1, by rw [h2, hr], h3⟩
section KC
variable {σ : sw_M}
theorem ck_ck {f : Nat → Int32} : ck (ck f) = ck f := by
  funext j
  simp only [ck]
  by_cases h : j < 10
  · rw [if_pos h, if_pos h]
  · rw [if_neg h, if_neg h]
theorem ck_pk' {g f v : Nat → Int32} (h : pk g f = ck v) : ck (pk g f) = ck v := by rw [ck_pk, h]
theorem k_undo (h : rel σ) : k_mm (fX9_undo σ) (fun τ => fX10_undo τ) := by
  obtain ⟨P, K, N, R, Bn, z, mm, ww, hr⟩ := id h
  have hP := rl_isP hr.1
  obtain ⟨r1, r2, r3, r4, r5, r6, r7, r8, r9⟩ := hr
  obtain ⟨hh, ll, a1, a2, a3, a4, a5, a6⟩ := id r3
  have hle := a5.1.1
  have hl40 := a5.1.2.1
  cases hh with
  | zero => exact ⟨0, σ, σ, c_undo0 a1, e_undo0 a3, h⟩
  | succ k =>
    obtain ⟨f, g, c1, c2⟩ := c_undo (k := k) a1 (by omega)
    refine ⟨1, _, _, c1, e_undo (k := k) a3 (by omega), ?_⟩
    obtain ⟨n1, n2⟩ := acts_undo (u := pk (σ.1 28) (σ.1 27)) (w := σ.1 65) a5.1 (ck_pk' r2.1)
    have h53 : σ.1 49 53 + 1 = nI (ll - k) := by
      rw [a4, nI_1]
      congr 1
      omega
    have hv : rl_v (sw_wA (sw_wA (sw_wA (vt (sw_wA (sw_wA σ 30 (ls (σ.1 30) (pk (σ.1 28) (σ.1 27)) (k + 1))) 29 (upd (σ.1 29) 1 (nI k))) 27 f g) 49 (upd (upd (σ.1 49) 52 (nI k)) 53 (σ.1 49 53 + 1))) 67 (ls (σ.1 67) (σ.1 65) k)) 65 (v_mix 10 (fun j => σ.1 67 (10 * k + j)) (σ.1 65))) K N Bn mm := by
      refine ⟨?_, ?_⟩
      · show pk g f = ck (v_mix 10 (fun j => σ.1 67 (10 * k + j)) (σ.1 65))
        rw [c2, ck_ln, n2]
      · show vok K N Bn mm (ck (v_mix 10 (fun j => σ.1 67 (10 * k + j)) (σ.1 65)))
        rw [ck_ln]
        exact a6 k (by omega)
    have ha : rl_a (sw_wA (sw_wA (sw_wA (vt (sw_wA (sw_wA σ 30 (ls (σ.1 30) (pk (σ.1 28) (σ.1 27)) (k + 1))) 29 (upd (σ.1 29) 1 (nI k))) 27 f g) 49 (upd (upd (σ.1 49) 52 (nI k)) 53 (σ.1 49 53 + 1))) 67 (ls (σ.1 67) (σ.1 65) k)) 65 (v_mix 10 (fun j => σ.1 67 (10 * k + j)) (σ.1 65))) K N Bn mm := by
      refine ⟨k, ll, rfl, a2, rfl, h53, ?_, fun j hj => ?_⟩
      · show actsV (ls (σ.1 30) (pk (σ.1 28) (σ.1 27)) (k + 1)) (ls (σ.1 67) (σ.1 65) k) (ck (v_mix 10 (fun j => σ.1 67 (10 * k + j)) (σ.1 65))) k ll
        rw [ck_ln, ← n2]
        exact n1
      · show vok K N Bn mm (ln (ls (σ.1 67) (σ.1 65) k) j)
        by_cases e : j = k
        · rw [e, ln_ls_e]
          exact r2.2
        · rw [ln_ls_n e]
          exact a6 j hj
    rcases hP with rfl | rfl <;> exact ⟨_, _, _, _, _, _, _, _, rl_p_cg rfl rfl rfl rfl rfl rfl rfl rfl rfl rfl rfl rfl rfl rfl rfl rfl rfl rfl rfl rfl rfl r1, hv, ha, rl_b_cg rfl rfl rfl rfl r4, rl_l_cg rfl rfl rfl rfl r5, rl_s_cg rfl rfl rfl rfl rfl rfl rfl rfl rfl rfl rfl rfl rfl rfl rfl rfl rfl rfl r6, rl_t_cg rfl rfl r7, rl_f_cg rfl rfl rfl rfl r8, rl_i_cg rfl rfl rfl rfl rfl r9⟩
theorem k_redo (h : rel σ) : k_mm (fX9_redo σ) (fun τ => fX10_redo τ) := by
  obtain ⟨P, K, N, R, Bn, z, mm, ww, hr⟩ := id h
  have hP := rl_isP hr.1
  obtain ⟨r1, r2, r3, r4, r5, r6, r7, r8, r9⟩ := hr
  obtain ⟨hh, ll, a1, a2, a3, a4, a5, a6⟩ := id r3
  have hle := a5.1.1
  have hl40 := a5.1.2.1
  by_cases hlt : hh < ll
  · obtain ⟨f, g, c1, c2⟩ := c_redo a1 a2 hlt hl40
    obtain ⟨d, hd⟩ : ∃ d, ll - hh = d + 1 := ⟨ll - hh - 1, by omega⟩
    rw [hd] at a4
    refine ⟨1, _, _, c1, e_redo (k := hh) (d := d) a3 a4 (by omega) (by omega), ?_⟩
    obtain ⟨n1, n2⟩ := acts_redo (w := σ.1 65) a5 hlt rfl
    have hv : rl_v (sw_wA (sw_wA (sw_wA (vt (sw_wA σ 29 (upd (σ.1 29) 1 (nI (hh + 1)))) 27 f g) 67 (ls (σ.1 67) (σ.1 65) hh)) 65 (v_mix 10 (fun j => σ.1 67 (10 * hh + j)) (σ.1 65))) 49 (upd (upd (σ.1 49) 52 (nI (hh + 1))) 53 (nI d))) K N Bn mm := by
      refine ⟨?_, ?_⟩
      · show pk g f = ck (v_mix 10 (fun j => σ.1 67 (10 * hh + j)) (σ.1 65))
        rw [c2, ck_ln, n2]
      · show vok K N Bn mm (ck (v_mix 10 (fun j => σ.1 67 (10 * hh + j)) (σ.1 65)))
        rw [ck_ln]
        exact a6 hh hlt
    have ha : rl_a (sw_wA (sw_wA (sw_wA (vt (sw_wA σ 29 (upd (σ.1 29) 1 (nI (hh + 1)))) 27 f g) 67 (ls (σ.1 67) (σ.1 65) hh)) 65 (v_mix 10 (fun j => σ.1 67 (10 * hh + j)) (σ.1 65))) 49 (upd (upd (σ.1 49) 52 (nI (hh + 1))) 53 (nI d))) K N Bn mm := by
      refine ⟨hh + 1, ll, rfl, a2, rfl, ?_, ?_, fun j hj => ?_⟩
      · show nI d = nI (ll - (hh + 1))
        congr 1
        omega
      · show actsV (σ.1 30) (ls (σ.1 67) (σ.1 65) hh) (ck (v_mix 10 (fun j => σ.1 67 (10 * hh + j)) (σ.1 65))) (hh + 1) ll
        rw [ck_ln, ← n2]
        exact n1
      · show vok K N Bn mm (ln (ls (σ.1 67) (σ.1 65) hh) j)
        by_cases e : j = hh
        · rw [e, ln_ls_e]
          exact r2.2
        · rw [ln_ls_n e]
          exact a6 j hj
    rcases hP with rfl | rfl <;> exact ⟨_, _, _, _, _, _, _, _, rl_p_cg rfl rfl rfl rfl rfl rfl rfl rfl rfl rfl rfl rfl rfl rfl rfl rfl rfl rfl rfl rfl rfl r1, hv, ha, rl_b_cg rfl rfl rfl rfl r4, rl_l_cg rfl rfl rfl rfl r5, rl_s_cg rfl rfl rfl rfl rfl rfl rfl rfl rfl rfl rfl rfl rfl rfl rfl rfl rfl rfl r6, rl_t_cg rfl rfl r7, rl_f_cg rfl rfl rfl rfl r8, rl_i_cg rfl rfl rfl rfl rfl r9⟩
  · have e : hh = ll := by omega
    have z0 : ll - hh = 0 := by omega
    rw [z0] at a4
    exact ⟨0, σ, σ, c_redo0 (by rw [a1, a2, e]), e_redo0 a4, h⟩
theorem k_image (a : Int32) (h : rel σ) : k_mm (fX9_image σ a) (fun τ => fX10_image τ a) := by
  obtain ⟨P, K, N, R, Bn, z, mm, ww, hr⟩ := id h
  have hP := rl_isP hr.1
  obtain ⟨r1, r2, r3, r4, r5, r6, r7, r8, r9⟩ := hr
  have hbb : fX1_isBox a = fX10_isBox a := rfl
  by_cases h0 : fX10_isBox a = 0
  · exact ⟨-1, σ, σ, c_imageN (by rw [hbb]; exact h0), e_imageN h0, h⟩
  obtain ⟨i, hi, rfl⟩ : ∃ i, i < 3 ∧ a = nI i := in_some (K := 3) (by decide) h0
  have hv4 := (rl_vv r2).2.2.2.2.1
  refine k_mk (c_image hi) (e_image hi) hv4 ?_
  · have hb : rl_b (sw_wA (sw_wA (sw_wA (sw_wA σ 33 (ls (σ.1 33) (pk (σ.1 28) (σ.1 27)) i)) 32 (upd (σ.1 32) i (vp_nar .boolean 1))) 82 (upd (σ.1 82) i (vp_nar .boolean 1))) 83 (ls (σ.1 83) (σ.1 65) i)) K N Bn mm := by
      intro j hj
      show upd (σ.1 32) i (vp_nar .boolean 1) j = upd (σ.1 82) i (vp_nar .boolean 1) j ∧ (¬ upd (σ.1 82) i (vp_nar .boolean 1) j = 0 → ln (ls (σ.1 33) (pk (σ.1 28) (σ.1 27)) i) j = ln (ls (σ.1 83) (σ.1 65) i) j ∧ vok K N Bn mm (ln (ls (σ.1 83) (σ.1 65) i) j))
      by_cases e : j = i
      · rw [e, upd_e, upd_e, ln_ls_e, ln_ls_e, ck_pk' r2.1]
        exact ⟨rfl, fun _ => ⟨rfl, r2.2⟩⟩
      · rw [upd_n e, upd_n e, ln_ls_n e, ln_ls_n e]
        exact r4 j hj
    rcases hP with rfl | rfl <;> exact ⟨_, _, _, _, _, _, _, _, rl_p_cg rfl rfl rfl rfl rfl rfl rfl rfl rfl rfl rfl rfl rfl rfl rfl rfl rfl rfl rfl rfl rfl r1, rl_v_cg rfl rfl rfl r2, rl_a_cg rfl rfl rfl rfl rfl rfl r3, hb, rl_l_cg rfl rfl rfl rfl r5, rl_s_cg rfl rfl rfl rfl rfl rfl rfl rfl rfl rfl rfl rfl rfl rfl rfl rfl rfl rfl r6, rl_t_cg rfl rfl r7, rl_f_cg rfl rfl rfl rfl r8, rl_i_cg rfl rfl rfl rfl rfl r9⟩
theorem k_back (a : Int32) (h : rel σ) : k_mm (fX9_back σ a) (fun τ => fX10_back τ a) := by
  obtain ⟨P, K, N, R, Bn, z, mm, ww, hr⟩ := id h
  have hP := rl_isP hr.1
  obtain ⟨r1, r2, r3, r4, r5, r6, r7, r8, r9⟩ := hr
  have hbb : fX1_isBox a = fX10_isBox a := rfl
  by_cases h0 : fX10_isBox a = 0
  · exact ⟨-1, σ, σ, c_backN (by rw [hbb]; exact h0), e_backN h0, h⟩
  obtain ⟨i, hi, rfl⟩ : ∃ i, i < 3 ∧ a = nI i := in_some (K := 3) (by decide) h0
  obtain ⟨b1, b2⟩ := r4 i hi
  by_cases h1 : σ.1 82 i = 0
  · exact ⟨-1, σ, σ, c_back0 hi (by rw [b1]; exact h1), e_back0 hi h1, h⟩
  obtain ⟨b3, b4⟩ := b2 h1
  obtain ⟨f, g, c1, c2⟩ := c_back hi (by rw [b1]; exact h1)
  have e8 : σ.1 33 (10 * i + 8) = σ.1 83 (10 * i + 8) := by
    have := congrFun b3 8
    simp only [ln, if_pos (show 8 < 10 by decide)] at this
    exact this
  refine k_mk c1 (e_back hi h1) e8 ?_
  · have hv : rl_v (sw_wA (sw_wA (sw_wA (vt σ 27 f g) 29 (upd (upd (σ.1 29) 1 0) 2 0)) 65 (v_mix 10 (fun j => σ.1 83 (10 * i + j)) (σ.1 65))) 49 (upd (upd (σ.1 49) 52 0) 53 0)) K N Bn mm := by
      refine ⟨?_, ?_⟩
      · show pk g f = ck (v_mix 10 (fun j => σ.1 83 (10 * i + j)) (σ.1 65))
        rw [c2, ck_ln, b3]
      · show vok K N Bn mm (ck (v_mix 10 (fun j => σ.1 83 (10 * i + j)) (σ.1 65)))
        rw [ck_ln]
        exact b4
    have ha : rl_a (sw_wA (sw_wA (sw_wA (vt σ 27 f g) 29 (upd (upd (σ.1 29) 1 0) 2 0)) 65 (v_mix 10 (fun j => σ.1 83 (10 * i + j)) (σ.1 65))) 49 (upd (upd (σ.1 49) 52 0) 53 0)) K N Bn mm :=
      ⟨0, 0, rfl, rfl, rfl, rfl, ⟨⟨Nat.le_refl _, by decide, fun j hj => by omega, fun j h1 h2 => by omega⟩, fun h => by omega⟩, fun j hj => by omega⟩
    rcases hP with rfl | rfl <;> exact ⟨_, _, _, _, _, _, _, _, rl_p_cg rfl rfl rfl rfl rfl rfl rfl rfl rfl rfl rfl rfl rfl rfl rfl rfl rfl rfl rfl rfl rfl r1, hv, ha, rl_b_cg rfl rfl rfl rfl r4, rl_l_cg rfl rfl rfl rfl r5, rl_s_cg rfl rfl rfl rfl rfl rfl rfl rfl rfl rfl rfl rfl rfl rfl rfl rfl rfl rfl r6, rl_t_cg rfl rfl r7, rl_f_cg rfl rfl rfl rfl r8, rl_i_cg rfl rfl rfl rfl rfl r9⟩
theorem in_no {K : Nat} {a : Int32} (h : (if a < 0 then (0 : Int32) else if nI K ≤ a then 0 else 1) = 0) : a < 0 ∨ (¬ a < 0 ∧ nI K ≤ a) := by
  by_cases h0 : a < 0
  · exact .inl h0
  · rw [if_neg h0] at h
    by_cases h1 : nI K ≤ a
    · exact .inr ⟨h0, h1⟩
    · rw [if_neg h1] at h
      exact absurd h (by decide)
theorem nle_of {a : Int32} {n : Nat} (hn : n < 2 ^ 31 - 1) (h0 : ¬ a < 0) (h : nI (n + 1) ≤ a) : ¬ a ≤ nI n := by
  obtain ⟨j, hj, rfl⟩ := nI_of h0
  intro h2
  have := (nI_leI (show n + 1 < 2 ^ 31 by omega) hj).mp h
  have := (nI_leI hj (show n < 2 ^ 31 by omega)).mp h2
  omega
theorem k_seen (a b c d : Int32) (hd : d = 0 ∨ d = 1) (h : rel σ) : k_mm (fX9_seen σ a b c d) (fun τ => fX10_seen τ a b c d) := by
  obtain ⟨P, K, N, R, Bn, z, mm, ww, hr⟩ := id h
  have hP := rl_isP hr.1
  obtain ⟨r1, r2, r3, r4, r5, r6, r7, r8, r9⟩ := hr
  obtain ⟨p1, p2, p3, p4, ⟨p5, p6, p7⟩, p8⟩ := id r1
  obtain ⟨⟨s, hs, s1, s2, s3⟩, s4⟩ := id r6
  obtain ⟨t, ht, t1, t2⟩ := id r7
  have hK := p3.k5
  have ia := isIn_n 12 (by decide) a 12 rfl
  have ic := isIn_n 999 (by decide) c 999 rfl
  have none : fX9_seen σ a b c d = some (-1, σ) → fX10_seen σ a b c d = some (-1, σ) → k_mm (fX9_seen σ a b c d) (fun τ => fX10_seen τ a b c d) := fun e1 e2 => ⟨-1, σ, σ, e1, e2, h⟩
  have hc12 : ∀ x : Int32, (if x < 0 then (0 : Int32) else if nI (12 + 1) ≤ x then 0 else 1) = 0 → x < 0 ∨ (¬ x < 0 ∧ ¬ x ≤ 12) := fun x hx => by
    rcases in_no hx with h1 | ⟨h1, h2⟩
    · exact .inl h1
    · exact .inr ⟨h1, nle_of (n := 12) (by decide) h1 h2⟩
  have hc999 : ∀ x : Int32, (if x < 0 then (0 : Int32) else if nI (999 + 1) ≤ x then 0 else 1) = 0 → x < 0 ∨ (¬ x < 0 ∧ ¬ x ≤ 999) := fun x hx => by
    rcases in_no hx with h1 | ⟨h1, h2⟩
    · exact .inl h1
    · exact .inr ⟨h1, nle_of (n := 999) (by decide) h1 h2⟩
  by_cases hN0 : nI N = 0
  · refine none (by rw [fX9_seen, p1, p5, if_pos hN0]) ?_
    unfold fX10_seen
    rw [p6, if_pos hN0]
    (repeat' split) <;> rfl
  by_cases hb : (if b < 0 then (0 : Int32) else if nI K ≤ b then 0 else 1) = 0
  · refine none (by rw [fX9_seen, p1, p5, if_neg hN0, kind_c p3.k, if_pos hb]) ?_
    unfold fX10_seen
    rw [kind_e p4.k hK, if_pos hb]
    split <;> rfl
  by_cases ha : (if a < 0 then (0 : Int32) else if nI (12 + 1) ≤ a then 0 else 1) = 0
  · refine none ?_ (by rw [fX10_seen, ia, if_pos ha])
    rw [fX9_seen, p1, p5, if_neg hN0, kind_c p3.k, if_neg hb]
    rcases hc12 a ha with h1 | ⟨h1, h2⟩
    · rw [if_pos h1]
    · rw [if_neg h1, if_neg h2]
  obtain ⟨i, hi, rfl⟩ := in_some (K := 12 + 1) (by decide) ha
  have i12 : nI i ≤ 12 := nI_le (b := 12) (by omega) (by decide)
  by_cases hc : (if c < 0 then (0 : Int32) else if nI (999 + 1) ≤ c then 0 else 1) = 0
  · refine none ?_ (by rw [fX10_seen, ia, if_neg ha, kind_e p4.k hK, if_neg hb, ic, if_pos hc])
    rw [fX9_seen, p1, p5, if_neg hN0, kind_c p3.k, if_neg hb, if_neg (nI_pos (by omega)), if_pos i12]
    rcases hc999 c hc with h1 | ⟨h1, h2⟩
    · rw [if_pos h1]
    · rw [if_neg h1, if_neg h2]
  obtain ⟨m, hm, rfl⟩ := in_some (K := 999 + 1) (by decide) hc
  have m9 : nI m ≤ 999 := nI_le (b := 999) (by omega) (by decide)
  obtain ⟨j, hj, rfl⟩ := in_some (by omega) hb
  have ec : fX9_seen σ (nI i) (nI j) (nI m) d = sw_b2 (fX6_add σ (nI i) (nI j) (nI m) d (σ.1 0 9)) fun r7 m8 => some (r7, m8) := by
    rw [fX9_seen, p1, p5, if_neg hN0, kind_c p3.k, if_neg hb, if_neg (nI_pos (by omega)), if_pos i12, if_neg (nI_pos (by omega)), if_pos m9]
  by_cases hs30 : s < 30
  · have hlt : nI s < 30 := nI_lt (b := 30) hs30 (by decide)
    have hne : ¬ nI s = 30 := fun e => by
      have := (nI_eq (b := 30) (by omega) (by decide)).mp e
      omega
    have hin := in_t (n := 30) hs30 (by decide)
    have e1 : fX6_add σ (nI i) (nI j) (nI m) d (σ.1 0 9) = some (nI s, sw_w (sw_w (sw_w (sw_w (sw_w (sw_w (sw_w σ 40 s (nI i)) 41 s (nI j)) 42 s (nI m)) 43 s d) 44 s (nI t)) 45 s (-1)) 39 0 (nI (s + 1))) := by
      unfold fX6_add
      rw [s1, if_pos hlt]
      simp only [let_s, m_wne (show (39 : Nat) ≠ 40 by decide), m_wne (show (39 : Nat) ≠ 41 by decide), m_wne (show (39 : Nat) ≠ 42 by decide), m_wne (show (39 : Nat) ≠ 43 by decide), m_wne (show (39 : Nat) ≠ 44 by decide), m_wne (show (39 : Nat) ≠ 45 by decide), s1, sw_gd_t hin, nI_clamp (show s < 2 ^ 31 by omega), t1, nar_b hd, nI_1]
      rw [m_w (i := 39), m_eq, upd_e, nI_pred]
    rw [e1, b2_s] at ec
    obtain ⟨τ, hτ⟩ : ∃ τ, τ = sw_w (sw_w (sw_w (sw_w (sw_w (sw_w (sw_w σ 40 s (nI i)) 41 s (nI j)) 42 s (nI m)) 43 s d) 44 s (nI t)) 45 s (-1)) 39 0 (nI (s + 1)) := ⟨_, rfl⟩
    rw [← hτ] at ec
    have x40 : τ.1 49 40 = nI K := by rw [hτ]; exact p4.k
    have x41 : τ.1 49 41 = nI N := by rw [hτ]; exact p6
    have x66 : τ.1 49 66 = nI s := by rw [hτ]; exact s2
    have x67 : τ.1 49 67 = nI t := by rw [hτ]; exact t2
    have e2 : fX10_seen τ (nI i) (nI j) (nI m) d = some (nI s, sw_w (sw_w (sw_w (sw_w (sw_w (sw_w (sw_w τ 73 s (nI i)) 74 s (nI j)) 75 s (nI m)) 78 s d) 76 s (nI t)) 77 s (-1)) 49 66 (nI (s + 1))) := by
      unfold fX10_seen
      rw [ia, if_neg ha, kind_e x40 hK, if_neg hb, ic, if_neg hc, x41, if_neg hN0, x66, if_neg hne]
      simp only [let_s, m_wne (show (49 : Nat) ≠ 73 by decide), m_wne (show (49 : Nat) ≠ 74 by decide), m_wne (show (49 : Nat) ≠ 75 by decide), m_wne (show (49 : Nat) ≠ 76 by decide), m_wne (show (49 : Nat) ≠ 77 by decide), m_wne (show (49 : Nat) ≠ 78 by decide), x66, sw_gd_t hin, nI_clamp (show s < 2 ^ 31 by omega), x67, nar_b hd, nI_1]
      rw [m_w (i := 49), m_eq, upd_e, nI_pred]
    refine k_mk ec e2 rfl ?_
    subst hτ
    have key : ∀ x, x < s + 1 → rl_s1 (sw_w (sw_w (sw_w (sw_w (sw_w (sw_w (sw_w (sw_w (sw_w (sw_w (sw_w (sw_w (sw_w (sw_w σ 40 s (nI i)) 41 s (nI j)) 42 s (nI m)) 43 s d) 44 s (nI t)) 45 s (-1)) 39 0 (nI (s + 1))) 73 s (nI i)) 74 s (nI j)) 75 s (nI m)) 78 s d) 76 s (nI t)) 77 s (-1)) 49 66 (nI (s + 1))) K x := by
      intro x hx
      show (upd (σ.1 40) s (nI i) x = upd (σ.1 73) s (nI i) x ∧ upd (σ.1 41) s (nI j) x = upd (σ.1 74) s (nI j) x ∧ upd (σ.1 42) s (nI m) x = upd (σ.1 75) s (nI m) x ∧ upd (σ.1 43) s d x = upd (σ.1 78) s d x ∧ upd (σ.1 44) s (nI t) x = upd (σ.1 76) s (nI t) x ∧ upd (σ.1 45) s (-1) x = upd (σ.1 77) s (-1) x) ∧ (∃ b, b ≤ 12 ∧ upd (σ.1 73) s (nI i) x = nI b) ∧ (∃ k, k < K ∧ upd (σ.1 74) s (nI j) x = nI k) ∧ (upd (σ.1 78) s d x = 0 ∨ upd (σ.1 78) s d x = 1) ∧ (upd (σ.1 77) s (-1) x = -1 ∨ 0 ≤ upd (σ.1 77) s (-1) x)
      by_cases e : x = s
      · subst e
        rw [upd_e, upd_e, upd_e, upd_e, upd_e, upd_e, upd_e, upd_e, upd_e, upd_e, upd_e, upd_e]
        exact ⟨⟨rfl, rfl, rfl, rfl, rfl, rfl⟩, ⟨i, by omega, rfl⟩, ⟨j, hj, rfl⟩, hd, .inl rfl⟩
      · simp only [upd_n e]
        exact s3 x (by omega)
    rcases hP with rfl | rfl <;> exact ⟨_, _, _, _, _, _, _, _, rl_p_cg rfl rfl rfl rfl rfl rfl rfl rfl rfl rfl rfl rfl rfl rfl rfl rfl rfl rfl rfl rfl rfl r1, rl_v_cg rfl rfl rfl r2, rl_a_cg rfl rfl rfl rfl rfl rfl r3, rl_b_cg rfl rfl rfl rfl r4, rl_l_cg rfl rfl rfl rfl r5, ⟨⟨s + 1, by omega, rfl, rfl, key⟩, s4⟩, rl_t_cg rfl rfl r7, rl_f_cg rfl rfl rfl rfl r8, rl_i_cg rfl rfl rfl rfl rfl r9⟩
  · have es : nI s = 30 := by rw [show s = 30 by omega]; rfl
    refine none ?_ (by rw [fX10_seen, ia, if_neg ha, kind_e p4.k hK, if_neg hb, ic, if_neg hc, p6, if_neg hN0, s2, if_pos es])
    have e1 : fX6_add σ (nI i) (nI j) (nI m) d (σ.1 0 9) = some (-1, σ) := by
      unfold fX6_add
      rw [s1, es, if_neg (by decide)]
    rw [ec, e1, b2_s]
end KC
