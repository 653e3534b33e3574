/-! the calls, each by itself: both answer alike and the relation is kept -/
def k_rr (c e : Option Int32) : Prop := ∃ r, c = some r ∧ e = some r
def k_mm (c : Option (Int32 × sw_M)) (e : sw_M → Option (Int32 × sw_M)) : Prop := ∃ r τ υ, c = some (r, τ) ∧ e τ = some (r, υ) ∧ rel υ
section KA
variable {σ : sw_M}
theorem k_later (a : Int32) (h : rel σ) : k_mm (fX9_later σ a) (fun τ => fX10_later τ a) := by
  obtain ⟨P, K, N, R, Bn, z, mm, ww, hr⟩ := id h
  have hP := rl_isP hr.1
  obtain ⟨r1, r2, r3, r4, r5, r6, r7, r8, r9⟩ := hr
  obtain ⟨t, ht, e1, e2⟩ := id r7
  by_cases h0 : a < 0
  · exact ⟨-1, σ, σ, by rw [fX9_later, if_pos h0], by show fX10_later σ a = _; rw [fX10_later, if_pos h0], h⟩
  by_cases h1 : 1000 < a
  · exact ⟨-1, σ, σ, by rw [fX9_later, if_neg h0, if_pos h1], by show fX10_later σ a = _; rw [fX10_later, if_neg h0, if_pos h1], h⟩
  obtain ⟨j, hj, rfl⟩ := nI_of2 (M := 1000) (n := 1000) (by decide) h0 (Int32.not_lt.mp h1)
  by_cases h2 : nI t + nI j ≤ 100000
  · refine ⟨nI t + nI j, sw_w σ 0 9 (nI t + nI j), sw_w (sw_w σ 0 9 (nI t + nI j)) 49 67 (nI t + nI j), ?_, ?_, ?_⟩
    · rw [fX9_later, if_neg h0, if_neg h1, e1, if_pos h2, let_s]
      rfl
    · show fX10_later (sw_w σ 0 9 (nI t + nI j)) (nI j) = _
      have e : (sw_w σ 0 9 (nI t + nI j)).1 49 67 = nI t := e2
      rw [fX10_later, if_neg h0, if_neg h1, e, if_pos h2, let_s]
      rfl
    · have h3 : t + j ≤ 100000 := by
        rw [nI_add] at h2
        exact (nI_leI (b := 100000) (by omega) (by decide)).mp h2
      rcases hP with rfl | rfl <;> exact ⟨_, _, _, _, _, _, _, _, rl_p_cg rfl rfl rfl rfl rfl rfl rfl rfl rfl rfl rfl rfl rfl rfl rfl rfl rfl rfl rfl rfl rfl r1, rl_v_cg rfl rfl rfl r2, rl_a_cg rfl rfl rfl rfl rfl rfl r3, rl_b_cg rfl rfl rfl rfl r4, rl_l_cg rfl rfl rfl rfl r5, rl_s_cg rfl rfl rfl rfl rfl rfl rfl rfl rfl rfl rfl rfl rfl rfl rfl rfl rfl rfl r6, ⟨t + j, h3, nI_add t j, nI_add t j⟩, rl_f_cg rfl rfl rfl rfl r8, rl_i_cg rfl rfl rfl rfl rfl r9⟩
  · exact ⟨-1, σ, σ, by rw [fX9_later, if_neg h0, if_neg h1, e1, if_neg h2], by show fX10_later σ (nI j) = _; rw [fX10_later, if_neg h0, if_neg h1, e2, if_neg h2], h⟩
theorem k_end (a : Int32) (h : rel σ) : k_mm (fX9_end σ a) (fun τ => fX10_end τ a) := by
  obtain ⟨P, K, N, R, Bn, z, mm, ww, hr⟩ := id h
  have hP := rl_isP hr.1
  obtain ⟨r1, r2, r3, r4, r5, r6, r7, r8, r9⟩ := hr
  obtain ⟨⟨n, hn, e1, e2, e3⟩, e4⟩ := id r9
  by_cases h0 : a < 0
  · exact ⟨-1, σ, σ, by rw [fX9_end, if_pos h0], by show fX10_end σ a = _; rw [fX10_end, if_pos h0], h⟩
  obtain ⟨j, hj, rfl⟩ := nI_of h0
  by_cases h1 : nI j ≤ nI n
  · have h2 := (nI_leI hj (by omega)).mp h1
    refine ⟨nI j, sw_w σ 2 1 (nI j), sw_w (sw_w σ 2 1 (nI j)) 49 1 (nI j), ?_, ?_, ?_⟩
    · rw [fX9_end, if_neg h0, e1, if_pos h1, let_s]
    · show fX10_end (sw_w σ 2 1 (nI j)) (nI j) = _
      have e : (sw_w σ 2 1 (nI j)).1 49 1 = nI n := e2
      rw [fX10_end, if_neg h0, e, if_pos h1, let_s]
    · rcases hP with rfl | rfl <;> exact ⟨_, _, _, _, _, _, _, _, rl_p_cg rfl rfl rfl rfl rfl rfl rfl rfl rfl rfl rfl rfl rfl rfl rfl rfl rfl rfl rfl rfl rfl r1, rl_v_cg rfl rfl rfl r2, rl_a_cg rfl rfl rfl rfl rfl rfl r3, rl_b_cg rfl rfl rfl rfl r4, rl_l_cg rfl rfl rfl rfl r5, rl_s_cg rfl rfl rfl rfl rfl rfl rfl rfl rfl rfl rfl rfl rfl rfl rfl rfl rfl rfl r6, rl_t_cg rfl rfl r7, rl_f_cg rfl rfl rfl rfl r8, ⟨j, by omega, rfl, rfl, fun i hi => e3 i (by omega)⟩, e4⟩
  · exact ⟨-1, σ, σ, by rw [fX9_end, if_neg h0, e1, if_neg h1], by show fX10_end σ (nI j) = _; rw [fX10_end, if_neg h0, e2, if_neg h1], h⟩
theorem k_lies (a : Int32) (h : rel σ) : k_rr (fX9_lies σ a) (fX10_lies σ a) := by
  obtain ⟨P, K, N, R, Bn, z, mm, ww, hr⟩ := h
  obtain ⟨y, hy, e1, e2, e3⟩ := hr.2.2.2.2.1
  unfold fX9_lies fX10_lies
  rw [e1, e2, in_same (by omega)]
  by_cases h : (if a < 0 then (0 : Int32) else if nI y ≤ a then 0 else 1) = 0
  · rw [if_pos h]
    by_cases h0 : a < 0
    · rw [if_pos h0]
      exact ⟨_, rfl, rfl⟩
    · rw [if_neg h0] at h ⊢
      by_cases h5 : nI y ≤ a
      · rw [if_pos h5]
        exact ⟨_, rfl, rfl⟩
      · rw [if_neg h5] at h
        exact absurd h (by decide)
  · obtain ⟨j, hj, rfl⟩ := in_some (by omega) h
    have h6 : nI j < 6 := nI_lt (b := 6) (by omega) (by decide)
    rw [if_neg h, if_neg (nI_pos (by omega)), if_neg (nI_ge hj (by omega)), if_pos h6, sw_gd_t (in_t (show j < 6 by omega) (by decide)), sw_gd_t (in_t (show j < 6 by omega) (by decide)), nI_clamp (by omega), e3 j hj]
    exact ⟨_, rfl, rfl⟩
theorem rl_vv {K N Bn : Nat} {mm : Nat → Nat} (h : rl_v σ K N Bn mm) : (∀ j, j < 5 → σ.1 28 j = σ.1 65 j) ∧ σ.1 27 1 = σ.1 65 5 ∧ σ.1 27 2 = σ.1 65 6 ∧ σ.1 27 3 = σ.1 65 7 ∧ σ.1 27 4 = σ.1 65 8 ∧ σ.1 27 5 = σ.1 65 9 := by
  have e := h.1
  refine ⟨fun j hj => ?_, ?_, ?_, ?_, ?_, ?_⟩
  · have := congrFun e j
    rw [pk_lo hj, ck_lo (by omega)] at this
    exact this
  · exact congrFun e 5
  · exact congrFun e 6
  · exact congrFun e 7
  · exact congrFun e 8
  · exact congrFun e 9
theorem k_about (a : Int32) (h : rel σ) : fX9_about σ a = fX10_about σ a := by
  obtain ⟨P, K, N, R, Bn, z, mm, ww, r1, r2, r3, r4, r5, r6, r7, r8, r9⟩ := h
  obtain ⟨v0, v1, v2, v3, v4, v5⟩ := rl_vv r2
  obtain ⟨hh, ll, a1, a2, a3, a4, a5, a6⟩ := r3
  have hle : hh ≤ ll := a5.1.1
  obtain ⟨y, hy, l1, l2, l3⟩ := r5
  obtain ⟨⟨s, hs, s1, s2, s3⟩, s4⟩ := r6
  obtain ⟨t, ht, t1, t2⟩ := r7
  obtain ⟨⟨n, hn, n1, n2, n3⟩, n4⟩ := r9
  obtain ⟨p1, p2, p3, p4, p5, p6, p7, p8, p9, ⟨sc, p10, p11, p12⟩, p13, p14⟩ := r1
  unfold fX9_about fX10_about fX0_undoable fX0_redoable
  rw [p1, p5.1, p5.2.1, p3.k, p4.k, p3.r, p4.r, p6.1, p6.2.1, v1, v2, v3, v4, v5, a1, a2, a3, a4, nI_sub hle, s1, s2, t1, t2, n1, n2, p13, l1, l2, p11, p12]
theorem k_fault (a : Int32) (h : rel σ) : fX9_fault σ a = fX10_fault σ a := by
  obtain ⟨P, K, N, R, Bn, z, mm, ww, r1, r2, r3, r4, r5, r6, r7, r8, r9⟩ := h
  exact b_fault r8.1 r8.2 a
theorem nar_b {x : Int32} (h : x = 0 ∨ x = 1) : vp_nar .boolean x = x := by
  rcases h with rfl | rfl <;> rfl
theorem isIn_n (n : Nat) (hn : n < 2 ^ 31 - 1) (a M : Int32) (hM : M = nI n) : fX10_isIn a 0 M = (if a < 0 then 0 else if nI (n + 1) ≤ a then 0 else 1) := by
  have := in_same (K := n + 1) (by omega) a
  rw [nI_pred] at this
  rw [hM, this]
theorem k_untell (a : Int32) (h : rel σ) : k_mm (fX9_untell σ a) (fun τ => fX10_untell τ a) := by
  obtain ⟨P, K, N, R, Bn, z, mm, ww, hr⟩ := id h
  have hP := rl_isP hr.1
  obtain ⟨r1, r2, r3, r4, r5, r6, r7, r8, r9⟩ := hr
  obtain ⟨⟨s, hs, s1, s2, s3⟩, s4⟩ := id r6
  obtain ⟨t, ht, t1, t2⟩ := id r7
  have hin := in_same (K := s) (by omega) a
  by_cases h0 : (if a < 0 then (0 : Int32) else if nI s ≤ a then 0 else 1) = 0
  · refine ⟨0, σ, σ, ?_, by show fX10_untell σ a = _; rw [fX10_untell, s2, hin, if_pos h0], h⟩
    have e : fX6_takeBack σ a (σ.1 0 9) = some (0, σ) := by
      unfold fX6_takeBack
      rw [s1]
      by_cases h1 : a < 0
      · rw [if_pos h1]
      · rw [if_neg h1] at h0 ⊢
        by_cases h2 : nI s ≤ a
        · rw [if_pos h2]
        · rw [if_neg h2] at h0
          exact absurd h0 (by decide)
    rw [fX9_untell, e, b2_s, sw_gd_t (by decide)]
  · obtain ⟨j, hj, rfl⟩ := in_some (by omega) h0
    obtain ⟨⟨q1, q2, q3, q4, q5, q6⟩, q7, q8, q9, q10⟩ := s3 j hj
    have hj30 : j < 30 := by omega
    by_cases h1 : σ.1 77 j < 0
    · have h2 : σ.1 77 j = -1 := by
        rcases q10 with q | q
        · exact q
        · exact absurd h1 (Int32.not_lt.mpr q)
      have e : fX6_takeBack σ (nI j) (σ.1 0 9) = some (1, sw_w σ 45 j (nI t)) := by
        unfold fX6_takeBack
        rw [s1, t1, if_neg (nI_pos (by omega)), if_neg (nI_ge hj (by omega)), sw_gd_t (in_t hj30 (by decide)), nI_clamp (by omega), q6, if_pos h2, sw_gd_t (in_t hj30 (by decide)), let_s]
      refine ⟨1, sw_w σ 45 j (nI t), sw_w (sw_w σ 45 j (nI t)) 77 j (nI t), ?_, ?_, ?_⟩
      · rw [fX9_untell, e, b2_s, sw_gd_t (by decide)]
      · show fX10_untell (sw_w σ 45 j (nI t)) (nI j) = _
        have e66 : (sw_w σ 45 j (nI t)).1 49 66 = nI s := s2
        have e67 : (sw_w σ 45 j (nI t)).1 49 67 = nI t := t2
        have e77 : (sw_w σ 45 j (nI t)).1 77 = σ.1 77 := rfl
        rw [fX10_untell, e66, hin, if_neg h0, sw_gd_t (in_t hj30 (by decide)), nI_clamp (by omega), e77, if_pos h1, sw_gd_t (in_t hj30 (by decide)), let_s, e67]
      · have key : ∀ i, i < s → rl_s1 (sw_w (sw_w σ 45 j (nI t)) 77 j (nI t)) K i := by
          intro i hi
          obtain ⟨⟨w1, w2, w3, w4, w5, w6⟩, w7, w8, w9, w10⟩ := s3 i hi
          by_cases e : i = j
          · refine ⟨⟨w1, w2, w3, w4, w5, ?_⟩, w7, w8, w9, .inr ?_⟩
            · show upd (σ.1 45) j (nI t) i = upd (σ.1 77) j (nI t) i
              rw [e, upd_e, upd_e]
            · show 0 ≤ upd (σ.1 77) j (nI t) i
              rw [e, upd_e]
              exact nI_pos' (by omega)
          · refine ⟨⟨w1, w2, w3, w4, w5, ?_⟩, w7, w8, w9, ?_⟩
            · show upd (σ.1 45) j (nI t) i = upd (σ.1 77) j (nI t) i
              rw [upd_n e, upd_n e]
              exact w6
            · show upd (σ.1 77) j (nI t) i = -1 ∨ 0 ≤ upd (σ.1 77) j (nI t) i
              rw [upd_n e]
              exact w10
        rcases hP with rfl | rfl <;> exact ⟨_, _, _, _, _, _, _, _, rl_p_cg rfl rfl rfl rfl rfl rfl rfl rfl rfl rfl rfl rfl rfl rfl rfl rfl rfl rfl rfl rfl rfl r1, rl_v_cg rfl rfl rfl r2, rl_a_cg rfl rfl rfl rfl rfl rfl r3, rl_b_cg rfl rfl rfl rfl r4, rl_l_cg rfl rfl rfl rfl r5, ⟨⟨s, hs, s1, s2, key⟩, s4⟩, rl_t_cg rfl rfl r7, rl_f_cg rfl rfl rfl rfl r8, rl_i_cg rfl rfl rfl rfl rfl r9⟩
    · have h2 : ¬ σ.1 45 j = -1 := by
        rw [q6]
        intro e
        exact h1 (by rw [e]; decide)
      refine ⟨0, σ, σ, ?_, ?_, h⟩
      · have e : fX6_takeBack σ (nI j) (σ.1 0 9) = some (0, σ) := by
          unfold fX6_takeBack
          rw [s1, if_neg (nI_pos (by omega)), if_neg (nI_ge hj (by omega)), sw_gd_t (in_t hj30 (by decide)), nI_clamp (by omega), if_neg h2]
        rw [fX9_untell, e, b2_s, sw_gd_t (by decide)]
      · show fX10_untell σ (nI j) = _
        rw [fX10_untell, s2, hin, if_neg h0, sw_gd_t (in_t hj30 (by decide)), nI_clamp (by omega), if_neg h1]
end KA
