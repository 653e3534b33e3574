/-! order: the reference's side, and both -/
section KP
variable {σ τ : sw_M} {P K N R Bn z : Nat} {mm ww : Nat → Nat}
theorem e_ord {m : sw_M} {j : Nat} {most : Int32} {F : Nat → Nat} {G V : Nat → Int32} {X : (Int32 × Int32 × sw_M) ⊕ (Int32 × sw_M)} (r1 : rl_p m P K N R Bn z mm ww) (hF : ∀ i, i < R → F i < R) (hm : ∀ i, i < R → m.1 70 i = nI (F i)) (hj : j < K) (hV : V = v_ord (m.1 64) F R G)
    (h1 : V j ≤ most → fX10_order_L144 (sw_wA m 66 V) (nI j) most = some X) (h2 : ¬ V j ≤ most → sw_wh sw_F (fun s : Int32 × sw_M => fX10_order_L115 s.2 (nI j) (V j) s.1) (0, sw_wA m 66 V) = some X) :
    sw_wh sw_F (fun s : Int32 × sw_M => fX10_order_L53 s.2 (nI j) most s.1) (0, sw_wA m 66 G) = some X := by
  obtain ⟨p1, p2, p3, p4, p5⟩ := r1
  have hK := p3.k5
  have hR := p3.r6
  refine wh_runs (b := fun s : Int32 × sw_M => fX10_order_L53 s.2 (nI j) most s.1) (fun i => (nI i, sw_wA m 66 (v_ord (m.1 64) F i G))) R rfl (fun i hi => ?_) ?_ (by omega)
  · show fX10_order_L53 (sw_wA m 66 (v_ord (m.1 64) F i G)) (nI j) most (nI i) = _
    have hFi := hF i hi
    have ht := e_boilBy (σ := sw_wA m 66 (v_ord (m.1 64) F i G)) (lim := m.1 64 (4 * F i + 3)) (r := F i) (K := K) (R := R) hK hR (by rw [m_ne (show (64 : Nat) ≠ 66 by decide)]; exact p4.ρ) hFi
    rw [m_ne (show (64 : Nat) ≠ 66 by decide), m_eq, m_mm] at ht
    unfold fX10_order_L53
    rw [m_ne (show (49 : Nat) ≠ 66 by decide), p4.r, if_neg (le_f hi (by omega)), sw_gd_t (in_t (show i < 6 by omega) (by decide)), sw_gd_t (in_t (show i < 6 by omega) (by decide)), nI_clamp (by omega), m_ne (show (70 : Nat) ≠ 66 by decide), hm i hi, i4, i4_3, sw_gd_t (in_t (show 4 * F i + 3 < 24 by omega) (by decide)), nI_clamp (by omega), m_ne (show (64 : Nat) ≠ 66 by decide), ht, b1_s, let_s, nI_1]
    rfl
  · show fX10_order_L53 (sw_wA m 66 (v_ord (m.1 64) F R G)) (nI j) most (nI R) = _
    rw [← hV]
    unfold fX10_order_L53
    rw [m_ne (show (49 : Nat) ≠ 66 by decide), p4.r, if_pos (le_t R (by omega)), sw_gd_t (in_t (show j < 10 by omega) (by decide)), sw_gd_t (in_t (show j < 10 by omega) (by decide)), nI_clamp (by omega), m_eq, let_s]
    by_cases h : V j ≤ most
    · rw [if_pos h, h1 h, sw_up_s]
    · rw [if_neg h, h2 h, sw_up_s]
theorem e_order {j : Nat} {u ρ : Nat → Int32} {c0 : Nat} {l0 : List Nat} (r1 : rl_p σ P K N R Bn z mm ww) (hu : ∀ i, i < 10 → σ.1 65 i = u i) (hρ : ∀ r c, r < R → c < 4 → σ.1 64 (4 * r + c) = ρ (4 * r + c)) (hok : ok_ρ ρ K R) (hc : o_chk R (c0 :: l0) = true) (hl : l0.length ≤ 719) (hid : ∀ j, j < R → o_get c0 j = j) (hj : j < K) :
    ∃ x, sw_wh sw_F (fun s : Int32 × sw_M => fX10_order_L17 s.2 (nI j) s.1) (0, σ) = some x ∧ ∃ m, x = ((o_fold (fun c => v_ord ρ (o_get c) R u j) (c0 :: l0) (-1) 0).1, sw_w m 49 57 (nI R)) ∧ aeO σ m ∧ (x.1 = -1 ∨ ∀ i, i < R → m.1 69 i = nI (o_get (o_fold (fun c => v_ord ρ (o_get c) R u j) (c0 :: l0) (-1) 0).2 i)) := by
  have hP := rl_isP r1
  obtain ⟨p1, p2, p3, p4, p5⟩ := id r1
  have hK := p3.k5
  have hR := p3.r6
  obtain ⟨val, hval⟩ : ∃ val, val = fun c => v_ord ρ (o_get c) R u j := ⟨_, rfl⟩
  rw [← hval]
  obtain ⟨W, hW⟩ : ∃ W, W = o_fold val (c0 :: l0) (-1) 0 := ⟨_, rfl⟩
  rw [← hW]
  obtain ⟨m0, hm0⟩ : ∃ m0, m0 = sw_wA σ 70 (v_mix R (fun i => nI i) (σ.1 70)) := ⟨_, rfl⟩
  have ha0 : aeO σ m0 := by rw [hm0]; exact aeO_w (.inr (.inr rfl))
  have main : ∃ x, sw_wh sw_F (fun s : Int32 × Int32 × sw_M => fX10_order_L42 s.2.2 (nI j) s.1 s.2.1) ((-1), 1, m0) = some x ∧ (∃ m, x = (W.1, sw_w m 49 57 (nI R)) ∧ aeO σ m ∧ (x.1 = -1 ∨ ∀ i, i < R → m.1 69 i = nI (o_get W.2 i))) := by
    refine wh_gen (b := fun s : Int32 × Int32 × sw_M => fX10_order_L42 s.2.2 (nI j) s.1 s.2.1) (fun k s => (∃ c l b, l.length + k = l0.length ∧ o_chk R (c :: l) = true ∧ s.2.1 = 1 ∧ aeO σ s.2.2 ∧ (∀ i, i < R → s.2.2.1 70 i = nI (o_get c i)) ∧ (s.1 = -1 ∨ ∀ i, i < R → s.2.2.1 69 i = nI (o_get b i)) ∧ o_fold val (c :: l) s.1 b = W) ∨ (s.2.1 = 0 ∧ aeO σ s.2.2 ∧ s.1 = W.1 ∧ (s.1 = -1 ∨ ∀ i, i < R → s.2.2.1 69 i = nI (o_get W.2 i)))) (fun x => ∃ m, x = (W.1, sw_w m 49 57 (nI R)) ∧ aeO σ m ∧ (x.1 = -1 ∨ ∀ i, i < R → m.1 69 i = nI (o_get W.2 i))) (l0.length + 1) (fun k s hk hI => ?_) (.inl ⟨c0, l0, 0, rfl, hc, rfl, ha0, fun i hi => by rw [hm0, m_eq, v_mix, if_pos hi, hid i hi], .inl rfl, hW.symm⟩) (F_big (by omega))
    obtain ⟨most, y, m⟩ := s
    have hI' : (∃ c l b, l.length + k = l0.length ∧ o_chk R (c :: l) = true ∧ y = 1 ∧ aeO σ m ∧ (∀ i, i < R → m.1 70 i = nI (o_get c i)) ∧ (most = -1 ∨ ∀ i, i < R → m.1 69 i = nI (o_get b i)) ∧ o_fold val (c :: l) most b = W) ∨ (y = 0 ∧ aeO σ m ∧ most = W.1 ∧ (most = -1 ∨ ∀ i, i < R → m.1 69 i = nI (o_get W.2 i))) := hI
    show (∃ s', fX10_order_L42 m (nI j) most y = some (.inl s') ∧ ((∃ c l b, l.length + (k + 1) = l0.length ∧ o_chk R (c :: l) = true ∧ s'.2.1 = 1 ∧ aeO σ s'.2.2 ∧ (∀ i, i < R → s'.2.2.1 70 i = nI (o_get c i)) ∧ (s'.1 = -1 ∨ ∀ i, i < R → s'.2.2.1 69 i = nI (o_get b i)) ∧ o_fold val (c :: l) s'.1 b = W) ∨ (s'.2.1 = 0 ∧ aeO σ s'.2.2 ∧ s'.1 = W.1 ∧ (s'.1 = -1 ∨ ∀ i, i < R → s'.2.2.1 69 i = nI (o_get W.2 i)))) ∧ k < l0.length + 1) ∨ (∃ x, fX10_order_L42 m (nI j) most y = some (.inr x) ∧ ∃ m, x = (W.1, sw_w m 49 57 (nI R)) ∧ aeO σ m ∧ (x.1 = -1 ∨ ∀ i, i < R → m.1 69 i = nI (o_get W.2 i)))
    rcases hI' with ⟨c, l, b, i1, i2, rfl, i4, i5, i6, i7⟩ | ⟨rfl, i4, rfl, i6⟩
    rotate_left
    · have hr : m.1 49 43 = nI R := (rl_p_aeO r1 i4).2.2.2.1.r
      refine .inr ?_
      rw [fX10_order_L42, if_pos rfl, let_s, hr]
      exact ⟨_, rfl, m, rfl, i4, i6⟩
    refine .inl ?_
    have hF := o_dig1 i2
    have q := rl_p_aeO r1 i4
    have e64 : m.1 64 = σ.1 64 := i4.2 64 (by decide) (by decide) (by decide)
    have e65 : m.1 65 = σ.1 65 := i4.2 65 (by decide) (by decide) (by decide)
    obtain ⟨G, hG⟩ : ∃ G, G = v_mix 10 (m.1 65) (m.1 66) := ⟨_, rfl⟩
    obtain ⟨V, hV⟩ : ∃ V, V = v_ord (m.1 64) (o_get c) R G := ⟨_, rfl⟩
    have hVj : V j = val c := by
      rw [hV, hval, e64]
      refine ord_cg (n := 10) hok hK (by omega) hF hρ (fun i hi => ?_) R (Nat.le_refl R) j (by omega)
      rw [hG]
      show (if i < 10 then m.1 65 i else m.1 66 i) = u i
      rw [if_pos hi, e65, hu i hi]
    -- to the next row
    have nxt : ∀ (M : sw_M) (r2 : Int32) (b2 : Nat), aeO σ M → M.1 70 = m.1 70 → (r2 = -1 ∨ ∀ i, i < R → M.1 69 i = nI (o_get b2 i)) → o_fold val l r2 b2 = W → ∃ s', fX10_order_L144 M (nI j) r2 = some (.inl s') ∧ ((∃ c l b, l.length + (k + 1) = l0.length ∧ o_chk R (c :: l) = true ∧ s'.2.1 = 1 ∧ aeO σ s'.2.2 ∧ (∀ i, i < R → s'.2.2.1 70 i = nI (o_get c i)) ∧ (s'.1 = -1 ∨ ∀ i, i < R → s'.2.2.1 69 i = nI (o_get b i)) ∧ o_fold val (c :: l) s'.1 b = W) ∨ (s'.2.1 = 0 ∧ aeO σ s'.2.2 ∧ s'.1 = W.1 ∧ (s'.1 = -1 ∨ ∀ i, i < R → s'.2.2.1 69 i = nI (o_get W.2 i)))) := by
      intro M r2 b2 hM hM70 hr hf
      have hMr : M.1 49 43 = nI R := (rl_p_aeO r1 hM).2.2.2.1.r
      obtain ⟨f', a1, a2⟩ := e_nx (m := M) hR hMr i2 (fun i hi => by rw [hM70]; exact i5 i hi)
      have n69 : (sw_wA M 70 f').1 69 = M.1 69 := m_ne (by decide)
      unfold fX10_order_L144
      rw [a1, b2_s]
      cases l with
      | nil =>
        rw [if_pos rfl]
        have hW2 : W = (r2, b2) := hf.symm
        refine ⟨_, rfl, .inr ⟨rfl, hM.tr (aeO_w (.inr (.inr rfl))), by rw [hW2], ?_⟩⟩
        rw [hW2]
        rcases hr with e | e
        · exact .inl e
        · exact .inr (fun i hi => by show (sw_wA M 70 f').1 69 i = _; rw [n69]; exact e i hi)
      | cons c' l' =>
        rw [if_neg (by simp)]
        have hlen : l'.length + 1 + k = l0.length := i1
        refine ⟨_, rfl, .inl ⟨c', l', b2, by omega, (o_chk2 i2).2.2, rfl, hM.tr (aeO_w (.inr (.inr rfl))), fun i hi => by show (sw_wA M 70 f').1 70 i = _; rw [m_eq]; exact a2 c' l' rfl i hi, ?_, hf⟩⟩
        rcases hr with e | e
        · exact .inl e
        · exact .inr (fun i hi => by show (sw_wA M 70 f').1 69 i = _; rw [n69]; exact e i hi)
    have hkl : k < l0.length + 1 := by omega
    rw [o_fold] at i7
    rw [fX10_order_L42, if_neg i10, e_fill, b1_s, ← hG]
    by_cases hle : val c ≤ most
    · rw [if_pos hle] at i7
      obtain ⟨s', s1, s2⟩ := nxt (sw_wA m 66 V) most b (i4.tr (aeO_w (.inl rfl))) (m_ne (by decide)) (by rw [m_ne (show (69 : Nat) ≠ 66 by decide)]; exact i6) i7
      refine ⟨s', e_ord q hF i5 hj hV (fun _ => s1) (fun h => absurd (by rw [hVj]; exact hle) h), s2, hkl⟩
    · rw [if_neg hle] at i7
      obtain ⟨s', s1, s2⟩ := nxt (sw_wA (sw_wA m 66 V) 69 (v_mix R (m.1 70) (m.1 69))) (val c) c ((i4.tr (aeO_w (.inl rfl))).tr (aeO_w (.inr (.inl rfl)))) (by rw [m_ne (by decide), m_ne (by decide)]) (.inr (fun i hi => by rw [m_eq, v_mix, if_pos hi, i5 i hi])) i7
      refine ⟨s', e_ord q hF i5 hj hV (fun h => absurd (by rw [← hVj]; exact h) hle) (fun _ => ?_), s2, hkl⟩
      have e70 : (sw_wA m 66 V).1 70 = m.1 70 := m_ne (by decide)
      have e69 : (sw_wA m 66 V).1 69 = m.1 69 := m_ne (by decide)
      have e49 : (sw_wA m 66 V).1 49 = m.1 49 := m_ne (by decide)
      rw [hVj]
      refine wh_map (b := fun s : Int32 × sw_M => fX10_order_L115 s.2 (nI j) (val c) s.1) (sw_wA m 66 V) 69 (m.1 70) R (fun i hi => ?_) ?_ (by omega)
      · show fX10_order_L115 (sw_wA (sw_wA m 66 V) 69 (v_mix i (m.1 70) ((sw_wA m 66 V).1 69))) (nI j) (val c) (nI i) = _
        unfold fX10_order_L115
        rw [m_ne (show (49 : Nat) ≠ 69 by decide), e49, q.2.2.2.1.r, if_neg (le_f hi (by omega)), sw_gd_t (in_t (show i < 6 by omega) (by decide)), sw_gd_t (in_t (show i < 6 by omega) (by decide)), let_s, let_s, nI_1, nI_clamp (by omega), m_ne (show (70 : Nat) ≠ 69 by decide), e70, m_ww]
      · show fX10_order_L115 (sw_wA (sw_wA m 66 V) 69 (v_mix R (m.1 70) ((sw_wA m 66 V).1 69))) (nI j) (val c) (nI R) = _
        unfold fX10_order_L115
        rw [m_ne (show (49 : Nat) ≠ 69 by decide), e49, q.2.2.2.1.r, if_pos (le_t R (by omega)), e69, s1, sw_up_s]
  obtain ⟨x, h1, h2⟩ := main
  refine ⟨x, ?_, h2⟩
  refine wh_map (b := fun s : Int32 × sw_M => fX10_order_L17 s.2 (nI j) s.1) σ 70 (fun i => nI i) R (fun i hi => ?_) ?_ (by omega)
  · show fX10_order_L17 (sw_wA σ 70 (v_mix i (fun i => nI i) (σ.1 70))) (nI j) (nI i) = _
    unfold fX10_order_L17
    rw [m_ne (show (49 : Nat) ≠ 70 by decide), p4.r, if_neg (le_f hi (by omega)), sw_gd_t (in_t (show i < 6 by omega) (by decide)), let_s, let_s, nI_1, nI_clamp (by omega), m_ww]
  · show fX10_order_L17 (sw_wA σ 70 (v_mix R (fun i => nI i) (σ.1 70))) (nI j) (nI R) = _
    unfold fX10_order_L17
    rw [m_ne (show (49 : Nat) ≠ 70 by decide), p4.r, if_pos (le_t R (by omega)), ← hm0, h1, sw_up_s]
theorem relD_o (hr : relD σ P K N R Bn z mm ww) (h2 : τ.2 = σ.2) (key : ∀ a, a ≠ 0 → a ≠ 37 → a ≠ 38 → a ≠ 48 → a ≠ 49 → a ≠ 66 → a ≠ 69 → a ≠ 70 → τ.1 a = σ.1 a) (h0 : τ.1 0 9 = σ.1 0 9) (h49 : ∀ k, k ≠ 57 → τ.1 49 k = σ.1 49 k) (hl : rl_l τ) : relD τ P K N R Bn z mm ww := by
  have hP := rl_isP hr.1
  obtain ⟨r1, r2, r3, r4, r5, r6, r7, r8, r9⟩ := hr
  rcases hP with rfl | rfl <;>
  · refine ⟨rl_p_cg (by rw [h2]) ?_ ?_ ?_ ?_ ?_ ?_ ?_ ?_ ?_ ?_ ?_ (h49 _ (by decide)) (h49 _ (by decide)) (h49 _ (by decide)) (h49 _ (by decide)) (h49 _ (by decide)) (h49 _ (by decide)) (h49 _ (by decide)) (h49 _ (by decide)) (h49 _ (by decide)) r1, rl_v_cg ?_ ?_ ?_ r2, rl_a_cg ?_ ?_ ?_ ?_ (h49 _ (by decide)) (h49 _ (by decide)) r3, rl_b_cg ?_ ?_ ?_ ?_ r4, hl, rl_s_cg ?_ ?_ ?_ ?_ ?_ ?_ ?_ ?_ ?_ ?_ ?_ ?_ ?_ ?_ (h49 _ (by decide)) ?_ ?_ ?_ r6, rl_t_cg h0 (h49 _ (by decide)) r7, rl_f_cg ?_ ?_ (h49 _ (by decide)) (h49 _ (by decide)) r8, rl_i_cg ?_ ?_ ?_ (h49 _ (by decide)) (by rw [h2]) r9⟩
    all_goals first
      | exact key _ (by decide) (by decide) (by decide) (by decide) (by decide) (by decide) (by decide) (by decide)
      | exact congrFun (key _ (by decide) (by decide) (by decide) (by decide) (by decide) (by decide) (by decide) (by decide)) _
theorem k_order (a : Int32) (h : rel σ) : k_mm (fX9_order σ a) (fun τ => fX10_order τ a) := by
  obtain ⟨P, K, N, R, Bn, z, mm, ww, hr⟩ := id h
  have hP := rl_isP hr.1
  have hz := rel_lie0 hr
  have r10 := hr.1
  have r2 := hr.2.1
  have hrr := rl_r r10
  obtain ⟨p1, p2, p3, p4, p5, p6, ⟨p7, p7'⟩, p8⟩ := id r10
  have hK := p3.k5
  have hR := p3.r6
  obtain ⟨σ1, hσ1⟩ : ∃ σ1, σ1 = sw_w σ 0 8 0 := ⟨_, rfl⟩
  have x1 : ∀ a, a ≠ 0 → σ1.1 a = σ.1 a := fun a ha => by rw [hσ1]; exact m_wne ha
  have x12 : σ1.2 = σ.2 := by rw [hσ1]; rfl
  have xP : σ1.1 P = σ.1 P := x1 P (by rcases hP with rfl | rfl <;> decide)
  have hk1 : fX4_isKind (sw_pl (σ1.2.2 0)) σ1 a = (if a < 0 then 0 else if nI K ≤ a then 0 else 1) := by rw [x12, p1]; exact kind_c (by rw [xP]; exact p3.k) a
  have hc1 : fX9_order σ a = if (if a < 0 then (0 : Int32) else if nI K ≤ a then 0 else 1) = 0 then some ((-1 : Int32), σ1) else sw_b2 (fX3_mostByOrder P 27 48 (sw_w σ1 0 8 (nI R)) a) fun r6 m7 => some ((r6, m7)) := by
    rw [fX9_order, let_s, ← hσ1, hk1, let_s, x12, p1, xP, p3.r]
    have : sw_pl ((sw_w σ1 0 8 (nI R)).2.2 0) = P := by
      show sw_pl (σ1.2.2 0) = P
      rw [x12, p1]
    rw [this]
  by_cases ha : (if a < 0 then (0 : Int32) else if nI K ≤ a then 0 else 1) = 0
  · refine ⟨-1, σ1, sw_w σ1 49 57 0, by rw [hc1, if_pos ha], ?_, P, K, N, R, Bn, z, mm, ww, by rw [hσ1]; exact hz⟩
    show fX10_order σ1 a = _
    have he : fX10_isKind (sw_w σ1 49 57 0) a = (if a < 0 then 0 else if nI K ≤ a then 0 else 1) := kind_e (by show σ1.1 49 40 = nI K; rw [x1 49 (by decide)]; exact p4.k) hK a
    rw [fX10_order, let_s, he, if_pos ha]
  obtain ⟨j, hj, rfl⟩ := in_some (by omega) ha
  obtain ⟨c0, l0, o1, o2, o3⟩ := o_all hR
  obtain ⟨σ4, hσ4⟩ : ∃ σ4, σ4 = sw_w σ1 0 8 (nI R) := ⟨_, rfl⟩
  have x4 : ∀ a, a ≠ 0 → σ4.1 a = σ.1 a := fun a ha => by rw [hσ4, m_wne ha]; exact x1 a ha
  have x42 : σ4.2 = σ.2 := by rw [hσ4]; exact x12
  have y1 : rl_p σ4 P K N R Bn z mm ww := by
    have r1 := r10
    rw [hσ4, hσ1]
    rcases hP with rfl | rfl <;> exact rl_p_cg rfl rfl rfl rfl rfl rfl rfl rfl rfl rfl rfl rfl rfl rfl rfl rfl rfl rfl rfl rfl rfl r1
  obtain ⟨u, hu⟩ : ∃ u, u = ck (σ.1 65) := ⟨_, rfl⟩
  have hv := (rl_vv r2).1
  have u28 : ∀ i, i < 5 → σ4.1 28 i = u i := fun i hi => by rw [x4 28 (by decide), hu, hv i hi, ck_lo (by omega)]
  obtain ⟨x, c1, c2, c3, c4⟩ := c_order (j := j) y1 u28 o1 o2 o3 hj
  have e6 : σ4.1 (P + 6) = σ.1 (P + 6) := x4 _ (by omega)
  rw [e6] at c3 c4
  obtain ⟨W, hW⟩ : ∃ W, W = o_fold (fun c => v_ord (σ.1 (P + 6)) (o_get c) R u j) (c0 :: l0) (-1) 0 := ⟨_, rfl⟩
  rw [← hW] at c3 c4
  obtain ⟨t0, _, _, _, hnv⟩ := rl_told r2
  rw [← hu] at hnv
  have hpos : ¬ W.1 = -1 := by
    have hn := nv_ord (F := o_get c0) p3.ρ p7 hK (o_dig1 o1) hnv R (Nat.le_refl R)
    obtain ⟨n, n1, n2, n3⟩ := hn
    have v0 : v_ord (σ.1 (P + 6)) (o_get c0) R u j = nI (n j) := n1 j hj
    have b0 := n2 j hj
    have nle : ¬ v_ord (σ.1 (P + 6)) (o_get c0) R u j ≤ -1 := by
      rw [v0]
      exact Int32.not_le.mpr (Int32.lt_of_lt_of_le (by decide) (nI_pos' (by omega)))
    have hf := fold_ge (val := fun c => v_ord (σ.1 (P + 6)) (o_get c) R u j) l0 (v_ord (σ.1 (P + 6)) (o_get c0) R u j) c0
    intro e
    rw [hW, o_fold, if_neg nle] at e
    rw [e] at hf
    exact nle hf
  rw [c3] at c4
  have r48 : ∀ i, i < R → x.2.1 48 i = nI (o_get W.2 i) := by
    rcases c4 with e | e
    · exact absurd e hpos
    · exact e
  obtain ⟨τ, hτ⟩ : ∃ τ, τ = x.2 := ⟨_, rfl⟩
  rw [← hτ] at c2 r48
  obtain ⟨τ1, hτ1⟩ : ∃ τ1, τ1 = sw_w τ 49 57 0 := ⟨_, rfl⟩
  have t1 : ∀ a, a ≠ 49 → τ1.1 a = τ.1 a := fun a ha => by rw [hτ1]; exact m_wne ha
  have w1 : rl_p τ1 P K N R Bn z mm ww := by
    have r1 := rl_p_agO y1 c2
    rw [hτ1]
    rcases hP with rfl | rfl <;> exact rl_p_cg rfl rfl rfl rfl rfl rfl rfl rfl rfl rfl rfl rfl rfl rfl rfl rfl rfl rfl rfl rfl rfl r1
  have g64 : τ1.1 64 = σ.1 64 := by rw [t1 64 (by decide), c2.2 64 (by decide) (by decide) (by decide), x4 64 (by decide)]
  have g65 : τ1.1 65 = σ.1 65 := by rw [t1 65 (by decide), c2.2 65 (by decide) (by decide) (by decide), x4 65 (by decide)]
  obtain ⟨y, d1, m, d2, d3, d4⟩ := e_order (j := j) (u := u) (ρ := σ.1 (P + 6)) w1 (fun i hi => by rw [g65, hu, ck_lo hi]) (fun r c h1 h2 => by rw [g64]; exact (hrr r c h1 h2).symm) p3.ρ o1 o2 o3 hj
  rw [← hW] at d2 d4
  have r69 : ∀ i, i < R → m.1 69 i = nI (o_get W.2 i) := by
    rw [d2] at d4
    rcases d4 with e | e
    · exact absurd e hpos
    · exact e
  have he : fX10_isKind τ1 (nI j) = (if nI j < 0 then 0 else if nI K ≤ nI j then 0 else 1) := kind_e w1.2.2.2.1.k hK _
  refine ⟨W.1, τ, sw_w m 49 57 (nI R), ?_, ?_, P, K, N, R, Bn, z, mm, ww, ?_⟩
  · rw [hc1, if_neg ha, ← hσ4, c1]
    show some (x.1, x.2) = _
    rw [c3, hτ]
  · show fX10_order τ (nI j) = _
    rw [fX10_order, let_s, ← hτ1, he, if_neg ha, d1, d2]
  · refine relD_o hr ?_ (fun a h0 h1 h2 h3 h4 h5 h6 h7 => ?_) ?_ (fun k hk => ?_) ⟨R, by omega, ?_, ?_, fun i hi => ?_⟩
    · show m.2 = σ.2
      rw [d3.1]
      show τ1.2 = σ.2
      rw [hτ1]
      show τ.2 = σ.2
      rw [c2.1, x42]
    · rw [m_wne h4, d3.2 a h5 h6 h7, t1 a h4, c2.2 a h1 h2 h3, x4 a h0]
    · show m.1 0 9 = σ.1 0 9
      rw [d3.2 0 (by decide) (by decide) (by decide), t1 0 (by decide), c2.2 0 (by decide) (by decide) (by decide), hσ4, hσ1]
      rfl
    · show upd (m.1 49) 57 (nI R) k = σ.1 49 k
      rw [upd_n hk, d3.2 49 (by decide) (by decide) (by decide), hτ1]
      show upd (τ.1 49) 57 0 k = _
      rw [upd_n hk, c2.2 49 (by decide) (by decide) (by decide), x4 49 (by decide)]
    · show m.1 0 8 = nI R
      rw [d3.2 0 (by decide) (by decide) (by decide), t1 0 (by decide), c2.2 0 (by decide) (by decide) (by decide), hσ4]
      rfl
    · rfl
    · show m.1 48 i = m.1 69 i
      rw [r69 i hi, d3.2 48 (by decide) (by decide) (by decide), t1 48 (by decide), r48 i hi]
end KP
