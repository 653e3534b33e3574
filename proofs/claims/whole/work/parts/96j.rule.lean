/-! the line of a rule -/
section PF
variable {σ τ σ0 τ0 σ' τ' : sw_M} {B : Nat → Nat} {n p Q K N R Bn : Nat}
def rfr (τ τ' : sw_M) : Prop := (∀ a, a ≠ 49 → a ≠ 61 → τ'.1 a = τ.1 a) ∧ (∀ k, 8 < k → τ'.1 49 k = τ.1 49 k) ∧ τ'.2.1 51 = τ.2.1 51
theorem rfr.tr {υ : sw_M} (h : rfr σ τ) (h' : rfr τ υ) : rfr σ υ := ⟨fun a a1 a2 => (h'.1 a a1 a2).trans (h.1 a a1 a2), fun k hk => (h'.2.1 k hk).trans (h.2.1 k hk), h'.2.2.trans h.2.2⟩
theorem rfr_e (h : efr τ τ') : rfr τ τ' := ⟨fun a a1 _ => h.2.1 a a1, fun k hk => h.2.2.2 k (by omega) (by omega) (by omega) (by omega), h.2.2.1 51 (by decide)⟩
theorem rfr_w {k : Nat} {x : Int32} : rfr τ (sw_w τ 61 k x) := ⟨fun a _ a2 => m_wne a2, fun k hk => by rw [m_wne (by decide)], rfl⟩
theorem l41_m {r : Int32} (h : fX10_oldKind_L41 τ = some (r, τ')) : τ' = τ := by
  unfold fX10_oldKind_L41 at h
  split at h
  · obtain ⟨r2, _, b⟩ := sw_b1_e h
    exact (congrArg (fun x => x.2) (Option.some.inj b)).symm
  · exact (congrArg (fun x => x.2) (Option.some.inj h)).symm
theorem old_36 {r : Int32} (h : fX10_oldKind τ = some (r, τ')) : τ'.1 49 36 = τ.1 49 36 := by
  unfold fX10_oldKind at h
  split at h
  · split at h
    · obtain ⟨m8, a, b⟩ := sw_b1_e h
      rw [l41_m b]
      exact wro_k a (by decide)
    · obtain ⟨r3, a, b⟩ := sw_b1_e h
      split at b
      · rw [l41_m b]
      · obtain ⟨m6, c, d⟩ := sw_b1_e b
        rw [l41_m d]
        exact wro_k c (by decide)
  · have e : τ = τ' := congrArg (fun x : Int32 × sw_M => x.2) (Option.some.inj h)
    rw [e]
theorem p_key' {k : Nat} (hk : k < 19) (h : pz B n Q σ0 τ0 σ τ p) : (∃ σ' τ', fX5_readKey σ (nI k) = some (1, σ') ∧ fX10_want τ (lN (krN k)) = some τ' ∧ pz B n Q σ0 τ0 σ' τ' (nx B n p) ∧ cfr σ σ' ∧ efr τ τ' ∧ teT B n p = 2) ∨ (∃ σ' τ', fX5_readKey σ (nI k) = some (0, σ') ∧ fX10_want τ (lN (krN k)) = some τ' ∧ pq Q σ0 τ0 σ' τ' ∧ ∀ k, 3 < k → τ'.1 49 k = τ.1 49 k) := by
  have h0 : τ.1 49 2 = 0 := h.2.1.2.2.2.1
  have z : (0 : Int32) ≤ 0 := by decide
  unfold fX5_readKey fX10_want
  rw [h0, if_pos z]
  rcases p_word hk h with ⟨a, b, c⟩ | ⟨a, b⟩
  · obtain ⟨σ', τ', e1, e2, e3, e4, e5⟩ := p_next h (by omega)
    rw [if_pos a, e1, b1_s, b, if_neg i10, e2, b1_s]
    exact .inl ⟨σ', τ', rfl, rfl, e3, e4, e5, c⟩
  · obtain ⟨σ', τ', e1, e2, e3⟩ := p_fail (w := 2) (by decide) h
    rw [if_neg a, e1, b2_s, sw_gd_t bo0, b, if_pos rfl, e2, b1_s]
    exact .inr ⟨σ', τ', rfl, rfl, e3, fun k hk => wro_k e2 hk⟩
/-- one of a rule's kinds -/
theorem p_rk {I : Int32} {i : Nat} (hI : I = nI i) (hi : i < 24) (hK : K ≤ 5) (hP : sw_isP Q) (hQ : sw_pl (σ.2.2 1) = Q) (h1 : σ.1 Q 0 = nI K) (h2 : τ.1 49 33 = nI K) (hn : nmR σ τ (Q + 1) 0 K) (h : pz B n Q σ0 τ0 σ τ p) :
    (∃ k σ' τ', k < K ∧ fX5_readKnownKind σ = some (nI k, σ') ∧ cfr σ σ' ∧ pz B n Q σ0 τ0 σ' τ' (nx B n p) ∧ rfr τ τ' ∧ τ'.1 61 i = nI k ∧ (∀ j, j ≠ i → τ'.1 61 j = τ.1 61 j) ∧ ∀ cont : sw_M → Option sw_M, (sw_b2 (fX10_oldKind τ) fun r m => sw_gd (sw_in I 24) <| sw_let (sw_w m 61 I.toNatClampNeg r) fun m7 => if m7.1 49 2 = 0 then sw_b1 (fX10_token m7) fun m10 => cont m10 else cont m7) = cont τ') ∨
    (∃ σ' τ', fX5_readKnownKind σ = some (-1, σ') ∧ pq Q σ0 τ0 σ' τ' ∧ τ'.1 49 36 = τ.1 49 36 ∧ ∀ cont : sw_M → Option sw_M, (sw_b2 (fX10_oldKind τ) fun r m => sw_gd (sw_in I 24) <| sw_let (sw_w m 61 I.toNatClampNeg r) fun m7 => if m7.1 49 2 = 0 then sw_b1 (fX10_token m7) fun m10 => cont m10 else cont m7) = cont τ') := by
  subst hI
  unfold fX5_readKnownKind
  rcases p_kind hK hP hQ h1 h2 hn h with ⟨k, k1, k2, k3, k4⟩ | ⟨σ', τ', k1, k2, k3⟩
  · have hz := pz_et (a := 61) (k := i) (x := nI k) (.inr (.inr (.inr (.inr (.inr rfl))))) h
    obtain ⟨σ', τ', e1, e2, e3, e4, e5⟩ := p_next hz (by omega)
    have h0 : (sw_w τ 61 i (nI k)).1 49 2 = 0 := hz.2.1.2.2.2.1
    refine .inl ⟨k, σ', τ', k1, ?_, e4, e3, rfr_w.tr (rfr_e e5), ?_, fun j hj => ?_, fun cont => ?_⟩
    · rw [k2, b2_s, if_neg (nI_nm (by omega)), e1, b1_s]
    · rw [e5.2.1 61 (by decide), w_at, upd_e]
    · rw [e5.2.1 61 (by decide), w_at, upd_n hj]
    · rw [k3, b2_s, sw_gd_t (in_t hi (by decide)), let_s, nI_clamp (by omega), h0, if_pos rfl, e2, b1_s]
  · refine .inr ⟨σ', sw_w τ' 61 i 0, ?_, pq_et (.inr (.inr (.inr (.inr (.inr rfl))))) k3, ?_, fun cont => ?_⟩
    · rw [k1, b2_s, if_pos rfl]
    · rw [m_wne (by decide)]
      exact old_36 k2
    · have h0 : ¬ (sw_w τ' 61 i 0).1 49 2 = 0 := by
        rw [m_wne (by decide)]
        exact f_nz k3.2.2.1
      rw [k2, b2_s, sw_gd_t (in_t hi (by decide)), let_s, nI_clamp (by omega), if_neg h0]
/-- behind a fault a rule's line goes on for nothing -/
theorem f_93 (h : pq Q σ0 τ0 σ τ) (hR : τ.1 49 36 = nI R) (hR6 : R < 6) : ∃ τ', fX10_readRule_L93 τ = some τ' ∧ pq Q σ0 τ0 σ τ' := by
  refine ⟨sw_w τ 61 (4 * R + 3) 0, ?_, pq_et (.inr (.inr (.inr (.inr (.inr rfl))))) h⟩
  have h0 : ¬ (sw_w τ 61 (4 * R + 3) 0).1 49 2 = 0 := by
    rw [m_wne (by decide)]
    exact f_nz h.2.2.1
  rw [fX10_readRule_L93, f_told h.2.2.1, b2_s, hR, i4, i4_3, sw_gd_t (in_t (show 4 * R + 3 < 24 by omega) (by decide)), let_s, nI_clamp (by omega), if_neg h0]
theorem f_58 (h : pq Q σ0 τ0 σ τ) (hR : τ.1 49 36 = nI R) (hR6 : R < 6) : ∃ τ', fX10_readRule_L58 τ = some τ' ∧ pq Q σ0 τ0 σ τ' := by
  have hq := pq_et (a := 61) (k := 4 * R + 2) (x := 0) (.inr (.inr (.inr (.inr (.inr rfl))))) h
  obtain ⟨τ', e1, e2⟩ := f_93 (R := R) hq (by rw [m_wne (by decide)]; exact hR) hR6
  refine ⟨τ', ?_, e2⟩
  rw [fX10_readRule_L58, f_want h.2.2.1, b1_s, f_old h.2.2.1, b2_s, hR, i4, i4_2, sw_gd_t (in_t (show 4 * R + 2 < 24 by omega) (by decide)), let_s, nI_clamp (by omega), if_neg (f_nz hq.2.2.1), e1]
theorem f_30 (h : pq Q σ0 τ0 σ τ) (hR : τ.1 49 36 = nI R) (hR6 : R < 6) : ∃ τ', fX10_readRule_L30 τ = some τ' ∧ pq Q σ0 τ0 σ τ' := by
  have hq := pq_et (a := 61) (k := 4 * R + 1) (x := 0) (.inr (.inr (.inr (.inr (.inr rfl))))) h
  obtain ⟨τ', e1, e2⟩ := f_58 (R := R) hq (by rw [m_wne (by decide)]; exact hR) hR6
  refine ⟨τ', ?_, e2⟩
  rw [fX10_readRule_L30, f_old h.2.2.1, b2_s, hR, i4, i4_1, sw_gd_t (in_t (show 4 * R + 1 < 24 by omega) (by decide)), let_s, nI_clamp (by omega), if_neg (f_nz hq.2.2.1), e1]
theorem l_rule (hP : sw_isP Q) (hQ : sw_pl (σ.2.2 1) = Q) (h : pz B n Q σ0 τ0 σ τ p) (hd : dR Q σ τ K N R Bn) (hf : fR Q σ τ) (hT : teT B n p = 2) (hR6 : R < 6) : lo B n Q σ0 τ0 p (fX5_readRule σ) (sw_b1 (fX10_readRule τ) fun m3 => fX10_readLine_L210 m3) := by
  obtain ⟨⟨k1, k2, k3⟩, ⟨n1, n2, n3⟩, ⟨r1, r2, r3⟩, ⟨b1, b2, b3⟩, d5, d6, d7, d8, d9, d10, d11, d12, d13, ⟨u1, u2, u3⟩, ⟨l1, l2⟩⟩ := hd
  have c6 : nI R < 6 := nI_lt (b := 6) hR6 (by decide)
  obtain ⟨σ1, τ1, s1, s2, s3, s4, s5⟩ := p_next h (by omega)
  have p1 := (nx_pos (B := B) h.1.2.1).1
  have t1 := rfr_e s5
  -- what is kept on the way
  have kp : ∀ σ2 τ2, cfr σ σ2 → rfr τ τ2 → sw_pl (σ2.2.2 1) = Q ∧ σ2.1 Q 0 = nI K ∧ τ2.1 49 33 = nI K ∧ nmR σ2 τ2 (Q + 1) 0 K ∧ τ2.1 49 36 = nI R := fun σ2 τ2 a b => ⟨by rw [a.1]; exact hQ, by rw [a.2.1 Q (isP2' hP)]; exact k1, by rw [b.2.1 33 (by decide)]; exact k2, nmR_cg d9 (fun j _ => ⟨by rw [a.2.2 _ (isP2 hP)], by rw [b.2.2]⟩), by rw [b.2.1 36 (by decide)]; exact r2⟩
  obtain ⟨x1, x2, x3, x4, x5⟩ := kp σ1 τ1 s4 t1
  have ref : (sw_b1 (fX10_readRule τ) fun m3 => fX10_readLine_L210 m3) = sw_b1 (sw_b2 (fX10_oldKind τ1) fun r m => sw_gd (sw_in (nI (4 * R)) 24) <| sw_let (sw_w m 61 (nI (4 * R)).toNatClampNeg r) fun m7 => if m7.1 49 2 = 0 then sw_b1 (fX10_token m7) fun m10 => fX10_readRule_L30 m10 else fX10_readRule_L30 m7) fun m3 => fX10_readLine_L210 m3 := by
    rw [fX10_readRule, s2, b1_s, x5, i4]
  unfold fX5_readRule
  rw [ref, hQ, r1, if_pos c6, s1, b1_s]
  rcases p_rk (I := nI (4 * R)) (i := 4 * R) rfl (by omega) k3 hP x1 x2 x3 x4 s3 with ⟨ka, σ2, τ2, a1, a2, a3, a4, a5, a6, a7, a8⟩ | ⟨σ2, τ2, a2, a4, a5, a8⟩
  rotate_left
  · obtain ⟨τ3, g1, g2⟩ := f_30 (R := R) a4 (by rw [a5]; exact x5) hR6
    rw [a8, a2, b2_s, if_pos rfl, g1, b1_s]
    exact l_no g2
  have cf2 := s4.tr a3
  have t2 := t1.tr a5
  have p2 := (nx_pos (B := B) s3.1.2.1).1
  obtain ⟨x1, x2, x3, x4, x5⟩ := kp σ2 τ2 cf2 t2
  rw [a8, a2, b2_s, if_neg (nI_nm (by omega))]
  have ref : fX10_readRule_L30 τ2 = sw_b2 (fX10_oldKind τ2) fun r m => sw_gd (sw_in (nI (4 * R + 1)) 24) <| sw_let (sw_w m 61 (nI (4 * R + 1)).toNatClampNeg r) fun m7 => if m7.1 49 2 = 0 then sw_b1 (fX10_token m7) fun m10 => fX10_readRule_L58 m10 else fX10_readRule_L58 m7 := by
    rw [fX10_readRule_L30, x5, i4, i4_1]
  rw [ref]
  rcases p_rk (I := nI (4 * R + 1)) (i := 4 * R + 1) rfl (by omega) k3 hP x1 x2 x3 x4 a4 with ⟨kb, σ3, τ3, b1', b2', b3', b4', b5', b6', b7', b8'⟩ | ⟨σ3, τ3, b2', b4', b5', b8'⟩
  rotate_left
  · obtain ⟨τ4, g1, g2⟩ := f_58 (R := R) b4' (by rw [b5']; exact x5) hR6
    rw [b8', b2', b2_s, if_pos rfl, g1, b1_s]
    exact l_no g2
  have cf3 := cf2.tr b3'
  have t3 := t2.tr b5'
  have p3 := (nx_pos (B := B) a4.1.2.1).1
  rw [b8', b2', b2_s, if_neg (nI_nm (by omega))]
  -- into
  rcases p_key' (k := 8) (by decide) b4' with ⟨σ4, τ4, c1, c2, c3, c4, c5, c6'⟩ | ⟨σ4, τ4, c1, c2, c3, c36⟩
  rotate_left
  · have c1' : fX5_readKey σ3 8 = some (0, σ4) := c1
    have c2' : fX10_want τ3 1768846447 = some τ4 := c2
    have hq := pq_et (a := 61) (k := 4 * R + 2) (x := 0) (.inr (.inr (.inr (.inr (.inr rfl))))) c3
    have x36 : τ4.1 49 36 = nI R := by
      rw [c36 36 (by decide)]
      exact (kp σ3 τ3 cf3 t3).2.2.2.2
    obtain ⟨τ5, g1, g2⟩ := f_93 (R := R) hq (by rw [m_wne (by decide)]; exact x36) hR6
    rw [c1', b2_s, if_pos rfl, fX10_readRule_L58, c2', b1_s, f_old c3.2.2.1, b2_s, x36, i4, i4_2, sw_gd_t (in_t (show 4 * R + 2 < 24 by omega) (by decide)), let_s, nI_clamp (by omega), if_neg (f_nz hq.2.2.1), g1, b1_s]
    exact l_no g2
  have c1' : fX5_readKey σ3 8 = some (1, σ4) := c1
  have c2' : fX10_want τ3 1768846447 = some τ4 := c2
  have cf4 := cf3.tr c4
  have t4 := t3.tr (rfr_e c5)
  have p4 := (nx_pos (B := B) b4'.1.2.1).1
  obtain ⟨x1, x2, x3, x4, x5⟩ := kp σ4 τ4 cf4 t4
  have ref : fX10_readRule_L58 τ3 = sw_b2 (fX10_oldKind τ4) fun r m => sw_gd (sw_in (nI (4 * R + 2)) 24) <| sw_let (sw_w m 61 (nI (4 * R + 2)).toNatClampNeg r) fun m7 => if m7.1 49 2 = 0 then sw_b1 (fX10_token m7) fun m10 => fX10_readRule_L93 m10 else fX10_readRule_L93 m7 := by
    rw [fX10_readRule_L58, c2', b1_s, x5, i4, i4_2]
  rw [c1', b2_s, if_neg i10, ref]
  rcases p_rk (I := nI (4 * R + 2)) (i := 4 * R + 2) rfl (by omega) k3 hP x1 x2 x3 x4 c3 with ⟨kc, σ5, τ5, e1, e2, e3, e4, e5, e6, e7, e8⟩ | ⟨σ5, τ5, e2, e4, e5, e8⟩
  rotate_left
  · obtain ⟨τ6, g1, g2⟩ := f_93 (R := R) e4 (by rw [e5]; exact x5) hR6
    rw [e8, e2, b2_s, if_pos rfl, g1, b1_s]
    exact l_no g2
  have cf5 := cf4.tr e3
  have t5 := t4.tr e5
  have p5 := (nx_pos (B := B) c3.1.2.1).1
  obtain ⟨x1, x2, x3, x4, x5⟩ := kp σ5 τ5 cf5 t5
  rw [e8, e2, b2_s, if_neg (nI_nm (by omega)), fX10_readRule_L93]
  rcases p_num (lo := 1) (hi := 9) (by decide) (by decide) e4 with ⟨v, σ6, τ6, v1, v2, w1, w2, w3, w4, w5⟩ | ⟨x, σ6, τ6, w1, w2, w3⟩
  rotate_left
  · have w1' : fX5_readNumber σ5 1 9 = some (-1, σ6) := w1
    have w2' : fX10_toldNumber τ5 1 9 = some (x, τ6) := w2
    have hq := pq_et (a := 61) (k := 4 * R + 3) (x := x) (.inr (.inr (.inr (.inr (.inr rfl))))) w3
    rw [w1', b2_s, if_pos rfl, w2', b2_s, x5, i4, i4_3, sw_gd_t (in_t (show 4 * R + 3 < 24 by omega) (by decide)), let_s, nI_clamp (by omega), if_neg (f_nz hq.2.2.1), b1_s]
    exact l_no hq
  have w1' : fX5_readNumber σ5 1 9 = some (nI v, σ6) := w1
  have w2' : fX10_toldNumber τ5 1 9 = some (nI v, τ6) := w2
  have cf6 := cf5.tr w4
  have t6 := t5.tr (rfr_e w5)
  have p6 := (nx_pos (B := B) e4.1.2.1).1
  obtain ⟨y1, y2, y3, y4, y5⟩ := kp σ6 τ6 cf6 t6
  have g2 : σ6.1 Q 2 = nI R := by rw [cf6.2.1 Q (isP2' hP)]; exact r1
  -- the class writes it down
  obtain ⟨σ7, hσ7⟩ : ∃ σ7, σ7 = sw_w (sw_w (sw_w (sw_w (sw_w σ6 (Q + 6) (4 * R) (nI ka)) (Q + 6) (4 * R + 1) (nI kb)) (Q + 6) (4 * R + 2) (nI kc)) (Q + 6) (4 * R + 3) (nI v)) Q 2 (nI (R + 1)) := ⟨_, rfl⟩
  have hadd : fX4_addRule Q σ6 (nI ka) (nI kb) (nI kc) (nI v) = some σ7 := by
    have g2' : (sw_w (sw_w (sw_w (sw_w σ6 (Q + 6) (4 * R) (nI ka)) (Q + 6) (4 * R + 1) (nI kb)) (Q + 6) (4 * R + 2) (nI kc)) (Q + 6) (4 * R + 3) (nI v)).1 Q 2 = nI R := by
      rw [m_wne (by omega), m_wne (by omega), m_wne (by omega), m_wne (by omega)]; exact g2
    rw [fX4_addRule, g2, if_pos c6, i4', let_s, sw_gd_t (in_t (show 4 * R < 24 by omega) (by decide)), nI_clamp (by omega), let_s, i4_1, sw_gd_t (in_t (show 4 * R + 1 < 24 by omega) (by decide)), nI_clamp (by omega), let_s, i4_2, sw_gd_t (in_t (show 4 * R + 2 < 24 by omega) (by decide)), nI_clamp (by omega), let_s, i4_3, sw_gd_t (in_t (show 4 * R + 3 < 24 by omega) (by decide)), nI_clamp (by omega), let_s, g2', nI_1, let_s, hσ7]
  have h36 : (sw_w τ6 61 (4 * R + 3) (nI v)).1 49 36 = nI R := by rw [m_wne (by decide)]; exact y5
  have h02 : (sw_w τ6 61 (4 * R + 3) (nI v)).1 49 2 = 0 := by rw [m_wne (by decide)]; exact w3.2.1.2.2.2.1
  rw [w1', b2_s, if_neg (nI_nm (by omega)), y1, hadd, b1_s, w2', b2_s, x5, i4, i4_3, sw_gd_t (in_t (show 4 * R + 3 < 24 by omega) (by decide)), let_s, nI_clamp (by omega), h02, if_pos rfl, h36, nI_1, let_s, b1_s]
  have pz7 : pz B n Q σ0 τ0 σ7 (sw_w (sw_w τ6 61 (4 * R + 3) (nI v)) 49 36 (nI (R + 1))) (nx B n (nx B n (nx B n (nx B n (nx B n (nx B n p)))))) := by
    rw [hσ7]
    exact pz_cw hP (by omega) (pz_cw hP (by omega) (pz_cw hP (by omega) (pz_cw hP (by omega) (pz_cw hP (by omega) (pz_ew (by decide) (by decide) (pz_et (.inr (.inr (.inr (.inr (.inr rfl))))) w3))))))
  have frQ : ∀ k, k ≠ 2 → σ7.1 Q k = σ.1 Q k := fun k hk => by
    rw [hσ7, w_at, upd_n hk, m_wne (by omega), m_wne (by omega), m_wne (by omega), m_wne (by omega), cf6.2.1 Q (isP2' hP)]
  have frC : ∀ k, 1 ≤ k → k ≠ 6 → σ7.1 (Q + k) = σ.1 (Q + k) := fun k hk hk6 => by
    rw [hσ7, m_wne (by omega), m_wne (by omega), m_wne (by omega), m_wne (by omega), m_wne (by omega), cf6.2.1 _ (isP2 hP)]
  have frL : ∀ k, 1 ≤ k → σ7.2.1 (Q + k) = σ.2.1 (Q + k) := fun k hk => by
    rw [hσ7]
    show σ6.2.1 (Q + k) = _
    rw [cf6.2.2 _ (isP2 hP)]
  have fr49 : ∀ k, 8 < k → k ≠ 36 → (sw_w (sw_w τ6 61 (4 * R + 3) (nI v)) 49 36 (nI (R + 1))).1 49 k = τ.1 49 k := fun k hk hk2 => by
    rw [w_at, upd_n hk2, m_wne (by decide)]; exact t6.2.1 k hk
  have frT : ∀ a, a ≠ 49 → a ≠ 61 → (sw_w (sw_w τ6 61 (4 * R + 3) (nI v)) 49 36 (nI (R + 1))).1 a = τ.1 a := fun a ha ha2 => by
    rw [m_wne ha, m_wne ha2]; exact t6.1 a ha ha2
  have fr51 : (sw_w (sw_w τ6 61 (4 * R + 3) (nI v)) 49 36 (nI (R + 1))).2.1 51 = τ.2.1 51 := t6.2.2
  -- the rules' rows
  have e61 : ∀ j, j ≠ 4 * R + 3 → (sw_w (sw_w τ6 61 (4 * R + 3) (nI v)) 49 36 (nI (R + 1))).1 61 j = τ5.1 61 j := fun j hj => by
    rw [m_wne (by decide), w_at, upd_n hj, w5.2.1 61 (by decide)]
  have c61 : ∀ j, (σ7.1 (Q + 6)) j = upd (upd (upd (upd (σ.1 (Q + 6)) (4 * R) (nI ka)) (4 * R + 1) (nI kb)) (4 * R + 2) (nI kc)) (4 * R + 3) (nI v) j := fun j => by
    rw [hσ7, m_wne (by omega), w_at, w_at, w_at, w_at, cf6.2.1 _ (isP2 hP)]
  have o0 : ∀ r c, r < R → c < 4 → σ7.1 (Q + 6) (4 * r + c) = σ.1 (Q + 6) (4 * r + c) := fun r c hr hc => by
    rw [c61, upd_n (by omega), upd_n (by omega), upd_n (by omega), upd_n (by omega)]
  have v0 : σ7.1 (Q + 6) (4 * R) = nI ka := by rw [c61, upd_n (by omega), upd_n (by omega), upd_n (by omega), upd_e]
  have v1' : σ7.1 (Q + 6) (4 * R + 1) = nI kb := by rw [c61, upd_n (by omega), upd_n (by omega), upd_e]
  have v2' : σ7.1 (Q + 6) (4 * R + 2) = nI kc := by rw [c61, upd_n (by omega), upd_e]
  have v3' : σ7.1 (Q + 6) (4 * R + 3) = nI v := by rw [c61, upd_e]
  have z5 : ∀ j, j ≠ 4 * R → j ≠ 4 * R + 1 → j ≠ 4 * R + 2 → τ5.1 61 j = τ.1 61 j := fun j j0 j1 j2 => by
    rw [e7 j j2, c5.2.1 61 (by decide), b7' j j1, a7 j j0, s5.2.1 61 (by decide)]
  refine l_end (K := K) (N := N) (R := R + 1) (Bn := Bn) hP pz7 (by omega) ?_ ?_
  · refine ⟨⟨?_, ?_, k3⟩, ⟨?_, ?_, n3⟩, ⟨?_, ?_, by omega⟩, ⟨?_, ?_, b3⟩, ?_, ?_, ?_, ?_, ?_, ?_, ?_, ?_, ?_, ⟨fun r c hr hc => ?_, fun r hr c hc => ?_, fun r hr => ?_⟩, ?_⟩
    · rw [frQ 0 (by decide)]; exact k1
    · rw [fr49 33 (by decide) (by decide)]; exact k2
    · rw [frQ 1 (by decide)]; exact n1
    · rw [fr49 34 (by decide) (by decide)]; exact n2
    · rw [hσ7, w_at, upd_e]
    · rw [w_at, upd_e]
    · rw [frQ 3 (by decide)]; exact b1
    · rw [fr49 35 (by decide) (by decide)]; exact b2
    · rw [frQ 4 (by decide), fr49 38 (by decide) (by decide)]; exact d5
    · rw [frQ 5 (by decide), fr49 39 (by decide) (by decide)]; exact d6
    · rw [frQ 6 (by decide), fr49 46 (by decide) (by decide)]; exact d7
    · rw [frQ 7 (by decide), fr49 47 (by decide) (by decide)]; exact d8
    · exact nmR_cg d9 (fun j hj => ⟨congrFun (frL 1 (by decide)) j, congrFun fr51 _⟩)
    · exact nmR_cg d10 (fun j hj => ⟨congrFun (frL 2 (by decide)) j, congrFun fr51 _⟩)
    · exact nmR_cg d11 (fun j hj => ⟨congrFun (frL 3 (by decide)) j, congrFun fr51 _⟩)
    · rw [frC 4 (by decide) (by decide), frT 59 (by decide) (by decide)]; exact d12
    · rw [frC 5 (by decide) (by decide), frT 60 (by decide) (by decide)]; exact d13
    · by_cases e : r = R
      · subst e
        rcases (show c = 0 ∨ c = 1 ∨ c = 2 ∨ c = 3 by omega) with rfl | rfl | rfl | rfl
        · rw [show 4 * r + 0 = 4 * r from rfl, v0, e61 _ (by omega), e7 _ (by omega), c5.2.1 61 (by decide), b7' _ (by omega), a6]
        · rw [v1', e61 _ (by omega), e7 _ (by omega), c5.2.1 61 (by decide), b6']
        · rw [v2', e61 _ (by omega), e6]
        · rw [v3', m_wne (by decide), w_at, upd_e]
      · rw [o0 r c (by omega) hc, e61 _ (by omega), z5 _ (by omega) (by omega) (by omega)]
        exact u1 r c (by omega) hc
    · by_cases e : r = R
      · subst e
        rcases (show c = 0 ∨ c = 1 ∨ c = 2 by omega) with rfl | rfl | rfl
        · exact ⟨ka, a1, v0⟩
        · exact ⟨kb, b1', v1'⟩
        · exact ⟨kc, e1, v2'⟩
      · rw [o0 r c (by omega) (by omega)]
        exact u2 r (by omega) c hc
    · by_cases e : r = R
      · subst e
        exact ⟨v, v2, v3'⟩
      · rw [o0 r 3 (by omega) (by decide)]
        exact u3 r (by omega)
    · refine ⟨?_, fun hN => ?_⟩
      · rw [frQ 8 (by decide), fr49 37 (by decide) (by decide)]; exact l1
      · rw [frQ 8 (by decide), frC 4 (by decide) (by decide)]; exact l2 hN
  · exact fR_cg hf (frC 7 (by decide) (by decide)) (frC 8 (by decide) (by decide)) (frT 52 (by decide) (by decide)) (frT 53 (by decide) (by decide)) (fr49 17 (by decide) (by decide)) (fr49 20 (by decide) (by decide)) (fr49 24 (by decide) (by decide))
end PF
