/-! the lines: kind, rule, scum, draw -/
def lo (B : Nat → Nat) (n Q : Nat) (σ0 τ0 : sw_M) (p : Nat) (c : Option (Int32 × sw_M)) (e : Option sw_M) : Prop :=
  (∃ σ' τ' p' K N R Bn, c = some (1, σ') ∧ e = some τ' ∧ pz B n Q σ0 τ0 σ' τ' p' ∧ p < p' ∧ dR Q σ' τ' K N R Bn ∧ fR Q σ' τ') ∨ (∃ σ' τ', c = some (0, σ') ∧ e = some τ' ∧ pq Q σ0 τ0 σ' τ')
section PE
variable {σ τ σ0 τ0 σ' τ' : sw_M} {B : Nat → Nat} {n p Q K N R Bn : Nat}
theorem ok_up {ρ : Nat → Int32} {K K' R : Nat} (h : ok_ρ ρ K R) (hK : K ≤ K') : ok_ρ ρ K' R := fun r hr c hc => by
  obtain ⟨j, j1, j2⟩ := h r hr c hc
  exact ⟨j, by omega, j2⟩
/-- behind all that a line tells: its end -/
theorem l_end {q : Nat} (hP : sw_isP Q) (h : pz B n Q σ0 τ0 σ τ q) (hq : p ≤ q) (hd : dR Q σ τ K N R Bn) (hf : fR Q σ τ) : lo B n Q σ0 τ0 p (sw_b2 (fX5_readSign σ 59) fun r m => sw_gd (sw_bo r) (some (r, m))) (fX10_readLine_L210 τ) := by
  rcases p_semi h with ⟨σ', τ', e1, e2, e3, e4, e5, e6⟩ | ⟨σ', τ', e1, e2, e3⟩
  · rw [e1, b2_s, sw_gd_t bo1, e2]
    have := (nx_pos (B := B) h.1.2.1).2.2 (by omega)
    exact .inl ⟨σ', τ', _, K, N, R, Bn, rfl, rfl, e3, by omega, dR_fr hP hd e4 e5, fR_fr hP hf e4 e5⟩
  · rw [e1, b2_s, sw_gd_t bo0, e2]
    exact .inr ⟨σ', τ', rfl, rfl, e3⟩
theorem l_no (h : pq Q σ0 τ0 σ τ) : lo B n Q σ0 τ0 p (some (0, σ)) (fX10_readLine_L210 τ) := by
  rw [f_210 h.2.2.1]
  exact .inr ⟨σ, τ, rfl, rfl, h⟩
theorem l_kind (hP : sw_isP Q) (hQ : sw_pl (σ.2.2 1) = Q) (h : pz B n Q σ0 τ0 σ τ p) (hd : dR Q σ τ K N R Bn) (hf : fR Q σ τ) (hT : teT B n p = 2) (hK5 : K < 5) : lo B n Q σ0 τ0 p (fX5_readKind σ) (sw_b1 (fX10_readKind τ) fun m3 => fX10_readLine_L210 m3) := by
  obtain ⟨⟨k1, k2, k3⟩, ⟨n1, n2, n3⟩, ⟨r1, r2, r3⟩, ⟨b1, b2, b3⟩, d5, d6, d7, d8, d9, d10, d11, d12, d13, ⟨u1, u2, u3⟩, ⟨l1, l2⟩⟩ := hd
  have hs : (sw_s (Q + 1)).2 = 5 := by rcases hP with rfl | rfl <;> rfl
  obtain ⟨σ1, s1, s2, hor⟩ := p_newn (A := Q + 1) (o := 0) (c := K) (.inl rfl) hP d9 hs (by decide) hK5 (by omega) h (by omega)
  have c5 : nI K < 5 := nI_lt (b := 5) hK5 (by decide)
  have q1 : sw_pl (σ1.2.2 1) = Q := by rw [s2.1]; exact hQ
  have g0 : σ1.1 Q 0 = nI K := by rw [s2.2.1 Q (isP2' hP)]; exact k1
  unfold fX5_readKind fX10_readKind
  rw [hQ, k1, if_pos c5, s1, b1_s, q1, g0, k2]
  rcases hor with ⟨σ', τ', p', e1, e2, e3, e4, e5, e6, e7, e8, e9, e10, e11⟩ | ⟨σ', τ', e1, e2, e3, _⟩
  · have q2 : sw_pl (σ'.2.2 1) = Q := by rw [e5]; exact hQ
    have g1 : σ'.1 Q 0 = nI K := by rw [e6 Q (isP2' hP)]; exact k1
    have h0 : τ'.1 49 2 = 0 := e3.2.1.2.2.2.1
    have g2 : τ'.1 49 33 = nI K := by rw [e9 33 (by decide)]; exact k2
    have e2' : fX10_newName τ 0 (nI K) = some τ' := e2
    rw [e1, b2_s, if_neg i10, q2, g1, nI_1, let_s, e2', b1_s, h0, if_pos rfl, g2, nI_1, let_s, b1_s]
    have fr49 : ∀ k, 8 < k → k ≠ 33 → (sw_w τ' 49 33 (nI (K + 1))).1 49 k = τ.1 49 k := fun k hk hk2 => by
      show upd (τ'.1 49) 33 _ k = _
      rw [upd_n hk2]; exact e9 k hk
    have frQ : ∀ k, k ≠ 0 → (sw_w σ' Q 0 (nI (K + 1))).1 Q k = σ.1 Q k := fun k hk => by
      show (sw_wA σ' Q _).1 Q k = _
      rw [m_eq, upd_n hk, e6 Q (isP2' hP)]
    have frC : ∀ k, 1 ≤ k → (sw_w σ' Q 0 (nI (K + 1))).1 (Q + k) = σ.1 (Q + k) := fun k hk => by
      rw [m_wne (by omega)]; exact e6 _ (isP2 hP)
    have frT : ∀ a, a ≠ 49 → (sw_w τ' 49 33 (nI (K + 1))).1 a = τ.1 a := fun a ha => by
      rw [m_wne ha]; exact e8 a ha
    have n51 : (sw_w τ' 49 33 (nI (K + 1))).2.1 51 = τ'.2.1 51 := rfl
    refine l_end (K := K + 1) (N := N) (R := R) (Bn := Bn) hP (pz_cw hP (by omega) (pz_ew (by decide) (by decide) e3)) e4 ?_ ?_
    · refine ⟨⟨?_, ?_, by omega⟩, ⟨?_, ?_, n3⟩, ⟨?_, ?_, r3⟩, ⟨?_, ?_, b3⟩, ?_, ?_, ?_, ?_, ?_, ?_, ?_, ?_, ?_, ?_, ?_⟩
      · show (sw_wA σ' Q _).1 Q 0 = _
        rw [m_eq, upd_e]
      · rw [w_at, upd_e]
      · rw [frQ 1 (by decide)]; exact n1
      · rw [fr49 34 (by decide) (by decide)]; exact n2
      · rw [frQ 2 (by decide)]; exact r1
      · rw [fr49 36 (by decide) (by decide)]; exact r2
      · rw [frQ 3 (by decide)]; exact b1
      · rw [fr49 35 (by decide) (by decide)]; exact b2
      · rw [frQ 4 (by decide), fr49 38 (by decide) (by decide)]; exact d5
      · rw [frQ 5 (by decide), fr49 39 (by decide) (by decide)]; exact d6
      · rw [frQ 6 (by decide), fr49 46 (by decide) (by decide)]; exact d7
      · rw [frQ 7 (by decide), fr49 47 (by decide) (by decide)]; exact d8
      · exact e11
      · exact nmR_cg d10 (fun j hj => ⟨congrFun (e7 _ (isP2 hP) (by omega)) j, e10 _ (by omega)⟩)
      · exact nmR_cg d11 (fun j hj => ⟨congrFun (e7 _ (isP2 hP) (by omega)) j, e10 _ (by omega)⟩)
      · rw [frC 4 (by decide), frT 59 (by decide)]; exact d12
      · rw [frC 5 (by decide), frT 60 (by decide)]; exact d13
      · rw [frC 6 (by decide), frT 61 (by decide)]; exact ⟨u1, ok_up u2 (by omega), u3⟩
      · refine ⟨?_, fun hN => ?_⟩
        · rw [frQ 8 (by decide), fr49 37 (by decide) (by decide)]; exact l1
        · obtain ⟨lk, m, a1, a2, a3, a4, a5⟩ := l2 hN
          refine ⟨lk, m, by omega, ?_, a3, a4, ?_⟩
          · rw [frQ 8 (by decide)]; exact a2
          · rw [frC 4 (by decide)]; exact a5
    · exact fR_cg hf (frC 7 (by decide)) (frC 8 (by decide)) (frT 52 (by decide)) (frT 53 (by decide)) (fr49 17 (by decide) (by decide)) (fr49 20 (by decide) (by decide)) (fr49 24 (by decide) (by decide))
  · have e2' : fX10_newName τ 0 (nI K) = some τ' := e2
    rw [e1, b2_s, if_pos rfl, e2', b1_s, if_neg (f_nz e3.2.2.1), b1_s]
    exact l_no e3
/-- scum and draw, alike -/
theorem l_scum (hP : sw_isP Q) (hQ : sw_pl (σ.2.2 1) = Q) (h : pz B n Q σ0 τ0 σ τ p) (hd : dR Q σ τ K N R Bn) (hf : fR Q σ τ) (hT : σ.1 2 7 = nI 5) (h6 : σ.1 Q 6 = 0) : lo B n Q σ0 τ0 p (fX5_readScum σ) (sw_let (sw_w τ 49 46 1) fun m3 => sw_b2 (fX10_told m3 1935897965 0 100) fun r5 m6 => sw_let (sw_w m6 49 38 r5) fun m8 => fX10_readLine_L210 m8) := by
  have h2 := pz_ew (k := 46) (x := 1) (by decide) (by decide) h
  have e0 : fX10_isWord (sw_w τ 49 46 1) (lN (krN 5)) = 1 ∧ teT B n p = 2 := by
    rcases p_word (k := 5) (by decide) h2 with ⟨a, b, c⟩ | ⟨a, b⟩
    · exact ⟨b, c⟩
    · exact absurd hT a
  obtain ⟨σ1, τ1, s1, s2, s3, s4, s5⟩ := p_next h2 (by omega)
  have p1 := (nx_pos (B := B) h.1.2.1).1
  have z : (0 : Int32) ≤ 0 := by decide
  have h0 : (sw_w τ 49 46 1).1 49 2 = 0 := h2.2.1.2.2.2.1
  have hw : fX10_want (sw_w τ 49 46 1) 1935897965 = some τ1 := by
    have e0' : fX10_isWord (sw_w τ 49 46 1) 1935897965 = 1 := e0.1
    rw [fX10_want, h0, if_pos z, e0', if_neg i10, s2, b1_s]
  unfold fX5_readScum
  rw [hQ, h6, if_pos rfl, s1, b1_s, let_s, fX10_told, hw, b1_s]
  rcases p_num (lo := 0) (hi := 100) (by decide) (by decide) s3 with ⟨v, σ2, τ2, v1, v2, e1, e2, e3, e4, e5⟩ | ⟨x, σ2, τ2, e1, e2, e3⟩
  · have e1' : fX5_readNumber σ1 0 100 = some (nI v, σ2) := e1
    have e2' : fX10_toldNumber τ1 0 100 = some (nI v, τ2) := e2
    have q2 : sw_pl (σ2.2.2 1) = Q := by rw [e4.1, s4.1]; exact hQ
    have q3 : sw_pl ((sw_w σ2 Q 4 (nI v)).2.2 1) = Q := q2
    have p2 := (nx_pos (B := B) s3.1.2.1).1
    rw [e1', b2_s, if_neg (nI_nm (by omega)), q2, let_s, q3, let_s, e2', b2_s, b2_s, let_s]
    obtain ⟨⟨k1, k2, k3⟩, ⟨n1, n2, n3⟩, ⟨r1, r2, r3⟩, ⟨b1, b2, b3⟩, d5, d6, d7, d8, d9, d10, d11, d12, d13, d14, ⟨l1, l2⟩⟩ := hd
    have fQ : σ2.1 Q = σ.1 Q := by rw [e4.2.1 Q (isP2' hP), s4.2.1 Q (isP2' hP)]
    have frQ : ∀ k, k ≠ 4 → k ≠ 6 → (sw_w (sw_w σ2 Q 4 (nI v)) Q 6 1).1 Q k = σ.1 Q k := fun k hk hk2 => by
      rw [w_at, upd_n hk2, w_at, upd_n hk, fQ]
    have frC : ∀ k, 1 ≤ k → (sw_w (sw_w σ2 Q 4 (nI v)) Q 6 1).1 (Q + k) = σ.1 (Q + k) := fun k hk => by
      rw [m_wne (by omega), m_wne (by omega), e4.2.1 _ (isP2 hP)]; exact s4.2.1 _ (isP2 hP)
    have frL : ∀ k, 1 ≤ k → (sw_w (sw_w σ2 Q 4 (nI v)) Q 6 1).2.1 (Q + k) = σ.2.1 (Q + k) := fun k hk => by
      show σ2.2.1 (Q + k) = _
      rw [e4.2.2 _ (isP2 hP)]; exact s4.2.2 _ (isP2 hP)
    have fr49 : ∀ k, 8 < k → k ≠ 38 → k ≠ 46 → (sw_w τ2 49 38 (nI v)).1 49 k = τ.1 49 k := fun k hk hk2 hk3 => by
      show upd (τ2.1 49) 38 _ k = _
      rw [upd_n hk2, e5.2.2.2 k (by omega) (by omega) (by omega) (by omega), s5.2.2.2 k (by omega) (by omega) (by omega) (by omega)]
      show upd (τ.1 49) 46 1 k = _
      rw [upd_n hk3]
    have frT : ∀ a, a ≠ 49 → (sw_w τ2 49 38 (nI v)).1 a = τ.1 a := fun a ha => by
      rw [m_wne ha, e5.2.1 a ha, s5.2.1 a ha, m_wne ha]
    have fr51 : (sw_w τ2 49 38 (nI v)).2.1 51 = τ.2.1 51 := by
      show τ2.2.1 51 = _
      rw [e5.2.2.1 51 (by decide), s5.2.2.1 51 (by decide)]
      rfl
    have t46 : (sw_w τ2 49 38 (nI v)).1 49 46 = 1 := by
      rw [w_at, upd_n (by decide), e5.2.2.2 46 (by decide) (by decide) (by decide) (by decide), s5.2.2.2 46 (by decide) (by decide) (by decide) (by decide)]
      rfl
    refine l_end (K := K) (N := N) (R := R) (Bn := Bn) hP (pz_cw hP (by omega) (pz_cw hP (by omega) (pz_ew (by decide) (by decide) e3))) (by omega) ?_ ?_
    · refine ⟨⟨?_, ?_, k3⟩, ⟨?_, ?_, n3⟩, ⟨?_, ?_, r3⟩, ⟨?_, ?_, b3⟩, ⟨v, v2, ?_, ?_⟩, ?_, ?_, ?_, ?_, ?_, ?_, ?_, ?_, ?_, ?_⟩
      · rw [frQ 0 (by decide) (by decide)]; exact k1
      · rw [fr49 33 (by decide) (by decide) (by decide)]; exact k2
      · rw [frQ 1 (by decide) (by decide)]; exact n1
      · rw [fr49 34 (by decide) (by decide) (by decide)]; exact n2
      · rw [frQ 2 (by decide) (by decide)]; exact r1
      · rw [fr49 36 (by decide) (by decide) (by decide)]; exact r2
      · rw [frQ 3 (by decide) (by decide)]; exact b1
      · rw [fr49 35 (by decide) (by decide) (by decide)]; exact b2
      · rw [w_at, upd_n (by decide), w_at, upd_e]
      · rw [w_at, upd_e]
      · rw [frQ 5 (by decide) (by decide), fr49 39 (by decide) (by decide) (by decide)]; exact d6
      · rw [t46]
        rw [w_at, upd_e]
      · rw [frQ 7 (by decide) (by decide), fr49 47 (by decide) (by decide) (by decide)]; exact d8
      · exact nmR_cg d9 (fun j hj => ⟨congrFun (frL 1 (by decide)) j, congrFun fr51 _⟩)
      · exact nmR_cg d10 (fun j hj => ⟨congrFun (frL 2 (by decide)) j, congrFun fr51 _⟩)
      · exact nmR_cg d11 (fun j hj => ⟨congrFun (frL 3 (by decide)) j, congrFun fr51 _⟩)
      · rw [frC 4 (by decide), frT 59 (by decide)]; exact d12
      · rw [frC 5 (by decide), frT 60 (by decide)]; exact d13
      · rw [frC 6 (by decide), frT 61 (by decide)]; exact d14
      · refine ⟨?_, fun hN => ?_⟩
        · rw [frQ 8 (by decide) (by decide), fr49 37 (by decide) (by decide) (by decide)]; exact l1
        · rw [frQ 8 (by decide) (by decide), frC 4 (by decide)]; exact l2 hN
    · exact fR_cg hf (frC 7 (by decide)) (frC 8 (by decide)) (frT 52 (by decide)) (frT 53 (by decide)) (fr49 17 (by decide) (by decide) (by decide)) (fr49 20 (by decide) (by decide) (by decide)) (fr49 24 (by decide) (by decide) (by decide))
  · have e1' : fX5_readNumber σ1 0 100 = some (-1, σ2) := e1
    have e2' : fX10_toldNumber τ1 0 100 = some (x, τ2) := e2
    rw [e1', b2_s, if_pos rfl, e2', b2_s, b2_s, let_s]
    exact l_no (pq_ew (by decide) (by decide) e3)
theorem l_draw (hP : sw_isP Q) (hQ : sw_pl (σ.2.2 1) = Q) (h : pz B n Q σ0 τ0 σ τ p) (hd : dR Q σ τ K N R Bn) (hf : fR Q σ τ) (hT : σ.1 2 7 = nI 6) (h6 : σ.1 Q 7 = 0) : lo B n Q σ0 τ0 p (fX5_readDraw σ) (sw_let (sw_w τ 49 47 1) fun m3 => sw_b2 (fX10_told m3 1685217655 0 999) fun r5 m6 => sw_let (sw_w m6 49 39 r5) fun m8 => fX10_readLine_L210 m8) := by
  have h2 := pz_ew (k := 47) (x := 1) (by decide) (by decide) h
  have e0 : fX10_isWord (sw_w τ 49 47 1) (lN (krN 6)) = 1 ∧ teT B n p = 2 := by
    rcases p_word (k := 6) (by decide) h2 with ⟨a, b, c⟩ | ⟨a, b⟩
    · exact ⟨b, c⟩
    · exact absurd hT a
  obtain ⟨σ1, τ1, s1, s2, s3, s4, s5⟩ := p_next h2 (by omega)
  have p1 := (nx_pos (B := B) h.1.2.1).1
  have z : (0 : Int32) ≤ 0 := by decide
  have h0 : (sw_w τ 49 47 1).1 49 2 = 0 := h2.2.1.2.2.2.1
  have hw : fX10_want (sw_w τ 49 47 1) 1685217655 = some τ1 := by
    have e0' : fX10_isWord (sw_w τ 49 47 1) 1685217655 = 1 := e0.1
    rw [fX10_want, h0, if_pos z, e0', if_neg i10, s2, b1_s]
  unfold fX5_readDraw
  rw [hQ, h6, if_pos rfl, s1, b1_s, let_s, fX10_told, hw, b1_s]
  rcases p_num (lo := 0) (hi := 999) (by decide) (by decide) s3 with ⟨v, σ2, τ2, v1, v2, e1, e2, e3, e4, e5⟩ | ⟨x, σ2, τ2, e1, e2, e3⟩
  · have e1' : fX5_readNumber σ1 0 999 = some (nI v, σ2) := e1
    have e2' : fX10_toldNumber τ1 0 999 = some (nI v, τ2) := e2
    have q2 : sw_pl (σ2.2.2 1) = Q := by rw [e4.1, s4.1]; exact hQ
    have q3 : sw_pl ((sw_w σ2 Q 5 (nI v)).2.2 1) = Q := q2
    have p2 := (nx_pos (B := B) s3.1.2.1).1
    rw [e1', b2_s, if_neg (nI_nm (by omega)), q2, let_s, q3, let_s, e2', b2_s, b2_s, let_s]
    obtain ⟨⟨k1, k2, k3⟩, ⟨n1, n2, n3⟩, ⟨r1, r2, r3⟩, ⟨b1, b2, b3⟩, d5, d6, d7, d8, d9, d10, d11, d12, d13, d14, ⟨l1, l2⟩⟩ := hd
    have fQ : σ2.1 Q = σ.1 Q := by rw [e4.2.1 Q (isP2' hP), s4.2.1 Q (isP2' hP)]
    have frQ : ∀ k, k ≠ 5 → k ≠ 7 → (sw_w (sw_w σ2 Q 5 (nI v)) Q 7 1).1 Q k = σ.1 Q k := fun k hk hk2 => by
      rw [w_at, upd_n hk2, w_at, upd_n hk, fQ]
    have frC : ∀ k, 1 ≤ k → (sw_w (sw_w σ2 Q 5 (nI v)) Q 7 1).1 (Q + k) = σ.1 (Q + k) := fun k hk => by
      rw [m_wne (by omega), m_wne (by omega), e4.2.1 _ (isP2 hP)]; exact s4.2.1 _ (isP2 hP)
    have frL : ∀ k, 1 ≤ k → (sw_w (sw_w σ2 Q 5 (nI v)) Q 7 1).2.1 (Q + k) = σ.2.1 (Q + k) := fun k hk => by
      show σ2.2.1 (Q + k) = _
      rw [e4.2.2 _ (isP2 hP)]; exact s4.2.2 _ (isP2 hP)
    have fr49 : ∀ k, 8 < k → k ≠ 39 → k ≠ 47 → (sw_w τ2 49 39 (nI v)).1 49 k = τ.1 49 k := fun k hk hk2 hk3 => by
      show upd (τ2.1 49) 39 _ k = _
      rw [upd_n hk2, e5.2.2.2 k (by omega) (by omega) (by omega) (by omega), s5.2.2.2 k (by omega) (by omega) (by omega) (by omega)]
      show upd (τ.1 49) 47 1 k = _
      rw [upd_n hk3]
    have frT : ∀ a, a ≠ 49 → (sw_w τ2 49 39 (nI v)).1 a = τ.1 a := fun a ha => by
      rw [m_wne ha, e5.2.1 a ha, s5.2.1 a ha, m_wne ha]
    have fr51 : (sw_w τ2 49 39 (nI v)).2.1 51 = τ.2.1 51 := by
      show τ2.2.1 51 = _
      rw [e5.2.2.1 51 (by decide), s5.2.2.1 51 (by decide)]
      rfl
    have t46 : (sw_w τ2 49 39 (nI v)).1 49 47 = 1 := by
      rw [w_at, upd_n (by decide), e5.2.2.2 47 (by decide) (by decide) (by decide) (by decide), s5.2.2.2 47 (by decide) (by decide) (by decide) (by decide)]
      rfl
    refine l_end (K := K) (N := N) (R := R) (Bn := Bn) hP (pz_cw hP (by omega) (pz_cw hP (by omega) (pz_ew (by decide) (by decide) e3))) (by omega) ?_ ?_
    · refine ⟨⟨?_, ?_, k3⟩, ⟨?_, ?_, n3⟩, ⟨?_, ?_, r3⟩, ⟨?_, ?_, b3⟩, ?_, ⟨v, v2, ?_, ?_⟩, ?_, ?_, ?_, ?_, ?_, ?_, ?_, ?_, ?_⟩
      · rw [frQ 0 (by decide) (by decide)]; exact k1
      · rw [fr49 33 (by decide) (by decide) (by decide)]; exact k2
      · rw [frQ 1 (by decide) (by decide)]; exact n1
      · rw [fr49 34 (by decide) (by decide) (by decide)]; exact n2
      · rw [frQ 2 (by decide) (by decide)]; exact r1
      · rw [fr49 36 (by decide) (by decide) (by decide)]; exact r2
      · rw [frQ 3 (by decide) (by decide)]; exact b1
      · rw [fr49 35 (by decide) (by decide) (by decide)]; exact b2
      · rw [frQ 4 (by decide) (by decide), fr49 38 (by decide) (by decide) (by decide)]; exact d5
      · rw [w_at, upd_n (by decide), w_at, upd_e]
      · rw [w_at, upd_e]
      · rw [frQ 6 (by decide) (by decide), fr49 46 (by decide) (by decide) (by decide)]; exact d7
      · rw [t46]
        rw [w_at, upd_e]
      · exact nmR_cg d9 (fun j hj => ⟨congrFun (frL 1 (by decide)) j, congrFun fr51 _⟩)
      · exact nmR_cg d10 (fun j hj => ⟨congrFun (frL 2 (by decide)) j, congrFun fr51 _⟩)
      · exact nmR_cg d11 (fun j hj => ⟨congrFun (frL 3 (by decide)) j, congrFun fr51 _⟩)
      · rw [frC 4 (by decide), frT 59 (by decide)]; exact d12
      · rw [frC 5 (by decide), frT 60 (by decide)]; exact d13
      · rw [frC 6 (by decide), frT 61 (by decide)]; exact d14
      · refine ⟨?_, fun hN => ?_⟩
        · rw [frQ 8 (by decide) (by decide), fr49 37 (by decide) (by decide) (by decide)]; exact l1
        · rw [frQ 8 (by decide) (by decide), frC 4 (by decide)]; exact l2 hN
    · exact fR_cg hf (frC 7 (by decide)) (frC 8 (by decide)) (frT 52 (by decide)) (frT 53 (by decide)) (fr49 17 (by decide) (by decide) (by decide)) (fr49 20 (by decide) (by decide) (by decide)) (fr49 24 (by decide) (by decide) (by decide))
  · have e1' : fX5_readNumber σ1 0 999 = some (-1, σ2) := e1
    have e2' : fX10_toldNumber τ1 0 999 = some (x, τ2) := e2
    rw [e1', b2_s, if_pos rfl, e2', b2_s, b2_s, let_s]
    exact l_no (pq_ew (by decide) (by decide) e3)
end PE
