/-! the lines of people and basins -/
section PH
variable {σ τ σ0 τ0 σ' τ' : sw_M} {B : Nat → Nat} {n p Q K N R Bn : Nat}
theorem f_all {G M r : Nat} (hG : G = 59 ∨ G = 60) (hsG : (sw_s G).2 = M) (hM : M ≤ 35) (hr : 5 * r + 5 ≤ M) (h : pq Q σ0 τ0 σ τ) : ∃ τ', fX10_readAllOf G τ (nI (5 * r)) = some τ' ∧ pq Q σ0 τ0 σ τ' := by
  have hG2 : G ≠ 49 := by omega
  have e49 : ∀ f, (sw_wA τ G f).1 49 = τ.1 49 := fun f => m_ne hG2.symm
  obtain ⟨g, hg⟩ : ∃ g : Nat → Int32, g = fun q => if 5 * r ≤ q ∧ q < 5 * r + 5 then 0 else τ.1 G q := ⟨_, rfl⟩
  have hq : pq Q σ0 τ0 σ (sw_wA τ G g) := by
    obtain ⟨h1, h2, h4, h5, h6⟩ := h
    exact ⟨by rw [e49]; exact h1, by rw [e49]; exact h2, by rw [e49]; exact h4, h5, h6.tr ⟨rfl, fun a x1 x2 x3 x4 x5 x6 x7 => m_ne (by omega), fun a x1 x2 => rfl, fun k hk => by rw [e49]⟩⟩
  refine ⟨sw_wA τ G g, ?_, hq⟩
  unfold fX10_readAllOf
  refine wh_runs (b := fun s : Int32 × sw_M => fX10_readAllOf_L2 G s.2 (nI (5 * r)) s.1) (fun k => (nI k, sw_wA τ G (fun q => if 5 * r ≤ q ∧ q < 5 * r + k then 0 else τ.1 G q))) 5 ?_ (fun k hk => ?_) ?_ (by decide)
  · show (nI 0, sw_wA τ G (fun q => if 5 * r ≤ q ∧ q < 5 * r + 0 then 0 else τ.1 G q)) = (0, τ)
    have : (fun q => if 5 * r ≤ q ∧ q < 5 * r + 0 then (0 : Int32) else τ.1 G q) = τ.1 G := by
      funext q
      rw [if_neg (by omega)]
    rw [this, m_self]
    rfl
  · show fX10_readAllOf_L2 G (sw_wA τ G (fun q => if 5 * r ≤ q ∧ q < 5 * r + k then 0 else τ.1 G q)) (nI (5 * r)) (nI k) = _
    have h5 : ¬ (5 : Int32) ≤ nI k := nI_ge (b := 5) hk (by decide)
    have eu : upd (fun q => if 5 * r ≤ q ∧ q < 5 * r + k then (0 : Int32) else τ.1 G q) (5 * r + k) 0 = fun q => if 5 * r ≤ q ∧ q < 5 * r + (k + 1) then (0 : Int32) else τ.1 G q := by
      funext q
      unfold upd
      by_cases e : q = 5 * r + k
      · rw [if_pos e, if_pos (by omega)]
      · rw [if_neg e]
        show (if 5 * r ≤ q ∧ q < 5 * r + k then (0 : Int32) else τ.1 G q) = _
        by_cases e2 : 5 * r ≤ q ∧ q < 5 * r + k
        · rw [if_pos e2, if_pos (by omega)]
        · rw [if_neg e2, if_neg (by omega)]
    unfold fX10_readAllOf_L2
    rw [if_neg h5, nI_add, hsG, sw_gd_t (in_t (show 5 * r + k < M by omega) (by omega)), let_s, let_s, nI_1, nI_clamp (by omega), m_ww, eu]
  · show fX10_readAllOf_L2 G (sw_wA τ G (fun q => if 5 * r ≤ q ∧ q < 5 * r + 5 then 0 else τ.1 G q)) (nI (5 * r)) (nI 5) = _
    rw [← hg]
    unfold fX10_readAllOf_L2
    have hl : sw_wh sw_F (fun s => fX10_readAllOf_L25 G s (nI (5 * r))) (sw_wA τ G g) = some (sw_wA τ G g) :=
      wh_runs (b := fun s : sw_M => fX10_readAllOf_L25 G s (nI (5 * r))) (fun _ => sw_wA τ G g) 0 rfl (fun k hk => absurd hk (Nat.not_lt_zero k)) (by show fX10_readAllOf_L25 G (sw_wA τ G g) (nI (5 * r)) = _; rw [fX10_readAllOf_L25, if_neg (f_nz hq.2.2.1)]) (by decide)
    rw [if_pos (by decide), f_some hq.2.2.1, b1_s, hl, sw_up_s]
theorem l_person (hP : sw_isP Q) (hQ : sw_pl (σ.2.2 1) = Q) (h : pz B n Q σ0 τ0 σ τ p) (hd : dR Q σ τ K N R Bn) (hf : fR Q σ τ) (hT : teT B n p = 2) (hlt : N < 7) : lo B n Q σ0 τ0 p (fX5_readPerson σ) (sw_b1 (fX10_readPerson τ) fun m3 => fX10_readLine_L210 m3) := by
  obtain ⟨⟨k1, k2, k3⟩, ⟨n1, n2, n3⟩, ⟨r1, r2, r3⟩, ⟨b1, b2, b3⟩, d5, d6, d7, d8, d9, d10, d11, d12, d13, ⟨u1, u2, u3⟩, ⟨l1, l2⟩⟩ := hd
  have hs : (sw_s (Q + 2)).2 = 7 := by rcases hP with rfl | rfl <;> rfl
  have hsA : (sw_s (Q + 4)).2 = 35 := by rcases hP with rfl | rfl <;> rfl
  have cm : nI N < 7 := nI_lt (b := 7) hlt (by decide)
  obtain ⟨σ1, s1, s2, hor⟩ := p_newn (A := Q + 2) (o := 5) (c := N) (.inr (.inl rfl)) hP d10 hs (by decide) hlt (by omega) h (by omega)
  have q1 : sw_pl (σ1.2.2 1) = Q := by rw [s2.1]; exact hQ
  have g0 : σ1.1 Q 1 = nI N := by rw [s2.2.1 Q (isP2' hP)]; exact n1
  unfold fX5_readPerson fX10_readPerson
  rw [hQ, n1, if_pos cm, s1, b1_s, q1, g0, n2]
  rcases hor with ⟨σa, τa, pa, e1, e2, e3, e4, e5, e6, e7, e8, e9, e10, e11⟩ | ⟨σa, τa, e1, e2, e3, eK⟩
  rotate_left
  · have e2' : fX10_newName τ 5 (nI N) = some τa := e2
    have x34 : τa.1 49 34 = nI N := by rw [eK _ (by decide)]; exact n2
    obtain ⟨τb, y1, y2⟩ := f_all (G := 59) (M := 35) (r := N) (.inl rfl) rfl (by decide) (by omega) e3
    have five : (5 : Int32) * nI N = nI (5 * N) := by rw [lit_I 5, pk_mul]
    rw [e1, b2_s, if_pos rfl, e2', b1_s, f_want e3.2.2.1, b1_s, x34, five, y1, b1_s, if_neg y2.2.2.1, b1_s]
    exact l_no y2
  have e2' : fX10_newName τ 5 (nI N) = some τa := e2
  rw [e1, b2_s, if_neg i10, e2', b1_s]
  have five : (5 : Int32) * nI N = nI (5 * N) := by rw [lit_I 5, pk_mul]
  rcases p_key' (k := 7) (by decide) e3 with ⟨σb, τb, c1, c2, c3, c4, c5, c6⟩ | ⟨σb, τb, c1, c2, c3, c36⟩
  rotate_left
  · have c1' : fX5_readKey σa 7 = some (0, σb) := c1
    have c2' : fX10_want τa 6840691 = some τb := c2
    have x34 : τb.1 49 34 = nI N := by rw [c36 34 (by decide), e9 34 (by decide)]; exact n2
    obtain ⟨τd, y1, y2⟩ := f_all (G := 59) (M := 35) (r := N) (.inl rfl) rfl (by decide) (by omega) c3
    rw [c1', b2_s, if_pos rfl, c2', b1_s, x34, five, y1, b1_s, if_neg y2.2.2.1, b1_s]
    exact l_no y2
  have c1' : fX5_readKey σa 7 = some (1, σb) := c1
  have c2' : fX10_want τa 6840691 = some τb := c2
  have cI : ∀ a, a ≠ 2 → σb.1 a = σ.1 a := fun a ha => by rw [c4.2.1 a ha]; exact e6 a ha
  have cL : ∀ a, a ≠ 2 → a ≠ Q + 2 → σb.2.1 a = σ.2.1 a := fun a ha ha2 => by rw [c4.2.2 a ha]; exact e7 a ha ha2
  have eI : ∀ a, a ≠ 49 → τb.1 a = τ.1 a := fun a ha => by rw [c5.2.1 a ha]; exact e8 a ha
  have eK : ∀ k, 8 < k → τb.1 49 k = τ.1 49 k := fun k hk => by rw [c5.2.2.2 k (by omega) (by omega) (by omega) (by omega)]; exact e9 k hk
  have eL : ∀ j, j ≠ 5 + N → τb.2.1 51 j = τ.2.1 51 j := fun j hj => by rw [c5.2.2.1 51 (by decide)]; exact e10 j hj
  have qb : sw_pl (σb.2.2 1) = Q := by rw [c4.1, e5]; exact hQ
  have gb : σb.1 Q 1 = nI N := by rw [cI Q (isP2' hP)]; exact n1
  have x34 : τb.1 49 34 = nI N := by rw [eK 34 (by decide)]; exact n2
  have pp := (nx_pos (B := B) e3.1.2.1).1
  have nmk : nmR σb τb (Q + 1) 0 K := nmR_cg d9 (fun j hj => ⟨congrFun (cL _ (isP2 hP) (by omega)) j, eL _ (by omega)⟩)
  have zrow : ∀ j, j < 5 → σb.1 (Q + 4) (5 * N + j) = 0 := fun j hj => by rw [cI _ (isP2 hP)]; exact d12.2 _ (by omega) (by omega)
  rw [c1', b2_s, if_neg i10, qb, gb, c2', b1_s, x34, five]
  rcases p_port (A := Q + 4) (G := 59) (M := 35) (r := N) (.inl rfl) (.inl rfl) hsA rfl (by decide) (by omega) k3 hP qb (by rw [cI Q (isP2' hP)]; exact k1) (by rw [eK 33 (by decide)]; exact k2) nmk c3 zrow with ⟨σ2, τ2, p', mj, lk, x, w1, w2, w3, w4, w5, w6, w7, w8, w9, w10, w11, w12, w13⟩ | ⟨σ2, τ2, w1, w2, w3⟩
  rotate_left
  · rw [w1, b2_s, if_pos rfl, w2, b1_s, if_neg w3.2.2.1, b1_s]
    exact l_no w3
  have h02 : τ2.1 49 2 = 0 := w4.2.1.2.2.2.1
  have z : (0 : Int32) ≤ 0 := by decide
  have y34 : τ2.1 49 34 = nI N := by rw [w7.2.1 34 (by decide) (by decide)]; exact x34
  have y34' : (sw_w τ2 49 37 (nI lk)).1 49 34 = nI N := by rw [w_at, upd_n (by decide)]; exact y34
  obtain ⟨τ3, hτ3⟩ : ∃ τ3, τ3 = sw_w (sw_w τ2 49 37 (nI lk)) 49 34 (nI (N + 1)) := ⟨_, rfl⟩
  have pz3 : pz B n Q σ0 τ0 σ2 τ3 p' := by
    rw [hτ3]
    exact pz_ew (by decide) (by decide) (pz_ew (by decide) (by decide) w4)
  rw [w3, b1_s, h02, if_pos z, w13, let_s, y34', nI_1, let_s, ← hτ3, b1_s, w1]
  rcases p_semi pz3 with ⟨σ3, τ4, f1, f2, f3, f4, f5, f6⟩ | ⟨σ3, τ4, f1, f2, f3⟩
  rotate_left
  · have ex : x = (0, σ3) := Option.some.inj (w2.symm.trans f1)
    rw [ex, b2_s, if_pos rfl, f2]
    exact .inr ⟨σ3, τ4, rfl, rfl, f3⟩
  have ex : x = (1, σ3) := Option.some.inj (w2.symm.trans f1)
  have q3 : sw_pl (σ3.2.2 1) = Q := by rw [f4.1, w6.1]; exact qb
  have hQ1 : Q ≠ 1 := by rcases hP with rfl | rfl <;> decide
  have dI : ∀ a, a ≠ 1 → a ≠ 2 → a ≠ Q + 4 → σ3.1 a = σ.1 a := fun a a1 a2 a3 => by rw [f4.2.1 a a2, w6.2.1 a a1 a2 a3]; exact cI a a2
  have dQ : σ3.1 Q = σ.1 Q := dI Q hQ1 (isP2' hP) (by omega)
  have dA : σ3.1 (Q + 4) = σ2.1 (Q + 4) := f4.2.1 _ (isP2 hP)
  have d14 : σ3.1 1 4 = nI lk := by rw [f4.2.1 1 (by decide)]; exact w12
  have g3 : σ3.1 Q 1 = nI N := by rw [dQ]; exact n1
  have qq : sw_pl ((sw_w σ3 Q 1 (nI (N + 1))).2.2 1) = Q := q3
  have d14' : (sw_w σ3 Q 1 (nI (N + 1))).1 1 4 = nI lk := by rw [m_wne (by rcases hP with rfl | rfl <;> decide)]; exact d14
  rw [ex, b2_s, if_neg i10, q3, g3, nI_1, let_s, qq, d14', let_s, f2]
  obtain ⟨σ4, hσ4⟩ : ∃ σ4, σ4 = sw_w (sw_w σ3 Q 1 (nI (N + 1))) Q 8 (nI lk) := ⟨_, rfl⟩
  have pz4 : pz B n Q σ0 τ0 σ4 τ4 (nx B n p') := by
    rw [hσ4]
    exact pz_cw hP (by omega) (pz_cw hP (by omega) f3)
  have frQ : ∀ k, k ≠ 1 → k ≠ 8 → σ4.1 Q k = σ.1 Q k := fun k a1 a2 => by rw [hσ4, w_at, upd_n a2, w_at, upd_n a1, dQ]
  have frC : ∀ k, 1 ≤ k → σ4.1 (Q + k) = σ3.1 (Q + k) := fun k hk => by rw [hσ4, m_wne (by omega), m_wne (by omega)]
  have fr49 : ∀ k, 8 < k → k ≠ 34 → k ≠ 37 → k ≠ 48 → τ4.1 49 k = τ.1 49 k := fun k hk a2 a3 a4 => by
    rw [f5.2.2.2 k (by omega) (by omega) (by omega) (by omega), hτ3, w_at, upd_n a2, w_at, upd_n a3, w7.2.1 k hk a4]; exact eK k hk
  have s34 : τ4.1 49 34 = nI (N + 1) := by rw [f5.2.2.2 34 (by decide) (by decide) (by decide) (by decide), hτ3, w_at, upd_e]
  have s37 : τ4.1 49 37 = nI lk := by rw [f5.2.2.2 37 (by decide) (by decide) (by decide) (by decide), hτ3, w_at, upd_n (by decide), w_at, upd_e]
  have frT : ∀ a, a ≠ 49 → a ≠ 59 → τ4.1 a = τ.1 a := fun a a1 a2 => by
    rw [f5.2.1 a a1, hτ3, m_wne a1, m_wne a1, w7.1 a a1 a2]; exact eI a a1
  have frG : τ4.1 59 = τ2.1 59 := by rw [f5.2.1 59 (by decide), hτ3, m_wne (by decide), m_wne (by decide)]
  have fr51 : τ4.2.1 51 = τb.2.1 51 := by
    rw [f5.2.2.1 51 (by decide), hτ3]
    show τ2.2.1 51 = _
    rw [w7.2.2]
  have frL : ∀ k, 1 ≤ k → σ4.2.1 (Q + k) = σb.2.1 (Q + k) := fun k hk => by
    rw [hσ4]
    show σ3.2.1 (Q + k) = _
    rw [f4.2.2 _ (isP2 hP), w6.2.2 _ (isP2 hP)]
  have oC : ∀ k, 1 ≤ k → k ≠ 4 → σ4.1 (Q + k) = σ.1 (Q + k) := fun k hk hk2 => by
    rw [frC k hk]; exact dI _ (by rcases hP with rfl | rfl <;> omega) (isP2 hP) (by omega)
  have newT : tbR (σ4.1 (Q + 4)) (τ4.1 59) (N + 1) 35 := by
    rw [frC 4 (by decide), dA, frG]
    refine ⟨fun q hq => ?_, fun q hq1 hq2 => ?_⟩
    · by_cases hin : 5 * N ≤ q ∧ q < 5 * N + 5
      · obtain ⟨i1, i2, i3⟩ := w8 (q - 5 * N) (by omega)
        rw [show 5 * N + (q - 5 * N) = q by omega] at i1 i2
        exact ⟨mj (q - 5 * N), i3, i1, i2⟩
      · obtain ⟨i1, i2⟩ := w9 q hin
        rw [i1, i2, cI _ (isP2 hP), eI 59 (by decide)]
        exact d12.1 q (by omega)
    · obtain ⟨i1, i2⟩ := w9 q (by omega)
      rw [i1, cI _ (isP2 hP)]
      exact d12.2 q (by omega) hq2
  have pp2 := (nx_pos (B := B) w4.1.2.1).1
  refine .inl ⟨σ4, τ4, nx B n p', K, N + 1, R, Bn, by rw [hσ4], rfl, pz4, by omega, ?_, ?_⟩
  · refine ⟨⟨?_, ?_, k3⟩, ⟨?_, ?_, by omega⟩, ⟨?_, ?_, r3⟩, ⟨?_, ?_, b3⟩, ?_, ?_, ?_, ?_, ?_, ?_, ?_, ?_, ?_, ?_, ?_⟩
    · rw [(frQ 0 (by decide) (by decide))]; exact k1
    · rw [(fr49 33 (by decide) (by decide) (by decide) (by decide))]; exact k2
    · rw [hσ4, w_at, upd_n (by decide), w_at, upd_e]
    · exact s34
    · rw [(frQ 2 (by decide) (by decide))]; exact r1
    · rw [(fr49 36 (by decide) (by decide) (by decide) (by decide))]; exact r2
    · rw [(frQ 3 (by decide) (by decide))]; exact b1
    · rw [(fr49 35 (by decide) (by decide) (by decide) (by decide))]; exact b2
    · rw [(frQ 4 (by decide) (by decide)), (fr49 38 (by decide) (by decide) (by decide) (by decide))]; exact d5
    · rw [(frQ 5 (by decide) (by decide)), (fr49 39 (by decide) (by decide) (by decide) (by decide))]; exact d6
    · rw [(frQ 6 (by decide) (by decide)), (fr49 46 (by decide) (by decide) (by decide) (by decide))]; exact d7
    · rw [(frQ 7 (by decide) (by decide)), (fr49 47 (by decide) (by decide) (by decide) (by decide))]; exact d8
    · exact nmR_cg nmk (fun j hj => ⟨congrFun (frL 1 (by decide)) j, congrFun fr51 _⟩)
    · exact nmR_cg e11 (fun j hj => ⟨by rw [frL 2 (by decide), c4.2.2 _ (isP2 hP)], by rw [fr51, c5.2.2.1 51 (by decide)]⟩)
    · exact nmR_cg d11 (fun j hj => ⟨by rw [frL 3 (by decide), cL _ (isP2 hP) (by omega)], by rw [fr51, eL _ (by omega)]⟩)
    · exact newT
    · rw [oC 5 (by decide) (by decide), frT 60 (by decide) (by decide)]; exact d13
    · rw [oC 6 (by decide) (by decide), frT 61 (by decide) (by decide)]; exact ⟨u1, u2, u3⟩
    · refine ⟨?_, fun _ => ⟨lk, mj lk, w10, ?_, w11, (w8 lk (by omega)).2.2, ?_⟩⟩
      · rw [s37, hσ4, w_at, upd_e]
      · rw [hσ4, w_at, upd_e]
      · rw [frC 4 (by decide), dA, show N + 1 - 1 = N by omega]
        exact (w8 lk (by omega)).1
  · exact fR_cg hf (oC 7 (by decide) (by decide)) (oC 8 (by decide) (by decide)) (frT 52 (by decide) (by decide)) (frT 53 (by decide) (by decide)) (fr49 17 (by decide) (by decide) (by decide) (by decide)) (fr49 20 (by decide) (by decide) (by decide) (by decide)) (fr49 24 (by decide) (by decide) (by decide) (by decide))
theorem l_basin (hP : sw_isP Q) (hQ : sw_pl (σ.2.2 1) = Q) (h : pz B n Q σ0 τ0 σ τ p) (hd : dR Q σ τ K N R Bn) (hf : fR Q σ τ) (hT : teT B n p = 2) (hlt : Bn < 4) : lo B n Q σ0 τ0 p (fX5_readBasin σ) (sw_b1 (fX10_readBasin τ) fun m3 => fX10_readLine_L210 m3) := by
  obtain ⟨⟨k1, k2, k3⟩, ⟨n1, n2, n3⟩, ⟨r1, r2, r3⟩, ⟨b1, b2, b3⟩, d5, d6, d7, d8, d9, d10, d11, d12, d13, ⟨u1, u2, u3⟩, ⟨l1, l2⟩⟩ := hd
  have hs : (sw_s (Q + 3)).2 = 4 := by rcases hP with rfl | rfl <;> rfl
  have hsA : (sw_s (Q + 5)).2 = 20 := by rcases hP with rfl | rfl <;> rfl
  have cm : nI Bn < 4 := nI_lt (b := 4) hlt (by decide)
  obtain ⟨σ1, s1, s2, hor⟩ := p_newn (A := Q + 3) (o := 12) (c := Bn) (.inr (.inr rfl)) hP d11 hs (by decide) hlt (by omega) h (by omega)
  have q1 : sw_pl (σ1.2.2 1) = Q := by rw [s2.1]; exact hQ
  have g0 : σ1.1 Q 3 = nI Bn := by rw [s2.2.1 Q (isP2' hP)]; exact b1
  unfold fX5_readBasin fX10_readBasin
  rw [hQ, b1, if_pos cm, s1, b1_s, q1, g0, b2]
  rcases hor with ⟨σa, τa, pa, e1, e2, e3, e4, e5, e6, e7, e8, e9, e10, e11⟩ | ⟨σa, τa, e1, e2, e3, eK⟩
  rotate_left
  · have e2' : fX10_newName τ 12 (nI Bn) = some τa := e2
    have x34 : τa.1 49 35 = nI Bn := by rw [eK _ (by decide)]; exact b2
    obtain ⟨τb, y1, y2⟩ := f_all (G := 60) (M := 20) (r := Bn) (.inr rfl) rfl (by decide) (by omega) e3
    have five : (5 : Int32) * nI Bn = nI (5 * Bn) := by rw [lit_I 5, pk_mul]
    rw [e1, b2_s, if_pos rfl, e2', b1_s, f_want e3.2.2.1, b1_s, x34, five, y1, b1_s, if_neg (f_nz y2.2.2.1), b1_s]
    exact l_no y2
  have e2' : fX10_newName τ 12 (nI Bn) = some τa := e2
  rw [e1, b2_s, if_neg i10, e2', b1_s]
  have five : (5 : Int32) * nI Bn = nI (5 * Bn) := by rw [lit_I 5, pk_mul]
  rcases p_key' (k := 9) (by decide) e3 with ⟨σb, τb, c1, c2, c3, c4, c5, c6⟩ | ⟨σb, τb, c1, c2, c3, c36⟩
  rotate_left
  · have c1' : fX5_readKey σa 9 = some (0, σb) := c1
    have c2' : fX10_want τa 512735736947 = some τb := c2
    have x34 : τb.1 49 35 = nI Bn := by rw [c36 35 (by decide), e9 35 (by decide)]; exact b2
    obtain ⟨τd, y1, y2⟩ := f_all (G := 60) (M := 20) (r := Bn) (.inr rfl) rfl (by decide) (by omega) c3
    rw [c1', b2_s, if_pos rfl, c2', b1_s, x34, five, y1, b1_s, if_neg (f_nz y2.2.2.1), b1_s]
    exact l_no y2
  have c1' : fX5_readKey σa 9 = some (1, σb) := c1
  have c2' : fX10_want τa 512735736947 = some τb := c2
  have cI : ∀ a, a ≠ 2 → σb.1 a = σ.1 a := fun a ha => by rw [c4.2.1 a ha]; exact e6 a ha
  have cL : ∀ a, a ≠ 2 → a ≠ Q + 3 → σb.2.1 a = σ.2.1 a := fun a ha ha2 => by rw [c4.2.2 a ha]; exact e7 a ha ha2
  have eI : ∀ a, a ≠ 49 → τb.1 a = τ.1 a := fun a ha => by rw [c5.2.1 a ha]; exact e8 a ha
  have eK : ∀ k, 8 < k → τb.1 49 k = τ.1 49 k := fun k hk => by rw [c5.2.2.2 k (by omega) (by omega) (by omega) (by omega)]; exact e9 k hk
  have eL : ∀ j, j ≠ 12 + Bn → τb.2.1 51 j = τ.2.1 51 j := fun j hj => by rw [c5.2.2.1 51 (by decide)]; exact e10 j hj
  have qb : sw_pl (σb.2.2 1) = Q := by rw [c4.1, e5]; exact hQ
  have gb : σb.1 Q 3 = nI Bn := by rw [cI Q (isP2' hP)]; exact b1
  have x34 : τb.1 49 35 = nI Bn := by rw [eK 35 (by decide)]; exact b2
  have pp := (nx_pos (B := B) e3.1.2.1).1
  have nmk : nmR σb τb (Q + 1) 0 K := nmR_cg d9 (fun j hj => ⟨congrFun (cL _ (isP2 hP) (by omega)) j, eL _ (by omega)⟩)
  have zrow : ∀ j, j < 5 → σb.1 (Q + 5) (5 * Bn + j) = 0 := fun j hj => by rw [cI _ (isP2 hP)]; exact d13.2 _ (by omega) (by omega)
  rw [c1', b2_s, if_neg i10, qb, gb, c2', b1_s, x34, five]
  rcases p_port (A := Q + 5) (G := 60) (M := 20) (r := Bn) (.inr rfl) (.inr rfl) hsA rfl (by decide) (by omega) k3 hP qb (by rw [cI Q (isP2' hP)]; exact k1) (by rw [eK 33 (by decide)]; exact k2) nmk c3 zrow with ⟨σ2, τ2, p', mj, lk, x, w1, w2, w3, w4, w5, w6, w7, w8, w9, w10, w11, w12, w13⟩ | ⟨σ2, τ2, w1, w2, w3⟩
  rotate_left
  · rw [w1, b2_s, if_pos rfl, w2, b1_s, if_neg (f_nz w3.2.2.1), b1_s]
    exact l_no w3
  have h02 : τ2.1 49 2 = 0 := w4.2.1.2.2.2.1
  have z : (0 : Int32) ≤ 0 := by decide
  have y34 : τ2.1 49 35 = nI Bn := by rw [w7.2.1 35 (by decide) (by decide)]; exact x34
  obtain ⟨τ3, hτ3⟩ : ∃ τ3, τ3 = sw_w τ2 49 35 (nI (Bn + 1)) := ⟨_, rfl⟩
  have pz3 : pz B n Q σ0 τ0 σ2 τ3 p' := by
    rw [hτ3]
    exact pz_ew (by decide) (by decide) w4
  rw [w3, b1_s, h02, if_pos rfl, y34, nI_1, let_s, ← hτ3, b1_s, w1]
  rcases p_semi pz3 with ⟨σ3, τ4, f1, f2, f3, f4, f5, f6⟩ | ⟨σ3, τ4, f1, f2, f3⟩
  rotate_left
  · have ex : x = (0, σ3) := Option.some.inj (w2.symm.trans f1)
    rw [ex, b2_s, if_pos rfl, f2]
    exact .inr ⟨σ3, τ4, rfl, rfl, f3⟩
  have ex : x = (1, σ3) := Option.some.inj (w2.symm.trans f1)
  have q3 : sw_pl (σ3.2.2 1) = Q := by rw [f4.1, w6.1]; exact qb
  have hQ1 : Q ≠ 1 := by rcases hP with rfl | rfl <;> decide
  have dI : ∀ a, a ≠ 1 → a ≠ 2 → a ≠ Q + 5 → σ3.1 a = σ.1 a := fun a a1 a2 a3 => by rw [f4.2.1 a a2, w6.2.1 a a1 a2 a3]; exact cI a a2
  have dQ : σ3.1 Q = σ.1 Q := dI Q hQ1 (isP2' hP) (by omega)
  have dA : σ3.1 (Q + 5) = σ2.1 (Q + 5) := f4.2.1 _ (isP2 hP)
  have d14 : σ3.1 1 4 = nI lk := by rw [f4.2.1 1 (by decide)]; exact w12
  have g3 : σ3.1 Q 3 = nI Bn := by rw [dQ]; exact b1
  rw [ex, b2_s, if_neg i10, q3, g3, nI_1, let_s, f2]
  obtain ⟨σ4, hσ4⟩ : ∃ σ4, σ4 = sw_w σ3 Q 3 (nI (Bn + 1)) := ⟨_, rfl⟩
  have pz4 : pz B n Q σ0 τ0 σ4 τ4 (nx B n p') := by
    rw [hσ4]
    exact pz_cw hP (by omega) f3
  have frQ : ∀ k, k ≠ 3 → σ4.1 Q k = σ.1 Q k := fun k a1 => by rw [hσ4, w_at, upd_n a1, dQ]
  have frC : ∀ k, 1 ≤ k → σ4.1 (Q + k) = σ3.1 (Q + k) := fun k hk => by rw [hσ4, m_wne (by omega)]
  have fr49 : ∀ k, 8 < k → k ≠ 35 → k ≠ 48 → τ4.1 49 k = τ.1 49 k := fun k hk a2 a4 => by
    rw [f5.2.2.2 k (by omega) (by omega) (by omega) (by omega), hτ3, w_at, upd_n a2, w7.2.1 k hk a4]; exact eK k hk
  have s35 : τ4.1 49 35 = nI (Bn + 1) := by rw [f5.2.2.2 35 (by decide) (by decide) (by decide) (by decide), hτ3, w_at, upd_e]
  have frT : ∀ a, a ≠ 49 → a ≠ 60 → τ4.1 a = τ.1 a := fun a a1 a2 => by
    rw [f5.2.1 a a1, hτ3, m_wne a1, w7.1 a a1 a2]; exact eI a a1
  have frG : τ4.1 60 = τ2.1 60 := by rw [f5.2.1 60 (by decide), hτ3, m_wne (by decide)]
  have fr51 : τ4.2.1 51 = τb.2.1 51 := by
    rw [f5.2.2.1 51 (by decide), hτ3]
    show τ2.2.1 51 = _
    rw [w7.2.2]
  have frL : ∀ k, 1 ≤ k → σ4.2.1 (Q + k) = σb.2.1 (Q + k) := fun k hk => by
    rw [hσ4]
    show σ3.2.1 (Q + k) = _
    rw [f4.2.2 _ (isP2 hP), w6.2.2 _ (isP2 hP)]
  have oC : ∀ k, 1 ≤ k → k ≠ 5 → σ4.1 (Q + k) = σ.1 (Q + k) := fun k hk hk2 => by
    rw [frC k hk]; exact dI _ (by rcases hP with rfl | rfl <;> omega) (isP2 hP) (by omega)
  have newT : tbR (σ4.1 (Q + 5)) (τ4.1 60) (Bn + 1) 20 := by
    rw [frC 5 (by decide), dA, frG]
    refine ⟨fun q hq => ?_, fun q hq1 hq2 => ?_⟩
    · by_cases hin : 5 * Bn ≤ q ∧ q < 5 * Bn + 5
      · obtain ⟨i1, i2, i3⟩ := w8 (q - 5 * Bn) (by omega)
        rw [show 5 * Bn + (q - 5 * Bn) = q by omega] at i1 i2
        exact ⟨mj (q - 5 * Bn), i3, i1, i2⟩
      · obtain ⟨i1, i2⟩ := w9 q hin
        rw [i1, i2, cI _ (isP2 hP), eI 60 (by decide)]
        exact d13.1 q (by omega)
    · obtain ⟨i1, i2⟩ := w9 q (by omega)
      rw [i1, cI _ (isP2 hP)]
      exact d13.2 q (by omega) hq2
  have pp2 := (nx_pos (B := B) w4.1.2.1).1
  refine .inl ⟨σ4, τ4, nx B n p', K, N, R, Bn + 1, by rw [hσ4], rfl, pz4, by omega, ?_, ?_⟩
  · refine ⟨⟨?_, ?_, k3⟩, ⟨?_, ?_, n3⟩, ⟨?_, ?_, r3⟩, ⟨?_, ?_, by omega⟩, ?_, ?_, ?_, ?_, ?_, ?_, ?_, ?_, ?_, ?_, ?_⟩
    · rw [(frQ 0 (by decide))]; exact k1
    · rw [(fr49 33 (by decide) (by decide) (by decide))]; exact k2
    · rw [(frQ 1 (by decide))]; exact n1
    · rw [(fr49 34 (by decide) (by decide) (by decide))]; exact n2
    · rw [(frQ 2 (by decide))]; exact r1
    · rw [(fr49 36 (by decide) (by decide) (by decide))]; exact r2
    · rw [hσ4, w_at, upd_e]
    · exact s35
    · rw [(frQ 4 (by decide)), (fr49 38 (by decide) (by decide) (by decide))]; exact d5
    · rw [(frQ 5 (by decide)), (fr49 39 (by decide) (by decide) (by decide))]; exact d6
    · rw [(frQ 6 (by decide)), (fr49 46 (by decide) (by decide) (by decide))]; exact d7
    · rw [(frQ 7 (by decide)), (fr49 47 (by decide) (by decide) (by decide))]; exact d8
    · exact nmR_cg nmk (fun j hj => ⟨congrFun (frL 1 (by decide)) j, congrFun fr51 _⟩)
    · exact nmR_cg d10 (fun j hj => ⟨by rw [frL 2 (by decide), cL _ (isP2 hP) (by omega)], by rw [fr51, eL _ (by omega)]⟩)
    · exact nmR_cg e11 (fun j hj => ⟨by rw [frL 3 (by decide), c4.2.2 _ (isP2 hP)], by rw [fr51, c5.2.2.1 51 (by decide)]⟩)
    · rw [oC 4 (by decide) (by decide), frT 59 (by decide) (by decide)]; exact d12
    · exact newT
    · rw [oC 6 (by decide) (by decide), frT 61 (by decide) (by decide)]; exact ⟨u1, u2, u3⟩
    · refine ⟨?_, fun hN => ?_⟩
      · rw [(frQ 8 (by decide)), (fr49 37 (by decide) (by decide) (by decide))]; exact l1
      · rw [(frQ 8 (by decide)), oC 4 (by decide) (by decide)]; exact l2 hN
  · exact fR_cg hf (oC 7 (by decide) (by decide)) (oC 8 (by decide) (by decide)) (frT 52 (by decide) (by decide)) (frT 53 (by decide) (by decide)) (fr49 17 (by decide) (by decide) (by decide)) (fr49 20 (by decide) (by decide) (by decide)) (fr49 24 (by decide) (by decide) (by decide))
end PH
