/-! the data that both gather -/
def tbR (f g : Nat → Int32) (N M : Nat) : Prop := (∀ q, q < 5 * N → ∃ m, m ≤ 20 ∧ f q = nI m ∧ g q = nI m) ∧ ∀ q, 5 * N ≤ q → q < M → f q = 0
def lsR (q e mi : Nat → Int32) (K N : Nat) : Prop := q 8 = e 37 ∧ (0 < N → ∃ lk m, lk < K ∧ q 8 = nI lk ∧ 1 ≤ m ∧ m ≤ 20 ∧ mi (5 * (N - 1) + lk) = nI m)
def ruR (f g : Nat → Int32) (K R : Nat) : Prop := (∀ r c, r < R → c < 4 → g (4 * r + c) = f (4 * r + c)) ∧ ok_ρ f K R ∧ ok_lim f R
def dR (Q : Nat) (σ τ : sw_M) (K N R Bn : Nat) : Prop :=
  (σ.1 Q 0 = nI K ∧ τ.1 49 33 = nI K ∧ K ≤ 5) ∧ (σ.1 Q 1 = nI N ∧ τ.1 49 34 = nI N ∧ N ≤ 7) ∧ (σ.1 Q 2 = nI R ∧ τ.1 49 36 = nI R ∧ R ≤ 6) ∧ (σ.1 Q 3 = nI Bn ∧ τ.1 49 35 = nI Bn ∧ Bn ≤ 4) ∧
  (∃ s, s ≤ 100 ∧ σ.1 Q 4 = nI s ∧ τ.1 49 38 = nI s) ∧ (∃ d, d ≤ 999 ∧ σ.1 Q 5 = nI d ∧ τ.1 49 39 = nI d) ∧ σ.1 Q 6 = τ.1 49 46 ∧ σ.1 Q 7 = τ.1 49 47 ∧
  nmR σ τ (Q + 1) 0 K ∧ nmR σ τ (Q + 2) 5 N ∧ nmR σ τ (Q + 3) 12 Bn ∧
  tbR (σ.1 (Q + 4)) (τ.1 59) N 35 ∧ tbR (σ.1 (Q + 5)) (τ.1 60) Bn 20 ∧ ruR (σ.1 (Q + 6)) (τ.1 61) K R ∧ lsR (σ.1 Q) (τ.1 49) (σ.1 (Q + 4)) K N
def fR (Q : Nat) (σ τ : sw_M) : Prop :=
  (σ.1 (Q + 7) 0 = 0 ∧ σ.1 (Q + 7) 1 = 0 ∧ σ.1 (Q + 7) 2 = 0 ∧ τ.1 49 24 = 0 ∧ τ.1 49 20 = 0) ∨
  (∃ u z, 1 ≤ u ∧ u ≤ 30 ∧ 1 ≤ z ∧ z ≤ 270 ∧ σ.1 (Q + 7) 0 = nI u ∧ τ.1 49 20 = nI u ∧ τ.1 49 24 = 1 ∧ σ.1 (Q + 7) 2 = nI z ∧ τ.1 49 17 = nI z ∧ (∀ k, k < z → q_enc (τ.1 52 k) (τ.1 53 k) (σ.1 (Q + 8) k)) ∧ q_ok (σ.1 (Q + 8)) z ∧ (σ.1 (Q + 7) 1 = 0 → ∀ k, k < z → σ.1 (Q + 8) k ≠ -6))
section PD
variable {σ τ σ0 τ0 σ' τ' : sw_M} {B : Nat → Nat} {n p Q K N R Bn : Nat}
theorem nmR_cg {A o c : Nat} (h : nmR σ τ A o c) (hc : ∀ j, j < c → σ'.2.1 A j = σ.2.1 A j ∧ τ'.2.1 51 (o + j) = τ.2.1 51 (o + j)) : nmR σ' τ' A o c := by
  obtain ⟨C, W, h1, h2⟩ := h
  exact ⟨C, W, fun j hj => ⟨(h1 j hj).1, by rw [(hc j hj).1]; exact (h1 j hj).2.1, by rw [(hc j hj).2]; exact (h1 j hj).2.2⟩, h2⟩
theorem dR_cg (h : dR Q σ τ K N R Bn) (c0 : σ'.1 Q = σ.1 Q) (c1 : σ'.2.1 (Q + 1) = σ.2.1 (Q + 1)) (c2 : σ'.2.1 (Q + 2) = σ.2.1 (Q + 2)) (c3 : σ'.2.1 (Q + 3) = σ.2.1 (Q + 3)) (c4 : σ'.1 (Q + 4) = σ.1 (Q + 4)) (c5 : σ'.1 (Q + 5) = σ.1 (Q + 5)) (c6 : σ'.1 (Q + 6) = σ.1 (Q + 6))
    (e51 : τ'.2.1 51 = τ.2.1 51) (e59 : τ'.1 59 = τ.1 59) (e60 : τ'.1 60 = τ.1 60) (e61 : τ'.1 61 = τ.1 61) (ek : ∀ k, (33 ≤ k ∧ k ≤ 39) ∨ k = 46 ∨ k = 47 → τ'.1 49 k = τ.1 49 k) : dR Q σ' τ' K N R Bn := by
  unfold dR nmR lsR at *
  rw [c0, c1, c2, c3, c4, c5, c6, e51, e59, e60, e61, ek 33 (by omega), ek 34 (by omega), ek 35 (by omega), ek 36 (by omega), ek 37 (by omega), ek 38 (by omega), ek 39 (by omega), ek 46 (by omega), ek 47 (by omega)]
  exact h
theorem fR_cg (h : fR Q σ τ) (c7 : σ'.1 (Q + 7) = σ.1 (Q + 7)) (c8 : σ'.1 (Q + 8) = σ.1 (Q + 8)) (e52 : τ'.1 52 = τ.1 52) (e53 : τ'.1 53 = τ.1 53) (e17 : τ'.1 49 17 = τ.1 49 17) (e20 : τ'.1 49 20 = τ.1 49 20) (e24 : τ'.1 49 24 = τ.1 49 24) : fR Q σ' τ' := by
  unfold fR at *
  rw [c7, c8, e52, e53, e17, e20, e24]
  exact h
theorem isP2 (hP : sw_isP Q) {k : Nat} : Q + k ≠ 2 := by rcases hP with rfl | rfl <;> omega
theorem isP2' (hP : sw_isP Q) : Q ≠ 2 := by rcases hP with rfl | rfl <;> omega
theorem dR_fr (hP : sw_isP Q) (h : dR Q σ τ K N R Bn) (hc : cfr σ σ') (he : efr τ τ') : dR Q σ' τ' K N R Bn :=
  dR_cg h (hc.2.1 _ (isP2' hP)) (hc.2.2 _ (isP2 hP)) (hc.2.2 _ (isP2 hP)) (hc.2.2 _ (isP2 hP)) (hc.2.1 _ (isP2 hP)) (hc.2.1 _ (isP2 hP)) (hc.2.1 _ (isP2 hP)) (he.2.2.1 _ (by decide)) (he.2.1 _ (by decide)) (he.2.1 _ (by decide)) (he.2.1 _ (by decide)) (fun k hk => he.2.2.2 k (by omega) (by omega) (by omega) (by omega))
theorem fR_fr (hP : sw_isP Q) (h : fR Q σ τ) (hc : cfr σ σ') (he : efr τ τ') : fR Q σ' τ' :=
  fR_cg h (hc.2.1 _ (isP2 hP)) (hc.2.1 _ (isP2 hP)) (he.2.1 _ (by decide)) (he.2.1 _ (by decide)) (he.2.2.2 _ (by decide) (by decide) (by decide) (by decide)) (he.2.2.2 _ (by decide) (by decide) (by decide) (by decide)) (he.2.2.2 _ (by decide) (by decide) (by decide) (by decide))
/-! writing elsewhere leaves the token -/
theorem pz_cw {a k : Nat} {x : Int32} (hP : sw_isP Q) (ha : Q ≤ a ∧ a ≤ Q + 10) (h : pz B n Q σ0 τ0 σ τ p) : pz B n Q σ0 τ0 (sw_w σ a k x) τ p := by
  have ne : ∀ b, b < 5 → b ≠ a := fun b hb e => by rcases hP with rfl | rfl <;> omega
  obtain ⟨⟨⟨b1, b2, b3⟩, h2, h3⟩, h4, h5, h6, h7, h8⟩ := h
  refine ⟨⟨⟨b1, fun j hj => ?_, b3⟩, h2, ?_⟩, h4, ?_, ?_, h7.tr (pfr_w (.inr (.inr ha))), h8⟩
  · rw [m_wne (ne 3 (by decide))]; exact b2 j hj
  · show ctk B n p ((sw_w σ a k x).1 2) (σ.2.1 2 6)
    rw [m_wne (ne 2 (by decide))]; exact h3
  · rw [m_wne (ne 1 (by decide))]; exact h5
  · rw [m_wne (ne 1 (by decide))]; exact h6
theorem pz_c1 {x : Int32} (h : pz B n Q σ0 τ0 σ τ p) : pz B n Q σ0 τ0 (sw_w σ 1 4 x) τ p := by
  obtain ⟨⟨⟨b1, b2, b3⟩, h2, h3⟩, h4, h5, h6, h7, h8⟩ := h
  refine ⟨⟨⟨b1, fun j hj => ?_, b3⟩, h2, ?_⟩, h4, ?_, ?_, h7.tr (pfr_w (.inl rfl)), h8⟩
  · rw [m_wne (by decide)]; exact b2 j hj
  · show ctk B n p ((sw_w σ 1 4 x).1 2) (σ.2.1 2 6)
    rw [m_wne (by decide)]; exact h3
  · show upd (σ.1 1) 4 x 2 = 0
    rw [upd_n (by decide)]; exact h5
  · show upd (σ.1 1) 4 x 3 = -1
    rw [upd_n (by decide)]; exact h6
theorem pz_ew {k : Nat} {x : Int32} (hk : psl k = true) (h8 : 8 < k) (h : pz B n Q σ0 τ0 σ τ p) : pz B n Q σ0 τ0 σ (sw_w τ 49 k x) p := by
  obtain ⟨h1, ⟨b1, h2, ⟨f5, f4, f6, f7, y, f8⟩, h3, h3'⟩, h5, h6, h7, h9⟩ := h
  have e : ∀ j, j ≤ 8 → (sw_w τ 49 k x).1 49 j = τ.1 49 j := fun j hj => by
    show upd (τ.1 49) k x j = _
    exact upd_n (by omega)
  refine ⟨h1, ⟨⟨b1.1, fun j hj => ?_⟩, h2, ⟨?_, fun t => ?_, ?_, ?_, y, fun t => ?_⟩, ?_, ?_⟩, h5, h6, h7, h9.tr (qfr_w hk)⟩
  · rw [m_wne (by decide)]; exact b1.2 j hj
  · rw [e 5 (by decide)]; exact f5
  · rw [e 4 (by decide)]; exact f4 t
  · rw [e 6 (by decide)]; exact f6
  · rw [e 7 (by decide)]; exact f7
  · rw [e 8 (by decide)]; exact f8 t
  · rw [e 2 (by decide)]; exact h3
  · rw [e 3 (by decide)]; exact h3'
theorem pz_et {a k : Nat} {x : Int32} (ha : a = 52 ∨ a = 53 ∨ a = 56 ∨ a = 59 ∨ a = 60 ∨ a = 61) (h : pz B n Q σ0 τ0 σ τ p) : pz B n Q σ0 τ0 σ (sw_w τ a k x) p := by
  obtain ⟨h1, ⟨b1, h2, h3, h3', h3''⟩, h5, h6, h7, h9⟩ := h
  have e49 : (sw_w τ a k x).1 49 = τ.1 49 := m_wne (by omega)
  refine ⟨h1, ⟨⟨b1.1, fun j hj => ?_⟩, h2, ?_, ?_, ?_⟩, h5, h6, h7, h9.tr (qfr_t ha)⟩
  · rw [m_wne (by omega)]; exact b1.2 j hj
  · show etk B n p ((sw_w τ a k x).1 49) (τ.2.1 49 9)
    rw [e49]; exact h3
  · rw [e49]; exact h3'
  · rw [e49]; exact h3''
/-- a fault stays, whatever is written elsewhere -/
theorem pq_ew {k : Nat} {x : Int32} (hk : psl k = true) (h3 : 3 < k) (h : pq Q σ0 τ0 σ τ) : pq Q σ0 τ0 σ (sw_w τ 49 k x) := by
  obtain ⟨h1, h2, h4, h5, h6⟩ := h
  have e : ∀ j, j ≤ 3 → (sw_w τ 49 k x).1 49 j = τ.1 49 j := fun j hj => by
    show upd (τ.1 49) k x j = _
    exact upd_n (by omega)
  exact ⟨by rw [e 2 (by decide)]; exact h1, by rw [e 3 (by decide)]; exact h2, by rw [e 2 (by decide)]; exact h4, h5, h6.tr (qfr_w hk)⟩
theorem pq_et {a k : Nat} {x : Int32} (ha : a = 52 ∨ a = 53 ∨ a = 56 ∨ a = 59 ∨ a = 60 ∨ a = 61) (h : pq Q σ0 τ0 σ τ) : pq Q σ0 τ0 σ (sw_w τ a k x) := by
  obtain ⟨h1, h2, h4, h5, h6⟩ := h
  have e49 : (sw_w τ a k x).1 49 = τ.1 49 := m_wne (by omega)
  exact ⟨by rw [e49]; exact h1, by rw [e49]; exact h2, by rw [e49]; exact h4, h5, h6.tr (qfr_t ha)⟩
theorem w_at {a k : Nat} {x : Int32} : (sw_w σ a k x).1 a = upd (σ.1 a) k x := by rw [m_w, m_eq]
/-- a fault writes nothing but itself -/
theorem wro_k {w : Int32} {k : Nat} (h : fX10_wrong τ w = some τ') (hk : 3 < k) : τ'.1 49 k = τ.1 49 k := by
  unfold fX10_wrong fX10_wrong_L22 at h
  have e : ∀ x y, (sw_w (sw_w τ 49 2 x) 49 3 y).1 49 k = τ.1 49 k := fun x y => by
    rw [w_at, upd_n (by omega), w_at, upd_n (by omega)]
  split at h
  · split at h
    · rw [let_s, let_s] at h
      rw [← Option.some.inj h, e]
    · rw [let_s, let_s] at h
      rw [← Option.some.inj h, e]
  · rw [← Option.some.inj h]
/-- a new name -/
theorem p_newn {A o c M : Nat} (hA : A = Q + 1 ∨ A = Q + 2 ∨ A = Q + 3) (hP : sw_isP Q) (hn : nmR σ τ A o c) (hs : (sw_s A).2 = M) (hM : M < 4000) (hc : c < M) (ho : o + c < 16) (h : pz B n Q σ0 τ0 σ τ p) (hT : ¬ teT B n p = 1) :
    ∃ σ1, fX7_readNext σ = some σ1 ∧ cfr σ σ1 ∧ ((∃ σ' τ' p', fX5_readNewName A σ1 (nI c) = some (1, σ') ∧ fX10_newName τ (nI o) (nI c) = some τ' ∧ pz B n Q σ0 τ0 σ' τ' p' ∧ p ≤ p' ∧ σ'.2.2 = σ.2.2 ∧ (∀ a, a ≠ 2 → σ'.1 a = σ.1 a) ∧ (∀ a, a ≠ 2 → a ≠ A → σ'.2.1 a = σ.2.1 a) ∧ (∀ a, a ≠ 49 → τ'.1 a = τ.1 a) ∧ (∀ k, 8 < k → τ'.1 49 k = τ.1 49 k) ∧ (∀ j, j ≠ o + c → τ'.2.1 51 j = τ.2.1 51 j) ∧ nmR σ' τ' A o (c + 1)) ∨ (∃ σ' τ', fX5_readNewName A σ1 (nI c) = some (0, σ') ∧ fX10_newName τ (nI o) (nI c) = some τ' ∧ pq Q σ0 τ0 σ' τ' ∧ ∀ k, 8 < k → τ'.1 49 k = τ.1 49 k)) := by
  obtain ⟨σ1, τ1, s1, s2, s3, s4, s5⟩ := p_next h hT
  refine ⟨σ1, s1, s4, ?_⟩
  have hA2 : A ≠ 2 := by rcases hA with rfl | rfl | rfl <;> exact isP2 hP
  have hn1 : nmR σ1 τ1 A o c := nmR_cg hn (fun j _ => ⟨by rw [s4.2.2 A hA2], by rw [s5.2.2.1 51 (by decide)]⟩)
  have p1 := (nx_pos (B := B) h.1.2.1).1
  have lt : nI c < Int32.ofNat (sw_s A).2 := by rw [hs]; exact nI_lt (b := M) hc (by omega)
  have h0 : τ1.1 49 2 = 0 := s3.2.1.2.2.2.1
  have z : (0 : Int32) ≤ 0 := by decide
  unfold fX5_readNewName fX10_newName
  rw [s2, b1_s]
  rcases p_name s3 with ⟨a1, a2, a3, a4, a5, a6⟩ | ⟨a1, a2⟩
  · rw [a1, a2, if_neg i10, if_neg i10, if_pos lt, a5]
    rcases p_find hn1 a4 hs hM (by omega) (by omega) a6 with ⟨c1, c2, c3⟩ | ⟨j, c1, c2, c3⟩
    · -- stored
      obtain ⟨x, hx⟩ : ∃ x, x = teX B n (nx B n p) := ⟨_, rfl⟩
      obtain ⟨y, hy⟩ : ∃ y, y = teY B n (nx B n p) := ⟨_, rfl⟩
      rw [← hx] at c1 c3 a4 a5
      rw [← hy] at a4 a6
      have pz2 : pz B n Q σ0 τ0 (sw_wL σ1 A c (lN x)) (sw_wL τ1 51 (o + c) (lN y)) (nx B n p) := by
        obtain ⟨⟨⟨b1, b2, b3⟩, h2, h3⟩, ⟨d1, d2, d3, d4, d5⟩, h5, h6, h7, h8⟩ := s3
        have l4 : (sw_wL σ1 A c (lN x)).2.1 4 = σ1.2.1 4 := if_neg (by rcases hA with rfl | rfl | rfl <;> rcases hP with rfl | rfl <;> omega)
        have l2 : (sw_wL σ1 A c (lN x)).2.1 2 = σ1.2.1 2 := if_neg (fun e => hA2 e.symm)
        have l49 : (sw_wL τ1 51 (o + c) (lN y)).2.1 49 = τ1.2.1 49 := rfl
        refine ⟨⟨⟨b1, b2, fun k hk => by rw [l4]; exact b3 k hk⟩, h2, ?_⟩, ⟨d1, d2, ?_, d4, d5⟩, h5, h6, h7.tr ⟨rfl, fun _ _ _ _ => rfl, fun a _ a2 => if_neg (fun e => a2 (by rw [e]; rcases hA with rfl | rfl | rfl <;> omega))⟩, h8.tr ⟨rfl, fun _ _ _ _ _ _ _ _ => rfl, fun a _ a2 => if_neg a2, fun _ _ => rfl⟩⟩
        · show ctk B n (nx B n p) (σ1.1 2) ((sw_wL σ1 A c (lN x)).2.1 2 6)
          rw [l2]; exact h3
        · show etk B n (nx B n p) (τ1.1 49) ((sw_wL τ1 51 (o + c) (lN y)).2.1 49 9)
          rw [l49]; exact d3
      obtain ⟨σ', τ', r1, r2, r3, r4, r5⟩ := p_next pz2 (by omega)
      have p2 := (nx_pos (B := B) s3.1.2.1).1
      rw [← hx, c1, b1_s, if_pos rfl, hs, sw_gd_t (in_t hc (by omega)), let_s, nI_clamp (by omega), r1, b1_s, c2, b1_s, if_pos (by decide), fX10_newName_L33, h0, if_pos z, nI_add, sw_gd_t (in_t (show o + c < 16 by omega) (by decide)), nI_clamp (by omega), a6, let_s, r2, b1_s]
      refine .inl ⟨σ', τ', nx B n (nx B n p), rfl, rfl, r3, by omega, ?_, fun a ha => ?_, fun a ha ha2 => ?_, fun a ha => ?_, fun k hk => ?_, fun j hj => ?_, ?_⟩
      · rw [r4.1]; exact s4.1
      · rw [r4.2.1 a ha]; exact s4.2.1 a ha
      · rw [r4.2.2 a ha]
        show (if a = A then _ else σ1.2.1 a) = _
        rw [if_neg ha2]; exact s4.2.2 a ha
      · rw [r5.2.1 a ha]; exact s5.2.1 a ha
      · rw [r5.2.2.2 k (by omega) (by omega) (by omega) (by omega)]
        exact s5.2.2.2 k (by omega) (by omega) (by omega) (by omega)
      · rw [r5.2.2.1 51 (by decide)]
        show vp_updL (τ1.2.1 51) (o + c) (lN y) j = _
        unfold vp_updL
        rw [if_neg hj, s5.2.2.1 51 (by decide)]
      · obtain ⟨C, W, q1, q2⟩ := hn1
        refine ⟨fun j => if j = c then x else C j, fun j => if j = c then y else W j, fun j hj => ?_, fun i j hij hj => ?_⟩
        · have e1 : σ'.2.1 A j = if j = c then lN x else σ1.2.1 A j := by
            rw [r4.2.2 A hA2]
            show (if A = A then vp_updL (σ1.2.1 A) c (lN x) else σ1.2.1 A) j = _
            rw [if_pos rfl]
            rfl
          have e2 : τ'.2.1 51 (o + j) = if j = c then lN y else τ1.2.1 51 (o + j) := by
            rw [r5.2.2.1 51 (by decide)]
            show vp_updL (τ1.2.1 51) (o + c) (lN y) (o + j) = _
            unfold vp_updL
            by_cases e : j = c
            · rw [if_pos (by rw [e]), if_pos e]
            · rw [if_neg (by omega), if_neg e]
          rw [e1, e2]
          by_cases e : j = c
          · simp only [if_pos e]
            exact ⟨a4, trivial, trivial⟩
          · simp only [if_neg e]
            exact q1 j (by omega)
        · have hi : ¬ i = c := by omega
          show ¬ (if i = c then x else C i) = if j = c then x else C j
          rw [if_neg hi]
          by_cases e : j = c
          · rw [if_pos e]
            intro ex
            refine c3 i (by omega) ?_
            rw [(q1 i (by omega)).2.1, ex]
          · rw [if_neg e]
            exact q2 i j hij (by omega)
    · obtain ⟨σ', τ', e1, e2, e3⟩ := p_fail (w := 3) (by decide) s3
      rw [c2, b1_s, if_neg (nI_nm (by omega)), e1, b2_s, sw_gd_t bo0, c3, b1_s, if_neg (nI_pos (by omega)), e2, b1_s, fX10_newName_L33, if_neg e3.2.2.1]
      exact .inr ⟨σ', τ', rfl, rfl, e3, fun k hk => by rw [wro_k e2 (by omega)]; exact s5.2.2.2 k (by omega) (by omega) (by omega) (by omega)⟩
  · obtain ⟨σ', τ', e1, e2, e3⟩ := p_fail (w := 2) (by decide) s3
    rw [a1, a2, if_pos rfl, if_pos rfl, fX5_readNewName_L16, e1, b2_s, sw_gd_t bo0, e2, b1_s, fX10_newName_L33, if_neg e3.2.2.1]
    exact .inr ⟨σ', τ', rfl, rfl, e3, fun k hk => by rw [wro_k e2 (by omega)]; exact s5.2.2.2 k (by omega) (by omega) (by omega) (by omega)⟩
end PD
