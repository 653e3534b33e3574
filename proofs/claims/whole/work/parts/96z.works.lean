/-! works, in both -/
section PV
variable {σ : sw_M}
theorem nsum0 : ∀ K, n_sum (fun _ => 0) K = 0
  | 0 => rfl
  | K + 1 => by
    show n_sum (fun _ => 0) K + 0 = 0
    rw [nsum0 K]
theorem r_fail {τ υ υ' : sw_M} {Q : Nat} (h : rel σ) (hQ : sw_pl (σ.2.2 1) = Q) (hq : pq Q σ (sw_w υ 49 1 0) τ υ') (hυ : υ = sw_w τ 2 1 0) (h49 : υ.1 49 = σ.1 49) : rel υ' := by
  obtain ⟨P, K, N, R, Bn, z, mm, ww, r1, r2, r3, r4, r5, r6, r7, r8, r9⟩ := h
  have hPP := rl_isP r1
  have hQQ : sw_isP Q := by rw [← hQ]; exact sw_pl_P _
  have hne : Q ≠ P := by rw [← hQ]; exact r1.2.1
  obtain ⟨q1, q2, q3, q4, q5⟩ := hq
  have key : ∀ a, a ≠ 1 → a ≠ 2 → ¬ (Q ≤ a ∧ a ≤ Q + 10) → a ≠ 49 → a ≠ 52 → a ≠ 53 → a ≠ 56 → a ≠ 59 → a ≠ 60 → a ≠ 61 → υ'.1 a = σ.1 a := fun a a1 a2 a3 a4 a5 a6 a7 a8 a9 a10 => by
    rw [q5.2.1 a a4 a5 a6 a7 a8 a9 a10, m_wne a4, hυ, m_wne a2]
    exact q4.2.1 a a1 a2 a3
  have key2 : ∀ a, a < 5 ∨ 26 < a → a ≠ 1 → a ≠ 2 → a ≠ 49 → a ≠ 52 → a ≠ 53 → a ≠ 56 → a ≠ 59 → a ≠ 60 → a ≠ 61 → υ'.1 a = σ.1 a := fun a a0 a1 a2 a4 a5 a6 a7 a8 a9 a10 => key a a1 a2 (by rcases hQQ with rfl | rfl <;> omega) a4 a5 a6 a7 a8 a9 a10
  have keyP : ∀ j, j ≤ 8 → υ'.1 (P + j) = σ.1 (P + j) := fun j hj => by
    rcases hQQ with rfl | rfl <;> rcases hPP with rfl | rfl
    · exact absurd rfl hne
    · exact key _ (by omega) (by omega) (by omega) (by omega) (by omega) (by omega) (by omega) (by omega) (by omega) (by omega)
    · exact key _ (by omega) (by omega) (by omega) (by omega) (by omega) (by omega) (by omega) (by omega) (by omega) (by omega)
    · exact absurd rfl hne
  have keyk : ∀ k, psl k = false → k ≠ 1 → υ'.1 49 k = σ.1 49 k := fun k hk h1 => by rw [q5.2.2.2 k hk, w_at, upd_n h1, h49]
  have k1 : υ'.1 1 = τ.1 1 := by rw [q5.2.1 1 (by decide) (by decide) (by decide) (by decide) (by decide) (by decide) (by decide), m_wne (by decide), hυ, m_wne (by decide)]
  have e22 : υ'.2.2 = σ.2.2 := by
    rw [q5.1]
    show υ.2.2 = σ.2.2
    rw [hυ]
    exact q4.1
  refine ⟨P, K, N, R, Bn, z, mm, ww, rl_p_cg e22 (keyP 0 (by omega)) (keyP 4 (by omega)) (keyP 5 (by omega)) (keyP 6 (by omega)) (keyP 7 (by omega)) (keyP 8 (by omega)) ?_ ?_ ?_ ?_ ?_ (keyk _ rfl (by decide)) (keyk _ rfl (by decide)) (keyk _ rfl (by decide)) (keyk _ rfl (by decide)) (keyk _ rfl (by decide)) (keyk _ rfl (by decide)) (keyk _ rfl (by decide)) (keyk _ rfl (by decide)) (keyk _ rfl (by decide)) r1, rl_v_cg ?_ ?_ ?_ r2, rl_a_cg ?_ ?_ ?_ ?_ (keyk _ rfl (by decide)) (keyk _ rfl (by decide)) r3, rl_b_cg ?_ ?_ ?_ ?_ r4, rl_l_cg (congrFun (key2 0 (by decide) (by decide) (by decide) (by decide) (by decide) (by decide) (by decide) (by decide) (by decide) (by decide)) 8) ?_ ?_ (keyk _ rfl (by decide)) r5, rl_s_cg ?_ ?_ ?_ ?_ ?_ ?_ ?_ ?_ ?_ ?_ ?_ ?_ ?_ ?_ (keyk _ rfl (by decide)) (keyP 0 (by omega)) (keyP 4 (by omega)) (keyP 6 (by omega)) r6, rl_t_cg (congrFun (key2 0 (by decide) (by decide) (by decide) (by decide) (by decide) (by decide) (by decide) (by decide) (by decide) (by decide)) 9) (keyk _ rfl (by decide)) r7, ⟨by rw [k1]; exact q1, by rw [k1]; exact q2⟩, ⟨0, by omega, ?_, ?_, fun j hj => absurd hj (by omega)⟩, fun k hk => ?_⟩
  any_goals exact key2 _ (by decide) (by decide) (by decide) (by decide) (by decide) (by decide) (by decide) (by decide) (by decide) (by decide)
  · rw [q5.2.1 2 (by decide) (by decide) (by decide) (by decide) (by decide) (by decide) (by decide), m_wne (by decide), hυ, w_at, upd_e]; rfl
  · rw [q5.2.2.2 1 rfl, w_at, upd_e]; rfl
  · rw [q5.2.2.1 4 (by decide) (by decide)]
    show υ.2.1 4 k = sw_key k
    rw [hυ]
    show τ.2.1 4 k = sw_key k
    rw [q4.2.2 4 (by decide) (by rcases hQQ with rfl | rfl <;> omega)]
    exact r9.2 k hk
end PV
section PW
variable {σ σ2 τ2 υ : sw_M} {B : Nat → Nat} {n Q p K N R Bn : Nat} {r : Int32}
theorem r_ok (h : rel σ) (hQ : sw_pl (σ.2.2 1) = Q) (hz : pz B n Q σ (sw_w υ 49 1 0) σ2 τ2 p) (hd : dR Q σ2 τ2 K N R Bn) (hf : fR Q σ2 τ2) (hc : fX9_works_L46 σ2 1 = some (r, υ)) (h49 : υ.1 49 = σ.1 49) (hra : fX10_readAll υ = some τ2) : ∃ υ3, fX10_works υ = some (r, υ3) ∧ rel υ3 := by
  obtain ⟨P0, K0, N0, R0, Bn0, z0, mm0, ww0, r1, _, _, _, _, _, r7, _, r9⟩ := h
  have hQQ : sw_isP Q := by rw [← hQ]; exact sw_pl_P _
  have hne : ¬ P0 = Q := fun e => r1.2.1 (by rw [hQ]; exact e.symm)
  have t2 : τ2.1 49 2 = 0 := hz.2.1.2.2.2.1
  have t3 : τ2.1 49 3 = -1 := hz.2.1.2.2.2.2
  have s12 : σ2.1 1 2 = 0 := hz.2.2.1
  have s13 : σ2.1 1 3 = -1 := hz.2.2.2.1
  have fp : pfr Q σ σ2 := hz.2.2.2.2.1
  have fq : qfr (sw_w υ 49 1 0) τ2 := hz.2.2.2.2.2
  obtain ⟨υ', c1, c2, ⟨c3, c4⟩, c5, c6, c7, c8, c9, ⟨c10, c11⟩, c12, ⟨c13, c14⟩, c15, c16⟩ := c_46 (σ := σ2) hQQ (by rw [fp.1]; exact hQ)
  rw [c1] at hc
  obtain ⟨hr, hυ⟩ : σ2.1 Q 1 = r ∧ υ' = υ := by
    have := Option.some.inj hc
    exact ⟨congrArg Prod.fst this, congrArg Prod.snd this⟩
  subst hυ
  obtain ⟨⟨d1, d2, d3⟩, ⟨d4, d5, d6⟩, ⟨d7, d8, d9⟩, ⟨d10, d11, d12⟩, ⟨sc, d13, d14, d15⟩, ⟨dw, d16, d17, d18⟩, d19, d20, _, _, _, ⟨tb1, _⟩, ⟨tb2, _⟩, ⟨u1, u2, u3⟩, ⟨l1, l2⟩⟩ := hd
  -- the formula's size
  obtain ⟨z, z1, z2, z3, z4, z5, z6, z7, z8⟩ : ∃ z, σ2.1 (Q + 7) 2 = nI z ∧ z ≤ 270 ∧ q_ok (σ2.1 (Q + 8)) z ∧ (∀ k, k < z → q_enc (τ2.1 52 k) (τ2.1 53 k) (σ2.1 (Q + 8) k)) ∧ (σ2.1 (Q + 7) 1 = 0 → ∀ k, k < z → σ2.1 (Q + 8) k ≠ -6) ∧ σ2.1 (Q + 7) 0 = τ2.1 49 20 ∧ ((τ2.1 49 24 = 0 ∧ z = 0) ∨ (τ2.1 49 24 = 1 ∧ z ≠ 0 ∧ τ2.1 49 17 = nI z)) ∧ z ≤ 320 := by
    rcases hf with ⟨f0, f1, f2, f3, f4⟩ | ⟨u, z, f1, f2, f3, f4, f5, f6, f7, f8, f9, f10, f11, f12⟩
    · exact ⟨0, f2, by omega, fun x => absurd x (by omega), fun k hk => absurd hk (by omega), fun _ k hk => absurd hk (by omega), by rw [f0, f4], .inl ⟨f3, rfl⟩, by omega⟩
    · exact ⟨z, f8, f4, f11, f10, f12, by rw [f5, f6], .inr ⟨f7, by omega, f9⟩, by omega⟩
  -- the reference's slots
  obtain ⟨ma, hma⟩ : ∃ m, m = sw_w (sw_w (sw_w (sw_w (sw_w (sw_w (sw_w (sw_w τ2 49 40 (nI K)) 49 41 (nI N)) 49 42 (nI Bn)) 49 43 (nI R)) 49 44 (τ2.1 49 37)) 49 45 (nI sc)) 49 21 (τ2.1 49 20)) 49 25 (τ2.1 49 24) := ⟨_, rfl⟩
  obtain ⟨mb, hmb⟩ : ∃ m, m = sw_w ma 49 18 (nI z) := ⟨_, rfl⟩
  have G : mb.1 49 = upd (upd (upd (upd (upd (upd (upd (upd (upd (τ2.1 49) 40 (nI K)) 41 (nI N)) 42 (nI Bn)) 43 (nI R)) 44 (τ2.1 49 37)) 45 (nI sc)) 21 (τ2.1 49 20)) 25 (τ2.1 49 24)) 18 (nI z) := by rw [hmb, hma]; simp only [w_at]
  have ob : ∀ a, a ≠ 49 → mb.1 a = τ2.1 a := fun a x => by rw [hmb, hma, m_wne x, m_wne x, m_wne x, m_wne x, m_wne x, m_wne x, m_wne x, m_wne x, m_wne x]
  have lb : mb.2 = τ2.2 := by rw [hmb, hma]; rfl
  obtain ⟨υ3, m, w1, w2, w3, w4, w5⟩ := w98 (σ := mb) (z := z) (N := N) (R := R) (Bn := Bn) (by rw [G]; rfl) z8 (by rw [G]; rfl) d6 (by rw [G]; rfl) d9 (by rw [G]; rfl) d12
  obtain ⟨v1, v2, v3, v4, v5, ⟨v6, v7, v8, v9⟩, v10, v11, v12, v13⟩ := w2
  have hworks : fX10_works υ' = some (r, υ3) := by
    have e1 : r = nI N := by rw [← hr]; exact d4
    have n49 : ∀ (k : Nat) (x : Int32) (j : Nat), j ≠ k → (sw_w τ2 49 k x).1 49 j = τ2.1 49 j := fun k x j hj => by rw [w_at, upd_n hj]
    have hb : sw_bo (τ2.1 49 24) = true := by
      rcases z7 with ⟨e, _⟩ | ⟨e, _⟩ <;> rw [e] <;> decide
    have a24 : ma.1 49 24 = τ2.1 49 24 := by rw [hma]; simp only [w_at]; rfl
    have a17 : ma.1 49 17 = τ2.1 49 17 := by rw [hma]; simp only [w_at]; rfl
    have hl : fX10_works υ' = if ma.1 49 24 = 0 then fX10_works_L93 ma 0 else fX10_works_L93 ma (ma.1 49 17) := by
      rw [fX10_works, hra, b1_s, t2, if_pos (by decide), d2, let_s]
      rw [show (sw_w τ2 49 40 (nI K)).1 49 34 = nI N by rw [w_at, upd_n (by decide)]; exact d5, let_s]
      rw [show (sw_w (sw_w τ2 49 40 (nI K)) 49 41 (nI N)).1 49 35 = nI Bn by rw [w_at, upd_n (by decide), w_at, upd_n (by decide)]; exact d11, let_s]
      rw [show (sw_w (sw_w (sw_w τ2 49 40 (nI K)) 49 41 (nI N)) 49 42 (nI Bn)).1 49 36 = nI R by rw [w_at, upd_n (by decide), w_at, upd_n (by decide), w_at, upd_n (by decide)]; exact d8, let_s]
      rw [show (sw_w (sw_w (sw_w (sw_w τ2 49 40 (nI K)) 49 41 (nI N)) 49 42 (nI Bn)) 49 43 (nI R)).1 49 37 = τ2.1 49 37 by rw [w_at, upd_n (by decide), w_at, upd_n (by decide), w_at, upd_n (by decide), w_at, upd_n (by decide)], let_s]
      rw [show (sw_w (sw_w (sw_w (sw_w (sw_w τ2 49 40 (nI K)) 49 41 (nI N)) 49 42 (nI Bn)) 49 43 (nI R)) 49 44 (τ2.1 49 37)).1 49 38 = nI sc by rw [w_at, upd_n (by decide), w_at, upd_n (by decide), w_at, upd_n (by decide), w_at, upd_n (by decide), w_at, upd_n (by decide)]; exact d15, let_s]
      rw [show (sw_w (sw_w (sw_w (sw_w (sw_w (sw_w τ2 49 40 (nI K)) 49 41 (nI N)) 49 42 (nI Bn)) 49 43 (nI R)) 49 44 (τ2.1 49 37)) 49 45 (nI sc)).1 49 20 = τ2.1 49 20 by rw [w_at, upd_n (by decide), w_at, upd_n (by decide), w_at, upd_n (by decide), w_at, upd_n (by decide), w_at, upd_n (by decide), w_at, upd_n (by decide)], let_s]
      rw [show (sw_w (sw_w (sw_w (sw_w (sw_w (sw_w (sw_w τ2 49 40 (nI K)) 49 41 (nI N)) 49 42 (nI Bn)) 49 43 (nI R)) 49 44 (τ2.1 49 37)) 49 45 (nI sc)) 49 21 (τ2.1 49 20)).1 49 24 = τ2.1 49 24 by rw [w_at, upd_n (by decide), w_at, upd_n (by decide), w_at, upd_n (by decide), w_at, upd_n (by decide), w_at, upd_n (by decide), w_at, upd_n (by decide), w_at, upd_n (by decide)], let_s, sw_gd_t hb, let_s, ← hma]
    rw [hl, a24, a17, e1]
    rcases z7 with ⟨e, e'⟩ | ⟨e, _, e'⟩
    · have hm0 : sw_w ma 49 18 0 = mb := by rw [hmb, e']; rfl
      rw [e, if_pos rfl, fX10_works_L93, let_s, hm0]
      exact w1
    · rw [e, if_neg i10, fX10_works_L93, let_s, e', ← hmb]
      exact w1
  refine ⟨υ3, hworks, ?_⟩
  -- where the cells come from
  have cc : ∀ a, a < 49 → υ3.1 a = υ'.1 a := fun a ha => by
    rw [v2 a (by omega) (by omega) (by omega) (by omega) (by omega) (by omega), w4 a (by omega) (by omega), ob a (by omega), fq.2.1 a (by omega) (by omega) (by omega) (by omega) (by omega) (by omega) (by omega), m_wne (by omega)]
  have cq : ∀ j, j ≤ 8 → υ3.1 (Q + j) = σ2.1 (Q + j) := fun j hj => by
    have hb : Q + j < 27 ∧ 5 ≤ Q + j := by rcases hQQ with rfl | rfl <;> omega
    rw [cc _ (by omega), c5 _ (by omega) (by omega) (by omega) (by omega) (by omega) (by omega) (by omega)]
  have cq0 : υ3.1 Q = σ2.1 Q := cq 0 (by omega)
  have k49 : ∀ k, k ≠ 52 → k ≠ 53 → k ≠ 66 → k ≠ 57 → υ3.1 49 k = mb.1 49 k := fun k a b c d => by rw [v10 k a b c d, w4 49 (by decide) (by decide)]
  have l3 : υ3.2 = τ2.2 := by rw [v1, w3, lb]
  have e64 : ∀ q, q < 4 * R → υ3.1 64 q = τ2.1 61 q := fun q hq => by rw [v13 q hq, w4 61 (by decide) (by decide), ob 61 (by decide)]
  have e64' : ∀ r c, r < R → c < 4 → υ3.1 64 (4 * r + c) = υ3.1 (Q + 6) (4 * r + c) := fun r c hr hc => by rw [e64 _ (by omega), cq 6 (by omega), u1 r c hr hc]
  obtain ⟨mm, hmm⟩ : ∃ mm : Nat → Nat, mm = fun q => (σ2.1 (Q + 4) q).toNatClampNeg := ⟨_, rfl⟩
  obtain ⟨ww, hww⟩ : ∃ ww : Nat → Nat, ww = fun q => (σ2.1 (Q + 5) q).toNatClampNeg := ⟨_, rfl⟩
  have hm1 : ∀ q, q < 5 * N → σ2.1 (Q + 4) q = nI (mm q) ∧ τ2.1 59 q = nI (mm q) ∧ mm q ≤ 20 := fun q hq => by
    obtain ⟨x, x1, x2, x3⟩ := tb1 q hq
    have : mm q = x := by rw [hmm]; show (σ2.1 (Q + 4) q).toNatClampNeg = x; rw [x2, nI_clamp (by omega)]
    rw [this]
    exact ⟨x2, x3, x1⟩
  have hw1 : ∀ q, q < 5 * Bn → σ2.1 (Q + 5) q = nI (ww q) ∧ τ2.1 60 q = nI (ww q) ∧ ww q ≤ 20 := fun q hq => by
    obtain ⟨x, x1, x2, x3⟩ := tb2 q hq
    have : ww q = x := by rw [hww]; show (σ2.1 (Q + 5) q).toNatClampNeg = x; rw [x2, nI_clamp (by omega)]
    rw [this]
    exact ⟨x2, x3, x1⟩
  have z65 : ∀ j, j < 9 → ck (υ3.1 65) j = 0 := fun j hj => by
    unfold ck
    rw [if_pos (by omega), v3 j hj]
  refine ⟨Q, K, N, R, Bn, z, mm, ww, ⟨?_, ?_, ⟨by rw [cq0]; exact d1, d3, by rw [cq0]; exact d7, d9, by rw [cq 6 (by omega)]; exact u2, by rw [cq 7 (by omega)]; exact z1, z2, by rw [cq 8 (by omega)]; exact z3⟩, ⟨?_, d3, ?_, d9, fun r hr c hc => ?_, ?_, z8, by rw [cq 8 (by omega)]; exact z3, ?_, fun k hk => ?_⟩, ⟨by rw [cq0]; exact d4, ?_, d6⟩, ⟨by rw [cq0]; exact d10, ?_, d12⟩, ⟨by rw [cq 6 (by omega)]; exact u3, e64'⟩, fun q j hq hj => ?_, fun q j hq hj => ?_, ⟨sc, d13, by rw [cq0]; exact d14, ?_⟩, ?_, ?_, fun h0 => ?_⟩, ⟨?_, ⟨fun j _ hj => z65 j (by omega), ⟨0, Nat.two_pow_pos N, z65 5 (by omega), fun _ => 0, fun j hj => z65 j (by omega), fun _ _ => Nat.zero_le _, by rw [nsum0]; exact Nat.zero_le _⟩, ⟨0, Nat.two_pow_pos Bn, z65 6 (by omega)⟩, ⟨0, by omega, z65 8 (by omega)⟩⟩⟩, ⟨0, 0, ?_, ?_, v6, v7, ⟨⟨by omega, by omega, fun j hj => absurd hj (by omega), fun j _ hj => absurd hj (by omega)⟩, fun x => absurd x (by omega)⟩, fun j hj => absurd hj (by omega)⟩, fun i hi => ⟨?_, fun x => absurd (v5 i hi) x⟩, ⟨0, by omega, ?_, v9, fun i hi => absurd hi (by omega)⟩, ⟨⟨0, by omega, ?_, v8, fun i hi => absurd hi (by omega)⟩, fun x => absurd ?_ x⟩, ?_, ⟨?_, ?_⟩, ⟨0, by omega, ?_, ?_, fun j hj => absurd hj (by omega)⟩, fun k hk => ?_⟩
  · rw [l3, fq.1]; exact c3
  · rw [l3, fq.1]
    show sw_pl (υ'.2.2 1) ≠ Q
    rw [c4, fp.1, r1.1]
    exact hne
  · rw [k49 40 (by decide) (by decide) (by decide) (by decide), G]; rfl
  · rw [k49 43 (by decide) (by decide) (by decide) (by decide), G]; rfl
  · obtain ⟨j, j1, j2⟩ := u2 r hr c hc
    exact ⟨j, j1, by rw [e64' r c hr (by omega), cq 6 (by omega)]; exact j2⟩
  · rw [k49 18 (by decide) (by decide) (by decide) (by decide), G]; rfl
  · rw [k49 25 (by decide) (by decide) (by decide) (by decide), G]
    show τ2.1 49 24 = 0 ↔ z = 0
    rcases z7 with ⟨e, e'⟩ | ⟨e, e', _⟩
    · exact ⟨fun _ => e', fun _ => e⟩
    · exact ⟨fun x => absurd (e.symm.trans x) (by decide), fun x => absurd x e'⟩
  · rw [cq 8 (by omega), v2 54 (by decide) (by decide) (by decide) (by decide) (by decide) (by decide), v2 55 (by decide) (by decide) (by decide) (by decide) (by decide) (by decide), (w5 k hk).1, (w5 k hk).2, ob 52 (by decide), ob 53 (by decide)]
    exact z4 k hk
  · rw [k49 41 (by decide) (by decide) (by decide) (by decide), G]; rfl
  · rw [k49 42 (by decide) (by decide) (by decide) (by decide), G]; rfl
  · obtain ⟨x1, x2, x3⟩ := hm1 (5 * q + j) (by omega)
    exact ⟨by rw [cq 4 (by omega)]; exact x1, by rw [v11 _ (by omega), w4 59 (by decide) (by decide), ob 59 (by decide)]; exact x2, x3⟩
  · obtain ⟨x1, x2, x3⟩ := hw1 (5 * q + j) (by omega)
    exact ⟨by rw [cq 5 (by omega)]; exact x1, by rw [v12 _ (by omega), w4 60 (by decide) (by decide), ob 60 (by decide)]; exact x2, x3⟩
  · rw [k49 45 (by decide) (by decide) (by decide) (by decide), G]; rfl
  · rw [k49 21 (by decide) (by decide) (by decide) (by decide), G, cq 7 (by omega)]
    exact z6
  · rw [cq 7 (by omega), cq 8 (by omega)]
    exact z5
  · obtain ⟨lk, mk, y1, y2, y3, y4, y5⟩ := l2 h0
    refine ⟨lk, y1, by rw [cq0]; exact y2, ?_, ?_⟩
    · rw [k49 44 (by decide) (by decide) (by decide) (by decide), G]
      show τ2.1 49 37 = nI lk
      rw [← l1]; exact y2
    · have := (hm1 (5 * (N - 1) + lk) (by omega)).1
      rw [y5] at this
      have := (nI_eq (by omega) (by have := (hm1 (5 * (N - 1) + lk) (by omega)).2.2; omega)).mp this
      omega
  · funext j
    by_cases h9 : j < 9
    · rw [z65 j h9]
      unfold pk
      by_cases h5 : j < 5
      · rw [if_pos h5, cc 28 (by decide), c7 j h5]
      · rw [if_neg h5, if_pos (by omega), cc 27 (by decide), c8 _ (by omega) (by omega)]
    · by_cases e9 : j = 9
      · rw [e9]
        show υ3.1 27 5 = υ3.1 65 9
        rw [cc 27 (by decide), c9, v4, w4 49 (by decide) (by decide), d17, G]
        exact d18.symm
      · unfold pk ck
        rw [if_neg (by omega), if_neg (by omega), if_neg (by omega)]
  · rw [cc 29 (by decide)]; exact c10
  · rw [cc 29 (by decide)]; exact c11
  · rw [cc 32 (by decide), c12 i hi, v5 i hi]
  · rw [cc 0 (by decide)]; exact c15
  · rw [cc 39 (by decide)]; exact c13
  · rw [cc 39 (by decide)]; exact c14
  · obtain ⟨t, x1, x2, x3⟩ := r7
    refine ⟨t, x1, ?_, ?_⟩
    · rw [cc 0 (by decide), c16, fp.2.1 0 (by decide) (by decide) (by rcases hQQ with rfl | rfl <;> omega)]; exact x2
    · rw [k49 67 (by decide) (by decide) (by decide) (by decide), G]
      show τ2.1 49 67 = nI t
      rw [fq.2.2.2 67 rfl, w_at, upd_n (by decide), h49]
      exact x3
  · rw [cc 1 (by decide), c5 1 (by decide) (by decide) (by decide) (by decide) (by decide) (by decide) (by decide), s12, k49 2 (by decide) (by decide) (by decide) (by decide), G]
    exact t2.symm
  · rw [cc 1 (by decide), c5 1 (by decide) (by decide) (by decide) (by decide) (by decide) (by decide) (by decide), s13, k49 3 (by decide) (by decide) (by decide) (by decide), G]
    exact t3.symm
  · rw [cc 2 (by decide)]; exact c6
  · rw [k49 1 (by decide) (by decide) (by decide) (by decide), G]
    show τ2.1 49 1 = nI 0
    rw [fq.2.2.2 1 rfl, w_at, upd_e]
    rfl
  · rw [l3, fq.2.2.1 4 (by decide) (by decide)]
    show υ'.2.1 4 k = sw_key k
    rw [c2, fp.2.2 4 (by decide) (by rcases hQQ with rfl | rfl <;> omega)]
    exact r9.2 k hk
/-- works -/
theorem k_works (h : rel σ) : k_mm (fX9_works σ) (fun τ => fX10_works τ) := by
  obtain ⟨P0, K0, N0, R0, Bn0, z0, mm0, ww0, r1, _, _, _, _, _, r7, _, ⟨⟨n, i1, i2, i3, i4⟩, i5⟩⟩ := id h
  obtain ⟨Q, hQ⟩ : ∃ Q, sw_pl (σ.2.2 1) = Q := ⟨_, rfl⟩
  have hQQ : sw_isP Q := by rw [← hQ]; exact sw_pl_P _
  obtain ⟨B, hB⟩ : ∃ B : Nat → Nat, B = fun j => (σ.1 50 j).toNatClampNeg := ⟨_, rfl⟩
  have hb : ∀ j, j < n → B j < 256 ∧ σ.1 50 j = nI (B j) ∧ σ.1 3 j = vp_nar .byte (nI (B j)) := fun j hj => by
    obtain ⟨b, b1, b2, b3⟩ := i4 j hj
    have : B j = b := by rw [hB]; show (σ.1 50 j).toNatClampNeg = b; rw [b2, nI_clamp (by omega)]
    rw [this]
    exact ⟨b1, b2, b3⟩
  have hcB : cB σ B n := ⟨i1, fun j hj => ⟨(hb j hj).1, (hb j hj).2.2⟩, i5⟩
  have heB : ∀ τ : sw_M, τ.1 50 = σ.1 50 → eB τ B n := fun τ e => ⟨i1, fun j hj => ⟨(hb j hj).1, by rw [e]; exact (hb j hj).2.1⟩⟩
  have q4 : ∀ a, 26 < a → ¬ (Q ≤ a ∧ a ≤ Q + 10) := fun a ha => by rcases hQQ with rfl | rfl <;> omega
  have l0 : ∀ s : sw_M, fX9_works_L46 s 0 = some (-1, sw_w s 2 1 0) := fun s => by rw [fX9_works_L46, let_s, if_pos rfl]
  obtain ⟨r, υ, hc, h49, h50⟩ : ∃ r υ, fX9_works σ = some (r, υ) ∧ υ.1 49 = σ.1 49 ∧ υ.1 50 = σ.1 50 := by
    rcases wk_run (σ := σ) (τ := σ) hQQ hQ hcB (heB σ rfl) i2 i3 with ⟨σ', τ', p', K, N, R, Bn, a1, a2, a3, a4⟩ | ⟨σ', τ', a1, a2, a3⟩
    · have fp : pfr Q σ σ' := a3.2.2.2.2.1
      obtain ⟨υ, c1, c2, c3, c5, _⟩ := c_46 (σ := σ') hQQ (by rw [fp.1]; exact hQ)
      refine ⟨σ'.1 Q 1, υ, a1.trans c1, ?_, ?_⟩
      · rw [c5 49 (by decide) (by decide) (by decide) (by decide) (by decide) (by decide) (by decide)]; exact fp.2.1 49 (by decide) (by decide) (q4 49 (by decide))
      · rw [c5 50 (by decide) (by decide) (by decide) (by decide) (by decide) (by decide) (by decide)]; exact fp.2.1 50 (by decide) (by decide) (q4 50 (by decide))
    · have fp : pfr Q σ σ' := a3.2.2.2.1
      refine ⟨-1, sw_w σ' 2 1 0, a1.trans (l0 σ'), ?_, ?_⟩
      · rw [m_wne (by decide)]; exact fp.2.1 49 (by decide) (by decide) (q4 49 (by decide))
      · rw [m_wne (by decide)]; exact fp.2.1 50 (by decide) (by decide) (q4 50 (by decide))
  rcases wk_run (σ := σ) (τ := υ) hQQ hQ hcB (heB υ h50) i2 (by rw [h49]; exact i3) with ⟨σ', τ', p', K, N, R, Bn, a1, a2, a3, a4, a5⟩ | ⟨σ', τ', a1, a2, a3⟩
  · obtain ⟨υ3, x1, x2⟩ := r_ok h hQ a3 a4 a5 (a1.symm.trans hc) h49 a2
    exact ⟨r, υ, υ3, hc, x1, x2⟩
  · have e := (l0 σ').symm.trans (a1.symm.trans hc)
    have e := Option.some.inj e
    have e1 : (-1 : Int32) = r := congrArg Prod.fst e
    have e2 : sw_w σ' 2 1 0 = υ := congrArg Prod.snd e
    refine ⟨r, υ, τ', hc, ?_, r_fail h hQ a3 e2.symm h49⟩
    show fX10_works υ = _
    rw [fX10_works, a2, b1_s, if_neg a3.2.2.1, e1]
end PW
