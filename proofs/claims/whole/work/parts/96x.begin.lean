/-! both begin to read -/
section PT
variable {σ τ : sw_M} {B : Nat → Nat} {n Q : Nat}
theorem vmx {m k : Nat} {f g : Nat → Int32} (h : k < m) : v_mix m f g k = f k := by unfold v_mix; rw [if_pos h]
theorem c_clear (hP : sw_isP Q) : ∃ σ', fX4_clear Q σ = some σ' ∧ σ'.2 = σ.2 ∧ (∀ a, a ≠ Q → a ≠ Q + 4 → a ≠ Q + 5 → a ≠ Q + 7 → σ'.1 a = σ.1 a) ∧ (∀ k, k ≤ 8 → σ'.1 Q k = 0) ∧ (∀ q, q < 35 → σ'.1 (Q + 4) q = 0) ∧ (∀ q, q < 20 → σ'.1 (Q + 5) q = 0) ∧ (∀ k, k < 3 → σ'.1 (Q + 7) k = 0) := by
  have s4 : (sw_s (Q + 4)).2 = 35 := by rcases hP with rfl | rfl <;> rfl
  have s5 : (sw_s (Q + 5)).2 = 20 := by rcases hP with rfl | rfl <;> rfl
  obtain ⟨m17, h17⟩ : ∃ m, m = sw_w (sw_w (sw_w (sw_w (sw_w (sw_w (sw_w (sw_w (sw_w σ Q 0 0) Q 1 0) Q 2 0) Q 3 0) Q 4 0) Q 5 0) Q 6 0) Q 7 0) Q 8 0 := ⟨_, rfl⟩
  have F : m17.1 Q = upd (upd (upd (upd (upd (upd (upd (upd (upd (σ.1 Q) 0 0) 1 0) 2 0) 3 0) 4 0) 5 0) 6 0) 7 0) 8 0 := by rw [h17]; simp only [w_at]
  have o17 : ∀ a, a ≠ Q → m17.1 a = σ.1 a := fun a ha => by rw [h17, m_wne ha, m_wne ha, m_wne ha, m_wne ha, m_wne ha, m_wne ha, m_wne ha, m_wne ha, m_wne ha]
  have l17 : m17.2 = σ.2 := by rw [h17]; rfl
  obtain ⟨m21, h21⟩ : ∃ m, m = sw_wA (sw_wA m17 (Q + 4) (v_mix 35 (fun _ => 0) (m17.1 (Q + 4)))) (Q + 5) (v_mix 20 (fun _ => 0) ((sw_wA m17 (Q + 4) (v_mix 35 (fun _ => 0) (m17.1 (Q + 4)))).1 (Q + 5))) := ⟨_, rfl⟩
  have o21 : ∀ a, a ≠ Q + 4 → a ≠ Q + 5 → m21.1 a = m17.1 a := fun a x y => by rw [h21, m_ne y, m_ne x]
  have e4 : ∀ q, q < 35 → m21.1 (Q + 4) q = 0 := fun q hq => by rw [h21, m_ne (by omega), m_eq, vmx hq]
  have e5 : ∀ q, q < 20 → m21.1 (Q + 5) q = 0 := fun q hq => by rw [h21, m_eq, vmx hq]
  obtain ⟨m23, h23⟩ : ∃ m, m = sw_w (sw_w (sw_w m21 (Q + 7) 0 0) (Q + 7) 2 0) (Q + 7) 1 0 := ⟨_, rfl⟩
  have o23 : ∀ a, a ≠ Q + 7 → m23.1 a = m21.1 a := fun a x => by rw [h23, m_wne x, m_wne x, m_wne x]
  have F7 : m23.1 (Q + 7) = upd (upd (upd (m21.1 (Q + 7)) 0 0) 2 0) 1 0 := by rw [h23]; simp only [w_at]
  refine ⟨m23, ?_, ?_, fun a a1 a2 a3 a4 => ?_, fun k hk => ?_, fun q hq => ?_, fun q hq => ?_, fun k hk => ?_⟩
  · rw [fX4_clear, let_s, let_s, let_s, let_s, let_s, let_s, let_s, let_s, let_s, ← h17, c_fill s4 (by decide), b1_s, c_fill s5 (by decide), b1_s, ← h21, fX2_clear, let_s, let_s, let_s, ← h23, b1_s]
  · rw [h23, ← l17, h21]; rfl
  · rw [o23 a a4, o21 a a2 a3, o17 a a1]
  · rw [o23 Q (by omega), o21 Q (by omega) (by omega), F]
    rcases (show k = 0 ∨ k = 1 ∨ k = 2 ∨ k = 3 ∨ k = 4 ∨ k = 5 ∨ k = 6 ∨ k = 7 ∨ k = 8 by omega) with rfl | rfl | rfl | rfl | rfl | rfl | rfl | rfl | rfl <;> rfl
  · rw [o23 _ (by omega)]; exact e4 q hq
  · rw [o23 _ (by omega)]; exact e5 q hq
  · rw [F7]
    rcases (show k = 0 ∨ k = 1 ∨ k = 2 by omega) with rfl | rfl | rfl <;> rfl
theorem wk_run (hP : sw_isP Q) (hQ : sw_pl (σ.2.2 1) = Q) (hB : cB σ B n) (hB' : eB τ B n) (h1 : σ.1 2 1 = nI n) (h1' : τ.1 49 1 = nI n) :
    (∃ σ' τ' p' K N R Bn, fX9_works σ = fX9_works_L46 σ' 1 ∧ fX10_readAll τ = some τ' ∧ pz B n Q σ (sw_w τ 49 1 0) σ' τ' p' ∧ dR Q σ' τ' K N R Bn ∧ fR Q σ' τ') ∨ (∃ σ' τ', fX9_works σ = fX9_works_L46 σ' 0 ∧ fX10_readAll τ = some τ' ∧ pq Q σ (sw_w τ 49 1 0) σ' τ') := by
  -- the class
  obtain ⟨ma, hma⟩ : ∃ m, m = sw_w (sw_w σ 1 2 0) 1 3 (-1) := ⟨_, rfl⟩
  have oa : ∀ a, a ≠ 1 → ma.1 a = σ.1 a := fun a x => by rw [hma, m_wne x, m_wne x]
  obtain ⟨mb, b1, b2, b3, b4, b5, b6, b7⟩ := c_clear (σ := ma) hP
  have q5 : ∀ a, a < 5 → a ≠ Q ∧ a ≠ Q + 4 ∧ a ≠ Q + 5 ∧ a ≠ Q + 7 := fun a ha => by rcases hP with rfl | rfl <;> omega
  have ob : ∀ a, a < 5 → mb.1 a = ma.1 a := fun a ha => b3 a (q5 a ha).1 (q5 a ha).2.1 (q5 a ha).2.2.1 (q5 a ha).2.2.2
  obtain ⟨mc, hmc⟩ : ∃ m, m = sw_w mb 2 3 0 := ⟨_, rfl⟩
  have oc : ∀ a, a ≠ 2 → mc.1 a = mb.1 a := fun a x => by rw [hmc, m_wne x]
  have lc : mc.2 = σ.2 := by
    rw [hmc]
    show mb.2 = σ.2
    rw [b2, hma]
    rfl
  have f1 : pfr Q σ mc := by
    refine ⟨by rw [lc], fun a a1 a2 a3 => ?_, fun a _ _ => by rw [lc]⟩
    rw [oc a a2, b3 a (by omega) (by omega) (by omega) (by omega), oa a a1]
  have hBc : cB mc B n := ⟨hB.1, fun j hj => by rw [oc 3 (by decide), ob 3 (by decide), oa 3 (by decide)]; exact hB.2.1 j hj, fun k hk => by rw [lc]; exact hB.2.2 k hk⟩
  have c1 : mc.1 2 1 = nI n := by rw [hmc, w_at, upd_n (by decide), ob 2 (by decide), oa 2 (by decide)]; exact h1
  have c3 : mc.1 2 3 = nI 0 := by rw [hmc, w_at, upd_e]; rfl
  obtain ⟨f, y, d1, d2⟩ := c_next (a := 0) hBc (by omega) c1 c3
  have fr : cfr mc (cM mc f y) := cM_fr
  -- the reference
  obtain ⟨τ1, ht1⟩ : ∃ t, t = sw_w (sw_w (sw_w (sw_w (sw_w (sw_w (sw_w (sw_w (sw_w (sw_w (sw_w (sw_w (sw_w (sw_w (sw_w (sw_w τ 49 5 (nI n)) 49 1 0) 49 4 0) 49 2 0) 49 3 (-1)) 49 33 0) 49 34 0) 49 35 0) 49 36 0) 49 37 0) 49 38 0) 49 39 0) 49 46 0) 49 47 0) 49 24 0) 49 20 0 := ⟨_, rfl⟩
  have G : τ1.1 49 = upd (upd (upd (upd (upd (upd (upd (upd (upd (upd (upd (upd (upd (upd (upd (upd (τ.1 49) 5 (nI n)) 1 0) 4 0) 2 0) 3 (-1)) 33 0) 34 0) 35 0) 36 0) 37 0) 38 0) 39 0) 46 0) 47 0) 24 0) 20 0 := by rw [ht1]; simp only [w_at]
  have ot : ∀ a, a ≠ 49 → τ1.1 a = τ.1 a := fun a x => by rw [ht1, m_wne x, m_wne x, m_wne x, m_wne x, m_wne x, m_wne x, m_wne x, m_wne x, m_wne x, m_wne x, m_wne x, m_wne x, m_wne x, m_wne x, m_wne x, m_wne x]
  have lt : τ1.2 = τ.2 := by rw [ht1]; rfl
  have f2 : qfr (sw_w τ 49 1 0) τ1 := by
    refine ⟨by rw [lt]; rfl, fun a a1 _ _ _ _ _ _ => by rw [ot a a1, m_wne a1], fun a _ _ => by rw [lt]; rfl, fun k hk => ?_⟩
    have nk : ∀ j, psl j = true → ¬ k = j := fun j hj e => by rw [e, hj] at hk; exact absurd hk (by decide)
    rw [G, w_at, upd_n (nk 20 rfl), upd_n (nk 24 rfl), upd_n (nk 47 rfl), upd_n (nk 46 rfl), upd_n (nk 39 rfl), upd_n (nk 38 rfl), upd_n (nk 37 rfl), upd_n (nk 36 rfl), upd_n (nk 35 rfl), upd_n (nk 34 rfl), upd_n (nk 33 rfl), upd_n (nk 3 rfl), upd_n (nk 2 rfl), upd_n (nk 4 rfl)]
    by_cases e : k = 1
    · rw [e, upd_e, upd_e]
    · rw [upd_n e, upd_n e, upd_n (nk 5 rfl)]
  have hBt : eB τ1 B n := ⟨hB'.1, fun j hj => by rw [ot 50 (by decide)]; exact hB'.2 j hj⟩
  have g5 : τ1.1 49 5 = nI n := by rw [G]; rfl
  have g4 : τ1.1 49 4 = nI 0 := by rw [G]; rfl
  obtain ⟨g, w, i1, i2, i3⟩ := e_next (a := 0) hBt (by omega) g5 g4
  have fe : efr τ1 (eM τ1 g w) := ⟨rfl, fun _ h => eM_n h, fun _ h => eM_ln h, fun k a b c d => i3 k a b c d⟩
  have hp0 : tkP B n 0 ≤ n := (tend_spec (fun i => isB (B i)) n (n - 0) 0 (by omega)).2.2.2 (by omega)
  have k49 : ∀ k, k ≠ 4 → k ≠ 6 → k ≠ 7 → k ≠ 8 → (eM τ1 g w).1 49 k = τ1.1 49 k := fe.2.2.2
  have z0 : pz B n Q σ (sw_w τ 49 1 0) (cM mc f y) (eM τ1 g w) (tkP B n 0) := by
    refine ⟨⟨cB_fr hBc fr, hp0, d2⟩, ⟨eB_fr hBt fe, hp0, i2, ?_, ?_⟩, ?_, ?_, f1.tr (pfr_c fr), f2.tr (qfr_e fe)⟩
    · rw [k49 2 (by decide) (by decide) (by decide) (by decide), G]; rfl
    · rw [k49 3 (by decide) (by decide) (by decide) (by decide), G]; rfl
    · rw [fr.2.1 1 (by decide), oc 1 (by decide), ob 1 (by decide), hma, w_at, upd_n (by decide), w_at, upd_e]
    · rw [fr.2.1 1 (by decide), oc 1 (by decide), ob 1 (by decide), hma, w_at, upd_e]
  have q2 : ∀ j, (2 : Nat) ≠ Q + j ∧ Q + j ≠ 2 := fun j => by rcases hP with rfl | rfl <;> omega
  have aQ : ∀ j, (cM mc f y).1 (Q + j) = mb.1 (Q + j) := fun j => by rw [fr.2.1 _ (q2 j).2, oc _ (q2 j).2]
  have hd0 : dR Q (cM mc f y) (eM τ1 g w) 0 0 0 0 := by
    have a0 : ∀ k, k ≤ 8 → (cM mc f y).1 Q k = 0 := fun k hk => by rw [show (cM mc f y).1 Q = mb.1 Q from aQ 0]; exact b4 k hk
    have e0 : ∀ k, (33 ≤ k ∧ k ≤ 39) ∨ k = 46 ∨ k = 47 → (eM τ1 g w).1 49 k = 0 := fun k hk => by
      rw [k49 k (by omega) (by omega) (by omega) (by omega), G]
      rcases (show k = 33 ∨ k = 34 ∨ k = 35 ∨ k = 36 ∨ k = 37 ∨ k = 38 ∨ k = 39 ∨ k = 46 ∨ k = 47 by omega) with rfl | rfl | rfl | rfl | rfl | rfl | rfl | rfl | rfl <;> rfl
    refine ⟨⟨a0 0 (by omega), e0 33 (by omega), by omega⟩, ⟨a0 1 (by omega), e0 34 (by omega), by omega⟩, ⟨a0 2 (by omega), e0 36 (by omega), by omega⟩, ⟨a0 3 (by omega), e0 35 (by omega), by omega⟩, ⟨0, by omega, a0 4 (by omega), e0 38 (by omega)⟩, ⟨0, by omega, a0 5 (by omega), e0 39 (by omega)⟩, by rw [a0 6 (by omega), e0 46 (by omega)], by rw [a0 7 (by omega), e0 47 (by omega)], ⟨fun _ => 0, fun _ => 0, fun j hj => absurd hj (by omega), fun i j _ hj => absurd hj (by omega)⟩, ⟨fun _ => 0, fun _ => 0, fun j hj => absurd hj (by omega), fun i j _ hj => absurd hj (by omega)⟩, ⟨fun _ => 0, fun _ => 0, fun j hj => absurd hj (by omega), fun i j _ hj => absurd hj (by omega)⟩, ⟨fun q hq => absurd hq (by omega), fun q _ hq => by rw [aQ 4]; exact b5 q hq⟩, ⟨fun q hq => absurd hq (by omega), fun q _ hq => by rw [aQ 5]; exact b6 q hq⟩, ⟨fun r c hr => absurd hr (by omega), fun r hr => absurd hr (by omega), fun r hr => absurd hr (by omega)⟩, ⟨by rw [a0 8 (by omega), e0 37 (by omega)], fun x => absurd x (by omega)⟩⟩
  have hf0 : fR Q (cM mc f y) (eM τ1 g w) := by
    refine .inl ⟨by rw [aQ 7]; exact b7 0 (by omega), by rw [aQ 7]; exact b7 1 (by omega), by rw [aQ 7]; exact b7 2 (by omega), ?_, ?_⟩
    · rw [k49 24 (by decide) (by decide) (by decide) (by decide), G]; rfl
    · rw [k49 20 (by decide) (by decide) (by decide) (by decide), G]; rfl
  have hcl : fX9_works σ = wl sw_F 1 0 (cM mc f y) := by
    have hbg : fX5_begin σ = some (cM mc f y) := by
      have hm : sw_pl (ma.2.2 1) = Q := by rw [hma]; exact hQ
      rw [fX5_begin, let_s, let_s, ← hma, hm, b1, b1_s, fX7_readFirst, let_s, ← hmc, d1, b1_s, b1_s]
    rw [fX9_works, hbg, b1_s]
    rfl
  have hrf : fX10_readAll τ = sw_wh sw_F (fun s => fX10_readAll_L87 s) (eM τ1 g w) := by
    rw [fX10_readAll, h1', let_s, let_s, let_s, let_s, let_s, let_s, let_s, let_s, let_s, let_s, let_s, let_s, let_s, let_s, let_s, let_s, ← ht1, i1, b1_s]
  rw [hcl, hrf]
  exact wk_loop hP hQ sw_F 0 _ _ _ 0 0 0 0 (by unfold sw_F; omega) (by omega) z0 hd0 hf0
end PT
