/-! comes, steps, odds -/
def v_made (ρ : Nat → Int32) (s : Int32) : Nat → Int32
  | 0 => 0
  | r + 1 => if (s >>> (ρ (4 * r) &&& 31)) &&& 1 = 1 then v_made ρ s r ||| (1 : Int32) <<< (ρ (4 * r + 2) &&& 31) else if (s >>> (ρ (4 * r + 1) &&& 31)) &&& 1 = 1 then v_made ρ s r ||| (1 : Int32) <<< (ρ (4 * r + 2) &&& 31) else v_made ρ s r
theorem or32 : ∀ g, g < 32 → ∀ k, k < 5 → nI g ||| (1 : Int32) <<< (nI k &&& 31) = nI (g ||| 2 ^ k) ∧ (g ||| 2 ^ k) < 32 := by decide +kernel
theorem made_n {ρ : Nat → Int32} {s : Int32} {K R : Nat} (hρ : ok_ρ ρ K R) (hK : K ≤ 5) : ∀ r, r ≤ R → ∃ g, g < 32 ∧ v_made ρ s r = nI g
  | 0, _ => ⟨0, by decide, nI_0.symm⟩
  | r + 1, h => by
    obtain ⟨g, hg, e⟩ := made_n (s := s) hρ hK r (by omega)
    obtain ⟨k, hk, ek⟩ := hρ r (by omega) 2 (by decide)
    have o := or32 g hg k (by omega)
    rw [v_made, ek, e, o.1]
    split
    · exact ⟨_, o.2, rfl⟩
    · split
      · exact ⟨_, o.2, rfl⟩
      · exact ⟨g, hg, rfl⟩
theorem made_0 {ρ : Nat → Int32} {K R : Nat} (hρ : ok_ρ ρ K R) (hK : K ≤ 5) : ∀ r, r ≤ R → v_made ρ 0 r = 0
  | 0, _ => rfl
  | r + 1, h => by
    obtain ⟨k, hk, ek⟩ := hρ r (by omega) 0 (by decide)
    obtain ⟨k', hk', ek'⟩ := hρ r (by omega) 1 (by decide)
    rw [Nat.add_zero] at ek
    have z : ∀ k, k < 5 → ¬ ((0 : Int32) >>> (nI k &&& 31)) &&& 1 = 1 := by decide
    rw [v_made, ek, ek', if_neg (z k (by omega)), if_neg (z k' (by omega))]
    exact made_0 hρ hK r (by omega)
def n_pc (t : Nat) : Nat := t % 2 + t / 2 % 2 + t / 4 % 2 + t / 8 % 2 + t / 16 % 2
theorem pc_or : ∀ t, t < 32 → ∀ g, g < 32 → (t ||| g) < 32 ∧ (t ||| g ≠ t → n_pc t < n_pc (t ||| g)) ∧ n_pc t ≤ 5 := by decide +kernel
theorem nI_or5 {a b : Nat} (ha : a < 32) (hb : b < 32) : nI a ||| nI b = nI (a ||| b) := by
  obtain ⟨c, hc, e⟩ := or_pow (N := 5) (by decide) ha hb
  have h1 : ∀ x, x < 128 → (nI x).toBitVec.toNat = x := by
    intro x hx
    show (BitVec.ofNat 32 x).toNat = x
    rw [BitVec.toNat_ofNat, Nat.mod_eq_of_lt (by omega)]
  have h2 := congrArg (fun x : Int32 => x.toBitVec.toNat) e
  simp only [Int32.toBitVec_or, BitVec.toNat_or] at h2
  rw [h1 a (by omega), h1 b (by omega), h1 c (by omega)] at h2
  rw [e, h2]
def n_it (g : Nat → Nat) (t : Nat) : Nat → Nat
  | 0 => t
  | k + 1 => n_it g t k ||| g (n_it g t k)
theorem bit_or : ∀ t, t < 32 → ∀ g, g < 32 → ∀ q, q < 5 → (nI t >>> (nI q &&& 31)) &&& 1 = 1 → (nI (t ||| g) >>> (nI q &&& 31)) &&& 1 = 1 := by decide +kernel
/-- a chain of growing sets of five: it stands still behind five -/
theorem chain5 (f : Nat → Nat) (g : Nat → Nat) (hg : ∀ t, t < 32 → g t < 32) (hf : ∀ t, t < 32 → f t = t ||| g t) (s : Nat → Nat) (h0 : s 0 < 32) (h1 : 1 ≤ n_pc (s 0)) (hs : ∀ k, s (k + 1) = f (s k)) : s 5 = s 4 := by
  have hb : ∀ k, s k < 32 := by
    intro k
    induction k with
    | zero => exact h0
    | succ k ih =>
      rw [hs, hf _ ih]
      exact (pc_or _ ih _ (hg _ ih)).1
  have hstill : ∀ k, s (k + 1) = s k → s (k + 2) = s (k + 1) := by
    intro k h
    rw [hs (k + 1), h]
    exact (hs k).symm.trans h
  have hgrow : ∀ k, s (k + 1) ≠ s k → n_pc (s k) < n_pc (s (k + 1)) := by
    intro k h
    have := (pc_or _ (hb k) _ (hg _ (hb k))).2.1
    rw [hs, hf _ (hb k)] at h ⊢
    exact this h
  have h5 := (pc_or _ (hb 5) 0 (by decide)).2.2
  by_cases e : s 5 = s 4
  · exact e
  · have n3 : s 4 ≠ s 3 := fun h => e (hstill 3 h)
    have n2 : s 3 ≠ s 2 := fun h => n3 (hstill 2 h)
    have n1 : s 2 ≠ s 1 := fun h => n2 (hstill 1 h)
    have n0 : s 1 ≠ s 0 := fun h => n1 (hstill 0 h)
    have g4 : n_pc (s 4) < n_pc (s 5) := hgrow 4 e
    have g3 : n_pc (s 3) < n_pc (s 4) := hgrow 3 n3
    have g2 : n_pc (s 2) < n_pc (s 3) := hgrow 2 n2
    have g1 : n_pc (s 1) < n_pc (s 2) := hgrow 1 n1
    have g0 : n_pc (s 0) < n_pc (s 1) := hgrow 0 n0
    omega
section KK
variable {σ : sw_M} {P K N R Bn z : Nat} {mm ww : Nat → Nat}
theorem c_made (s : Int32) (hR2 : σ.1 P 2 = nI R) (hR : R ≤ 6) : fX4_madeOf P σ s = some (v_made (σ.1 (P + 6)) s R) := by
  unfold fX4_madeOf
  refine wh_runs (b := fun q : Int32 × Int32 => fX4_madeOf_L4 P σ s q.1 q.2) (fun k => (v_made (σ.1 (P + 6)) s k, nI k)) R rfl (fun k hk => ?_) ?_ (by omega)
  · show fX4_madeOf_L4 P σ s (v_made _ s k) (nI k) = some (.inl (v_made _ s (k + 1), nI (k + 1)))
    unfold fX4_madeOf_L4
    rw [hR2, if_neg (le_f hk (by omega)), c_first (by omega), b1_s, c_second (by omega), b1_s, fX4_madeOf_L38, c_third (by omega), b1_s, let_s, fX4_madeOf_L48, fX4_madeOf_L48, let_s, let_s, nI_1, v_made]
    split
    · rfl
    · split <;> rfl
  · show fX4_madeOf_L4 P σ s (v_made _ s R) (nI R) = _
    unfold fX4_madeOf_L4
    rw [hR2, if_pos (le_t R (by omega))]
theorem e_made (s : Int32) (r1 : rl_p σ P K N R Bn z mm ww) : fX10_comesOf σ s = some (v_made (σ.1 (P + 6)) s R) := by
  have hr := rl_r r1
  obtain ⟨p1, p2, p3, p4, p5⟩ := r1
  have hR := p3.r6
  unfold fX10_comesOf
  refine wh_runs (b := fun q : Int32 × Int32 => fX10_comesOf_L4 σ s q.1 q.2) (fun k => (v_made (σ.1 (P + 6)) s k, nI k)) R rfl (fun k hk => ?_) ?_ (by omega)
  · show fX10_comesOf_L4 σ s (v_made _ s k) (nI k) = some (.inl (v_made _ s (k + 1), nI (k + 1)))
    have x0 : σ.1 (P + 6) (4 * k) = σ.1 64 (4 * k) := hr k 0 hk (by decide)
    unfold fX10_comesOf_L4
    rw [p4.r, if_neg (le_f hk (by omega)), i4, sw_gd_t (in_t (show 4 * k < 24 by omega) (by decide)), nI_clamp (by omega), i4_1, sw_gd_t (in_t (show 4 * k + 1 < 24 by omega) (by decide)), nI_clamp (by omega), fX10_comesOf_L46, i4, i4_2, sw_gd_t (in_t (show 4 * k + 2 < 24 by omega) (by decide)), nI_clamp (by omega), let_s, fX10_comesOf_L61, fX10_comesOf_L61, let_s, let_s, nI_1, v_made, x0, hr k 1 hk (by decide), hr k 2 hk (by decide)]
    split
    · rfl
    · split <;> rfl
  · show fX10_comesOf_L4 σ s (v_made _ s R) (nI R) = _
    unfold fX10_comesOf_L4
    rw [p4.r, if_pos (le_t R (by omega))]
/-- what is reached behind k rules -/
def v_rch (ρ : Nat → Int32) (R : Nat) (s : Int32) : Nat → Int32
  | 0 => s
  | k + 1 => v_rch ρ R s k ||| v_made ρ (v_rch ρ R s k) R
theorem rch5 {ρ : Nat → Int32} {t : Nat} (hρ : ok_ρ ρ K R) (hK : K ≤ 5) (ht : t < 32) : v_rch ρ R (nI t) 5 = v_rch ρ R (nI t) 4 := by
  by_cases h0 : t = 0
  · have e : ∀ k, v_rch ρ R (nI t) k = 0 := by
      intro k
      induction k with
      | zero => rw [h0]; rfl
      | succ k ih =>
        rw [v_rch, ih, made_0 hρ hK R (Nat.le_refl R), Int32.or_zero]
    rw [e, e]
  · have hg : ∀ t : Nat, ∃ g, g < 32 ∧ v_made ρ (nI t) R = nI g := fun t => made_n hρ hK R (Nat.le_refl R)
    obtain ⟨g, hgs⟩ := Classical.axiomOfChoice hg
    obtain ⟨s, s0, sS⟩ : ∃ s : Nat → Nat, s 0 = t ∧ ∀ k, s (k + 1) = s k ||| g (s k) := ⟨n_it g t, rfl, fun k => rfl⟩
    have hb : ∀ k, s k < 32 := by
      intro k
      induction k with
      | zero => rw [s0]; exact ht
      | succ k ih =>
        rw [sS]
        exact (pc_or _ ih _ (hgs _).1).1
    have hv : ∀ k, v_rch ρ R (nI t) k = nI (s k) := by
      intro k
      induction k with
      | zero => rw [s0]; rfl
      | succ k ih =>
        rw [v_rch, ih, (hgs (s k)).2, nI_or5 (hb k) (hgs _).1, sS]
    have hpc : ∀ t, t < 32 → ¬ t = 0 → 1 ≤ n_pc t := by decide
    have := chain5 (fun x => x ||| g x) g (fun x _ => (hgs x).1) (fun x _ => rfl) s (hb 0) (by rw [s0]; exact hpc t ht h0) sS
    rw [hv, hv, this]
theorem rch_n {ρ : Nat → Int32} {t : Nat} (hρ : ok_ρ ρ K R) (hK : K ≤ 5) (ht : t < 32) : ∀ k, ∃ x, x < 32 ∧ v_rch ρ R (nI t) k = nI x ∧ ∃ g, g < 32 ∧ v_rch ρ R (nI t) (k + 1) = nI (x ||| g)
  | 0 => by
    obtain ⟨g, hg, e⟩ := made_n (s := nI t) hρ hK R (Nat.le_refl R)
    exact ⟨t, ht, rfl, g, hg, by rw [v_rch, v_rch, e, nI_or5 ht hg]⟩
  | k + 1 => by
    obtain ⟨x, hx, ex, g, hg, eg⟩ := rch_n hρ hK ht k
    have hxg := (pc_or x hx g hg).1
    obtain ⟨g', hg', e⟩ := made_n (s := nI (x ||| g)) hρ hK R (Nat.le_refl R)
    exact ⟨x ||| g, hxg, eg, g', hg', by rw [v_rch, eg, e, nI_or5 hxg hg']⟩
theorem rch_bit {ρ : Nat → Int32} {t q : Nat} (hρ : ok_ρ ρ K R) (hK : K ≤ 5) (ht : t < 32) (hq : q < 5) (k : Nat) (h : (v_rch ρ R (nI t) k >>> (nI q &&& 31)) &&& 1 = 1) : (v_rch ρ R (nI t) (k + 1) >>> (nI q &&& 31)) &&& 1 = 1 := by
  obtain ⟨x, hx, ex, g, hg, eg⟩ := rch_n (R := R) hρ hK ht k
  rw [ex] at h
  rw [eg]
  exact bit_or x hx g hg q hq h
theorem k_comes (a : Int32) (h : rel σ) : k_rr (fX9_comes σ a) (fX10_comes σ a) := by
  obtain ⟨P, K, N, R, Bn, z, mm, ww, r1, r2, r3⟩ := h
  obtain ⟨p1, p2, p3, p4, p5⟩ := id r1
  have hK := p3.k5
  have hR := p3.r6
  unfold fX9_comes fX10_comes
  rw [p1, kind_c p3.k, kind_e p4.k p4.k5]
  by_cases h : (if a < 0 then (0 : Int32) else if nI K ≤ a then 0 else 1) = 0
  · rw [if_pos h, if_pos h]
    exact ⟨_, rfl, rfl⟩
  obtain ⟨j, hj, rfl⟩ := in_some (by omega) h
  rw [if_neg h, if_neg h, c_made _ p3.r hR, e_made _ r1, b1_s, b1_s]
  obtain ⟨t, ht, et⟩ := made_n (s := (1 : Int32) <<< (nI j &&& 31)) p3.ρ hK R (Nat.le_refl R)
  rw [et]
  have hc : sw_wh sw_F (fun s : Int32 × Int32 => fX9_comes_L26 σ s.1 s.2) (nI t, 1) = some (v_rch (σ.1 (P + 6)) R (nI t) 4) := by
    refine wh_runs (b := fun q : Int32 × Int32 => fX9_comes_L26 σ q.1 q.2) (fun k => (v_rch (σ.1 (P + 6)) R (nI t) k, nI (k + 1))) 4 rfl (fun k hk => ?_) ?_ (by decide)
    · show fX9_comes_L26 σ (v_rch _ R (nI t) k) (nI (k + 1)) = some (.inl (v_rch _ R (nI t) (k + 1), nI (k + 1 + 1)))
      have h5 : ¬ (5 : Int32) ≤ nI (k + 1) := nI_ge (b := 5) (by omega) (by decide)
      unfold fX9_comes_L26
      rw [if_neg h5, p1, c_made _ p3.r hR, b1_s, let_s, let_s, nI_1, v_rch]
    · show fX9_comes_L26 σ (v_rch _ R (nI t) 4) (nI (4 + 1)) = _
      unfold fX9_comes_L26
      rw [if_pos (by decide)]
  have he : sw_wh sw_F (fun s : Int32 × Int32 => fX10_comes_L20 σ s.1 s.2) (nI t, 0) = some (v_rch (σ.1 (P + 6)) R (nI t) 5) := by
    refine wh_runs (b := fun q : Int32 × Int32 => fX10_comes_L20 σ q.1 q.2) (fun k => (v_rch (σ.1 (P + 6)) R (nI t) k, nI k)) 5 rfl (fun k hk => ?_) ?_ (by decide)
    · show fX10_comes_L20 σ (v_rch _ R (nI t) k) (nI k) = some (.inl (v_rch _ R (nI t) (k + 1), nI (k + 1)))
      have h5 : ¬ (5 : Int32) ≤ nI k := nI_ge (b := 5) (by omega) (by decide)
      unfold fX10_comes_L20
      rw [if_neg h5, e_made _ r1, b1_s, let_s, let_s, nI_1, v_rch]
    · show fX10_comes_L20 σ (v_rch _ R (nI t) 5) (nI 5) = _
      unfold fX10_comes_L20
      rw [if_pos (by decide)]
  exact ⟨_, hc, by rw [he, rch5 p3.ρ hK ht]⟩
theorem one32 : ∀ j, j < 5 → (1 : Int32) <<< (nI j &&& 31) = nI (2 ^ j) ∧ 2 ^ j < 32 := by decide
theorem k_steps (a b : Int32) (h : rel σ) : k_rr (fX9_steps σ a b) (fX10_steps σ a b) := by
  obtain ⟨P, K, N, R, Bn, z, mm, ww, r1, r2, r3⟩ := h
  obtain ⟨p1, p2, p3, p4, p5⟩ := id r1
  have hK := p3.k5
  have hR := p3.r6
  unfold fX9_steps fX10_steps
  rw [p1, kind_c p3.k, kind_e p4.k p4.k5, kind_c p3.k, kind_e p4.k p4.k5]
  by_cases h : (if a < 0 then (0 : Int32) else if nI K ≤ a then 0 else 1) = 0
  · rw [if_pos h, if_pos h]
    exact ⟨_, rfl, rfl⟩
  obtain ⟨j, hj, rfl⟩ := in_some (by omega) h
  rw [if_neg h, if_neg h]
  by_cases h' : (if b < 0 then (0 : Int32) else if nI K ≤ b then 0 else 1) = 0
  · rw [if_pos h', if_pos h']
    exact ⟨_, rfl, rfl⟩
  obtain ⟨q, hq, rfl⟩ := in_some (by omega) h'
  rw [if_neg h', if_neg h', let_s, let_s, (one32 j (by omega)).1]
  have h5 := rch5 (t := 2 ^ j) p3.ρ hK (one32 j (by omega)).2
  suffices main : ∃ x y, sw_wh sw_F (fun s : Int32 × Int32 => fX9_steps_L31 σ (nI q) s.1 s.2) (nI (2 ^ j), 0) = some x ∧ sw_wh sw_F (fun s : Int32 × Int32 => fX10_steps_L25 σ (nI q) s.1 s.2) (nI (2 ^ j), 0) = some y ∧ x = y by
    obtain ⟨x, y, e1, e2, e3⟩ := main
    exact ⟨x, e1, by rw [e2, e3]⟩
  have rc : ∀ n s, n ≤ 5 → s = v_rch (σ.1 (P + 6)) R (nI (2 ^ j)) n → fX9_steps_L31 σ (nI q) s (nI n) = (if n = 5 then some (.inr (-1)) else if (s >>> (nI q &&& 31)) &&& 1 = 1 then some (.inr (nI n)) else some (.inl (v_rch (σ.1 (P + 6)) R (nI (2 ^ j)) (n + 1), nI (n + 1)))) := by
    intro n s hn es
    unfold fX9_steps_L31
    by_cases e5 : n = 5
    · rw [if_pos e5, e5, if_pos (by decide)]
    · have h6 : ¬ (5 : Int32) ≤ nI n := nI_ge (b := 5) (by omega) (by decide)
      rw [if_neg e5, if_neg h6, p1, c_made _ p3.r hR, b1_s, let_s, let_s, nI_1, v_rch, es]
  have re : ∀ n s, n ≤ 6 → s = v_rch (σ.1 (P + 6)) R (nI (2 ^ j)) n → fX10_steps_L25 σ (nI q) s (nI n) = (if n = 6 then some (.inr (-1)) else if (s >>> (nI q &&& 31)) &&& 1 = 1 then some (.inr (nI n)) else some (.inl (v_rch (σ.1 (P + 6)) R (nI (2 ^ j)) (n + 1), nI (n + 1)))) := by
    intro n s hn es
    unfold fX10_steps_L25
    by_cases e5 : n = 6
    · rw [if_pos e5, e5, if_pos (by decide)]
    · have h6 : ¬ (5 : Int32) < nI n := nI_nlt (a := 5) (by omega) (by decide)
      rw [if_neg e5, if_neg h6, e_made _ r1, b1_s, let_s, let_s, nI_1, v_rch, es]
  by_cases hb4 : (v_rch (σ.1 (P + 6)) R (nI (2 ^ j)) 4 >>> (nI q &&& 31)) &&& 1 = 1
  · refine wh_rel (b := fun s : Int32 × Int32 => fX9_steps_L31 σ (nI q) s.1 s.2) (c := fun s : Int32 × Int32 => fX10_steps_L25 σ (nI q) s.1 s.2) (fun k s t => s = (v_rch (σ.1 (P + 6)) R (nI (2 ^ j)) k, nI k) ∧ t = (v_rch (σ.1 (P + 6)) R (nI (2 ^ j)) k, nI k)) (fun x y => x = y) 4 (fun k s t hk hI => ?_) ⟨rfl, rfl⟩ (by decide)
    obtain ⟨rfl, rfl⟩ := hI
    show (∃ s' t', fX9_steps_L31 σ (nI q) (v_rch (σ.1 (P + 6)) R (nI (2 ^ j)) k) (nI k) = some (.inl s') ∧ fX10_steps_L25 σ (nI q) (v_rch (σ.1 (P + 6)) R (nI (2 ^ j)) k) (nI k) = some (.inl t') ∧ (s' = (v_rch (σ.1 (P + 6)) R (nI (2 ^ j)) (k + 1), nI (k + 1)) ∧ t' = (v_rch (σ.1 (P + 6)) R (nI (2 ^ j)) (k + 1), nI (k + 1))) ∧ k < 4) ∨ (∃ x y, fX9_steps_L31 σ (nI q) (v_rch (σ.1 (P + 6)) R (nI (2 ^ j)) k) (nI k) = some (.inr x) ∧ fX10_steps_L25 σ (nI q) (v_rch (σ.1 (P + 6)) R (nI (2 ^ j)) k) (nI k) = some (.inr y) ∧ x = y)
    rw [rc k _ (by omega) rfl, re k _ (by omega) rfl, if_neg (show ¬ k = 5 by omega), if_neg (show ¬ k = 6 by omega)]
    by_cases hk4 : (v_rch (σ.1 (P + 6)) R (nI (2 ^ j)) k >>> (nI q &&& 31)) &&& 1 = 1
    · rw [if_pos hk4]
      exact .inr ⟨_, _, rfl, rfl, rfl⟩
    · rw [if_neg hk4]
      refine .inl ⟨_, _, rfl, rfl, ⟨rfl, rfl⟩, ?_⟩
      by_cases e : k = 4
      · rw [e] at hk4
        exact absurd hb4 hk4
      · omega
  · have mono : ∀ k, k ≤ 5 → ¬ (v_rch (σ.1 (P + 6)) R (nI (2 ^ j)) k >>> (nI q &&& 31)) &&& 1 = 1 := by
      have hb := fun k => rch_bit (R := R) (q := q) p3.ρ hK (one32 j (by omega)).2 (by omega) k
      have h4 : ∀ k, k ≤ 4 → ¬ (v_rch (σ.1 (P + 6)) R (nI (2 ^ j)) k >>> (nI q &&& 31)) &&& 1 = 1 := by
        intro k hk hx
        rcases (show k = 0 ∨ k = 1 ∨ k = 2 ∨ k = 3 ∨ k = 4 by omega) with rfl | rfl | rfl | rfl | rfl
        · exact hb4 (hb 3 (hb 2 (hb 1 (hb 0 hx))))
        · exact hb4 (hb 3 (hb 2 (hb 1 hx)))
        · exact hb4 (hb 3 (hb 2 hx))
        · exact hb4 (hb 3 hx)
        · exact hb4 hx
      intro k hk
      by_cases e : k = 5
      · rw [e, h5]
        exact hb4
      · exact h4 k (by omega)
    have hc : sw_wh sw_F (fun s : Int32 × Int32 => fX9_steps_L31 σ (nI q) s.1 s.2) (nI (2 ^ j), 0) = some (-1) := by
      refine wh_runs (b := fun s : Int32 × Int32 => fX9_steps_L31 σ (nI q) s.1 s.2) (fun k => (v_rch (σ.1 (P + 6)) R (nI (2 ^ j)) k, nI k)) 5 rfl (fun k hk => ?_) ?_ (by decide)
      · show fX9_steps_L31 σ (nI q) (v_rch (σ.1 (P + 6)) R (nI (2 ^ j)) k) (nI k) = _
        rw [rc k _ (by omega) rfl, if_neg (by omega), if_neg (mono k (by omega))]
      · show fX9_steps_L31 σ (nI q) (v_rch (σ.1 (P + 6)) R (nI (2 ^ j)) 5) (nI 5) = _
        rw [rc 5 _ (by decide) rfl, if_pos rfl]
    have he : sw_wh sw_F (fun s : Int32 × Int32 => fX10_steps_L25 σ (nI q) s.1 s.2) (nI (2 ^ j), 0) = some (-1) := by
      refine wh_runs (b := fun s : Int32 × Int32 => fX10_steps_L25 σ (nI q) s.1 s.2) (fun k => (v_rch (σ.1 (P + 6)) R (nI (2 ^ j)) k, nI k)) 6 rfl (fun k hk => ?_) ?_ (by decide)
      · show fX10_steps_L25 σ (nI q) (v_rch (σ.1 (P + 6)) R (nI (2 ^ j)) k) (nI k) = _
        rw [re k _ (by omega) rfl, if_neg (by omega), if_neg (mono k (by omega))]
      · show fX10_steps_L25 σ (nI q) (v_rch (σ.1 (P + 6)) R (nI (2 ^ j)) 6) (nI 6) = _
        rw [re 6 _ (by decide) rfl, if_pos rfl]
    exact ⟨_, _, hc, he, rfl⟩
end KK
def v_pw (x : Int32) : Nat → Int32
  | 0 => 1
  | n + 1 => v_pw x n * x
def odds_ok (s n : Nat) : Bool := match fX9_commonDivisor (v_pw 100 n) (v_pw (100 - nI s) n), fX10_divisor (v_pw 100 n) (v_pw (100 - nI s) n) with
  | some x, some y => x == y && x != 0
  | _, _ => false
theorem odds_all : ∀ s, s < 101 → ∀ n, n < 5 → odds_ok s n = true := by decide +kernel
theorem e_raised {x : Int32} {n : Nat} (hn : n < 5) : fX10_raised x (nI n) = some (v_pw x n) := by
  unfold fX10_raised
  refine wh_runs (b := fun q : Int32 × Int32 => fX10_raised_L4 x (nI n) q.1 q.2) (fun k => (v_pw x k, nI k)) n rfl (fun k hk => ?_) ?_ (by omega)
  · show fX10_raised_L4 x (nI n) (v_pw x k) (nI k) = _
    unfold fX10_raised_L4
    rw [if_neg (le_f hk (by omega)), let_s, let_s, nI_1]
    rfl
  · show fX10_raised_L4 x (nI n) (v_pw x n) (nI n) = _
    unfold fX10_raised_L4
    rw [if_pos (le_t n (by omega))]
theorem k_odds {σ : sw_M} (a b : Int32) (h : rel σ) : k_rr (fX9_odds σ a b) (fX10_odds σ a b) := by
  obtain ⟨P, K, N, R, Bn, z, mm, ww, r1, r2, r3⟩ := h
  obtain ⟨p1, p2, p3, p4, p5, p6, p7, p8, p9, ⟨s, s1, s2, s3⟩, p11⟩ := r1
  have ia := isIn_n 4 (by decide) a 4 rfl
  have ib := isIn_n 1 (by decide) b 1 rfl
  by_cases ha : (if a < 0 then (0 : Int32) else if nI (4 + 1) ≤ a then 0 else 1) = 0
  · refine ⟨-1, ?_, by rw [fX10_odds, ia, if_pos ha]⟩
    rw [fX9_odds]
    rcases in_no ha with e1 | ⟨e1, e2⟩
    · rw [if_pos e1]
    · have e3 : (4 : Int32) < a := Int32.not_le.mp (nle_of (n := 4) (by decide) e1 e2)
      rw [if_neg e1, if_pos e3]
  obtain ⟨n, hn, rfl⟩ := in_some (K := 4 + 1) (by decide) ha
  have hn4 : ¬ (4 : Int32) < nI n := nI_nlt (a := 4) (by omega) (by decide)
  by_cases hb : (if b < 0 then (0 : Int32) else if nI (1 + 1) ≤ b then 0 else 1) = 0
  · refine ⟨-1, ?_, by rw [fX10_odds, ia, if_neg ha, ib, if_pos hb]⟩
    rw [fX9_odds, if_neg (nI_pos (by omega)), if_neg hn4]
    rcases no01 hb with e1 | ⟨e1, e2⟩
    · rw [if_pos e1]
    · rw [if_neg e1, if_neg e2]
  obtain ⟨i, hi, rfl⟩ := in_some (K := 1 + 1) (by decide) hb
  have i1 : nI i ≤ 1 := nI_le (b := 1) (by omega) (by decide)
  have hok := odds_all s (by omega) n hn
  unfold odds_ok at hok
  obtain ⟨A, hA⟩ : ∃ A, A = v_pw 100 n := ⟨_, rfl⟩
  obtain ⟨B, hB⟩ : ∃ B, B = v_pw (100 - nI s) n := ⟨_, rfl⟩
  rw [← hA, ← hB] at hok
  obtain ⟨x, x1, x2, x3⟩ : ∃ x, fX9_commonDivisor A B = some x ∧ fX10_divisor A B = some x ∧ ¬ x = 0 := by
    split at hok
    · rename_i x y ex ey
      rw [Bool.and_eq_true] at hok
      have e1 : x = y := by simpa using hok.1
      have e2 : ¬ x = 0 := by simpa using hok.2
      exact ⟨x, ex, by rw [ey, e1], e2⟩
    · exact absurd hok (by decide)
  have hc : ∃ r, sw_wh sw_F (fun q : Int32 × Int32 × Int32 => fX9_odds_L28 σ (nI n) (nI i) q.1 q.2.1 q.2.2) (1, 1, 0) = some r ∧ r = (if nI i = 0 then B / x else A / x) := by
    refine ⟨_, ?_, rfl⟩
    refine wh_runs (b := fun q : Int32 × Int32 × Int32 => fX9_odds_L28 σ (nI n) (nI i) q.1 q.2.1 q.2.2) (fun k => (v_pw (100 - nI s) k, v_pw 100 k, nI k)) n rfl (fun k hk => ?_) ?_ (by omega)
    · show fX9_odds_L28 σ (nI n) (nI i) (v_pw (100 - nI s) k) (v_pw 100 k) (nI k) = _
      unfold fX9_odds_L28
      rw [if_neg (le_f hk (by omega)), let_s, let_s, let_s, nI_1, p1, s2]
      rfl
    · show fX9_odds_L28 σ (nI n) (nI i) (v_pw (100 - nI s) n) (v_pw 100 n) (nI n) = _
      unfold fX9_odds_L28
      rw [if_pos (le_t n (by omega)), ← hA, ← hB, x1, b1_s, if_neg x3, gd_nz x3, gd_nz x3]
      split <;> rfl
  obtain ⟨r, hr, er⟩ := hc
  refine ⟨r, ?_, ?_⟩
  · rw [fX9_odds, if_neg (nI_pos (by omega)), if_neg hn4, if_neg (nI_pos (by omega)), if_pos i1, hr]
  · rw [fX10_odds, ia, if_neg ha, ib, if_neg hb, e_raised (by omega), e_raised (by omega), s3, b1_s, b1_s, ← hA, ← hB, x2, b1_s, gd_nz x3, gd_nz x3, er]
    split <;> rfl
