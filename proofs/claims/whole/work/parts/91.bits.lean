/-! sets of thirty-one, as bits -/
def n_ris (w : Nat → Int32) : Nat → Nat
  | 0 => 0
  | k + 1 => if w k = 0 then n_ris w k else 2 ^ k + n_ris w k
theorem ris_lt (w : Nat → Int32) : ∀ n, n_ris w n < 2 ^ n
  | 0 => by show 0 < 1; decide
  | n + 1 => by
    have := ris_lt w n
    have e : 2 ^ (n + 1) = 2 ^ n + 2 ^ n := by rw [Nat.pow_succ, Nat.mul_two]
    rw [n_ris]
    split <;> omega
theorem bv_nI {n : Nat} (h : n < 2 ^ 32) : (nI n).toBitVec.toNat = n := by
  show (BitVec.ofNat 32 n).toNat = n
  rw [BitVec.toNat_ofNat, Nat.mod_eq_of_lt h]
theorem nI_bv (x : Int32) : x = nI x.toBitVec.toNat := by
  apply Int32.toBitVec_inj.mp
  show x.toBitVec = BitVec.ofNat 32 x.toBitVec.toNat
  rw [BitVec.ofNat_toNat, BitVec.setWidth_eq]
theorem or_nI {a b : Nat} (ha : a < 2 ^ 32) (hb : b < 2 ^ 32) : nI a ||| nI b = nI (a ||| b) := by
  rw [nI_bv (nI a ||| nI b), Int32.toBitVec_or, BitVec.toNat_or, bv_nI ha, bv_nI hb]
theorem and_nI {a b : Nat} (ha : a < 2 ^ 32) (hb : b < 2 ^ 32) : nI a &&& nI b = nI (a &&& b) := by
  rw [nI_bv (nI a &&& nI b), Int32.toBitVec_and, BitVec.toNat_and, bv_nI ha, bv_nI hb]
theorem shl_nI : ∀ k, k < 31 → (1 : Int32) <<< (nI k &&& 31) = nI (2 ^ k) := by decide
theorem pow_le {k n : Nat} (h : k ≤ n) : 2 ^ k ≤ 2 ^ n := Nat.pow_le_pow_right (by decide) h
theorem ris_n (w : Nat → Int32) : ∀ n, n ≤ 31 → d_ris w n = nI (n_ris w n)
  | 0, _ => rfl
  | n + 1, h => by
    have hl := ris_lt w n
    have h1 : 2 ^ n ≤ 2 ^ 30 := pow_le (by omega)
    have h2 : (2 : Nat) ^ 30 = 1073741824 := by decide
    have h3 : (2 : Nat) ^ 32 = 4294967296 := by decide
    rw [d_ris, n_ris, ris_n w n (by omega)]
    split
    · rfl
    · rw [shl_nI n (by omega), or_nI (by omega) (by omega), Nat.or_comm]
      have := Nat.two_pow_add_eq_or_of_lt hl 1
      rw [Nat.mul_one] at this
      rw [← this]
theorem ris_bit (w : Nat → Int32) : ∀ n k, (n_ris w n).testBit k = (decide (k < n) && decide (¬ w k = 0))
  | 0, k => by
    show (0 : Nat).testBit k = _
    simp
  | n + 1, k => by
    have ih := ris_bit w n
    have hl := ris_lt w n
    rw [n_ris]
    by_cases hw : w n = 0
    · rw [if_pos hw, ih]
      by_cases e : k = n
      · subst e
        simp [hw]
      · have : (k < n) ↔ (k < n + 1) := by omega
        simp [this]
    · rw [if_neg hw]
      by_cases e : k = n
      · subst e
        rw [Nat.testBit_two_pow_add_eq, Nat.testBit_lt_two_pow hl]
        simp [hw]
      · by_cases lt : k < n
        · rw [Nat.testBit_two_pow_add_gt lt, ih]
          simp [lt, show k < n + 1 by omega]
        · have : 2 ^ n + n_ris w n < 2 ^ k := by
            have h1 : 2 ^ (n + 1) ≤ 2 ^ k := pow_le (by omega)
            have h2 : 2 ^ (n + 1) = 2 ^ n + 2 ^ n := by rw [Nat.pow_succ, Nat.mul_two]
            omega
          rw [Nat.testBit_lt_two_pow this]
          simp [show ¬ k < n + 1 by omega]
theorem s_l32 : ∀ n, n < 32 → ((nI n &&& 31).toBitVec.smod 32).toNat = n := by decide
theorem bit_nI {x k : Nat} (hx : x < 2 ^ 31) (hk : k < 32) : ((nI x >>> (nI k &&& 31)) &&& 1 = 1) ↔ x.testBit k = true := by
  have h1 : x / 2 ^ k < 2 ^ 32 := Nat.lt_of_le_of_lt (Nat.div_le_self _ _) (Nat.lt_of_lt_of_le hx (by decide))
  have e1 : (1 : Int32) = nI 1 := rfl
  have h2 : x / 2 ^ k % 2 < 2 := Nat.mod_lt _ (by decide)
  rw [pk_shrN hx _ k (s_l32 k hk), e1, and_nI h1 (by decide), Nat.and_one_is_mod, nI_eq (by omega) (by decide), Nat.testBit_eq_decide_div_mod_eq]
  simp
theorem d_bit31 (w : Nat → Int32) {k : Nat} (hk : k < 31) : ((d_ris w 31 >>> (nI k &&& 31)) &&& 1 = 1) ↔ ¬ w k = 0 := by
  rw [ris_n w 31 (by decide), bit_nI (ris_lt w 31) (by omega), ris_bit]
  simp [hk]
/-! the count of the bits -/
theorem and_split {e r t mr mk : Nat} (ht : t < 2 ^ e) (hm : mk < 2 ^ e) : (2 ^ e * r + t) &&& (2 ^ e * mr + mk) = 2 ^ e * (r &&& mr) + (t &&& mk) := by
  have hlt : t &&& mk < 2 ^ e := Nat.lt_of_le_of_lt Nat.and_le_left ht
  apply Nat.eq_of_testBit_eq
  intro i
  rw [Nat.testBit_and, Nat.testBit_two_pow_mul_add _ ht, Nat.testBit_two_pow_mul_add _ hm, Nat.testBit_two_pow_mul_add _ hlt]
  split
  · rw [Nat.testBit_and]
  · rw [Nat.testBit_and]
def n8 (a b c d e f g h : Nat) : Nat := 16 * (16 * (16 * (16 * (16 * (16 * (16 * h + g) + f) + e) + d) + c) + b) + a
theorem and8 {a b c d e f g h A B C D E F G H : Nat} (ha : a < 16) (hb : b < 16) (hc : c < 16) (hd : d < 16) (he : e < 16) (hf : f < 16) (hg : g < 16) (hA : A < 16) (hB : B < 16) (hC : C < 16) (hD : D < 16) (hE : E < 16) (hF : F < 16) (hG : G < 16) : n8 a b c d e f g h &&& n8 A B C D E F G H = n8 (a &&& A) (b &&& B) (c &&& C) (d &&& D) (e &&& E) (f &&& F) (g &&& G) (h &&& H) := by
  have s : ∀ {r t mr mk : Nat}, t < 16 → mk < 16 → (16 * r + t) &&& (16 * mr + mk) = 16 * (r &&& mr) + (t &&& mk) := fun h1 h2 => and_split (e := 4) h1 h2
  unfold n8
  rw [s ha hA, s hb hB, s hc hC, s hd hD, s he hE, s hf hF, s hg hG]
def p4 (t : Nat) : Nat := t % 2 + t / 2 % 2 + t / 4 % 2 + t / 8 % 2
theorem dig1 : ∀ t, t < 16 → ∃ a p, t &&& 10 = 2 * a ∧ a ≤ t ∧ p = t - a ∧ p < 16 ∧ ∃ q, p &&& 12 = 4 * q ∧ (p &&& 3) + q = p4 t ∧ p4 t ≤ 4 ∧ (p &&& 3) < 16 ∧ q < 16 := by
  intro t ht
  refine ⟨(t &&& 10) / 2, t - (t &&& 10) / 2, ?_, ?_, rfl, ?_, ((t - (t &&& 10) / 2) &&& 12) / 4, ?_, ?_, ?_, ?_, ?_⟩ <;> revert t <;> decide
theorem fold_8 {V r0 r1 r2 r3 : Nat} (k0 : r0 ≤ 8) (k1 : r1 ≤ 8) (k2 : r2 ≤ 8) (k3 : r3 ≤ 8) (hV : V = n8 r0 0 r1 0 r2 0 r3 0) : (V + V / 2 ^ 8 + (V + V / 2 ^ 8) / 2 ^ 16) % 2 ^ 6 = r0 + r1 + r2 + r3 := by
  have e0 : V = r0 + 256 * r1 + 65536 * r2 + 16777216 * r3 := by
    rw [hV]
    unfold n8
    omega
  have e1 : V / 2 ^ 8 = r1 + 256 * r2 + 65536 * r3 := by
    rw [e0]
    omega
  have e2 : (V + V / 2 ^ 8) = (r0 + r1) + 256 * (r1 + r2) + 65536 * (r2 + r3) + 16777216 * r3 := by
    rw [e1, e0]
    omega
  have e3 : (V + V / 2 ^ 8) / 2 ^ 16 = (r2 + r3) + 256 * r3 := by
    rw [e2]
    omega
  rw [e3, e2]
  omega
theorem cnt8 {a b c d e f g h : Nat} (ha : a < 16) (hb : b < 16) (hc : c < 16) (hd : d < 16) (he : e < 16) (hf : f < 16) (hg : g < 16) (hh : h < 16) : fJ6_bitCount_0f7a4 (nI (n8 a b c d e f g h)) = nI (p4 a + p4 b + p4 c + p4 d + p4 e + p4 f + p4 g + p4 h) := by
  obtain ⟨xa, pa, a1, a2, a3, a4, qa, a5, a6, a7, a8, a9⟩ := dig1 a ha
  obtain ⟨xb, pb, b1, b2, b3, b4, qb, b5, b6, b7, b8, b9⟩ := dig1 b hb
  obtain ⟨xc, pc, c1, c2, c3, c4, qc, c5, c6, c7, c8, c9⟩ := dig1 c hc
  obtain ⟨xd, pd, d1, d2, d3, d4, qd, d5, d6, d7, d8, d9⟩ := dig1 d hd
  obtain ⟨xe, pe, e1, e2, e3, e4, qe, e5, e6, e7, e8, e9⟩ := dig1 e he
  obtain ⟨xf, pf, f1, f2, f3, f4, qf, f5, f6, f7, f8, f9⟩ := dig1 f hf
  obtain ⟨xg, pg, g1, g2, g3, g4, qg, g5, g6, g7, g8, g9⟩ := dig1 g hg
  obtain ⟨xh, ph, h1, h2, h3, h4, qh, h5, h6, h7, h8, h9⟩ := dig1 h hh
  have big : ∀ {a b c d e f g h : Nat}, a < 16 → b < 16 → c < 16 → d < 16 → e < 16 → f < 16 → g < 16 → h < 16 → n8 a b c d e f g h < 2 ^ 32 := by
    intro a b c d e f g h _ _ _ _ _ _ _ _
    unfold n8
    omega
  -- a shifted mask is the mask of what is shifted
  have sh : ∀ x s m : Nat, (x / 2 ^ s) &&& m = (x &&& (m * 2 ^ s)) / 2 ^ s := by
    intro x s m
    apply Nat.eq_of_testBit_eq
    intro i
    rw [Nat.testBit_and, Nat.testBit_div_two_pow, Nat.testBit_div_two_pow, Nat.testBit_and, Nat.testBit_mul_two_pow]
    simp
  have m5 : (1431655765 : Nat) * 2 ^ 1 = n8 10 10 10 10 10 10 10 10 := by decide
  have m3 : (858993459 : Nat) = n8 3 3 3 3 3 3 3 3 := by decide
  have m3' : (858993459 : Nat) * 2 ^ 2 = n8 12 12 12 12 12 12 12 12 := by decide
  have mf : (252645135 : Nat) = n8 15 0 15 0 15 0 15 0 := by decide
  have s1 : (n8 a b c d e f g h / 2 ^ 1) &&& 1431655765 = n8 xa xb xc xd xe xf xg xh := by
    rw [sh, m5, and8 ha hb hc hd he hf hg (by decide) (by decide) (by decide) (by decide) (by decide) (by decide) (by decide), a1, b1, c1, d1, e1, f1, g1, h1]
    unfold n8
    omega
  have s2 : n8 a b c d e f g h - n8 xa xb xc xd xe xf xg xh = n8 pa pb pc pd pe pf pg ph := by
    unfold n8
    omega
  have s2' : n8 xa xb xc xd xe xf xg xh ≤ n8 a b c d e f g h := by
    unfold n8
    omega
  have s3 : n8 pa pb pc pd pe pf pg ph &&& 858993459 = n8 (pa &&& 3) (pb &&& 3) (pc &&& 3) (pd &&& 3) (pe &&& 3) (pf &&& 3) (pg &&& 3) (ph &&& 3) := by
    rw [m3, and8 a4 b4 c4 d4 e4 f4 g4 (by decide) (by decide) (by decide) (by decide) (by decide) (by decide) (by decide)]
  have s4 : (n8 pa pb pc pd pe pf pg ph / 2 ^ 2) &&& 858993459 = n8 qa qb qc qd qe qf qg qh := by
    rw [sh, m3', and8 a4 b4 c4 d4 e4 f4 g4 (by decide) (by decide) (by decide) (by decide) (by decide) (by decide) (by decide), a5, b5, c5, d5, e5, f5, g5, h5]
    unfold n8
    omega
  have s5 : n8 (pa &&& 3) (pb &&& 3) (pc &&& 3) (pd &&& 3) (pe &&& 3) (pf &&& 3) (pg &&& 3) (ph &&& 3) + n8 qa qb qc qd qe qf qg qh = n8 (p4 a) (p4 b) (p4 c) (p4 d) (p4 e) (p4 f) (p4 g) (p4 h) := by
    rw [← a6, ← b6, ← c6, ← d6, ← e6, ← f6, ← g6, ← h6]
    unfold n8
    omega
  have s6 : n8 (p4 a) (p4 b) (p4 c) (p4 d) (p4 e) (p4 f) (p4 g) (p4 h) + n8 (p4 a) (p4 b) (p4 c) (p4 d) (p4 e) (p4 f) (p4 g) (p4 h) / 2 ^ 4 = n8 (p4 a + p4 b) (p4 b + p4 c) (p4 c + p4 d) (p4 d + p4 e) (p4 e + p4 f) (p4 f + p4 g) (p4 g + p4 h) (p4 h) := by
    unfold n8
    omega
  have i15 : ∀ t, t < 16 → t &&& 15 = t := by decide
  have s7 : n8 (p4 a + p4 b) (p4 b + p4 c) (p4 c + p4 d) (p4 d + p4 e) (p4 e + p4 f) (p4 f + p4 g) (p4 g + p4 h) (p4 h) &&& 252645135 = n8 (p4 a + p4 b) 0 (p4 c + p4 d) 0 (p4 e + p4 f) 0 (p4 g + p4 h) 0 := by
    rw [mf, and8 (by omega) (by omega) (by omega) (by omega) (by omega) (by omega) (by omega) (by decide) (by decide) (by decide) (by decide) (by decide) (by decide) (by decide), i15 _ (by omega), i15 _ (by omega), i15 _ (by omega), i15 _ (by omega), Nat.and_zero, Nat.and_zero, Nat.and_zero, Nat.and_zero]
  obtain ⟨V, hV⟩ : ∃ V, V = n8 (p4 a + p4 b) 0 (p4 c + p4 d) 0 (p4 e + p4 f) 0 (p4 g + p4 h) 0 := ⟨_, rfl⟩
  have s8 : (V + V / 2 ^ 8 + (V + V / 2 ^ 8) / 2 ^ 16) % 2 ^ 6 = p4 a + p4 b + p4 c + p4 d + p4 e + p4 f + p4 g + p4 h := by
    obtain ⟨r0, hr0⟩ : ∃ r, r = p4 a + p4 b := ⟨_, rfl⟩
    obtain ⟨r1, hr1⟩ : ∃ r, r = p4 c + p4 d := ⟨_, rfl⟩
    obtain ⟨r2, hr2⟩ : ∃ r, r = p4 e + p4 f := ⟨_, rfl⟩
    obtain ⟨r3, hr3⟩ : ∃ r, r = p4 g + p4 h := ⟨_, rfl⟩
    have t0 : p4 a + p4 b + p4 c + p4 d + p4 e + p4 f + p4 g + p4 h = r0 + r1 + r2 + r3 := by omega
    have k0 : r0 ≤ 8 := by omega
    have k1 : r1 ≤ 8 := by omega
    have k2 : r2 ≤ 8 := by omega
    have k3 : r3 ≤ 8 := by omega
    rw [← hr0, ← hr1, ← hr2, ← hr3] at hV
    rw [t0]
    clear hr0 hr1 hr2 hr3 t0 s1 s2 s2' s3 s4 s5 s6 s7
    exact fold_8 k0 k1 k2 k3 hV
  have bV : V < 2 ^ 28 := by
    rw [hV]
    unfold n8
    omega
  have k5 : (1431655765 : Int32) = nI 1431655765 := rfl
  have k3 : (858993459 : Int32) = nI 858993459 := rfl
  have kf : (252645135 : Int32) = nI 252645135 := rfl
  have bx := big ha hb hc hd he hf hg hh
  have bp := big a4 b4 c4 d4 e4 f4 g4 h4
  have bq : n8 (p4 a) (p4 b) (p4 c) (p4 d) (p4 e) (p4 f) (p4 g) (p4 h) < 2 ^ 32 := big (by omega) (by omega) (by omega) (by omega) (by omega) (by omega) (by omega) (by omega)
  have bs : n8 (p4 a + p4 b) (p4 b + p4 c) (p4 c + p4 d) (p4 d + p4 e) (p4 e + p4 f) (p4 f + p4 g) (p4 g + p4 h) (p4 h) < 2 ^ 32 := big (by omega) (by omega) (by omega) (by omega) (by omega) (by omega) (by omega) (by omega)
  have hdiv : ∀ {x : Nat} (s : Nat), x < 2 ^ 32 → x / 2 ^ s < 2 ^ 32 := fun s h => Nat.lt_of_le_of_lt (Nat.div_le_self _ _) h
  unfold fJ6_bitCount_0f7a4
  rw [let_s, let_s, let_s, let_s, let_s, pk_ushrN bx 1 1 (by decide), k5, and_nI (hdiv 1 bx) (by decide), s1, nI_sub s2', s2, k3, and_nI bp (by decide), s3, pk_ushrN bp 2 2 (by decide), and_nI (hdiv 2 bp) (by decide), s4, nI_add, s5, pk_ushrN bq 4 4 (by decide), nI_add, s6, kf, and_nI bs (by decide), s7, ← hV, pk_ushrN (by omega) 8 8 (by decide), nI_add, pk_ushrN (by omega) 16 16 (by decide), nI_add, pk_andN (by omega) 6 (by decide), s8]
theorem p_sum (n : Nat) (hn : n < 2 ^ 32) : ∃ a b c d e f g h, a < 16 ∧ b < 16 ∧ c < 16 ∧ d < 16 ∧ e < 16 ∧ f < 16 ∧ g < 16 ∧ h < 16 ∧ n = n8 a b c d e f g h := by
  refine ⟨n % 16, n / 16 % 16, n / 256 % 16, n / 4096 % 16, n / 65536 % 16, n / 1048576 % 16, n / 16777216 % 16, n / 268435456, ?_⟩
  unfold n8
  omega
/-- the sum of the bits of a number -/
def n_pop (x : Nat) : Nat → Nat
  | 0 => 0
  | k + 1 => n_pop x k + x / 2 ^ k % 2
theorem pop_16 {r t : Nat} (ht : t < 16) : ∀ n, n_pop (16 * r + t) (n + 4) = p4 t + n_pop r n
  | 0 => by
    show 0 + (16 * r + t) / 2 ^ 0 % 2 + (16 * r + t) / 2 ^ 1 % 2 + (16 * r + t) / 2 ^ 2 % 2 + (16 * r + t) / 2 ^ 3 % 2 = p4 t + 0
    unfold p4
    omega
  | n + 1 => by
    have e : (16 * r + t) / 2 ^ (n + 4) = r / 2 ^ n := by
      have e1 : (2 : Nat) ^ (n + 4) = 16 * 2 ^ n := by rw [Nat.pow_add, Nat.mul_comm]
      have e2 : (16 * r + t) / 16 = r := by omega
      rw [e1, ← Nat.div_div_eq_div_mul, e2]
    show n_pop (16 * r + t) (n + 4) + (16 * r + t) / 2 ^ (n + 4) % 2 = p4 t + (n_pop r n + r / 2 ^ n % 2)
    rw [pop_16 ht n, e, Nat.add_assoc]
theorem pop_8 {a b c d e f g h : Nat} (ha : a < 16) (hb : b < 16) (hc : c < 16) (hd : d < 16) (he : e < 16) (hf : f < 16) (hg : g < 16) (hh : h < 16) : n_pop (n8 a b c d e f g h) 32 = p4 a + p4 b + p4 c + p4 d + p4 e + p4 f + p4 g + p4 h := by
  have e8 : n_pop h 4 = p4 h := by
    have := pop_16 (r := 0) hh 0
    rw [Nat.mul_zero, Nat.zero_add] at this
    exact this
  unfold n8
  rw [pop_16 ha 28, pop_16 hb 24, pop_16 hc 20, pop_16 hd 16, pop_16 he 12, pop_16 hf 8, pop_16 hg 4, e8]
  omega
theorem pop_cnt {x : Nat} (hx : x < 2 ^ 32) : fJ6_bitCount_0f7a4 (nI x) = nI (n_pop x 32) := by
  obtain ⟨a, b, c, d, e, f, g, h, h1, h2, h3, h4, h5, h6, h7, h8, rfl⟩ := p_sum x hx
  rw [cnt8 h1 h2 h3 h4 h5 h6 h7 h8, pop_8 h1 h2 h3 h4 h5 h6 h7 h8]
theorem pop_ris (w : Nat → Int32) (n : Nat) : ∀ k, k ≤ n → n_pop (n_ris w n) k = d_cnt w k
  | 0, _ => rfl
  | k + 1, h => by
    rw [n_pop, d_cnt, pop_ris w n k (by omega)]
    have hb := ris_bit w n k
    rw [Nat.testBit_eq_decide_div_mod_eq] at hb
    have hm : n_ris w n / 2 ^ k % 2 < 2 := Nat.mod_lt _ (by decide)
    by_cases hw : w k = 0
    · have : ¬ n_ris w n / 2 ^ k % 2 = 1 := by
        intro e
        simp [e, hw] at hb
      rw [if_pos hw]
      omega
    · have : n_ris w n / 2 ^ k % 2 = 1 := by
        simpa [hw, show k < n by omega] using hb
      rw [if_neg hw, this]
theorem cnt_31 (w : Nat → Int32) : fJ6_bitCount_0f7a4 (d_ris w 31) = nI (d_cnt w 31) := by
  have hl := ris_lt w 31
  have h3 : (2 : Nat) ^ 32 = 2 * 2 ^ 31 := by decide
  rw [ris_n w 31 (by decide), pop_cnt (by omega), n_pop, pop_ris w 31 31 (by decide), Nat.div_eq_of_lt hl]
  rfl
/-! the first and the last of a set -/
theorem com_and {n h : Nat} (hh : h < 2 ^ n) : (2 ^ n - (h + 1)) &&& h = 0 := by
  apply Nat.eq_of_testBit_eq
  intro i
  rw [Nat.testBit_and, Nat.testBit_two_pow_sub_succ hh, Nat.zero_testBit]
  cases h.testBit i <;> simp
theorem xor_m1 {x : Nat} (hx : x < 2 ^ 32) : nI x ^^^ (-1) = nI (2 ^ 32 - (x + 1)) := by
  rw [nI_bv (nI x ^^^ (-1)), Int32.toBitVec_xor]
  congr 1
  have e : (-1 : Int32).toBitVec = BitVec.allOnes 32 := by decide
  rw [e, BitVec.xor_allOnes, BitVec.toNat_not, bv_nI hx]
  omega
def tz_rest (v1 : Int32) : Int32 := if (0 : Int32) < v1 then
    if v1 ≤ 65536 then
      fJ6_numberOfTrailingZeros_0f7a4_L34 v1 1
    else
      sw_let (1 + 16) fun v5 =>
      sw_let ((v1.toUInt32 >>> ((16 : Int32).toUInt32 &&& Int32.toUInt32 31)).toInt32) fun v7 =>
      fJ6_numberOfTrailingZeros_0f7a4_L34 v7 v5
  else
    v1 &&& 32
theorem tz_all : ∀ f, f < 31 → tz_rest (nI (2 ^ f - 1)) = nI f := by decide +kernel
theorem tz_low {f h : Nat} (hx : 2 ^ f * (2 * h + 1) < 2 ^ 31) (hf : f < 31) : fJ6_numberOfTrailingZeros_0f7a4 (nI (2 ^ f * (2 * h + 1))) = nI f := by
  have hp : 0 < 2 ^ f := Nat.two_pow_pos f
  have e32 : (2 : Nat) ^ 32 = 2 * 2 ^ 31 := by decide
  obtain ⟨X, hX⟩ : ∃ X, X = 2 ^ f * (2 * h + 1) := ⟨_, rfl⟩
  have hX1 : 1 ≤ X := by
    rw [hX]
    exact Nat.mul_pos hp (by omega)
  have hsplit : (2 : Nat) ^ 31 = 2 ^ f * 2 ^ (31 - f) := by
    rw [← Nat.pow_add]
    congr 1
    omega
  have hh : 2 * h + 1 < 2 ^ (31 - f) := by
    rw [hsplit] at hx
    exact Nat.lt_of_mul_lt_mul_left hx
  have hs2 : (2 : Nat) ^ (31 - f) = 2 * 2 ^ (30 - f) := by
    rw [show 31 - f = (30 - f) + 1 by omega, Nat.pow_succ, Nat.mul_comm]
  have hh2 : h < 2 ^ (31 - f) := by omega
  -- one less: the low ones
  have l1 : X - 1 = 2 ^ f * (2 * h) + (2 ^ f - 1) := by
    rw [hX, Nat.mul_add, Nat.mul_one]
    omega
  have l2 : 2 ^ 32 - (X + 1) = 2 ^ f * (2 * (2 ^ (31 - f) - (h + 1))) + (2 ^ f - 1) := by
    have q1 : 2 ^ f * (2 * (2 ^ (31 - f) - (h + 1))) = 2 * (2 ^ f * 2 ^ (31 - f)) - (2 ^ f * (2 * h + 1) + 2 ^ f) := by
      have q2 : 2 ^ f * (2 * (2 ^ (31 - f) - (h + 1))) + (2 ^ f * (2 * h + 1) + 2 ^ f) = 2 * (2 ^ f * 2 ^ (31 - f)) := by
        have q3 : 2 ^ f * (2 * (2 ^ (31 - f) - (h + 1))) + (2 ^ f * (2 * h + 1) + 2 ^ f) = 2 ^ f * (2 * (2 ^ (31 - f) - (h + 1)) + (2 * h + 1) + 1) := by
          rw [Nat.mul_add (2 ^ f) (2 * (2 ^ (31 - f) - (h + 1)) + (2 * h + 1)) 1, Nat.mul_add (2 ^ f) (2 * (2 ^ (31 - f) - (h + 1))) (2 * h + 1), Nat.mul_one, Nat.add_assoc]
        rw [q3, show 2 * (2 ^ (31 - f) - (h + 1)) + (2 * h + 1) + 1 = 2 * 2 ^ (31 - f) by omega, Nat.mul_left_comm]
      omega
    rw [q1, e32, hsplit, hX]
    have q4 : 2 ^ f * (2 * h + 1) + 2 ^ f ≤ 2 * (2 ^ f * 2 ^ (31 - f)) := by
      rw [← hsplit]
      have : 2 ^ f ≤ 2 ^ 31 := pow_le (by omega)
      omega
    omega
  have hand : (2 ^ 32 - (X + 1)) &&& (X - 1) = 2 ^ f - 1 := by
    have ones : (2 ^ f - 1) &&& (2 ^ f - 1) = 2 ^ f - 1 := Nat.and_self _
    have z : 2 * (2 ^ (31 - f) - (h + 1)) &&& 2 * h = 0 := by
      have := and_split (e := 1) (r := 2 ^ (31 - f) - (h + 1)) (t := 0) (mr := h) (mk := 0) (by decide) (by decide)
      rw [com_and hh2] at this
      simpa using this
    rw [l1, l2, and_split (by omega) (by omega), z, ones, Nat.mul_zero, Nat.zero_add]
  rw [← hX]
  rw [← hX] at hx
  have e1 : nI X - 1 = nI (X - 1) := nI_sub (b := 1) hX1
  have hst : fJ6_numberOfTrailingZeros_0f7a4 (nI X) = tz_rest ((nI X ^^^ (-1)) &&& (nI X - 1)) := rfl
  rw [hst, xor_m1 (by omega), e1, and_nI (by omega) (by omega), hand]
  exact tz_all f hf
theorem lz1 {y l a : Nat} (h1 : 2 ^ l ≤ y) (h2 : y < 2 ^ (l + 1)) (hl : l < 2) (ha : l ≤ a) (ha2 : a < 64) : fJ6_numberOfLeadingZeros_0f7a4_L73 (nI y) (nI a) = nI (a - l) := by
  have hy : y < 4 := Nat.lt_of_lt_of_le h2 (pow_le (show l + 1 ≤ 2 by omega))
  have e : y / 2 ^ 1 = l := by
    rcases (show l = 0 ∨ l = 1 by omega) with rfl | rfl
    · omega
    · omega
  unfold fJ6_numberOfLeadingZeros_0f7a4_L73
  rw [pk_ushrN (by omega) 1 1 (by decide), e, nI_sub ha]
theorem lz_half {y l s : Nat} (h1 : 2 ^ l ≤ y) (h2 : y < 2 ^ (l + 1)) (hs : s ≤ l) : 2 ^ (l - s) ≤ y / 2 ^ s ∧ y / 2 ^ s < 2 ^ (l - s + 1) := by
  refine ⟨?_, ?_⟩
  · rw [Nat.le_div_iff_mul_le (Nat.two_pow_pos s), ← Nat.pow_add, Nat.sub_add_cancel hs]
    exact h1
  · rw [Nat.div_lt_iff_lt_mul (Nat.two_pow_pos s), ← Nat.pow_add, show l - s + 1 + s = l + 1 by omega]
    exact h2
theorem sub_m {a s : Nat} (h : s ≤ a) {S : Int32} (hS : S = -nI s) : nI a + S = nI (a - s) := by
  rw [hS, ← Int32.sub_eq_add_neg, nI_sub h]
theorem lz2 {y l a : Nat} (h1 : 2 ^ l ≤ y) (h2 : y < 2 ^ (l + 1)) (hl : l < 4) (ha : l ≤ a) (ha2 : a < 64) : fJ6_numberOfLeadingZeros_0f7a4_L61 (nI y) (nI a) = nI (a - l) := by
  have hy : y < 2 ^ 4 := Nat.lt_of_lt_of_le h2 (pow_le (by omega))
  unfold fJ6_numberOfLeadingZeros_0f7a4_L61
  by_cases h : l < 2
  · have hy4 : y < 2 ^ 2 := Nat.lt_of_lt_of_le h2 (pow_le (by omega))
    have : nI y < 4 := nI_lt (b := 4) (by omega) (by decide)
    rw [if_pos this]
    exact lz1 h1 h2 h ha ha2
  · have hy4 : 2 ^ 2 ≤ y := Nat.le_trans (pow_le (by omega)) h1
    have : ¬ nI y < 4 := nI_nlt (b := 4) (by omega) (by omega)
    obtain ⟨g1, g2⟩ := lz_half h1 h2 (show 2 ≤ l by omega)
    rw [if_neg this, let_s, let_s, pk_ushrN (by omega) 2 2 (by decide), sub_m (s := 2) (by omega) (by decide), lz1 g1 g2 (by omega) (by omega) (by omega)]
    congr 1
    omega
theorem lz3 {y l a : Nat} (h1 : 2 ^ l ≤ y) (h2 : y < 2 ^ (l + 1)) (hl : l < 8) (ha : l ≤ a) (ha2 : a < 64) : fJ6_numberOfLeadingZeros_0f7a4_L48 (nI y) (nI a) = nI (a - l) := by
  have hy : y < 2 ^ 8 := Nat.lt_of_lt_of_le h2 (pow_le (by omega))
  unfold fJ6_numberOfLeadingZeros_0f7a4_L48
  by_cases h : l < 4
  · have hy4 : y < 2 ^ 4 := Nat.lt_of_lt_of_le h2 (pow_le (by omega))
    have : nI y < 16 := nI_lt (b := 16) (by omega) (by decide)
    rw [if_pos this]
    exact lz2 h1 h2 h ha ha2
  · have hy4 : 2 ^ 4 ≤ y := Nat.le_trans (pow_le (by omega)) h1
    have : ¬ nI y < 16 := nI_nlt (b := 16) (by omega) (by omega)
    obtain ⟨g1, g2⟩ := lz_half h1 h2 (show 4 ≤ l by omega)
    rw [if_neg this, let_s, let_s, pk_ushrN (by omega) 4 4 (by decide), sub_m (s := 4) (by omega) (by decide), lz2 g1 g2 (by omega) (by omega) (by omega)]
    congr 1
    omega
theorem lz4 {y l a : Nat} (h1 : 2 ^ l ≤ y) (h2 : y < 2 ^ (l + 1)) (hl : l < 16) (ha : l ≤ a) (ha2 : a < 64) : fJ6_numberOfLeadingZeros_0f7a4_L33 (nI y) (nI a) = nI (a - l) := by
  have hy : y < 2 ^ 16 := Nat.lt_of_lt_of_le h2 (pow_le (by omega))
  unfold fJ6_numberOfLeadingZeros_0f7a4_L33
  by_cases h : l < 8
  · have hy4 : y < 2 ^ 8 := Nat.lt_of_lt_of_le h2 (pow_le (by omega))
    have : nI y < 256 := nI_lt (b := 256) (by omega) (by decide)
    rw [if_pos this]
    exact lz3 h1 h2 h ha ha2
  · have hy4 : 2 ^ 8 ≤ y := Nat.le_trans (pow_le (by omega)) h1
    have : ¬ nI y < 256 := nI_nlt (b := 256) (by omega) (by omega)
    obtain ⟨g1, g2⟩ := lz_half h1 h2 (show 8 ≤ l by omega)
    rw [if_neg this, let_s, let_s, pk_ushrN (by omega) 8 8 (by decide), sub_m (s := 8) (by omega) (by decide), lz3 g1 g2 (by omega) (by omega) (by omega)]
    congr 1
    omega
theorem lz_high {y l : Nat} (h1 : 2 ^ l ≤ y) (h2 : y < 2 ^ (l + 1)) (hl : l < 31) : 31 - fJ6_numberOfLeadingZeros_0f7a4 (nI y) = nI l := by
  have hy : y < 2 ^ 31 := Nat.lt_of_lt_of_le h2 (pow_le (by omega))
  have hp : 0 < 2 ^ l := Nat.two_pow_pos l
  have e : fJ6_numberOfLeadingZeros_0f7a4 (nI y) = nI (31 - l) := by
    unfold fJ6_numberOfLeadingZeros_0f7a4
    have h0 : (0 : Int32) < nI y := nI_lt (a := 0) (by omega) (by omega)
    rw [if_pos h0]
    by_cases h : l < 16
    · have hy4 : y < 2 ^ 16 := Nat.lt_of_lt_of_le h2 (pow_le (by omega))
      have : nI y < 65536 := nI_lt (b := 65536) (by omega) (by decide)
      rw [if_pos this]
      exact lz4 (a := 31) h1 h2 h (by omega) (by decide)
    · have hy4 : 2 ^ 16 ≤ y := Nat.le_trans (pow_le (by omega)) h1
      have : ¬ nI y < 65536 := nI_nlt (b := 65536) (by omega) (by omega)
      obtain ⟨g1, g2⟩ := lz_half h1 h2 (show 16 ≤ l by omega)
      have e15 : (31 : Int32) + (-16) = nI 15 := by decide
      rw [if_neg this, let_s, let_s, pk_ushrN (by omega) 16 16 (by decide), e15, lz4 g1 g2 (by omega) (by omega) (by omega)]
      congr 1
      omega
  rw [e]
  have : (31 : Int32) = nI 31 := rfl
  rw [this, nI_sub (by omega)]
  congr 1
  omega
/-- the first that is in, the last that is in -/
theorem ris_first (w : Nat → Int32) {f : Nat} (hf : ¬ w f = 0) (h0 : ∀ k, k < f → w k = 0) : ∀ n, f < n → ∃ h, n_ris w n = 2 ^ f * (2 * h + 1)
  | n + 1, hn => by
    rw [n_ris]
    by_cases e : n = f
    · have z : ∀ m, m ≤ f → n_ris w m = 0 := by
        intro m
        induction m with
        | zero => intro _; rfl
        | succ m ih =>
          intro hm
          rw [n_ris, if_pos (h0 m (by omega)), ih (by omega)]
      refine ⟨0, ?_⟩
      rw [e, if_neg hf, z f (Nat.le_refl f), Nat.mul_zero, Nat.zero_add, Nat.mul_one, Nat.add_zero]
    · obtain ⟨h, eh⟩ := ris_first w hf h0 n (by omega)
      split
      · exact ⟨h, eh⟩
      · refine ⟨h + 2 ^ (n - f - 1), ?_⟩
        have : 2 ^ n = 2 ^ f * (2 * 2 ^ (n - f - 1)) := by
          rw [Nat.mul_comm 2, ← Nat.pow_succ, ← Nat.pow_add]
          congr 1
          omega
        rw [eh, this, ← Nat.mul_add]
        congr 1
        omega
theorem ris_last (w : Nat → Int32) {l : Nat} (hl : ¬ w l = 0) : ∀ n, l < n → (∀ k, l < k → k < n → w k = 0) → 2 ^ l ≤ n_ris w n ∧ n_ris w n < 2 ^ (l + 1)
  | n + 1, hn, h => by
    rw [n_ris]
    by_cases e : n = l
    · have hlt := ris_lt w l
      rw [e, if_neg hl, Nat.pow_succ]
      omega
    · rw [if_pos (h n (by omega) (by omega))]
      exact ris_last w hl n (by omega) (fun k h1 h2 => h k h1 (by omega))
theorem tz_31 (w : Nat → Int32) {f : Nat} (hf : ¬ w f = 0) (h31 : f < 31) (h0 : ∀ k, k < f → w k = 0) : fJ6_numberOfTrailingZeros_0f7a4 (d_ris w 31) = nI f := by
  obtain ⟨h, eh⟩ := ris_first w hf h0 31 h31
  have hl := ris_lt w 31
  rw [ris_n w 31 (by decide), eh]
  rw [eh] at hl
  exact tz_low hl h31
theorem lz_31 (w : Nat → Int32) {l : Nat} (hl : ¬ w l = 0) (h31 : l < 31) (h : ∀ k, l < k → k < 31 → w k = 0) : 31 - fJ6_numberOfLeadingZeros_0f7a4 (d_ris w 31) = nI l := by
  obtain ⟨h1, h2⟩ := ris_last w hl 31 h31 h
  rw [ris_n w 31 (by decide)]
  exact lz_high h1 h2 h31
