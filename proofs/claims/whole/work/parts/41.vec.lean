/-! vectors: what the loops do, in closed form; the same words for both systems -/
def v_sum (f : Nat → Int32) : Nat → Int32
  | 0 => 0
  | n + 1 => v_sum f n + f n
theorem wh_runs {S T : Type} {b : S → Option (S ⊕ T)} (g : Nat → S) (N : Nat) {s0 : S} {r : T} (h0 : g 0 = s0) (h : ∀ k, k < N → b (g k) = some (.inl (g (k + 1)))) (hN : b (g N) = some (.inr r)) (h4 : N < 4000) : sw_wh sw_F b s0 = some r := by
  rw [← h0]
  exact wh_run g N h hN (F_big h4)
def v_mix (k : Nat) (g v : Nat → Int32) : Nat → Int32 := fun j => if j < k then g j else v j
theorem v_mix0 (g v : Nat → Int32) : v_mix 0 g v = v := by funext j; simp [v_mix]
theorem v_mixk (k : Nat) (g v : Nat → Int32) : v_mix k g v k = v k := by simp [v_mix]
theorem v_mixS (k : Nat) (g v : Nat → Int32) : upd (v_mix k g v) k (g k) = v_mix (k + 1) g v := by
  funext j
  simp only [upd, v_mix]
  by_cases hj : j = k
  · subst hj; simp
  · by_cases hlt : j < k
    · have h2 : j < k + 1 := by omega
      simp [hj, hlt, h2]
    · have h2 : ¬ j < k + 1 := by omega
      simp [hj, hlt, h2]
theorem wh_sum {b : Int32 × Int32 → Option ((Int32 × Int32) ⊕ Int32)} (f : Nat → Int32) (N : Nat) (h : ∀ k acc, k < N → b (acc, nI k) = some (.inl (acc + f k, nI (k + 1)))) (hN : ∀ acc, b (acc, nI N) = some (.inr acc)) (h4 : N < 4000) : sw_wh sw_F b (0, 0) = some (v_sum f N) := by
  have := wh_run (b := b) (fun k => (v_sum f k, nI k)) N (r := v_sum f N) (fun k hk => h k _ hk) (hN _) (F_big h4)
  exact this
theorem wh_map {T : Type} {b : Int32 × sw_M → Option ((Int32 × sw_M) ⊕ T)} (σ : sw_M) (a : Nat) (g : Nat → Int32) (N : Nat) {r : T} (h : ∀ k, k < N → b (nI k, sw_wA σ a (v_mix k g (σ.1 a))) = some (.inl (nI (k + 1), sw_wA σ a (upd (v_mix k g (σ.1 a)) k (g k))))) (hN : b (nI N, sw_wA σ a (v_mix N g (σ.1 a))) = some (.inr r)) (h4 : N < 4000) : sw_wh sw_F b (0, σ) = some r := by
  have := wh_run (b := b) (fun k => (nI k, sw_wA σ a (v_mix k g (σ.1 a)))) N (r := r) (fun k hk => by rw [h k hk, v_mixS]) hN (F_big h4)
  rw [v_mix0, m_self] at this
  exact this
theorem le_f {k N : Nat} (h : k < N) (hN : N < 2 ^ 31) : ¬ nI N ≤ nI k := nI_ge h hN
theorem le_t (N : Nat) (hN : N < 2 ^ 31) : nI N ≤ nI N := nI_le (Nat.le_refl N) hN
theorem i54 (p k : Nat) : (5 : Int32) * nI p + nI k = nI (5 * p + k) := by rw [lit_I, pk_mul, nI_add]
theorem i54' (p k : Nat) : nI p * (5 : Int32) + nI k = nI (5 * p + k) := by rw [lit_I, pk_mul, nI_add, Nat.mul_comm]
theorem i4 (r : Nat) : (4 : Int32) * nI r = nI (4 * r) := by rw [lit_I, pk_mul]
theorem i4' (r : Nat) : nI r * (4 : Int32) = nI (4 * r) := by rw [lit_I, pk_mul, Nat.mul_comm]
theorem iadd (a n : Nat) : nI a + (OfNat.ofNat n : Int32) = nI (a + n) := by rw [lit_I, nI_add]
theorem i4_1 (r : Nat) : nI (4 * r) + (1 : Int32) = nI (4 * r + 1) := iadd _ 1
theorem i4_2 (r : Nat) : nI (4 * r) + (2 : Int32) = nI (4 * r + 2) := iadd _ 2
theorem i4_3 (r : Nat) : nI (4 * r) + (3 : Int32) = nI (4 * r + 3) := iadd _ 3
theorem isP_ne {P a k : Nat} (hP : sw_isP P) (ha : 26 < a) (hk : k ≤ 10) : P + k ≠ a := by rcases hP with rfl | rfl <;> omega
theorem isP_ne0 {P a : Nat} (hP : sw_isP P) (ha : 26 < a) : P ≠ a := by rcases hP with rfl | rfl <;> omega
/-! rules -/
def ix (x : Int32) : Nat := x.toNatClampNeg
def v_mk (ρ v : Nat → Int32) (r : Nat) (lim : Int32) : Int32 := fX10_lesser lim (if ρ (4 * r) = ρ (4 * r + 1) then v (ix (ρ (4 * r))) / 2 else fX10_lesser (v (ix (ρ (4 * r)))) (v (ix (ρ (4 * r + 1)))))
def v_turn (ρ : Nat → Int32) (r : Nat) (lim : Int32) (v : Nat → Int32) : Nat → Int32 :=
  let k := v_mk ρ v r lim
  let v1 := upd v (ix (ρ (4 * r))) (v (ix (ρ (4 * r))) - k)
  let v2 := upd v1 (ix (ρ (4 * r + 1))) (v1 (ix (ρ (4 * r + 1))) - k)
  upd v2 (ix (ρ (4 * r + 2))) (fX10_lesser 999 (v2 (ix (ρ (4 * r + 2))) + k))
def v_boil (ρ : Nat → Int32) : Nat → (Nat → Int32) → Nat → Int32
  | 0, v => v
  | n + 1, v => v_turn ρ n (ρ (4 * n + 3)) (v_boil ρ n v)
def v_turned (ρ : Nat → Int32) : Nat → (Nat → Int32) → Int32
  | 0, _ => 0
  | n + 1, v => v_turned ρ n v + v_mk ρ (v_boil ρ n v) n (ρ (4 * n + 3))
/-- the rules' data are sound: three kinds and a limit each -/
def ok_ρ (ρ : Nat → Int32) (K R : Nat) : Prop := ∀ r, r < R → ∀ c, c < 3 → ∃ j, j < K ∧ ρ (4 * r + c) = nI j
theorem ok_ix {ρ : Nat → Int32} {K R r c : Nat} (h : ok_ρ ρ K R) (hK : K ≤ 5) (hr : r < R) (hc : c < 3) : ix (ρ (4 * r + c)) < K ∧ ρ (4 * r + c) = nI (ix (ρ (4 * r + c))) := by
  obtain ⟨j, hj, e⟩ := h r hr c hc
  have e2 : ix (ρ (4 * r + c)) = j := by rw [e]; exact nI_clamp (by omega)
  rw [e2]
  exact ⟨hj, e⟩
theorem in_ix {x : Int32} {n : Nat} (h : ix x < n) (e : x = nI (ix x)) (hn : n < 2 ^ 31) : sw_in x n = true := by rw [e]; exact in_t h hn
section REF
variable {σ : sw_M} {K R : Nat}
theorem e_makes {r : Nat} {lim : Int32} (hK : K ≤ 5) (hR : R ≤ 6) (hρ : ok_ρ (σ.1 64) K R) (hr : r < R) : fX10_makes σ (nI r) lim = some (v_mk (σ.1 64) (σ.1 66) r lim) := by
  obtain ⟨a1, a2⟩ := ok_ix hρ hK hr (c := 0) (by decide)
  obtain ⟨b1, b2⟩ := ok_ix hρ hK hr (c := 1) (by decide)
  simp only [Nat.add_zero] at a1 a2
  have ga := in_ix (n := 10) (by omega) a2 (by decide)
  have gb := in_ix (n := 10) (by omega) b2 (by decide)
  simp only [fX10_makes, i4, i4_1, in_t (show 4 * r < 24 by omega) (by decide), in_t (show 4 * r + 1 < 24 by omega) (by decide), sw_gd_t, sw_let, nI_clamp (show 4 * r < 2 ^ 31 by omega), nI_clamp (show 4 * r + 1 < 2 ^ 31 by omega), ga, gb, fX10_makes_L55, v_mk, ix]
  split <;> rfl
theorem e_boilBy {r : Nat} {lim : Int32} (hK : K ≤ 5) (hR : R ≤ 6) (hρ : ok_ρ (σ.1 64) K R) (hr : r < R) : fX10_boilBy σ (nI r) lim = some (sw_wA σ 66 (v_turn (σ.1 64) r lim (σ.1 66))) := by
  obtain ⟨a1, a2⟩ := ok_ix hρ hK hr (c := 0) (by decide)
  obtain ⟨b1, b2⟩ := ok_ix hρ hK hr (c := 1) (by decide)
  obtain ⟨c1, c2⟩ := ok_ix hρ hK hr (c := 2) (by decide)
  simp only [Nat.add_zero] at a1 a2
  have ga := in_ix (n := 10) (by omega) a2 (by decide)
  have gb := in_ix (n := 10) (by omega) b2 (by decide)
  have gc := in_ix (n := 10) (by omega) c2 (by decide)
  simp only [fX10_boilBy, e_makes hK hR hρ hr, sw_b1, i4, i4_1, i4_2, in_t (show 4 * r < 24 by omega) (by decide), in_t (show 4 * r + 1 < 24 by omega) (by decide), in_t (show 4 * r + 2 < 24 by omega) (by decide), sw_gd_t, sw_let, nI_clamp (show 4 * r < 2 ^ 31 by omega), nI_clamp (show 4 * r + 1 < 2 ^ 31 by omega), nI_clamp (show 4 * r + 2 < 2 ^ 31 by omega), ga, gb, gc, m_w, m_eq, m_mm, m_ne (show (64 : Nat) ≠ 66 by decide)]
  rfl
theorem e_boilAll (hRm : σ.1 49 43 = nI R) (hK : K ≤ 5) (hR : R ≤ 6) (hρ : ok_ρ (σ.1 64) K R) : fX10_boilAll σ = some (sw_wA σ 66 (v_boil (σ.1 64) R (σ.1 66))) := by
  unfold fX10_boilAll
  refine wh_runs (fun k => (nI k, sw_wA σ 66 (v_boil (σ.1 64) k (σ.1 66)))) R (Prod.ext rfl m_self) ?_ ?_ (by omega)
  · intro k hk
    have e64 : (sw_wA σ 66 (v_boil (σ.1 64) k (σ.1 66))).1 64 = σ.1 64 := m_ne (by decide)
    have hb := e_boilBy (σ := sw_wA σ 66 (v_boil (σ.1 64) k (σ.1 66))) (lim := σ.1 64 (4 * k + 3)) hK hR (by rw [e64]; exact hρ) hk
    rw [e64, m_eq, m_mm] at hb
    simp only [fX10_boilAll_L2, m_ne (show (49 : Nat) ≠ 66 by decide), hRm, if_neg (le_f hk (by omega)), i4, i4_3, in_t (show 4 * k + 3 < 24 by omega) (by decide), sw_gd_t, nI_clamp (show 4 * k + 3 < 2 ^ 31 by omega), e64, hb, sw_b1, sw_let, nI_1]
    rfl
  · simp only [fX10_boilAll_L2, m_ne (show (49 : Nat) ≠ 66 by decide), hRm, if_pos (le_t R (by omega))]
end REF
