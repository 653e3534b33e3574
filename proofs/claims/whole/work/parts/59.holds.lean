/-! what a basin lacks, and whether the vat holds it -/
def v_hold (w u : Nat → Int32) : Nat → Int32
  | 0 => 1
  | k + 1 => if v_hold w u k = 0 then 0 else if u k < w k then 0 else 1
theorem v_hold01 (w u : Nat → Int32) : ∀ k, v_hold w u k = 0 ∨ v_hold w u k = 1
  | 0 => .inr rfl
  | k + 1 => by
    unfold v_hold
    split
    · exact .inl rfl
    · split
      · exact .inl rfl
      · exact .inr rfl
theorem e_holds {σ : sw_M} {K q : Nat} (hKm : σ.1 49 40 = nI K) (hK : K ≤ 5) (hq : q < 4) : fX10_holds σ (nI q) = some (v_hold (fun k => σ.1 63 (5 * q + k)) (σ.1 66) K) := by
  unfold fX10_holds
  refine wh_runs (b := fun s : Int32 × Int32 => fX10_holds_L4 σ (nI q) s.1 s.2) (fun k => (v_hold (fun k => σ.1 63 (5 * q + k)) (σ.1 66) k, nI k)) K rfl (fun k hk => ?_) ?_ (by omega)
  · show fX10_holds_L4 σ (nI q) (v_hold _ _ k) (nI k) = some (.inl (v_hold _ _ (k + 1), nI (k + 1)))
    unfold fX10_holds_L4
    rw [hKm, if_neg (le_f hk (by omega)), v_hold]
    by_cases h : v_hold (fun k => σ.1 63 (5 * q + k)) (σ.1 66) k = 0
    · rw [if_pos h, if_pos h, fX10_holds_L39, fX10_holds_L40, let_s, nI_1]
    · rw [if_neg h, if_neg h, sw_gd_t (in_t (show k < 10 by omega) (by decide)), i54, sw_gd_t (in_t (show 5 * q + k < 20 by omega) (by decide)), nI_clamp (by omega), nI_clamp (by omega)]
      by_cases h2 : σ.1 66 k < σ.1 63 (5 * q + k)
      · rw [if_pos h2, if_pos h2, fX10_holds_L39, fX10_holds_L40, let_s, nI_1]
      · rw [if_neg h2, if_neg h2, fX10_holds_L40, let_s, nI_1]
  · show fX10_holds_L4 σ (nI q) (v_hold _ _ K) (nI K) = _
    unfold fX10_holds_L4
    rw [hKm, if_pos (le_t K (by omega))]
    rcases v_hold01 (fun k => σ.1 63 (5 * q + k)) (σ.1 66) K with h | h
    · rw [h, sw_gd_t (by decide)]
    · rw [h, sw_gd_t (by decide)]
theorem sub_neg {a b : Nat} (h : a < b) (hb : b < 1000) : ¬ 0 ≤ nI a - nI b := by
  rw [Int32.le_iff_toInt_le, Int32.toInt_sub, nI_toInt (show a < 2 ^ 31 by omega), nI_toInt (show b < 2 ^ 31 by omega), Int.bmod_eq_of_le (by omega) (by omega)]
  have e0 : (0 : Int32).toInt = 0 := by decide
  rw [e0]
  omega
theorem lack_nI {a b : Nat} (ha : a < 1000) (hb : b < 1000) : fX10_greater 0 (nI a - nI b) = nI (a - b) := by
  by_cases h : b ≤ a
  · rw [nI_sub h]
    have := greater_nI (a := 0) (b := a - b) (by decide) (by omega)
    rw [Nat.max_eq_right (Nat.zero_le _)] at this
    exact this
  · unfold fX10_greater
    rw [if_neg (sub_neg (by omega) hb), show a - b = 0 by omega, nI_0]
theorem n_sum_0 {n : Nat → Nat} : ∀ {K : Nat}, n_sum n K = 0 ↔ ∀ j, j < K → n j = 0
  | 0 => ⟨fun _ j hj => by omega, fun _ => rfl⟩
  | K + 1 => by
    show n_sum n K + n K = 0 ↔ _
    constructor
    · intro h j hj
      by_cases e : j = K
      · rw [e]; omega
      · exact n_sum_0.mp (show n_sum n K = 0 by omega) j (by omega)
    · intro h
      have h1 := n_sum_0.mpr (fun j hj => h j (by omega) : ∀ j, j < K → n j = 0)
      have h2 := h K (by omega)
      omega
theorem n_sum_b {n : Nat → Nat} {B : Nat} : ∀ {K : Nat}, (∀ j, j < K → n j ≤ B) → n_sum n K ≤ B * K
  | 0, _ => Nat.zero_le _
  | K + 1, h => by
    show n_sum n K + n K ≤ B * (K + 1)
    have h1 := n_sum_b (fun j hj => h j (by omega) : ∀ j, j < K → n j ≤ B)
    have h2 := h K (by omega)
    rw [Nat.mul_add]
    omega
/-- nothing is lacking: the vat holds it -/
theorem lack_hold {w u : Nat → Int32} {m n : Nat → Nat} {K : Nat} (hw : rep K w m) (hu : rep K u n) (hm : ∀ j, j < K → m j ≤ 999) (hn : ∀ j, j < K → n j ≤ 999) (hK : K ≤ 5) : (v_sum (fun k => fX10_greater 0 (w k - u k)) K ≤ 0) ↔ ¬ v_hold w u K = 0 := by
  have hr : rep K (fun k => fX10_greater 0 (w k - u k)) (fun k => m k - n k) := by
    intro j hj
    have h1 := hm j hj
    have h2 := hn j hj
    show fX10_greater 0 (w j - u j) = _
    rw [hw j hj, hu j hj, lack_nI (by omega) (by omega)]
  rw [rep_sum hr]
  have hb := n_sum_b (n := fun k => m k - n k) (B := 999) (K := K) (fun j hj => by have := hm j hj; show m j - n j ≤ 999; omega)
  have e1 : nI (n_sum (fun k => m k - n k) K) ≤ 0 ↔ n_sum (fun k => m k - n k) K = 0 := by
    constructor
    · intro h
      by_cases e : n_sum (fun k => m k - n k) K = 0
      · exact e
      · exact absurd h (nI_nle (by omega) (by omega))
    · intro h
      rw [h]
      decide
  rw [e1, n_sum_0]
  have key : ∀ k, k ≤ K → ((∀ j, j < k → m j - n j = 0) ↔ ¬ v_hold w u k = 0) := by
    intro k
    induction k with
    | zero =>
      intro _
      exact ⟨fun _ => (by decide : ¬ (1 : Int32) = 0), fun _ j hj => by omega⟩
    | succ k ih =>
      intro hk
      have h1 := ih (by omega)
      have hmk := hm k (by omega)
      have hnk := hn k (by omega)
      rw [v_hold]
      by_cases e : v_hold w u k = 0
      · rw [if_pos e]
        refine ⟨fun h => absurd e (h1.mp (fun j hj => h j (by omega))), fun h => absurd rfl h⟩
      · rw [if_neg e, hw k (by omega), hu k (by omega)]
        by_cases e2 : n k < m k
        · rw [if_pos (nI_lt e2 (by omega))]
          refine ⟨fun h => ?_, fun h => absurd rfl h⟩
          have := h k (by omega)
          omega
        · rw [if_neg (nI_nlt (by omega) (by omega))]
          refine ⟨fun _ => by decide, fun _ j hj => ?_⟩
          by_cases ej : j = k
          · rw [ej]; omega
          · exact h1.mpr e j (by omega)
  exact key K (Nat.le_refl K)
theorem c_all {σ : sw_M} {V : Nat} : fX8_all V σ = some (v_sum (σ.1 (V + 1)) 5) := by
  unfold fX8_all
  refine wh_sum (σ.1 (V + 1)) 5 (fun k acc hk => ?_) (fun acc => ?_) (by decide)
  · have h : ¬ (5 : Int32) ≤ nI k := le_f hk (by decide)
    show fX8_all_L4 V σ acc (nI k) = _
    unfold fX8_all_L4
    rw [if_neg h, sw_gd_t (in_t hk (by decide)), let_s, let_s, nI_clamp (by omega), nI_1]
  · have h : (5 : Int32) ≤ nI 5 := le_t 5 (by decide)
    show fX8_all_L4 V σ acc (nI 5) = _
    unfold fX8_all_L4
    rw [if_pos h]
