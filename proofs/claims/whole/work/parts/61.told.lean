/-! telling on the canonical vector -/
theorem v_ors_or {s x : Int32} : ∀ N, v_ors s x N = x ||| v_ors s 0 N
  | 0 => by
    show x = x ||| 0
    rw [Int32.or_zero]
  | N + 1 => by
    rw [v_ors, v_ors]
    by_cases h : v_bit s N = 1
    · rw [if_pos h, if_pos h, v_ors_or N, Int32.or_assoc]
    · rw [if_neg h, if_neg h, v_ors_or N]
theorem ors_all : ∀ N, N < 8 → ∀ t, t < 2 ^ N → v_ors (nI t) 0 N = nI t := by decide +kernel
theorem v_pour_cg {K p n : Nat} {μ μ' v v' : Nat → Int32} (hK : K ≤ n) (hμ : ∀ j, j < K → μ' (5 * p + j) = μ (5 * p + j)) (h : ∀ j, j < n → v' j = v j) : ∀ j, j < n → v_pour K μ' p v' j = v_pour K μ p v j := by
  intro j hj
  simp only [v_pour, v_mix]
  by_cases a : j < K
  · rw [if_pos a, if_pos a, hμ j a, h j hj]
  · rw [if_neg a, if_neg a, h j hj]
theorem v_pours_cg {K n R : Nat} {s : Int32} {μ μ' v v' : Nat → Int32} (hK : K ≤ n) (hμ : ∀ p j, p < R → j < K → μ' (5 * p + j) = μ (5 * p + j)) (h : ∀ j, j < n → v' j = v j) : ∀ {N : Nat}, N ≤ R → ∀ j, j < n → v_pours K μ' s v' N j = v_pours K μ s v N j
  | 0, _, j, hj => h j hj
  | N + 1, hN, j, hj => by
    have ih := v_pours_cg (s := s) hK hμ h (show N ≤ R by omega)
    rw [v_pours, v_pours]
    by_cases b : v_bit s N = 1
    · rw [if_pos b, if_pos b]
      exact v_pour_cg hK (fun j hj => hμ N j (by omega) hj) ih j hj
    · rw [if_neg b, if_neg b]
      exact ih j hj
theorem v_pours_hi {K j : Nat} {s : Int32} {μ v : Nat → Int32} (hj : K ≤ j) : ∀ N, v_pours K μ s v N j = v j
  | 0 => rfl
  | N + 1 => by
    rw [v_pours]
    by_cases b : v_bit s N = 1
    · rw [if_pos b, v_pour, v_mix, if_neg (by omega)]
      exact v_pours_hi hj N
    · rw [if_neg b]
      exact v_pours_hi hj N
def v_told (K : Nat) (μ : Nat → Int32) (s : Int32) (N : Nat) (u : Nat → Int32) : Nat → Int32 := upd (v_pours K μ s u N) 5 (u 5 ||| s)
theorem pk_pours {K N : Nat} {s : Int32} {μ g f : Nat → Int32} (hK : K ≤ 5) : pk (v_pours K μ s g N) f = v_pours K μ s (pk g f) N := by
  funext j
  by_cases a : j < 5
  · rw [pk_lo a]
    exact v_pours_cg (R := N) hK (fun _ _ _ _ => rfl) (fun i hi => (pk_lo hi).symm) (Nat.le_refl N) j a
  · rw [v_pours_hi (by omega)]
    simp only [pk, a, if_false]
theorem ck_pours {K N : Nat} {s : Int32} {μ f : Nat → Int32} (hK : K ≤ 5) : ck (v_pours K μ s f N) = v_pours K μ s (ck f) N := by
  funext j
  by_cases a : j < 10
  · rw [ck_lo a]
    exact v_pours_cg (R := N) (by omega) (fun _ _ _ _ => rfl) (fun i hi => (ck_lo hi).symm) (Nat.le_refl N) j a
  · rw [v_pours_hi (by omega)]
    simp only [ck, a, if_false]
theorem c_told {K N : Nat} {s : Int32} {μ g f : Nat → Int32} (hK : K ≤ 5) : pk (v_pours K μ s g N) (upd f 1 (f 1 ||| s)) = v_told K μ s N (pk g f) := by
  have e5 : pk g f 5 = f 1 := pk_hi (i := 1) (by decide) (by decide)
  rw [pk_f (by decide) (by decide), pk_pours hK, v_told, e5]
theorem e_told {K N t : Nat} {μ f : Nat → Int32} (hK : K ≤ 5) (hN : N ≤ 7) (ht : t < 2 ^ N) : ck (v_tells K μ (nI t) f N) = v_told K μ (nI t) N (ck f) := by
  have e5 : ck f 5 = f 5 := ck_lo (by decide)
  rw [v_tells_eq hK, ck_f (by decide), ck_pours hK, v_told, e5, v_ors_or, ors_all N (by omega) t ht]
theorem v_told_cg {K N : Nat} {s : Int32} {μ μ' u : Nat → Int32} (hμ : ∀ p j, p < N → j < K → μ' (5 * p + j) = μ (5 * p + j)) : v_told K μ' s N u = v_told K μ s N u := by
  have e : v_pours K μ' s u N = v_pours K μ s u N := by
    funext j
    exact v_pours_cg (R := N) (n := K + j + 1) (by omega) hμ (fun _ _ => rfl) (Nat.le_refl N) j (by omega)
  rw [v_told, v_told, e]
