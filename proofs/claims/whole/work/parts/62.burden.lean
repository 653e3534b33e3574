/-! telling keeps the numbers: the sum grows by the burdens at most -/
theorem n_sum_add {n m : Nat → Nat} : ∀ {K : Nat}, n_sum (fun j => n j + m j) K = n_sum n K + n_sum m K
  | 0 => rfl
  | K + 1 => by
    show n_sum (fun j => n j + m j) K + (n K + m K) = n_sum n K + n K + (n_sum m K + m K)
    rw [n_sum_add]
    omega
theorem nv_pour {K p B : Nat} {μ u : Nat → Int32} {m : Nat → Nat} (hm : rep K (fun j => μ (5 * p + j)) m) (hm9 : ∀ j, j < K → m j ≤ 999) (h : nv K B u) : nv K (B + n_sum m K) (v_pour K μ p u) := by
  obtain ⟨n, hn, hb, hs⟩ := h
  refine ⟨fun j => min 999 (n j + m j), fun j hj => ?_, fun j hj => Nat.min_le_left _ _, ?_⟩
  · have h1 := hb j hj
    have h2 := hm9 j hj
    have h3 : μ (5 * p + j) = nI (m j) := hm j hj
    rw [v_pour, v_mix, if_pos hj, hn j hj, h3, nI_add]
    exact lesser_nI (a := 999) (by decide) (by omega)
  · have h1 := n_sum_le (n := fun j => min 999 (n j + m j)) (m := fun j => n j + m j) (K := K) (fun j _ => Nat.min_le_right _ _)
    rw [n_sum_add] at h1
    omega
/-- the burdens of a set -/
def n_burs (mm : Nat → Nat) (K : Nat) (s : Int32) : Nat → Nat
  | 0 => 0
  | p + 1 => if v_bit s p = 1 then n_burs mm K s p + n_sum (fun j => mm (5 * p + j)) K else n_burs mm K s p
theorem nv_pours {K B R : Nat} {s : Int32} {μ u : Nat → Int32} {mm : Nat → Nat} (hm : ∀ p, p < R → rep K (fun j => μ (5 * p + j)) (fun j => mm (5 * p + j))) (hm9 : ∀ p j, p < R → j < K → mm (5 * p + j) ≤ 999) (h : nv K B u) : ∀ {N : Nat}, N ≤ R → nv K (B + n_burs mm K s N) (v_pours K μ s u N)
  | 0, _ => h
  | N + 1, hN => by
    have ih := nv_pours (s := s) hm hm9 h (show N ≤ R by omega)
    rw [v_pours, n_burs]
    by_cases b : v_bit s N = 1
    · rw [if_pos b, if_pos b, ← Nat.add_assoc]
      exact nv_pour (hm N (by omega)) (fun j hj => hm9 N j (by omega) hj) ih
    · rw [if_neg b, if_neg b]
      exact ih
theorem nv_told {K B N : Nat} {s : Int32} {μ u : Nat → Int32} {mm : Nat → Nat} (hK : K ≤ 5) (hm : ∀ p, p < N → rep K (fun j => μ (5 * p + j)) (fun j => mm (5 * p + j))) (hm9 : ∀ p j, p < N → j < K → mm (5 * p + j) ≤ 999) (h : nv K B u) : nv K (B + n_burs mm K s N) (v_told K μ s N u) := nv_hi hK (nv_pours hm hm9 h (Nat.le_refl N))
theorem v_zero_told {K N : Nat} {s : Int32} {μ u : Nat → Int32} (h : v_zero K u) : v_zero K (v_told K μ s N u) := by
  intro j h1 h2
  rw [v_told, upd_n (by omega), v_pours_hi h1]
  exact h j h1 h2
theorem v_sum_5 {K : Nat} {u : Nat → Int32} (hK : K ≤ 5) (h : v_zero K u) : v_sum u 5 = v_sum u K := by
  have key : ∀ d, K + d ≤ 5 → v_sum u (K + d) = v_sum u K := by
    intro d
    induction d with
    | zero => intro _; rfl
    | succ d ih =>
      intro hd
      show v_sum u (K + d) + u (K + d) = _
      rw [ih (by omega), h (K + d) (by omega) (by omega), Int32.add_zero]
  have := key (5 - K) (by omega)
  rw [show K + (5 - K) = 5 by omega] at this
  exact this
