/-! what the formula is measured by -/
def q_some (v : Nat → Int32) : Nat → Int32
  | 0 => 0
  | n + 1 => q_some v n + (if v n ≤ 0 then 0 else 1)
def q_most (v : Nat → Int32) : Nat → Int32
  | 0 => 0
  | n + 1 => fX10_greater (q_most v n) (v n)
def q_least (b : Int32) (v : Nat → Int32) : Nat → Int32
  | 0 => b
  | n + 1 => fX10_lesser (q_least b v n) (v n)
def q_ask (K : Nat) (v : Nat → Int32) (told day : Int32) : Nat → Int32 := fun j =>
  if j = 0 then v_sum v K else if j = 1 then q_some v K else if j = 2 then q_most v K else if j = 3 then q_least (if K = 0 then 0 else 999) v K else if j = 4 then told else day
theorem upd6 (f : Nat → Int32) (a b c d e g : Int32) : upd (upd (upd (upd (upd (upd f 0 a) 1 b) 2 c) 3 d) 4 e) 5 g = v_mix 6 (fun j => if j = 0 then a else if j = 1 then b else if j = 2 then c else if j = 3 then d else if j = 4 then e else g) f := by
  funext j
  simp only [upd, v_mix]
  by_cases h6 : j < 6
  · rcases (show j = 0 ∨ j = 1 ∨ j = 2 ∨ j = 3 ∨ j = 4 ∨ j = 5 by omega) with rfl | rfl | rfl | rfl | rfl | rfl <;> simp
  · have h0 : j ≠ 0 := by omega
    have h1 : j ≠ 1 := by omega
    have h2 : j ≠ 2 := by omega
    have h3 : j ≠ 3 := by omega
    have h4 : j ≠ 4 := by omega
    have h5 : j ≠ 5 := by omega
    simp [h6, h0, h1, h2, h3, h4, h5]
theorem c_measure {σ : sw_M} {F V K : Nat} (hF : sw_isF F) (hV : sw_isV V) (hK : K ≤ 5) : fX2_measure F V σ (nI K) = some (sw_wA σ (F + 3) (v_mix 6 (q_ask K (σ.1 (V + 1)) (fJ6_bitCount_0f7a4 (σ.1 V 1)) (σ.1 V 4)) (σ.1 (F + 3)))) := by
  have hne1 : V ≠ F + 3 := by rcases hF with rfl | rfl <;> rcases hV with rfl | rfl <;> decide
  have key : ∀ b0 : Int32, b0 = (if K = 0 then 0 else 999) → fX2_measure_L19 F V σ (nI K) 0 0 0 b0 = some (sw_wA σ (F + 3) (v_mix 6 (q_ask K (σ.1 (V + 1)) (fJ6_bitCount_0f7a4 (σ.1 V 1)) (σ.1 V 4)) (σ.1 (F + 3)))) := by
    intro b0 hb0
    unfold fX2_measure_L19
    refine wh_run (b := fun s : Int32 × Int32 × Int32 × Int32 × Int32 => fX2_measure_L24 F V σ (nI K) s.1 s.2.1 s.2.2.1 s.2.2.2.1 s.2.2.2.2) (fun k => (v_sum (σ.1 (V + 1)) k, q_some (σ.1 (V + 1)) k, q_most (σ.1 (V + 1)) k, q_least b0 (σ.1 (V + 1)) k, nI k)) K (fun k hk => ?_) ?_ (n := sw_F) (F_big (by omega))
    · simp only [fX2_measure_L24, if_neg (le_f hk (show K < 2 ^ 31 by omega)), in_t (show k < 5 by omega) (by decide), sw_gd_t, sw_let, nI_clamp (show k < 2 ^ 31 by omega), fX2_measure_L52, max_greater, min_lesser, nI_1]
      by_cases h0 : σ.1 (V + 1) k ≤ 0
      · simp only [if_pos h0, v_sum, q_some, q_most, q_least, Int32.add_zero]
      · simp only [if_neg h0, v_sum, q_some, q_most, q_least]
    · simp only [fX2_measure_L24, if_pos (le_t K (show K < 2 ^ 31 by omega)), sw_let, m_w, m_mm, m_eq, m_ne hne1, upd6]
      rw [hb0]
      rfl
  unfold fX2_measure
  by_cases h0 : K = 0
  · subst h0
    rw [if_pos (show nI 0 = 0 from rfl)]
    exact key 0 (by simp)
  · rw [if_neg (show ¬ nI K = 0 from nI_ne0 (by omega) (by omega))]
    exact key 999 (by simp [h0])
/-! the formula as steps: a number is itself, -1 - j asks j, -33 is not, -c joins by the sign c -/
def q_join (c x y : Int32) : Int32 :=
  if c = 37 then (if y = 0 then 0 else x - x / y * y) else if c = 38 then (if x = 0 then 0 else if y = 0 then 0 else 1) else if c = 42 then x * y else if c = 43 then x + y else if c = 45 then x - y else if c = 47 then (if y = 0 then 0 else x / y) else if c = 60 then (if y ≤ x then 0 else 1) else if c = 61 then (if x = y then 1 else 0) else if c = 62 then (if x ≤ y then 0 else 1) else (if x = 0 then (if y = 0 then 0 else 1) else 1)
theorem gd_nz {α : Type} {y : Int32} {o : Option α} (h : ¬ y = 0) : sw_gd (sw_nz y) o = o := sw_gd_t (decide_eq_true h)
theorem c_joined (c x y : Int32) : fX2_joined c x y = some (q_join c x y) := by
  simp only [fX2_joined, fX2_joined_L203, q_join]
  by_cases hy : y = 0
  · simp only [if_pos hy]
    (repeat' split) <;> rfl
  · simp only [if_neg hy, gd_nz hy]
    (repeat' split) <;> rfl
theorem e_done (c x y : Int32) : fX10_done c x y = some (q_join c x y) := by
  have t0 : fX10_truth 0 = 0 := rfl
  have t1 : fX10_truth 1 = 1 := rfl
  simp only [fX10_done, fX10_done_L210, fX10_done_L211, fX10_done_L166, fX10_done_L194, fX10_done_L180, fX10_done_L215, fX10_done_L223, fX10_done_L228, t0, t1, q_join]
  by_cases hy : y = 0
  · simp only [if_pos hy]
    (repeat' split) <;> rfl
  · simp only [if_neg hy, gd_nz hy]
    (repeat' split) <;> rfl
