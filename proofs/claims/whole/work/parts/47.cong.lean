/-! what the vectors depend on -/
theorem upd_n {v : Nat → Int32} {i j : Nat} {x : Int32} (h : ¬ j = i) : upd v i x j = v j := by simp only [upd, h, if_false]
theorem v_mk_cg {ρ ρ' v v' : Nat → Int32} {r n K R : Nat} {lim : Int32} (hρ : ok_ρ ρ K R) (hr : r < R) (hK5 : K ≤ 5) (hK : K ≤ n) (hq : ∀ c, c < 4 → ρ' (4 * r + c) = ρ (4 * r + c)) (h : ∀ j, j < n → v' j = v j) : v_mk ρ' v' r lim = v_mk ρ v r lim := by
  have a := (ok_ix hρ hK5 hr (c := 0) (by decide)).1
  have b := (ok_ix hρ hK5 hr (c := 1) (by decide)).1
  have q0 := hq 0 (by decide)
  have q1 := hq 1 (by decide)
  simp only [Nat.add_zero] at a q0
  unfold v_mk
  rw [q0, q1, h _ (Nat.lt_of_lt_of_le a hK), h _ (Nat.lt_of_lt_of_le b hK)]
theorem v_turn_cg {ρ ρ' v v' : Nat → Int32} {r n K R : Nat} {lim : Int32} (hρ : ok_ρ ρ K R) (hr : r < R) (hK5 : K ≤ 5) (hK : K ≤ n) (hq : ∀ c, c < 4 → ρ' (4 * r + c) = ρ (4 * r + c)) (h : ∀ j, j < n → v' j = v j) {j : Nat} (hj : j < n) : v_turn ρ' r lim v' j = v_turn ρ r lim v j := by
  have a := (ok_ix hρ hK5 hr (c := 0) (by decide)).1
  have b := (ok_ix hρ hK5 hr (c := 1) (by decide)).1
  have c := (ok_ix hρ hK5 hr (c := 2) (by decide)).1
  have q0 := hq 0 (by decide)
  have q1 := hq 1 (by decide)
  have q2 := hq 2 (by decide)
  simp only [Nat.add_zero] at a q0
  have ha := h _ (Nat.lt_of_lt_of_le a hK)
  have hb := h _ (Nat.lt_of_lt_of_le b hK)
  have hc := h _ (Nat.lt_of_lt_of_le c hK)
  unfold v_turn
  rw [v_mk_cg hρ hr hK5 hK hq h, q0, q1, q2]
  simp only [upd, ha, hb, hc, h j hj]
theorem v_turn_hi {ρ v : Nat → Int32} {r K R : Nat} {lim : Int32} (hρ : ok_ρ ρ K R) (hr : r < R) (hK5 : K ≤ 5) {j : Nat} (hj : K ≤ j) : v_turn ρ r lim v j = v j := by
  have a := (ok_ix hρ hK5 hr (c := 0) (by decide)).1
  have b := (ok_ix hρ hK5 hr (c := 1) (by decide)).1
  have c := (ok_ix hρ hK5 hr (c := 2) (by decide)).1
  simp only [Nat.add_zero] at a
  unfold v_turn
  rw [upd_n (by omega), upd_n (by omega), upd_n (by omega)]
theorem v_boil_cg {ρ ρ' v v' : Nat → Int32} {n K R : Nat} (hρ : ok_ρ ρ K R) (hK5 : K ≤ 5) (hK : K ≤ n) (hq : ∀ r c, r < R → c < 4 → ρ' (4 * r + c) = ρ (4 * r + c)) (h : ∀ j, j < n → v' j = v j) : ∀ {m : Nat}, m ≤ R → ∀ j, j < n → v_boil ρ' m v' j = v_boil ρ m v j
  | 0, _, j, hj => h j hj
  | m + 1, hm, j, hj => by
    have hr : m < R := by omega
    show v_turn ρ' m (ρ' (4 * m + 3)) (v_boil ρ' m v') j = v_turn ρ m (ρ (4 * m + 3)) (v_boil ρ m v) j
    rw [hq m 3 hr (by decide)]
    exact v_turn_cg hρ hr hK5 hK (fun c hc => hq m c hr hc) (v_boil_cg hρ hK5 hK hq h (by omega)) hj
theorem v_boil_hi {ρ v : Nat → Int32} {K R : Nat} (hρ : ok_ρ ρ K R) (hK5 : K ≤ 5) {j : Nat} (hj : K ≤ j) : ∀ {m : Nat}, m ≤ R → v_boil ρ m v j = v j
  | 0, _ => rfl
  | m + 1, hm => by
    show v_turn ρ m (ρ (4 * m + 3)) (v_boil ρ m v) j = v j
    rw [v_turn_hi hρ (show m < R by omega) hK5 hj]
    exact v_boil_hi hρ hK5 hj (by omega)
theorem v_turned_cg {ρ ρ' v v' : Nat → Int32} {n K R : Nat} (hρ : ok_ρ ρ K R) (hK5 : K ≤ 5) (hK : K ≤ n) (hq : ∀ r c, r < R → c < 4 → ρ' (4 * r + c) = ρ (4 * r + c)) (h : ∀ j, j < n → v' j = v j) : ∀ {m : Nat}, m ≤ R → v_turned ρ' m v' = v_turned ρ m v
  | 0, _ => rfl
  | m + 1, hm => by
    have hr : m < R := by omega
    show v_turned ρ' m v' + v_mk ρ' (v_boil ρ' m v') m (ρ' (4 * m + 3)) = v_turned ρ m v + v_mk ρ (v_boil ρ m v) m (ρ (4 * m + 3))
    rw [v_turned_cg hρ hK5 hK hq h (show m ≤ R by omega), hq m 3 hr (by decide), v_mk_cg hρ hr hK5 hK (fun c hc => hq m c hr hc) (v_boil_cg hρ hK5 hK hq h (by omega))]
theorem v_sum_cg {v v' : Nat → Int32} : ∀ {K : Nat}, (∀ j, j < K → v' j = v j) → v_sum v' K = v_sum v K
  | 0, _ => rfl
  | K + 1, h => by
    show v_sum v' K + v' K = v_sum v K + v K
    rw [v_sum_cg (fun j hj => h j (by omega)), h K (by omega)]
theorem q_some_cg {v v' : Nat → Int32} : ∀ {K : Nat}, (∀ j, j < K → v' j = v j) → q_some v' K = q_some v K
  | 0, _ => rfl
  | K + 1, h => by
    rw [q_some_s, q_some_s, q_some_cg (fun j hj => h j (by omega)), h K (by omega)]
theorem q_most_cg {v v' : Nat → Int32} : ∀ {K : Nat}, (∀ j, j < K → v' j = v j) → q_most v' K = q_most v K
  | 0, _ => rfl
  | K + 1, h => by
    show fX10_greater (q_most v' K) (v' K) = fX10_greater (q_most v K) (v K)
    rw [q_most_cg (fun j hj => h j (by omega)), h K (by omega)]
theorem q_least_cg {b : Int32} {v v' : Nat → Int32} : ∀ {K : Nat}, (∀ j, j < K → v' j = v j) → q_least b v' K = q_least b v K
  | 0, _ => rfl
  | K + 1, h => by
    show fX10_lesser (q_least b v' K) (v' K) = fX10_lesser (q_least b v K) (v K)
    rw [q_least_cg (fun j hj => h j (by omega)), h K (by omega)]
theorem q_ask_cg {v v' : Nat → Int32} {K : Nat} {t d : Int32} (h : ∀ j, j < K → v' j = v j) : q_ask K v' t d = q_ask K v t d := by
  unfold q_ask
  rw [v_sum_cg h, q_some_cg h, q_most_cg h, q_least_cg h]
theorem q_run_cg {asks p p' : Nat → Int32} : ∀ {z : Nat}, (∀ j, j < z → p' j = p j) → q_run asks p' z = q_run asks p z
  | 0, _ => rfl
  | z + 1, h => by
    unfold q_run
    rw [q_run_cg (fun j hj => h j (by omega)), h z (by omega)]
theorem q_up_cg {v v' p p' : Nat → Int32} {K z : Nat} {t d : Int32} (h : ∀ j, j < K → v' j = v j) (hp : ∀ j, j < z → p' j = p j) : q_up K z p' v' t d = q_up K z p v t d := by
  unfold q_up q_w
  rw [v_sum_cg h, q_ask_cg h, q_run_cg hp]
set_option maxRecDepth 100000 in
theorem bits7 : ∀ t, t < 128 → fJ6_bitCount_0f7a4 (nI t) = v_sum (fun k => (nI t >>> (nI k &&& 31)) &&& 1) 7 := by decide
