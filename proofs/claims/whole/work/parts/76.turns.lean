/-! what a turn does in numbers -/
theorem v_mk_n9 {ρ u : Nat → Int32} {n : Nat → Nat} {K R r l : Nat} (hρ : ok_ρ ρ K R) (hr : r < R) (hK : K ≤ 5) (hl : l ≤ 99) (h : rep K u n) (hn : ∀ j, j < K → n j ≤ 999) : v_mk ρ u r (nI l) = nI (n_mk n (ix (ρ (4 * r))) (ix (ρ (4 * r + 1))) l) := by
  obtain ⟨a1, a2⟩ := ok_ix hρ hK hr (c := 0) (by decide)
  obtain ⟨b1, b2⟩ := ok_ix hρ hK hr (c := 1) (by decide)
  simp only [Nat.add_zero] at a1 a2
  have na := hn _ a1
  have nb := hn _ b1
  unfold v_mk n_mk
  rw [h _ a1, h _ b1]
  by_cases e : ρ (4 * r) = ρ (4 * r + 1)
  · rw [if_pos e, if_pos (by rw [e]), nI_half _ (by omega), lesser_nI (by omega) (by omega)]
  · have e2 : ¬ ix (ρ (4 * r)) = ix (ρ (4 * r + 1)) := fun h => e (by rw [a2, b2, h])
    rw [if_neg e, if_neg e2, lesser_nI (by omega) (by omega), lesser_nI (by omega) (by omega)]
theorem upd_idx {v : Nat → Int32} {i : Nat} {x : Int32} (h : x = v i) : upd v i x = v := by rw [h, upd_id]
theorem n_turn {ρ u : Nat → Int32} {n : Nat → Nat} {K R r l : Nat} (hρ : ok_ρ ρ K R) (hr : r < R) (hK : K ≤ 5) (hl : l ≤ 99) (hn : rep K u n) (hb : ∀ j, j < K → n j ≤ 999) :
    ∃ n' k, rep K (v_turn ρ r (nI l) u) n' ∧ (∀ j, j < K → n' j ≤ 999) ∧ v_mk ρ u r (nI l) = nI k ∧ k ≤ l ∧ n_sum n' K + k ≤ n_sum n K ∧ (k = 0 → v_turn ρ r (nI l) u = u) := by
  have a1 := (ok_ix hρ hK hr (c := 0) (by decide)).1
  have b1 := (ok_ix hρ hK hr (c := 1) (by decide)).1
  have c1 := (ok_ix hρ hK hr (c := 2) (by decide)).1
  simp only [Nat.add_zero] at a1
  have ek := v_mk_n9 hρ hr hK hl hn hb
  unfold v_turn
  rw [ek]
  generalize ix (ρ (4 * r)) = i at *
  generalize ix (ρ (4 * r + 1)) = j at *
  generalize ix (ρ (4 * r + 2)) = m at *
  obtain ⟨k, hk⟩ : ∃ k, k = n_mk n i j l := ⟨_, rfl⟩
  rw [← hk]
  have hkl : k ≤ l := by
    rw [hk, n_mk]
    exact Nat.min_le_left _ _
  have hki : k ≤ n i := by
    rw [hk, n_mk]
    split <;> omega
  have h1 : rep K (upd u i (u i - nI k)) (nu n i (n i - k)) := rep_u hn (by rw [hn i a1, nI_sub hki])
  have hkj : k ≤ nu n i (n i - k) j := by
    by_cases e : j = i
    · rw [e, nu_e]
      have : k ≤ n i / 2 := by
        rw [hk, n_mk, if_pos e.symm]
        omega
      omega
    · rw [nu_n e, hk, n_mk, if_neg (fun h => e h.symm)]
      omega
  have h0 : k = 0 → upd (upd (upd u i (u i - nI k)) j (upd u i (u i - nI k) j - nI k)) m (fX10_lesser 999 (upd (upd u i (u i - nI k)) j (upd u i (u i - nI k) j - nI k) m + nI k)) = u := by
    intro e
    have z : ∀ x : Int32, x - nI 0 = x := fun x => by rw [nI_0, Int32.sub_zero]
    have e1 : upd u i (u i - nI 0) = u := upd_idx (z _)
    have e2 : upd u j (u j - nI 0) = u := upd_idx (z _)
    rw [e, e1, e2]
    refine upd_idx ?_
    have hm := hb m c1
    rw [nI_0, Int32.add_zero, hn m c1]
    have := lesser_nI (a := 999) (b := n m) (by decide) (by omega)
    rw [Nat.min_eq_right hm] at this
    exact this
  obtain ⟨n1, e1⟩ : ∃ n1, n1 = nu n i (n i - k) := ⟨_, rfl⟩
  obtain ⟨u1, f1⟩ : ∃ u1, u1 = upd u i (u i - nI k) := ⟨_, rfl⟩
  rw [← e1] at h1 hkj
  rw [← f1] at h1 h0
  show ∃ n' k', rep K (upd (upd (upd u i (u i - nI k)) j (upd u i (u i - nI k) j - nI k)) m (fX10_lesser 999 (upd (upd u i (u i - nI k)) j (upd u i (u i - nI k) j - nI k) m + nI k))) n' ∧ (∀ j, j < K → n' j ≤ 999) ∧ nI k = nI k' ∧ k' ≤ l ∧ n_sum n' K + k' ≤ n_sum n K ∧ (k' = 0 → upd (upd (upd u i (u i - nI k)) j (upd u i (u i - nI k) j - nI k)) m (fX10_lesser 999 (upd (upd u i (u i - nI k)) j (upd u i (u i - nI k) j - nI k) m + nI k)) = u)
  rw [← f1]
  have s1 := n_sum_u (n := n) (x := n i - k) a1
  rw [← e1] at s1
  have b1' : ∀ x, x < K → n1 x ≤ 999 := by
    intro x hx
    have := hb x hx
    rw [e1]
    by_cases e : x = i
    · rw [e, nu_e]
      have := hb i a1
      omega
    · rw [nu_n e]
      exact this
  have h2 : rep K (upd u1 j (u1 j - nI k)) (nu n1 j (n1 j - k)) := rep_u h1 (by rw [h1 j b1, nI_sub hkj])
  have s2 := n_sum_u (n := n1) (x := n1 j - k) b1
  have b2' : ∀ x, x < K → nu n1 j (n1 j - k) x ≤ 999 := by
    intro x hx
    by_cases e : x = j
    · rw [e, nu_e]
      have := b1' j b1
      omega
    · rw [nu_n e]
      exact b1' x hx
  generalize nu n1 j (n1 j - k) = n2 at *
  generalize upd u1 j (u1 j - nI k) = u2 at *
  have hk9 : k ≤ 999 := Nat.le_trans hki (hb i a1)
  have hm := b2' m c1
  have s3 := n_sum_u (n := n2) (x := min 999 (n2 m + k)) c1
  refine ⟨nu n2 m (min 999 (n2 m + k)), k, rep_u h2 ?_, ?_, rfl, hkl, ?_, h0⟩
  · rw [h2 m c1, nI_add]
    exact lesser_nI (a := 999) (by decide) (by omega)
  · intro x hx
    by_cases e : x = m
    · rw [e, nu_e]
      omega
    · rw [nu_n e]
      exact b2' x hx
  · omega
theorem n_boil {ρ u : Nat → Int32} {n : Nat → Nat} {K R : Nat} (hρ : ok_ρ ρ K R) (hl : ok_lim ρ R) (hK : K ≤ 5) (hn : rep K u n) (hb : ∀ j, j < K → n j ≤ 999) : ∀ m, m ≤ R → ∃ n' T, rep K (v_boil ρ m u) n' ∧ (∀ j, j < K → n' j ≤ 999) ∧ v_turned ρ m u = nI T ∧ T ≤ 9 * m ∧ n_sum n' K + T ≤ n_sum n K ∧ (T = 0 → v_boil ρ m u = u)
  | 0, _ => ⟨n, 0, hn, hb, nI_0.symm, Nat.le_refl _, Nat.le_refl _, fun _ => rfl⟩
  | m + 1, hm => by
    obtain ⟨n1, T, h1, h2, h3, h4, h5, h6⟩ := n_boil hρ hl hK hn hb m (by omega)
    obtain ⟨l, l9, el⟩ := hl m (by omega)
    obtain ⟨n2, k, g1, g2, g3, g4, g5, g6⟩ := n_turn (l := l) hρ (show m < R by omega) hK (by omega) h1 h2
    refine ⟨n2, T + k, ?_, g2, ?_, by omega, by omega, fun e => ?_⟩
    · show rep K (v_turn ρ m (ρ (4 * m + 3)) (v_boil ρ m u)) n2
      rw [el]
      exact g1
    · show v_turned ρ m u + v_mk ρ (v_boil ρ m u) m (ρ (4 * m + 3)) = nI (T + k)
      rw [el, h3, g3, nI_add]
    · show v_turn ρ m (ρ (4 * m + 3)) (v_boil ρ m u) = u
      rw [el, g6 (by omega), h6 (by omega)]
/-- at rest or not: nothing turned, nothing changed -/
theorem rest_iff {ρ u : Nat → Int32} {K R B : Nat} (hρ : ok_ρ ρ K R) (hl : ok_lim ρ R) (hK : K ≤ 5) (hR : R ≤ 6) (h : nv K B u) : (v_turned ρ R u ≤ 0 → v_boil ρ R u = u) ∧ ((∀ j, j < K → v_boil ρ R u j = u j) → v_turned ρ R u ≤ 0) := by
  obtain ⟨n, h1, h2, h3⟩ := h
  obtain ⟨n', T, g1, g2, g3, g4, g5, g6⟩ := n_boil hρ hl hK h1 h2 R (Nat.le_refl R)
  refine ⟨fun e => g6 ?_, fun e => ?_⟩
  · by_cases hT : T = 0
    · exact hT
    · rw [g3] at e
      exact absurd e (nI_nle (by omega) (by omega))
  · have hs : n_sum n' K = n_sum n K := by
      have e2 : ∀ j, j < K → n' j = n j := fun j hj => by
        have := e j hj
        have x1 := g2 j hj
        have x2 := h2 j hj
        rw [g1 j hj, h1 j hj] at this
        exact (nI_eq (by omega) (by omega)).mp this
      have l1 := n_sum_le (n := n') (m := n) (K := K) (fun j hj => Nat.le_of_eq (e2 j hj))
      have l2 := n_sum_le (n := n) (m := n') (K := K) (fun j hj => Nat.le_of_eq (e2 j hj).symm)
      omega
    have : T = 0 := by omega
    rw [g3, this, nI_0]
    decide
theorem v_boil_u {ρ u : Nat → Int32} {K R i : Nat} {x : Int32} (hρ : ok_ρ ρ K R) (hK : K ≤ 5) (hi : K ≤ i) : v_boil ρ R (upd u i x) = upd (v_boil ρ R u) i x := by
  funext j
  by_cases e : j = i
  · rw [e, upd_e, v_boil_hi hρ hK hi (Nat.le_refl R), upd_e]
  · rw [upd_n e]
    by_cases h : j < K
    · exact v_boil_cg (n := K) hρ hK (Nat.le_refl K) (fun _ _ _ _ => rfl) (fun k hk => upd_n (by omega)) (Nat.le_refl R) j h
    · rw [v_boil_hi hρ hK (by omega) (Nat.le_refl R), v_boil_hi hρ hK (by omega) (Nat.le_refl R), upd_n e]
/-! behind how many boilings it is risen -/
def v_ris (K R z : Nat) (ρ prog : Nat → Int32) : Nat → Nat → (Nat → Int32) → Int32
  | 0, _, _ => -1
  | m + 1, i, u => if v_isOut K R z 0 ρ prog 0 u = 0 then v_ris K R z ρ prog m (i + 1) (v_earn K R z 0 ρ prog 0 u) else nI i
theorem earn_sc {K R z : Nat} {ρ prog u : Nat → Int32} (scum : Int32) : v_earn K R z scum ρ prog 0 u = v_earn K R z 0 ρ prog 0 u := rfl
theorem isOut_sc {K R z : Nat} {ρ prog u : Nat → Int32} (scum : Int32) : v_isOut K R z scum ρ prog 0 u = v_isOut K R z 0 ρ prog 0 u := rfl
section NV
variable {K R z B : Nat} {ρ prog u : Nat → Int32}
theorem earn_no (h : v_isOut K R z 0 ρ prog 0 u = 0) : v_earn K R z 0 ρ prog 0 u = v_day (v_boil ρ R u) := by
  have h' : v_up K z prog (v_day (v_pre K R 0 ρ 0 u)) = 0 := h
  unfold v_earn v_out
  rw [if_pos h']
  rfl
theorem isOut_boil : v_isOut K R z 0 ρ prog 0 u = v_up K z prog (v_day (v_boil ρ R u)) := rfl
/-- a formula without the day -/
theorem ix_not6 {c : Int32} (h1 : ¬ c < -6) (h2 : c < 0) (h3 : c ≠ -6) : ix ((-1) - c) < 5 := by
  obtain ⟨j, hj, e⟩ := c_small h1 h2
  rw [e, ix, nI_clamp (by omega)]
  by_cases e5 : j = 5
  rotate_left
  · omega
  rw [e5] at e
  exfalso
  apply h3
  have e1 : (-1) - c + c = nI 5 + c := by rw [e]
  rw [Int32.sub_add_cancel] at e1
  have e2 : (-1 : Int32) - nI 5 = c := by rw [e1, Int32.add_comm, Int32.add_sub_cancel]
  rw [← e2]
  decide
theorem q_run_day {asks asks' : Nat → Int32} (h : ∀ j, j < 5 → asks' j = asks j) : ∀ {n : Nat}, (∀ k, k < n → prog k ≠ -6) → q_run asks' prog n = q_run asks prog n := by
  intro n
  induction n with
  | zero => exact fun _ => rfl
  | succ n ih =>
    intro hd
    unfold q_run
    rw [ih (fun k hk => hd k (by omega))]
    cases hq : q_run asks prog n with
    | none => rfl
    | some s =>
      show q_step asks' (prog n) s = q_step asks (prog n) s
      unfold q_step
      by_cases h1 : prog n = -33
      · rw [if_pos h1, if_pos h1]
      · rw [if_neg h1, if_neg h1]
        by_cases h2 : prog n < -6
        · rw [if_pos h2, if_pos h2]
        · rw [if_neg h2, if_neg h2]
          by_cases h3 : prog n < 0
          · rw [if_pos h3, if_pos h3, h _ (ix_not6 h2 h3 (hd n (by omega)))]
          · rw [if_neg h3, if_neg h3]
theorem up_day (hd : ∀ k, k < z → prog k ≠ -6) (hK : K ≤ 5) : v_up K z prog (v_day u) = v_up K z prog u := by
  have e5 : v_day u 5 = u 5 := by rw [v_day, upd_n (by decide)]
  have ej : ∀ j, j < K → v_day u j = u j := fun j hj => by rw [v_day, upd_n (by omega)]
  have ea : ∀ j, j < 5 → q_ask K (v_day u) (v_bits (v_day u 5)) (v_day u 8) j = q_ask K u (v_bits (u 5)) (u 8) j := by
    intro j hj
    rw [q_ask_cg ej, e5]
    unfold q_ask
    by_cases h0 : j = 0
    · rw [if_pos h0, if_pos h0]
    rw [if_neg h0, if_neg h0]
    by_cases h1 : j = 1
    · rw [if_pos h1, if_pos h1]
    rw [if_neg h1, if_neg h1]
    by_cases h2 : j = 2
    · rw [if_pos h2, if_pos h2]
    rw [if_neg h2, if_neg h2]
    by_cases h3 : j = 3
    · rw [if_pos h3, if_pos h3]
    rw [if_neg h3, if_neg h3]
    by_cases h4 : j = 4
    · rw [if_pos h4, if_pos h4]
    omega
  unfold v_up q_up q_w
  rw [v_sum_cg ej, q_run_day ea hd]
theorem ris_rest (hρ : ok_ρ ρ K R) (hK : K ≤ 5) (hd : ∀ k, k < z → prog k ≠ -6) (m : Nat) : ∀ (i : Nat) (u : Nat → Int32), v_boil ρ R u = u → v_isOut K R z 0 ρ prog 0 u = 0 → v_ris K R z ρ prog m i u = -1 := by
  induction m with
  | zero =>
    intro i u hb h0
    rw [v_ris]
  | succ m ih =>
    intro i u hb h0
    have e1 : v_boil ρ R (v_day u) = v_day u := by
      unfold v_day
      rw [v_boil_u hρ hK (by omega), hb]
    rw [v_ris, if_pos h0, earn_no h0, hb]
    refine ih (i + 1) (v_day u) e1 ?_
    rw [isOut_boil, e1, up_day hd hK]
    rw [isOut_boil, hb] at h0
    exact h0
end NV
