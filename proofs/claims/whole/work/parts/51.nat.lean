/-! the vat in natural numbers -/
def n_sum (n : Nat → Nat) : Nat → Nat
  | 0 => 0
  | k + 1 => n_sum n k + n k
def nu (n : Nat → Nat) (i x : Nat) : Nat → Nat := fun j => if j = i then x else n j
def rep (K : Nat) (u : Nat → Int32) (n : Nat → Nat) : Prop := ∀ j, j < K → u j = nI (n j)
/-- the vat's kinds are numbers up to 999, all together at most B -/
def nv (K B : Nat) (u : Nat → Int32) : Prop := ∃ n : Nat → Nat, rep K u n ∧ (∀ j, j < K → n j ≤ 999) ∧ n_sum n K ≤ B
theorem nu_e {n : Nat → Nat} {i x : Nat} : nu n i x i = x := by simp [nu]
theorem nu_n {n : Nat → Nat} {i j x : Nat} (h : ¬ j = i) : nu n i x j = n j := by simp [nu, h]
theorem rep_u {K i m : Nat} {u : Nat → Int32} {n : Nat → Nat} {x : Int32} (h : rep K u n) (hx : x = nI m) : rep K (upd u i x) (nu n i m) := by
  intro j hj
  simp only [upd, nu]
  by_cases e : j = i
  · rw [if_pos e, if_pos e, hx]
  · rw [if_neg e, if_neg e, h j hj]
theorem n_sum_hi {n : Nat → Nat} {i x : Nat} : ∀ {K : Nat}, K ≤ i → n_sum (nu n i x) K = n_sum n K
  | 0, _ => rfl
  | K + 1, h => by
    show n_sum (nu n i x) K + nu n i x K = n_sum n K + n K
    rw [n_sum_hi (by omega), nu_n (by omega)]
theorem n_sum_u {n : Nat → Nat} {i x : Nat} : ∀ {K : Nat}, i < K → n_sum (nu n i x) K + n i = n_sum n K + x
  | K + 1, h => by
    show n_sum (nu n i x) K + nu n i x K + n i = n_sum n K + n K + x
    by_cases e : i = K
    · rw [← e, n_sum_hi (Nat.le_refl i), nu_e]
      omega
    · have := n_sum_u (n := n) (i := i) (x := x) (K := K) (by omega)
      rw [nu_n (fun h => e h.symm)]
      omega
theorem rep_sum {u : Nat → Int32} {n : Nat → Nat} : ∀ {K : Nat}, rep K u n → v_sum u K = nI (n_sum n K)
  | 0, _ => nI_0.symm
  | K + 1, h => by
    show v_sum u K + u K = nI (n_sum n K + n K)
    rw [rep_sum (fun j hj => h j (by omega)), h K (by omega), nI_add]
theorem nI_sub {a b : Nat} (h : b ≤ a) : nI a - nI b = nI (a - b) := by
  have : nI a = nI (a - b) + nI b := by rw [nI_add, Nat.sub_add_cancel h]
  rw [this, Int32.add_sub_cancel]
theorem lesser_nI {a b : Nat} (ha : a < 2 ^ 31) (hb : b < 2 ^ 31) : fX10_lesser (nI a) (nI b) = nI (min a b) := by
  unfold fX10_lesser
  by_cases h : b ≤ a
  · rw [if_pos (nI_le h ha), Nat.min_eq_right h]
  · rw [if_neg (nI_ge (by omega) hb), Nat.min_eq_left (by omega)]
theorem greater_nI {a b : Nat} (ha : a < 2 ^ 31) (hb : b < 2 ^ 31) : fX10_greater (nI a) (nI b) = nI (max a b) := by
  unfold fX10_greater
  by_cases h : a ≤ b
  · rw [if_pos (nI_le h hb), Nat.max_eq_right h]
  · rw [if_neg (nI_ge (by omega) ha), Nat.max_eq_left (by omega)]
theorem nI_half : ∀ a, a < 1000 → nI a / 2 = nI (a / 2) := by decide +kernel
theorem nI_less : ∀ a, a < 1000 → fX10_greater 0 (nI a - 1) = nI (a - 1) := by decide +kernel
def n_mk (n : Nat → Nat) (i j l : Nat) : Nat := min l (if i = j then n i / 2 else min (n i) (n j))
def ok_lim (ρ : Nat → Int32) (R : Nat) : Prop := ∀ r, r < R → ∃ l, l ≤ 9 ∧ ρ (4 * r + 3) = nI l
theorem v_mk_n {ρ u : Nat → Int32} {n : Nat → Nat} {K R r l : Nat} (hρ : ok_ρ ρ K R) (hr : r < R) (hK : K ≤ 5) (hl : l ≤ 9) (h : rep K u n) (hn : ∀ j, j < K → n j ≤ 999) : v_mk ρ u r (nI l) = nI (n_mk n (ix (ρ (4 * r))) (ix (ρ (4 * r + 1))) l) := by
  obtain ⟨a1, a2⟩ := ok_ix hρ hK hr (c := 0) (by decide)
  obtain ⟨b1, b2⟩ := ok_ix hρ hK hr (c := 1) (by decide)
  simp only [Nat.add_zero] at a1 a2
  have na := hn _ a1
  have nb := hn _ b1
  unfold v_mk n_mk
  rw [h _ a1, h _ b1]
  by_cases e : ρ (4 * r) = ρ (4 * r + 1)
  · rw [if_pos e, if_pos (by rw [e]), nI_half _ (by omega), lesser_nI (by omega) (by omega)]
  · have e2 : ¬ ix (ρ (4 * r)) = ix (ρ (4 * r + 1)) := fun h => e (by rw [a2, b2, h])
    rw [if_neg e, if_neg e2, lesser_nI (by omega) (by omega), lesser_nI (by omega) (by omega)]
theorem nv_turn {ρ u : Nat → Int32} {K R r l B : Nat} (hρ : ok_ρ ρ K R) (hr : r < R) (hK : K ≤ 5) (hl : l ≤ 9) (h : nv K B u) : nv K B (v_turn ρ r (nI l) u) := by
  obtain ⟨n, hn, hb, hs⟩ := h
  have a1 := (ok_ix hρ hK hr (c := 0) (by decide)).1
  have b1 := (ok_ix hρ hK hr (c := 1) (by decide)).1
  have c1 := (ok_ix hρ hK hr (c := 2) (by decide)).1
  simp only [Nat.add_zero] at a1
  have ek := v_mk_n hρ hr hK hl hn hb
  unfold v_turn
  rw [ek]
  generalize ix (ρ (4 * r)) = i at *
  generalize ix (ρ (4 * r + 1)) = j at *
  generalize ix (ρ (4 * r + 2)) = m at *
  obtain ⟨k, hk⟩ : ∃ k, k = n_mk n i j l := ⟨_, rfl⟩
  rw [← hk]
  have hki : k ≤ n i := by
    rw [hk, n_mk]
    split <;> omega
  have h1 : rep K (upd u i (u i - nI k)) (nu n i (n i - k)) := rep_u hn (by rw [hn i a1, nI_sub hki])
  have hkj : k ≤ nu n i (n i - k) j := by
    by_cases e : j = i
    · rw [e, nu_e]
      have : k ≤ n i / 2 := by
        rw [hk, n_mk, if_pos e.symm]
        omega
      omega
    · rw [nu_n e, hk, n_mk, if_neg (fun h => e h.symm)]
      omega
  obtain ⟨n1, e1⟩ : ∃ n1, n1 = nu n i (n i - k) := ⟨_, rfl⟩
  obtain ⟨u1, f1⟩ : ∃ u1, u1 = upd u i (u i - nI k) := ⟨_, rfl⟩
  rw [← e1] at h1 hkj
  rw [← f1] at h1
  show nv K B (upd (upd (upd u i (u i - nI k)) j (upd u i (u i - nI k) j - nI k)) m (fX10_lesser 999 (upd (upd u i (u i - nI k)) j (upd u i (u i - nI k) j - nI k) m + nI k)))
  rw [← f1]
  have s1 := n_sum_u (n := n) (x := n i - k) a1
  rw [← e1] at s1
  have b1' : ∀ x, x < K → n1 x ≤ 999 := by
    intro x hx
    have := hb x hx
    rw [e1]
    by_cases e : x = i
    · rw [e, nu_e]
      have := hb i a1
      omega
    · rw [nu_n e]
      exact this
  have h2 : rep K (upd u1 j (u1 j - nI k)) (nu n1 j (n1 j - k)) := rep_u h1 (by rw [h1 j b1, nI_sub hkj])
  have s2 := n_sum_u (n := n1) (x := n1 j - k) b1
  have b2' : ∀ x, x < K → nu n1 j (n1 j - k) x ≤ 999 := by
    intro x hx
    by_cases e : x = j
    · rw [e, nu_e]
      have := b1' j b1
      omega
    · rw [nu_n e]
      exact b1' x hx
  generalize nu n1 j (n1 j - k) = n2 at *
  generalize upd u1 j (u1 j - nI k) = u2 at *
  have hk9 : k ≤ 999 := Nat.le_trans hki (hb i a1)
  have hm := b2' m c1
  have s3 := n_sum_u (n := n2) (x := min 999 (n2 m + k)) c1
  refine ⟨nu n2 m (min 999 (n2 m + k)), rep_u h2 ?_, ?_, ?_⟩
  · rw [h2 m c1, nI_add]
    exact lesser_nI (a := 999) (by decide) (by omega)
  · intro x hx
    by_cases e : x = m
    · rw [e, nu_e]
      omega
    · rw [nu_n e]
      exact b2' x hx
  · omega
theorem nv_boil {ρ u : Nat → Int32} {K R B : Nat} (hρ : ok_ρ ρ K R) (hl : ok_lim ρ R) (hK : K ≤ 5) (h : nv K B u) : ∀ {m : Nat}, m ≤ R → nv K B (v_boil ρ m u)
  | 0, _ => h
  | m + 1, hm => by
    obtain ⟨l, h9, e⟩ := hl m (by omega)
    show nv K B (v_turn ρ m (ρ (4 * m + 3)) (v_boil ρ m u))
    rw [e]
    exact nv_turn hρ (by omega) hK h9 (nv_boil hρ hl hK h (by omega))
theorem nv_hi {u : Nat → Int32} {K B i : Nat} {x : Int32} (hi : K ≤ i) (h : nv K B u) : nv K B (upd u i x) := by
  obtain ⟨n, hn, hb, hs⟩ := h
  exact ⟨n, fun j hj => by rw [upd_n (by omega)]; exact hn j hj, hb, hs⟩
theorem nv_sum {u : Nat → Int32} {K B : Nat} (hK : K ≤ 5) (h : nv K B u) : 0 ≤ v_sum u K := by
  obtain ⟨n, hn, hb, hs⟩ := h
  rw [rep_sum hn]
  have key : ∀ k, k ≤ K → n_sum n k ≤ 999 * k := by
    intro k
    induction k with
    | zero => intro _; exact Nat.le_refl 0
    | succ k ih =>
      intro hk
      have := ih (by omega)
      have := hb k (by omega)
      show n_sum n k + n k ≤ _
      omega
  have := key K (Nat.le_refl K)
  exact nI_pos' (by omega)
theorem n_sum_le {n m : Nat → Nat} : ∀ {K : Nat}, (∀ j, j < K → n j ≤ m j) → n_sum n K ≤ n_sum m K
  | 0, _ => Nat.le_refl 0
  | K + 1, h => by
    show n_sum n K + n K ≤ n_sum m K + m K
    have := n_sum_le (K := K) (fun j hj => h j (by omega))
    have := h K (by omega)
    omega
theorem nv_skim {u : Nat → Int32} {K B : Nat} {scum : Int32} (hK : K ≤ 5) (h : nv K B u) : nv K B (v_skim K scum u) := by
  unfold v_skim
  split
  · obtain ⟨n, hn, hb, hs⟩ := h
    refine ⟨fun j => n j - 1, fun j hj => ?_, fun j hj => ?_, Nat.le_trans (n_sum_le (fun j _ => Nat.sub_le _ _)) hs⟩
    · rw [v_mix, if_pos hj, hn j hj]
      exact nI_less _ (Nat.lt_succ_of_le (hb j hj))
    · exact Nat.le_trans (Nat.sub_le _ _) (hb j hj)
  · exact nv_hi (by omega) h
theorem nv_pre {ρ u : Nat → Int32} {K R B : Nat} {scum sc : Int32} (hρ : ok_ρ ρ K R) (hl : ok_lim ρ R) (hK : K ≤ 5) (h : nv K B u) : nv K B (v_pre K R scum ρ sc u) := by
  unfold v_pre
  split
  · exact nv_boil hρ hl hK h (Nat.le_refl R)
  · exact nv_skim hK (nv_boil hρ hl hK h (Nat.le_refl R))
