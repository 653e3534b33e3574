/-! ===== the pure half: loops, numbers, memories ===== -/
theorem wh_run {S T : Type} {b : S → Option (S ⊕ T)} (g : Nat → S) (N : Nat) {r : T} (h : ∀ k, k < N → b (g k) = some (.inl (g (k + 1)))) (hN : b (g N) = some (.inr r)) : ∀ {n : Nat}, N < n → sw_wh n b (g 0) = some r := by
  have key : ∀ (d k n : Nat), k + d = N → d < n → sw_wh n b (g k) = some r := by
    intro d
    induction d with
    | zero =>
      intro k n hk hn
      obtain ⟨n, rfl⟩ : ∃ m, n = m + 1 := ⟨n - 1, by omega⟩
      have : k = N := by omega
      subst this
      unfold sw_wh
      rw [hN]
    | succ d ih =>
      intro k n hk hn
      obtain ⟨n, rfl⟩ : ∃ m, n = m + 1 := ⟨n - 1, by omega⟩
      unfold sw_wh
      rw [h k (by omega)]
      exact ih (k + 1) n (by omega) (by omega)
  intro n hn
  exact key N 0 n (by omega) hn
theorem wh_gen {S T : Type} {b : S → Option (S ⊕ T)} (I : Nat → S → Prop) (Q : T → Prop) (N : Nat) (hs : ∀ k s, k ≤ N → I k s → (∃ s', b s = some (.inl s') ∧ I (k + 1) s' ∧ k < N) ∨ (∃ t, b s = some (.inr t) ∧ Q t)) {s0 : S} (h0 : I 0 s0) {n : Nat} (hn : N < n) : ∃ t, sw_wh n b s0 = some t ∧ Q t := by
  have key : ∀ (d k n : Nat) (s : S), k + d = N → d < n → I k s → ∃ t, sw_wh n b s = some t ∧ Q t := by
    intro d
    induction d with
    | zero =>
      intro k n s hk hn hI
      obtain ⟨n, rfl⟩ : ∃ m, n = m + 1 := ⟨n - 1, by omega⟩
      unfold sw_wh
      rcases hs k s (by omega) hI with ⟨s', e, h, hlt⟩ | ⟨t, e, h⟩
      · omega
      · rw [e]; exact ⟨t, rfl, h⟩
    | succ d ih =>
      intro k n s hk hn hI
      obtain ⟨n, rfl⟩ : ∃ m, n = m + 1 := ⟨n - 1, by omega⟩
      unfold sw_wh
      rcases hs k s (by omega) hI with ⟨s', e, h, hlt⟩ | ⟨t, e, h⟩
      · rw [e]; exact ih (k + 1) n s' (by omega) (by omega) h
      · rw [e]; exact ⟨t, rfl, h⟩
  exact key N 0 n s0 (by omega) hn h0
theorem F_big {n : Nat} (h : n < 4000) : n < sw_F := h
/-! memories -/
theorem m_ne {σ : sw_M} {i a : Nat} {f : Nat → Int32} (h : a ≠ i) : (sw_wA σ i f).1 a = σ.1 a := by simp [sw_wA, h]
theorem m_eq {σ : sw_M} {i : Nat} {f : Nat → Int32} : (sw_wA σ i f).1 i = f := by simp [sw_wA]
theorem m_2 {σ : sw_M} {i : Nat} {f : Nat → Int32} : (sw_wA σ i f).2 = σ.2 := rfl
theorem m_mm {σ : sw_M} {i : Nat} {f g : Nat → Int32} : sw_wA (sw_wA σ i f) i g = sw_wA σ i g := by
  unfold sw_wA
  congr 1
  funext a
  by_cases h : a = i <;> simp [h]
theorem m_self {σ : sw_M} {i : Nat} : sw_wA σ i (σ.1 i) = σ := by
  unfold sw_wA
  apply Prod.ext
  · funext a
    by_cases h : a = i
    · subst h; simp
    · simp [h]
  · rfl
theorem m_w {σ : sw_M} {i k : Nat} {x : Int32} : sw_w σ i k x = sw_wA σ i (upd (σ.1 i) k x) := rfl
theorem m_ww {σ : sw_M} {i k : Nat} {f : Nat → Int32} {x : Int32} : sw_w (sw_wA σ i f) i k x = sw_wA σ i (upd f k x) := by
  rw [m_w, m_eq, m_mm]
theorem m_wne {σ : sw_M} {i a k : Nat} {x : Int32} (h : a ≠ i) : (sw_w σ i k x).1 a = σ.1 a := m_ne h
/-! numbers -/
theorem in_t {k n : Nat} (h : k < n) (hn : n < 2 ^ 31) : sw_in (nI k) n = true := decide_eq_true (nI_in h hn)
theorem in_l {k : Int32} {n : Nat} (i : Nat) (hk : k = nI i) (h : i < n) (hn : n < 2 ^ 31) : sw_in k n = true := by rw [hk]; exact in_t h hn
theorem lit_I (n : Nat) : (OfNat.ofNat n : Int32) = nI n := rfl
theorem min_lesser (a b : Int32) : sw_min a b = fX10_lesser a b := by
  simp only [sw_min, fX10_lesser]
  by_cases h : b < a
  · have h2 : b ≤ a := Int32.le_of_lt h
    simp [h, h2]
  · by_cases h2 : b ≤ a
    · have : a = b := Int32.le_antisymm (Int32.not_lt.mp h) h2
      subst this
      simp
    · simp [h, h2]
theorem max_greater (a b : Int32) : sw_max a b = fX10_greater a b := by
  simp only [sw_max, fX10_greater]
  by_cases h : a < b
  · have h2 : a ≤ b := Int32.le_of_lt h
    simp [h, h2]
  · by_cases h2 : a ≤ b
    · have : a = b := Int32.le_antisymm h2 (Int32.not_lt.mp h)
      subst this
      simp
    · simp [h, h2]
