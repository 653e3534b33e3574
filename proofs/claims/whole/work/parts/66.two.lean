/-- two loops in step -/
theorem wh_two {S T : Type} {b c : S → Option (S ⊕ T)} (I : Nat → S → Prop) (N : Nat) (hs : ∀ k s, k < N → I k s → ∃ s', b s = some (.inl s') ∧ c s = some (.inl s') ∧ I (k + 1) s') (hN : ∀ s, I N s → ∃ r, b s = some (.inr r) ∧ c s = some (.inr r)) {s0 : S} (h0 : I 0 s0) (h4 : N < 4000) : ∃ r, sw_wh sw_F b s0 = some r ∧ sw_wh sw_F c s0 = some r := by
  have key : ∀ (d k n : Nat) (s : S), k + d = N → d < n → I k s → ∃ r, sw_wh n b s = some r ∧ sw_wh n c s = some r := by
    intro d
    induction d with
    | zero =>
      intro k n s hk hn hI
      obtain ⟨n, rfl⟩ : ∃ m, n = m + 1 := ⟨n - 1, by omega⟩
      obtain rfl : k = N := by omega
      obtain ⟨r, h1, h2⟩ := hN s hI
      refine ⟨r, ?_, ?_⟩
      · rw [sw_wh, h1]
      · rw [sw_wh, h2]
    | succ d ih =>
      intro k n s hk hn hI
      obtain ⟨n, rfl⟩ : ∃ m, n = m + 1 := ⟨n - 1, by omega⟩
      obtain ⟨s', h1, h2, h3⟩ := hs k s (by omega) hI
      obtain ⟨r, h5, h6⟩ := ih (k + 1) n s' (by omega) (by omega) h3
      refine ⟨r, ?_, ?_⟩
      · rw [sw_wh, h1]
        exact h5
      · rw [sw_wh, h2]
        exact h6
  exact key N 0 sw_F s0 (by omega) (F_big h4) h0
