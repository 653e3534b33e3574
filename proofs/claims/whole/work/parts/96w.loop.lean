/-! line after line in both -/
section PS
variable {σ0 τ0 : sw_M} {B : Nat → Nat} {n Q : Nat}
theorem wh_up {S T : Type} {b : S → Option (S ⊕ T)} {s : S} {o : Option T} {n : Nat} (h : b s = sw_up o) : sw_wh (n + 1) b s = o := by
  cases o with
  | none => exact wh_non h
  | some x => exact wh_end h
theorem te_0 {p : Nat} (hp : p ≤ n) (h : ¬ teT B n p = 0) : p < n := by
  have := te_pos (B := B) hp
  have := this.2.2 h
  omega
def wl (f : Nat) (r : Int32) (a : Nat) (σ : sw_M) : Option (Int32 × sw_M) := sw_wh f (fun s : Int32 × Int32 × sw_M => fX9_works_L11 s.2.2 s.1 s.2.1) (r, nI a, σ)
theorem wk_0 {f a : Nat} {σ : sw_M} : wl (f + 1) 0 a σ = fX9_works_L46 σ 0 := by
  refine wh_up ?_
  show fX9_works_L11 σ 0 (nI a) = _
  rw [fX9_works_L11]
  by_cases e : (1600 : Int32) ≤ nI a
  · rw [if_pos e]
  · rw [if_neg e, if_pos rfl]
theorem wk_loop (hP : sw_isP Q) (hQ : sw_pl (σ0.2.2 1) = Q) : ∀ (f a p : Nat) (σ τ : sw_M) (K N R Bn : Nat), 1602 ≤ f + a → a ≤ p → pz B n Q σ0 τ0 σ τ p → dR Q σ τ K N R Bn → fR Q σ τ →
    (∃ σ' τ' p' K N R Bn, wl f 1 a σ = fX9_works_L46 σ' 1 ∧ sw_wh f (fun s => fX10_readAll_L87 s) τ = some τ' ∧ pz B n Q σ0 τ0 σ' τ' p' ∧ dR Q σ' τ' K N R Bn ∧ fR Q σ' τ') ∨ (∃ σ' τ', wl f 1 a σ = fX9_works_L46 σ' 0 ∧ sw_wh f (fun s => fX10_readAll_L87 s) τ = some τ' ∧ pq Q σ0 τ0 σ' τ') := by
  intro f
  induction f with
  | zero =>
    intro a p σ τ K N R Bn hf ha h
    have : p ≤ n := h.1.2.1
    have : n ≤ 1600 := h.1.1.1
    omega
  | succ f ih =>
    intro a p σ τ K N R Bn hf ha h hd hfr
    have hpn : p ≤ n := h.1.2.1
    have hn16 : n ≤ 1600 := h.1.1.1
    have t0 := h.2.1.2.2.2.1
    have f4 : σ.1 2 4 = nI (teT B n p) := h.1.2.2.2.2.1
    have hq : sw_pl (σ.2.2 1) = Q := by rw [h.2.2.2.2.1.1]; exact hQ
    by_cases hT : teT B n p = 0
    · have e6 : τ.1 49 6 = 0 := (es_0 h.2.1.2.2.1).mpr hT
      refine .inl ⟨σ, τ, p, K, N, R, Bn, ?_, ?_, h, hd, hfr⟩
      · refine wh_up ?_
        show fX9_works_L11 σ 1 (nI a) = _
        rw [fX9_works_L11, fX5_isAtEnd, f4, hT, if_neg i10, if_pos (show nI 0 = 0 from rfl), if_neg i10]
        by_cases e : (1600 : Int32) ≤ nI a
        · rw [if_pos e]
        · rw [if_neg e]
      · refine wh_end ?_
        show fX10_readAll_L87 τ = _
        rw [fX10_readAll_L87, if_pos t0, if_pos e6]
    · have hlt := te_0 hpn hT
      have e6 : ¬ τ.1 49 6 = 0 := fun x => hT ((es_0 h.2.1.2.2.1).mp x)
      have n4 : ¬ σ.1 2 4 = 0 := by
        rw [f4]
        exact fun x => hT ((nI_eq (b := 0) (by have := teT_lt (B := B) (n := n) (p := p); omega) (by decide)).mp x)
      have n16 : ¬ (1600 : Int32) ≤ nI a := Int32.not_le.mpr (nI_lt (b := 1600) (by omega) (by decide))
      have hc : fX9_works_L11 σ 1 (nI a) = sw_b2 (fX5_readLine σ) fun r7 m8 => some (.inl (r7, nI (a + 1), m8)) := by
        rw [fX9_works_L11, if_neg n16, if_neg i10, fX5_isAtEnd, if_neg n4, if_pos rfl, nI_1]
        rfl
      have he : fX10_readAll_L87 τ = sw_b1 (fX10_readLine τ) fun m3 => some (.inl m3) := by rw [fX10_readAll_L87, if_pos t0, if_neg e6]
      rcases l_line hP hq h hd hfr with ⟨σ', τ', p', K', N', R', Bn', c1, c2, c3, c4, c5, c6⟩ | ⟨σ', τ', c1, c2, c3⟩
      · rw [c1, b2_s] at hc
        rw [c2, b1_s] at he
        have x1 : wl (f + 1) 1 a σ = wl f 1 (a + 1) σ' := wh_one (b := fun s : Int32 × Int32 × sw_M => fX9_works_L11 s.2.2 s.1 s.2.1) (s := ((1 : Int32), nI a, σ)) hc
        have x2 : sw_wh (f + 1) (fun s => fX10_readAll_L87 s) τ = sw_wh f (fun s => fX10_readAll_L87 s) τ' := wh_one (b := fun s => fX10_readAll_L87 s) he
        rw [x1, x2]
        exact ih (a + 1) p' σ' τ' K' N' R' Bn' (by omega) (by omega) c3 c5 c6
      · rw [c1, b2_s] at hc
        rw [c2, b1_s] at he
        have x1 : wl (f + 1) 1 a σ = wl f 0 (a + 1) σ' := wh_one (b := fun s : Int32 × Int32 × sw_M => fX9_works_L11 s.2.2 s.1 s.2.1) (s := ((1 : Int32), nI a, σ)) hc
        have x2 : sw_wh (f + 1) (fun s => fX10_readAll_L87 s) τ = sw_wh f (fun s => fX10_readAll_L87 s) τ' := wh_one (b := fun s => fX10_readAll_L87 s) he
        rw [x1, x2]
        obtain ⟨g, rfl⟩ : ∃ g, f = g + 1 := ⟨f - 1, by omega⟩
        refine .inr ⟨σ', τ', wk_0, ?_, c3⟩
        refine wh_end ?_
        show fX10_readAll_L87 τ' = _
        rw [fX10_readAll_L87, if_neg (f_nz c3.2.2.1)]
end PS
