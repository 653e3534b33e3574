/-! the reference's formula -/
/-- a step of the reference (kind, argument) and the class's word for it -/
def q_enc (st ar pr : Int32) : Prop :=
  (st = 0 ∧ pr = ar ∧ ¬ ar < 0) ∨ (∃ j, j < 6 ∧ st = 1 ∧ ar = nI j ∧ pr = -1 - nI j) ∨ (st = 2 ∧ pr = -33) ∨ (st = 3 ∧ pr = -ar ∧ pr < -6 ∧ pr ≠ -33)
theorem e_245 {σ : sw_M} {st : Nat → Int32} {n k : Nat} {b : Int32} (hn : n < 64) : fX10_isRisen_L245 (sw_wA σ 57 st) (nI n) (nI k) b (nI n) = some (.inl (nI (n + 1), nI (k + 1), sw_wA σ 57 (upd st n b))) := by
  have hn2 : n < 2 ^ 31 := Nat.lt_trans hn (by decide)
  unfold fX10_isRisen_L245
  rw [sw_gd_t (in_t hn (by decide)), nI_clamp hn2]
  simp only [sw_let, m_ww, fX10_isRisen_L326, nI_1]
theorem e_285 {σ : sw_M} {st : Nat → Int32} {n k : Nat} {a b : Int32} (hn : n < 64) (ht : fX10_truth b = b) : fX10_isRisen_L285 (sw_wA σ 57 st) a (nI k) b (nI n) = some (.inl (a, nI (k + 1), sw_wA σ 57 (upd st n b))) := by
  have hn2 : n < 2 ^ 31 := Nat.lt_trans hn (by decide)
  unfold fX10_isRisen_L285
  rw [sw_gd_t (in_t hn (by decide)), nI_clamp hn2, ht]
  simp only [sw_let, m_ww, fX10_isRisen_L326, nI_1]
theorem e_211 {σ : sw_M} {st asks : Nat → Int32} {n k : Nat} {c : Int32} (hask : ∀ j, j < 6 → σ.1 58 j = asks j) (hn : n < 64) (hk : k < 320) (he : (σ.1 54 k = 0 ∧ c = σ.1 55 k ∧ ¬ σ.1 55 k < 0) ∨ (∃ j, j < 6 ∧ σ.1 54 k = 1 ∧ σ.1 55 k = nI j ∧ c = -1 - nI j)) :
    fX10_isRisen_L211 (sw_wA σ 57 st) (nI n) (nI k) = some (.inl (nI (n + 1), nI (k + 1), sw_wA σ 57 (upd st n (if c < 0 then asks (ix ((-1) - c)) else c)))) := by
  have hk2 : k < 2 ^ 31 := Nat.lt_trans hk (by decide)
  have hin := in_t hk (by decide)
  have n54 : 54 ≠ 57 := by decide
  have n55 : 55 ≠ 57 := by decide
  have n58 : 58 ≠ 57 := by decide
  unfold fX10_isRisen_L211
  rw [sw_gd_t hin, nI_clamp hk2, m_ne n54, m_ne n55, m_ne n58]
  rcases he with ⟨h1, rfl, h3⟩ | ⟨j, hj, h1, h2, rfl⟩
  · rw [if_pos h1, if_neg h3, sw_gd_t hin, e_245 hn]
  · have hj2 : j < 2 ^ 31 := Nat.lt_trans hj (by decide)
    have hlt : (-1 : Int32) - nI j < 0 := by
      rcases (show j = 0 ∨ j = 1 ∨ j = 2 ∨ j = 3 ∨ j = 4 ∨ j = 5 by omega) with rfl | rfl | rfl | rfl | rfl | rfl <;> decide
    have hix : (-1 : Int32) - (-1 - nI j) = nI j := by
      rcases (show j = 0 ∨ j = 1 ∨ j = 2 ∨ j = 3 ∨ j = 4 ∨ j = 5 by omega) with rfl | rfl | rfl | rfl | rfl | rfl <;> decide
    have h10 : ¬ σ.1 54 k = 0 := by rw [h1]; decide
    rw [if_neg h10, if_pos hlt, sw_gd_t hin, h2, hix, sw_gd_t (in_t hj (by decide)), ix, nI_clamp hj2, hask j hj, e_245 hn]
theorem q_enc_psh {a b c : Int32} (h : q_enc a b c) (h33 : ¬ c = -33) (h6 : ¬ c < -6) : (a = 0 ∧ c = b ∧ ¬ b < 0) ∨ (∃ j, j < 6 ∧ a = 1 ∧ b = nI j ∧ c = -1 - nI j) := by
  rcases h with h | h | h | h
  · exact .inl h
  · exact .inr h
  · exact absurd h.2 h33
  · exact absurd h.2.2.1 h6
theorem q_nlit {b : Int32} (h : ¬ b < 0) : b ≠ -33 ∧ ¬ b < -6 := by
  refine ⟨fun e => h (by rw [e]; decide), fun e => h ?_⟩
  exact Int32.lt_trans e (by decide)
theorem q_nask {j : Nat} (hj : j < 6) : ((-1 : Int32) - nI j) ≠ -33 ∧ ¬ ((-1 : Int32) - nI j) < -6 := by
  rcases (show j = 0 ∨ j = 1 ∨ j = 2 ∨ j = 3 ∨ j = 4 ∨ j = 5 by omega) with rfl | rfl | rfl | rfl | rfl | rfl <;> decide
theorem q_enc_not {a b c : Int32} (h : q_enc a b c) (h33 : c = -33) : a = 2 := by
  rcases h with h | ⟨j, hj, -, -, h⟩ | h | h
  · exact absurd (h.2.1.symm.trans h33) (q_nlit h.2.2).1
  · exact absurd (h.symm.trans h33) (q_nask hj).1
  · exact h.1
  · exact absurd h33 h.2.2.2
theorem q_enc_bin {a b c : Int32} (h : q_enc a b c) (h33 : ¬ c = -33) (h6 : c < -6) : a = 3 ∧ c = -b := by
  rcases h with h | ⟨j, hj, -, -, h⟩ | h | h
  · exact absurd (h.2.1 ▸ h6) (q_nlit h.2.2).2
  · exact absurd (h ▸ h6) (q_nask hj).2
  · exact absurd h.2 h33
  · exact ⟨h.1, h.2.1⟩
theorem e_not {σ : sw_M} {st : Nat → Int32} {n k z : Nat} {x : Int32} (hz : σ.1 49 18 = nI z) (hkz : k < z) (hz2 : z ≤ 320) (hn : n < 64) (h54 : σ.1 54 k = 2) (hx : st n = x) : fX10_isRisen_L184 (sw_wA σ 57 st) (nI (n + 1)) (nI k) = some (.inl (nI (n + 1), nI (k + 1), sw_wA σ 57 (upd st n (if x = 0 then 1 else 0)))) := by
  have hk : k < 320 := by omega
  have hk2 : k < 2 ^ 31 := by omega
  have hn2 : n < 2 ^ 31 := by omega
  have hin := in_t hk (by decide)
  have n49 : 49 ≠ 57 := by decide
  have n54 : 54 ≠ 57 := by decide
  have a0 : ¬ σ.1 54 k = 0 := by rw [h54]; decide
  have a1 : ¬ σ.1 54 k = 1 := by rw [h54]; decide
  unfold fX10_isRisen_L184
  rw [m_ne n49, hz, if_neg (le_f hkz (by omega)), sw_gd_t hin, nI_clamp hk2, m_ne n54, if_neg a0, sw_gd_t hin, if_neg a1, sw_gd_t hin, if_pos h54, nI_pred, sw_gd_t (in_t hn (by decide)), nI_clamp hn2, m_eq, hx]
  by_cases h : x = 0
  · rw [if_pos h, if_pos h, e_285 hn rfl]
  · rw [if_neg h, if_neg h, e_285 hn rfl]
theorem e_bin {σ : sw_M} {st : Nat → Int32} {n k z : Nat} {c x y : Int32} (hz : σ.1 49 18 = nI z) (hkz : k < z) (hz2 : z ≤ 320) (hn : n + 1 < 64) (h54 : σ.1 54 k = 3) (h55 : c = -σ.1 55 k) (hx : st n = x) (hy : st (n + 1) = y) : fX10_isRisen_L184 (sw_wA σ 57 st) (nI (n + 2)) (nI k) = some (.inl (nI (n + 1), nI (k + 1), sw_wA σ 57 (upd st n (q_join (-c) x y)))) := by
  have hk : k < 320 := by omega
  have hk2 : k < 2 ^ 31 := by omega
  have hn1 : n < 64 := by omega
  have hn2 : n < 2 ^ 31 := by omega
  have hn3 : n + 1 < 2 ^ 31 := by omega
  have hin := in_t hk (by decide)
  have n49 : 49 ≠ 57 := by decide
  have n54 : 54 ≠ 57 := by decide
  have n55 : 55 ≠ 57 := by decide
  have a0 : ¬ σ.1 54 k = 0 := by rw [h54]; decide
  have a1 : ¬ σ.1 54 k = 1 := by rw [h54]; decide
  have a2 : ¬ σ.1 54 k = 2 := by rw [h54]; decide
  have ec : -c = σ.1 55 k := by rw [h55, Int32.neg_neg]
  have e : nI (n + 2) + (-1) = nI (n + 1) := pk_m1 (n + 1)
  unfold fX10_isRisen_L184
  rw [m_ne n49, hz, if_neg (le_f hkz (by omega)), sw_gd_t hin, nI_clamp hk2, m_ne n54, if_neg a0, sw_gd_t hin, if_neg a1, sw_gd_t hin, if_neg a2, e]
  simp only [sw_let]
  rw [sw_gd_t hin, nI_pred, sw_gd_t (in_t hn1 (by decide)), sw_gd_t (in_t hn (by decide)), nI_clamp hn2, nI_clamp hn3, m_eq, m_ne n55, hx, hy, e_done, ec]
  simp only [sw_b1]
  rw [sw_gd_t (in_t hn1 (by decide)), m_ww]
  simp only [fX10_isRisen_L326, sw_let, nI_1]
theorem e_psh {σ : sw_M} {st asks : Nat → Int32} {n k z : Nat} {c : Int32} (hask : ∀ j, j < 6 → σ.1 58 j = asks j) (hz : σ.1 49 18 = nI z) (hkz : k < z) (hz2 : z ≤ 320) (hn : n < 64) (he : (σ.1 54 k = 0 ∧ c = σ.1 55 k ∧ ¬ σ.1 55 k < 0) ∨ (∃ j, j < 6 ∧ σ.1 54 k = 1 ∧ σ.1 55 k = nI j ∧ c = -1 - nI j)) :
    fX10_isRisen_L184 (sw_wA σ 57 st) (nI n) (nI k) = some (.inl (nI (n + 1), nI (k + 1), sw_wA σ 57 (upd st n (if c < 0 then asks (ix ((-1) - c)) else c)))) := by
  have hk : k < 320 := by omega
  have hk2 : k < 2 ^ 31 := by omega
  have hin := in_t hk (by decide)
  have n49 : 49 ≠ 57 := by decide
  have n54 : 54 ≠ 57 := by decide
  have key := e_211 (st := st) hask hn hk he
  unfold fX10_isRisen_L184
  rw [m_ne n49, hz, if_neg (le_f hkz (by omega)), sw_gd_t hin, nI_clamp hk2, m_ne n54]
  rcases he with ⟨h1, -, -⟩ | ⟨j, hj, h1, -, -⟩
  · rw [if_pos h1, key]
  · have a0 : ¬ σ.1 54 k = 0 := by rw [h1]; decide
    rw [if_neg a0, sw_gd_t hin, if_pos h1, key]
theorem e_one {σ : sw_M} {st asks : Nat → Int32} {k z : Nat} {c : Int32} {s s1 : List Int32} (hask : ∀ j, j < 6 → σ.1 58 j = asks j) (hz : σ.1 49 18 = nI z) (hkz : k < z) (hz2 : z ≤ 320) (henc : q_enc (σ.1 54 k) (σ.1 55 k) c) (hst : q_step asks c s = some s1) (hl : s.length ≤ 30) (hrp : rp st s) :
    ∃ st', rp st' s1 ∧ fX10_isRisen_L184 (sw_wA σ 57 st) (nI s.length) (nI k) = some (.inl (nI s1.length, nI (k + 1), sw_wA σ 57 st')) := by
  unfold q_step at hst
  by_cases h33 : c = -33
  · rw [if_pos h33] at hst
    cases s with
    | nil => cases hst
    | cons x t =>
      cases hst
      simp only [List.length_cons] at hl ⊢
      exact ⟨_, rp_push hrp.2, e_not hz hkz hz2 (by omega) (q_enc_not henc h33) hrp.1⟩
  · rw [if_neg h33] at hst
    by_cases h6 : c < -6
    · rw [if_pos h6] at hst
      match s, hst, hl, hrp with
      | y :: x :: t, hst, hl, hrp =>
        cases hst
        simp only [List.length_cons] at hl ⊢
        exact ⟨_, rp_push hrp.2.2, e_bin hz hkz hz2 (by omega) (q_enc_bin henc h33 h6).1 (q_enc_bin henc h33 h6).2 hrp.2.1 hrp.1⟩
      | [x], hst, _, _ => cases hst
      | [], hst, _, _ => cases hst
    · rw [if_neg h6] at hst
      by_cases hl2 : s.length < 30
      · rw [if_pos hl2] at hst
        cases hst
        simp only [List.length_cons]
        exact ⟨_, rp_push hrp, e_psh hask hz hkz hz2 (by omega) (q_enc_psh henc h33 h6)⟩
      · rw [if_neg hl2] at hst
        cases hst
theorem e_evl {σ : sw_M} {z : Nat} {asks prog : Nat → Int32} {w : Int32} (hz : σ.1 49 18 = nI z) (hz2 : z ≤ 320) (hask : ∀ j, j < 6 → σ.1 58 j = asks j) (henc : ∀ k, k < z → q_enc (σ.1 54 k) (σ.1 55 k) (prog k)) (hrun : q_run asks prog z = some [w]) :
    ∃ t : Int32 × sw_M, sw_wh sw_F (fun s => fX10_isRisen_L184 s.2.2 s.1 s.2.1) (0, 0, σ) = some t ∧ (t.1 = (if w ≤ 0 then 0 else 1) ∧ ∃ st, t.2 = sw_wA σ 57 st) := by
  have n49 : 49 ≠ 57 := by decide
  refine wh_gen (b := fun s : Int32 × Int32 × sw_M => fX10_isRisen_L184 s.2.2 s.1 s.2.1) (fun k x => ∃ s st, q_run asks prog k = some s ∧ x = (nI s.length, nI k, sw_wA σ 57 st) ∧ rp st s) _ z (fun k x hk hI => ?_) (s0 := ((0 : Int32), (0 : Int32), σ)) ⟨[], σ.1 57, rfl, Prod.ext rfl (Prod.ext rfl m_self.symm), trivial⟩ (n := sw_F) (F_big (by omega))
  obtain ⟨s, st, hs, rfl, hrp⟩ := hI
  by_cases hkz : k = z
  · rw [hkz, hrun] at hs
    cases hs
    right
    have e0 : st 0 = w := hrp.1
    refine ⟨((if w ≤ 0 then 0 else 1), sw_wA σ 57 st), ?_, rfl, st, rfl⟩
    show fX10_isRisen_L184 (sw_wA σ 57 st) _ (nI k) = _
    unfold fX10_isRisen_L184
    rw [m_ne n49, hz, hkz, if_pos (le_t z (by omega)), m_eq, e0]
    by_cases h : w ≤ 0
    · rw [if_pos h, if_pos h]
    · rw [if_neg h, if_neg h]
  · left
    have hlt : k < z := by omega
    obtain ⟨s1, hs1⟩ := q_run_all hrun (k + 1) (by omega)
    obtain ⟨s0, h0, hst⟩ := q_run_le hs1
    rw [hs] at h0
    cases h0
    obtain ⟨st', hrp', he⟩ := e_one (σ := σ) (k := k) hask hz hlt hz2 (henc k hlt) hst (q_run_len hs) hrp
    exact ⟨_, he, ⟨s1, st', hs1, rfl, hrp'⟩, hlt⟩
