/-! the formula's steps on a stack -/
def q_step (asks : Nat → Int32) (c : Int32) (s : List Int32) : Option (List Int32) :=
  if c = -33 then (match s with | x :: t => some ((if x = 0 then 1 else 0) :: t) | [] => none)
  else if c < -6 then (match s with | y :: x :: t => some (q_join (-c) x y :: t) | _ => none)
  else if s.length < 30 then some ((if c < 0 then asks (ix ((-1) - c)) else c) :: s) else none
def q_run (asks prog : Nat → Int32) : Nat → Option (List Int32)
  | 0 => some []
  | n + 1 => match q_run asks prog n with
    | none => none
    | some s => q_step asks (prog n) s
theorem q_run_le {asks prog : Nat → Int32} {n : Nat} {s : List Int32} (h : q_run asks prog (n + 1) = some s) : ∃ s0, q_run asks prog n = some s0 ∧ q_step asks (prog n) s0 = some s := by
  unfold q_run at h
  split at h
  · cases h
  · exact ⟨_, by assumption, h⟩
theorem q_run_all {asks prog : Nat → Int32} : ∀ {n : Nat} {s : List Int32}, q_run asks prog n = some s → ∀ k, k ≤ n → ∃ s0, q_run asks prog k = some s0
  | 0, s, h, k, hk => ⟨s, by rw [show k = 0 by omega]; exact h⟩
  | n + 1, s, h, k, hk => by
    by_cases e : k = n + 1
    · exact ⟨s, by rw [e]; exact h⟩
    · obtain ⟨s0, h0, -⟩ := q_run_le h
      exact q_run_all h0 k (by omega)
theorem q_step_len {asks : Nat → Int32} {c : Int32} {s s' : List Int32} (h : q_step asks c s = some s') (hs : s.length ≤ 30) : s'.length ≤ 30 := by
  unfold q_step at h
  split at h
  · split at h
    · cases h; simpa using hs
    · cases h
  · split at h
    · split at h
      · cases h; simp at hs ⊢; omega
      · cases h
    · split at h
      · cases h; simp; omega
      · cases h
theorem q_run_len {asks prog : Nat → Int32} : ∀ {n : Nat} {s : List Int32}, q_run asks prog n = some s → s.length ≤ 30
  | 0, s, h => by cases h; simp
  | n + 1, s, h => by
    obtain ⟨s0, h0, h1⟩ := q_run_le h
    exact q_step_len h1 (q_run_len h0)
/-- an array holds a stack, its top the furthest -/
def rp (st : Nat → Int32) : List Int32 → Prop
  | [] => True
  | x :: t => st t.length = x ∧ rp st t
theorem rp_upd {st : Nat → Int32} {x : Int32} : ∀ {t : List Int32} {k : Nat}, t.length ≤ k → rp st t → rp (upd st k x) t
  | [], _, _, _ => trivial
  | y :: t, k, hk, h => by
    simp only [List.length_cons] at hk
    refine ⟨?_, rp_upd (by omega) h.2⟩
    have : ¬ t.length = k := by omega
    simp only [upd, this, if_false]
    exact h.1
theorem rp_push {st : Nat → Int32} {x : Int32} {t : List Int32} (h : rp st t) : rp (upd st t.length x) (x :: t) := ⟨by simp [upd], rp_upd (Nat.le_refl _) h⟩
theorem fa_toInt_ge {c : Int32} (h : ¬ c < -6) : -6 ≤ c.toInt := by
  have h1 := Int32.not_lt.mp h
  have h2 := Int32.le_iff_toInt_le.mp h1
  have e : (-6 : Int32).toInt = -6 := by decide
  rw [e] at h2
  exact h2
theorem fa_toInt_lt {c : Int32} (h : c < 0) : c.toInt < 0 := by
  have h2 := Int32.lt_iff_toInt_lt.mp h
  have e : (0 : Int32).toInt = 0 := by decide
  rw [e] at h2
  exact h2
theorem c_small {c : Int32} (h1 : ¬ c < -6) (h2 : c < 0) : ∃ j, j < 6 ∧ (-1) - c = nI j := by
  have a1 := fa_toInt_ge h1
  have a2 := fa_toInt_lt h2
  have key : ∀ z : Int32, c.toInt = z.toInt → c = z := fun z h => Int32.toInt_inj.mp h
  rcases (show c.toInt = -1 ∨ c.toInt = -2 ∨ c.toInt = -3 ∨ c.toInt = -4 ∨ c.toInt = -5 ∨ c.toInt = -6 by omega) with h | h | h | h | h | h
  · exact ⟨0, by decide, by rw [key (-1) h]; decide⟩
  · exact ⟨1, by decide, by rw [key (-2) h]; decide⟩
  · exact ⟨2, by decide, by rw [key (-3) h]; decide⟩
  · exact ⟨3, by decide, by rw [key (-4) h]; decide⟩
  · exact ⟨4, by decide, by rw [key (-5) h]; decide⟩
  · exact ⟨5, by decide, by rw [key (-6) h]; decide⟩
theorem isF_ne {F V : Nat} (hF : sw_isF F) : F ≠ F + 2 ∧ F + 1 ≠ F + 2 ∧ F + 3 ≠ F + 2 := by omega
def c_body (F V : Nat) (σ : sw_M) (a3 a4 c : Int32) : Option ((Int32 × Int32 × sw_M) ⊕ (Int32 × sw_M)) :=
  if c = (-33) then
    if a3 ≤ 0 then fX2_worth_L169 F V σ a3 a4
    else sw_gd (sw_in (a3 - 1) 31) <| if (σ.1 (F + 2) (a3 - 1).toNatClampNeg) = 0 then fX2_worth_L80 F V (F + 2) σ a3 a4 1 (a3 - 1) else fX2_worth_L80 F V (F + 2) σ a3 a4 0 (a3 - 1)
  else if c < (-6) then
    if a3 ≤ 1 then fX2_worth_L169 F V σ a3 a4
    else
      sw_let (a3 + (-1)) fun v8 =>
      sw_gd (sw_in (v8 - 1) 31) <|
      sw_gd (sw_in v8 31) <|
      sw_b1 (fX2_joined (-c) (σ.1 (F + 2) (v8 - 1).toNatClampNeg) (σ.1 (F + 2) v8.toNatClampNeg)) fun r12 =>
      sw_gd (sw_in (v8 - 1) 31) <|
      sw_let (sw_w σ (F + 2) (v8 - 1).toNatClampNeg r12) fun m15 =>
      fX2_worth_L169 F V m15 v8 a4
  else if a3 < 31 then
    if c < 0 then sw_gd (sw_in ((-1) - c) 6) <| fX2_worth_L126 F V (F + 2) σ a3 a4 (σ.1 (F + 3) ((-1) - c).toNatClampNeg) a3
    else fX2_worth_L126 F V (F + 2) σ a3 a4 c a3
  else some (.inr ((0, σ)))
theorem c_pre {F V : Nat} {σ : sw_M} {a3 a4 c : Int32} (h1 : ¬ σ.1 F 2 ≤ a4) (h2 : sw_in a4 270 = true) (h3 : σ.1 (F + 1) a4.toNatClampNeg = c) : fX2_worth_L28 F V σ a3 a4 = c_body F V σ a3 a4 c := by
  unfold fX2_worth_L28
  rw [if_neg h1, sw_gd_t h2, h3]
  rfl
theorem c_80 {F V : Nat} {σ : sw_M} {st : Nat → Int32} {n k : Nat} {a3 b : Int32} (hs2 : (sw_s (F + 2)).2 = 31) (hn : n < 31) : fX2_worth_L80 F V (F + 2) (sw_wA σ (F + 2) st) a3 (nI k) b (nI n) = some (.inl (a3, nI (k + 1), sw_wA σ (F + 2) (upd st n b))) := by
  have hn2 : n < 2 ^ 31 := Nat.lt_trans hn (by decide)
  unfold fX2_worth_L80
  rw [hs2, sw_gd_t (in_t hn (by decide)), nI_clamp hn2]
  simp only [sw_let, m_ww, fX2_worth_L169, nI_1]
theorem c_126 {F V : Nat} {σ : sw_M} {st : Nat → Int32} {n k : Nat} {b : Int32} (hs2 : (sw_s (F + 2)).2 = 31) (hn : n < 31) : fX2_worth_L126 F V (F + 2) (sw_wA σ (F + 2) st) (nI n) (nI k) b (nI n) = some (.inl (nI (n + 1), nI (k + 1), sw_wA σ (F + 2) (upd st n b))) := by
  have hn2 : n < 2 ^ 31 := Nat.lt_trans hn (by decide)
  unfold fX2_worth_L126
  rw [hs2, sw_gd_t (in_t hn (by decide)), nI_clamp hn2]
  simp only [sw_let, m_ww, fX2_worth_L169, nI_1]
theorem c_not {F V : Nat} {σ : sw_M} {st : Nat → Int32} {n k : Nat} {c x : Int32} (hs2 : (sw_s (F + 2)).2 = 31) (hn : n < 31) (hc : c = -33) (hx : st n = x) : c_body F V (sw_wA σ (F + 2) st) (nI (n + 1)) (nI k) c = some (.inl (nI (n + 1), nI (k + 1), sw_wA σ (F + 2) (upd st n (if x = 0 then 1 else 0)))) := by
  have hn2 : n < 2 ^ 31 := Nat.lt_trans hn (by decide)
  have hp : ¬ nI (n + 1) ≤ 0 := nI_nle (Nat.succ_pos n) (by omega)
  unfold c_body
  rw [if_pos hc, if_neg hp, nI_pred, sw_gd_t (in_t hn (by decide)), nI_clamp hn2, m_eq, hx]
  by_cases h : x = 0
  · rw [if_pos h, if_pos h, c_80 hs2 hn]
  · rw [if_neg h, if_neg h, c_80 hs2 hn]
theorem c_bin {F V : Nat} {σ : sw_M} {st : Nat → Int32} {n k : Nat} {c x y : Int32} (hn : n + 1 < 31) (hc : ¬ c = -33) (hc2 : c < -6) (hx : st n = x) (hy : st (n + 1) = y) : c_body F V (sw_wA σ (F + 2) st) (nI (n + 2)) (nI k) c = some (.inl (nI (n + 1), nI (k + 1), sw_wA σ (F + 2) (upd st n (q_join (-c) x y)))) := by
  have hn2 : n < 2 ^ 31 := Nat.lt_trans (Nat.lt_of_succ_lt hn) (by decide)
  have hn3 : n + 1 < 2 ^ 31 := Nat.lt_trans hn (by decide)
  have hn1 : n < 31 := Nat.lt_of_succ_lt hn
  have hp : ¬ nI (n + 2) ≤ 1 := nI_ge (a := 1) (by omega) (by omega)
  have e : nI (n + 2) + (-1) = nI (n + 1) := pk_m1 (n + 1)
  unfold c_body
  rw [if_neg hc, if_pos hc2, if_neg hp, e]
  simp only [sw_let]
  rw [nI_pred, sw_gd_t (in_t hn1 (by decide)), sw_gd_t (in_t hn (by decide)), nI_clamp hn2, nI_clamp hn3, m_eq, hx, hy, c_joined]
  simp only [sw_b1]
  rw [sw_gd_t (in_t hn1 (by decide)), m_ww]
  simp only [fX2_worth_L169, sw_let, nI_1]
theorem c_psh {F V : Nat} {σ : sw_M} {st asks : Nat → Int32} {n k : Nat} {c : Int32} (n3 : F + 3 ≠ F + 2) (hs2 : (sw_s (F + 2)).2 = 31) (hask : ∀ j, j < 6 → σ.1 (F + 3) j = asks j) (hn : n < 31) (hc : ¬ c = -33) (hc2 : ¬ c < -6) : c_body F V (sw_wA σ (F + 2) st) (nI n) (nI k) c = some (.inl (nI (n + 1), nI (k + 1), sw_wA σ (F + 2) (upd st n (if c < 0 then asks (ix ((-1) - c)) else c)))) := by
  have hp : nI n < 31 := nI_lt (b := 31) hn (by decide)
  unfold c_body
  rw [if_neg hc, if_neg hc2, if_pos hp]
  by_cases h0 : c < 0
  · obtain ⟨j, hj, ej⟩ := c_small hc2 h0
    have hj2 : j < 2 ^ 31 := Nat.lt_trans hj (by decide)
    rw [if_pos h0, if_pos h0, ej, sw_gd_t (in_t hj (by decide)), m_ne n3, ix, nI_clamp hj2, hask j hj, c_126 hs2 hn]
  · rw [if_neg h0, if_neg h0, c_126 hs2 hn]
theorem c_one {F V : Nat} {σ : sw_M} {st asks : Nat → Int32} {k : Nat} {c : Int32} {s s1 : List Int32} (n3 : F + 3 ≠ F + 2) (hs2 : (sw_s (F + 2)).2 = 31) (hask : ∀ j, j < 6 → σ.1 (F + 3) j = asks j) (hst : q_step asks c s = some s1) (hl : s.length ≤ 30) (hrp : rp st s) :
    ∃ st', rp st' s1 ∧ c_body F V (sw_wA σ (F + 2) st) (nI s.length) (nI k) c = some (.inl (nI s1.length, nI (k + 1), sw_wA σ (F + 2) st')) := by
  unfold q_step at hst
  by_cases h33 : c = -33
  · rw [if_pos h33] at hst
    cases s with
    | nil => cases hst
    | cons x t =>
      cases hst
      simp only [List.length_cons] at hl ⊢
      exact ⟨_, rp_push hrp.2, c_not hs2 (by omega) h33 hrp.1⟩
  · rw [if_neg h33] at hst
    by_cases h6 : c < -6
    · rw [if_pos h6] at hst
      match s, hst, hl, hrp with
      | y :: x :: t, hst, hl, hrp =>
        cases hst
        simp only [List.length_cons] at hl ⊢
        exact ⟨_, rp_push hrp.2.2, c_bin (by omega) h33 h6 hrp.2.1 hrp.1⟩
      | [x], hst, _, _ => cases hst
      | [], hst, _, _ => cases hst
    · rw [if_neg h6] at hst
      by_cases hl2 : s.length < 30
      · rw [if_pos hl2] at hst
        cases hst
        simp only [List.length_cons]
        exact ⟨_, rp_push hrp, c_psh n3 hs2 hask (by omega) h33 h6⟩
      · rw [if_neg hl2] at hst
        cases hst
theorem c_end {F V z : Nat} {σ : sw_M} {a3 : Int32} (hz : σ.1 F 2 = nI z) (hz2 : z ≤ 270) : fX2_worth_L28 F V σ a3 (nI z) = some (.inr (σ.1 (F + 2) 0, σ)) := by
  unfold fX2_worth_L28
  rw [hz, if_pos (le_t z (by omega))]
theorem c_evl {σ : sw_M} {F V z : Nat} {asks : Nat → Int32} {w : Int32} (hF : sw_isF F) (hz : σ.1 F 2 = nI z) (hz2 : z ≤ 270) (hask : ∀ j, j < 6 → σ.1 (F + 3) j = asks j) (hrun : q_run asks (σ.1 (F + 1)) z = some [w]) :
    ∃ t : Int32 × sw_M, sw_wh sw_F (fun s => fX2_worth_L28 F V s.2.2 s.1 s.2.1) (0, 0, σ) = some t ∧ (t.1 = w ∧ ∃ st, t.2 = sw_wA σ (F + 2) st) := by
  have n0 : F ≠ F + 2 := by omega
  have n1 : F + 1 ≠ F + 2 := by omega
  have n3 : F + 3 ≠ F + 2 := by omega
  have hs2 : (sw_s (F + 2)).2 = 31 := by rw [hF.p2.2]
  refine wh_gen (b := fun s : Int32 × Int32 × sw_M => fX2_worth_L28 F V s.2.2 s.1 s.2.1) (fun k x => ∃ s st, q_run asks (σ.1 (F + 1)) k = some s ∧ x = (nI s.length, nI k, sw_wA σ (F + 2) st) ∧ rp st s) _ z (fun k x hk hI => ?_) (s0 := ((0 : Int32), (0 : Int32), σ)) ⟨[], σ.1 (F + 2), rfl, Prod.ext rfl (Prod.ext rfl m_self.symm), trivial⟩ (n := sw_F) (F_big (by omega))
  obtain ⟨s, st, hs, rfl, hrp⟩ := hI
  have hz' : (sw_wA σ (F + 2) st).1 F 2 = nI z := by rw [m_ne n0, hz]
  by_cases hkz : k = z
  · rw [hkz, hrun] at hs
    cases hs
    right
    refine ⟨(st 0, sw_wA σ (F + 2) st), ?_, hrp.1, st, rfl⟩
    rw [hkz]
    refine (c_end hz' hz2).trans ?_
    rw [m_eq]
  · left
    have hlt : k < z := by omega
    obtain ⟨s1, hs1⟩ := q_run_all hrun (k + 1) (by omega)
    obtain ⟨s0, h0, hst⟩ := q_run_le hs1
    rw [hs] at h0
    cases h0
    obtain ⟨st', hrp', he⟩ := c_one (F := F) (V := V) (σ := σ) (k := k) n3 hs2 hask hst (q_run_len hs) hrp
    refine ⟨_, (c_pre ?_ ?_ ?_).trans he, ⟨s1, st', hs1, rfl, hrp'⟩, hlt⟩
    · rw [hz']
      exact le_f hlt (by omega)
    · exact in_t (by omega) (by decide)
    · rw [m_ne n1, nI_clamp (by omega)]
