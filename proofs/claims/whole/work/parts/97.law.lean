/-! the law, call after call -/
def okL (a3 : Int32) (o : Option ((Int32 × sw_M) ⊕ Int32)) : Prop := ∃ υ, o = some (.inl (a3 + 6, υ)) ∧ rel υ
section PX
variable {σ : sw_M} {xs : Nat → Int32} {L : Nat} {a3 : Int32}
theorem gd_true {α : Type} {a : Option α} : sw_gd true a = a := sw_gd_t rfl
theorem kl_0 (h : rel σ) : okL a3 (fL_law_L1484 xs L σ a3) := ⟨σ, rfl, h⟩
theorem kl_mm {c : Option (Int32 × sw_M)} {e : sw_M → Option (Int32 × sw_M)} (h : k_mm c e) : okL a3 (sw_b2 c fun r m => sw_b2 (e m) fun r' m' => if r = r' then fL_law_L1484 xs L m' a3 else some (.inr 0)) := by
  obtain ⟨r, τ, υ, h1, h2, h3⟩ := h
  rw [h1, b2_s, h2, b2_s, if_pos rfl]
  exact kl_0 h3
theorem kl_rr {c e : Option Int32} (h : k_rr c e) (hr : rel σ) : okL a3 (sw_b1 c fun r => sw_b1 e fun r' => if r = r' then fL_law_L1484 xs L σ a3 else some (.inr 0)) := by
  obtain ⟨r, h1, h2⟩ := h
  rw [h1, b1_s, h2, b1_s, if_pos rfl]
  exact kl_0 hr
theorem kl_rm {c : Option Int32} {e : Option (Int32 × sw_M)} (h : k_rm c e) : okL a3 (sw_b1 c fun r => sw_b2 e fun r' m' => if r = r' then fL_law_L1484 xs L m' a3 else some (.inr 0)) := by
  obtain ⟨r, υ, h1, h2, h3⟩ := h
  rw [h1, b1_s, h2, b2_s, if_pos rfl]
  exact kl_0 h3
theorem kl_ee {x y : Int32} (h : x = y) (hr : rel σ) : okL a3 (if x = y then fL_law_L1484 xs L σ a3 else some (.inr 0)) := by
  rw [if_pos h]
  exact kl_0 hr
theorem ite_ok {c : Prop} [Decidable c] {x y : Option ((Int32 × sw_M) ⊕ Int32)} (hx : c → okL a3 x) (hy : ¬ c → okL a3 y) : okL a3 (if c then x else y) := by
  by_cases e : c
  · rw [if_pos e]; exact hx e
  · rw [if_neg e]; exact hy e
theorem y248 (h : rel σ) (h1 : sw_in (a3 + 1) L = true) (h2 : sw_in (a3 + 2) L = true) (h3 : sw_in (a3 + 3) L = true) (h4 : sw_in (a3 + 4) L = true) (h5 : sw_in (a3 + 5) L = true) : okL a3 (fL_law_L248 xs L σ a3) := by
  unfold fL_law_L248
  simp only [h1, h2, h3, h4, h5, gd_true]
  exact kl_mm (k_feed _ _ _ _ _ h)
theorem y311 (h : rel σ) (h1 : sw_in (a3 + 1) L = true) (h2 : sw_in (a3 + 2) L = true) (h3 : sw_in (a3 + 3) L = true) (h4 : sw_in (a3 + 4) L = true) (h5 : sw_in (a3 + 5) L = true) : okL a3 (fL_law_L311 xs L σ a3) := by
  unfold fL_law_L311
  simp only [h1, h2, h3, h4, h5, gd_true]
  exact kl_mm (k_end _ h)
theorem y334 (h : rel σ) (h1 : sw_in (a3 + 1) L = true) (h2 : sw_in (a3 + 2) L = true) (h3 : sw_in (a3 + 3) L = true) (h4 : sw_in (a3 + 4) L = true) (h5 : sw_in (a3 + 5) L = true) : okL a3 (fL_law_L334 xs L σ a3) := by
  unfold fL_law_L334
  exact kl_mm (k_works h)
theorem y347 (h : rel σ) (h1 : sw_in (a3 + 1) L = true) (h2 : sw_in (a3 + 2) L = true) (h3 : sw_in (a3 + 3) L = true) (h4 : sw_in (a3 + 4) L = true) (h5 : sw_in (a3 + 5) L = true) : okL a3 (fL_law_L347 xs L σ a3) := by
  unfold fL_law_L347
  simp only [h1, h2, h3, h4, h5, gd_true]
  exact kl_ee (k_fault _ h) h
theorem y370 (h : rel σ) (h1 : sw_in (a3 + 1) L = true) (h2 : sw_in (a3 + 2) L = true) (h3 : sw_in (a3 + 3) L = true) (h4 : sw_in (a3 + 4) L = true) (h5 : sw_in (a3 + 5) L = true) : okL a3 (fL_law_L370 xs L σ a3) := by
  unfold fL_law_L370
  simp only [h1, h2, h3, h4, h5, gd_true]
  exact kl_rr (k_vat _ h) h
theorem y393 (h : rel σ) (h1 : sw_in (a3 + 1) L = true) (h2 : sw_in (a3 + 2) L = true) (h3 : sw_in (a3 + 3) L = true) (h4 : sw_in (a3 + 4) L = true) (h5 : sw_in (a3 + 5) L = true) : okL a3 (fL_law_L393 xs L σ a3) := by
  unfold fL_law_L393
  simp only [h1, h2, h3, h4, h5, gd_true]
  exact kl_rr (k_mind _ _ h) h
theorem y426 (h : rel σ) (h1 : sw_in (a3 + 1) L = true) (h2 : sw_in (a3 + 2) L = true) (h3 : sw_in (a3 + 3) L = true) (h4 : sw_in (a3 + 4) L = true) (h5 : sw_in (a3 + 5) L = true) : okL a3 (fL_law_L426 xs L σ a3) := by
  unfold fL_law_L426
  simp only [h1, h2, h3, h4, h5, gd_true]
  exact kl_rr (k_wants _ _ h) h
theorem y459 (h : rel σ) (h1 : sw_in (a3 + 1) L = true) (h2 : sw_in (a3 + 2) L = true) (h3 : sw_in (a3 + 3) L = true) (h4 : sw_in (a3 + 4) L = true) (h5 : sw_in (a3 + 5) L = true) : okL a3 (fL_law_L459 xs L σ a3) := by
  unfold fL_law_L459
  simp only [h1, h2, h3, h4, h5, gd_true]
  exact kl_rr (k_rule _ _ h) h
theorem y492 (h : rel σ) (h1 : sw_in (a3 + 1) L = true) (h2 : sw_in (a3 + 2) L = true) (h3 : sw_in (a3 + 3) L = true) (h4 : sw_in (a3 + 4) L = true) (h5 : sw_in (a3 + 5) L = true) : okL a3 (fL_law_L492 xs L σ a3) := by
  unfold fL_law_L492
  simp only [h1, h2, h3, h4, h5, gd_true]
  exact kl_mm (k_confess _ h)
theorem y515 (h : rel σ) (h1 : sw_in (a3 + 1) L = true) (h2 : sw_in (a3 + 2) L = true) (h3 : sw_in (a3 + 3) L = true) (h4 : sw_in (a3 + 4) L = true) (h5 : sw_in (a3 + 5) L = true) : okL a3 (fL_law_L515 xs L σ a3) := by
  unfold fL_law_L515
  exact kl_mm (k_boil h)
theorem y528 (h : rel σ) (h1 : sw_in (a3 + 1) L = true) (h2 : sw_in (a3 + 2) L = true) (h3 : sw_in (a3 + 3) L = true) (h4 : sw_in (a3 + 4) L = true) (h5 : sw_in (a3 + 5) L = true) : okL a3 (fL_law_L528 xs L σ a3) := by
  unfold fL_law_L528
  simp only [h1, h2, h3, h4, h5, gd_true]
  exact kl_mm (k_wash _ h)
theorem y551 (h : rel σ) (h1 : sw_in (a3 + 1) L = true) (h2 : sw_in (a3 + 2) L = true) (h3 : sw_in (a3 + 3) L = true) (h4 : sw_in (a3 + 4) L = true) (h5 : sw_in (a3 + 5) L = true) : okL a3 (fL_law_L551 xs L σ a3) := by
  unfold fL_law_L551
  simp only [h1, h2, h3, h4, h5, gd_true]
  exact kl_mm (k_sweep _ h)
theorem y574 (h : rel σ) (h1 : sw_in (a3 + 1) L = true) (h2 : sw_in (a3 + 2) L = true) (h3 : sw_in (a3 + 3) L = true) (h4 : sw_in (a3 + 4) L = true) (h5 : sw_in (a3 + 5) L = true) : okL a3 (fL_law_L574 xs L σ a3) := by
  unfold fL_law_L574
  exact kl_mm (k_undo h)
theorem y587 (h : rel σ) (h1 : sw_in (a3 + 1) L = true) (h2 : sw_in (a3 + 2) L = true) (h3 : sw_in (a3 + 3) L = true) (h4 : sw_in (a3 + 4) L = true) (h5 : sw_in (a3 + 5) L = true) : okL a3 (fL_law_L587 xs L σ a3) := by
  unfold fL_law_L587
  exact kl_mm (k_redo h)
theorem y600 (h : rel σ) (h1 : sw_in (a3 + 1) L = true) (h2 : sw_in (a3 + 2) L = true) (h3 : sw_in (a3 + 3) L = true) (h4 : sw_in (a3 + 4) L = true) (h5 : sw_in (a3 + 5) L = true) : okL a3 (fL_law_L600 xs L σ a3) := by
  unfold fL_law_L600
  simp only [h1, h2, h3, h4, h5, gd_true]
  exact kl_mm (k_will _ _ _ h)
theorem y643 (h : rel σ) (h1 : sw_in (a3 + 1) L = true) (h2 : sw_in (a3 + 2) L = true) (h3 : sw_in (a3 + 3) L = true) (h4 : sw_in (a3 + 4) L = true) (h5 : sw_in (a3 + 5) L = true) : okL a3 (fL_law_L643 xs L σ a3) := by
  unfold fL_law_L643
  exact kl_mm (k_rise h)
theorem y656 (h : rel σ) (h1 : sw_in (a3 + 1) L = true) (h2 : sw_in (a3 + 2) L = true) (h3 : sw_in (a3 + 3) L = true) (h4 : sw_in (a3 + 4) L = true) (h5 : sw_in (a3 + 5) L = true) : okL a3 (fL_law_L656 xs L σ a3) := by
  unfold fL_law_L656
  simp only [h1, h2, h3, h4, h5, gd_true]
  exact kl_mm (k_rouser _ h)
theorem y679 (h : rel σ) (h1 : sw_in (a3 + 1) L = true) (h2 : sw_in (a3 + 2) L = true) (h3 : sw_in (a3 + 3) L = true) (h4 : sw_in (a3 + 4) L = true) (h5 : sw_in (a3 + 5) L = true) : okL a3 (fL_law_L679 xs L σ a3) := by
  unfold fL_law_L679
  simp only [h1, h2, h3, h4, h5, gd_true]
  exact kl_mm (k_choir _ _ h)
theorem y712 (h : rel σ) (h1 : sw_in (a3 + 1) L = true) (h2 : sw_in (a3 + 2) L = true) (h3 : sw_in (a3 + 3) L = true) (h4 : sw_in (a3 + 4) L = true) (h5 : sw_in (a3 + 5) L = true) : okL a3 (fL_law_L712 xs L σ a3) := by
  unfold fL_law_L712
  simp only [h1, h2, h3, h4, h5, gd_true]
  exact kl_mm (k_power _ h)
theorem y735 (h : rel σ) (h1 : sw_in (a3 + 1) L = true) (h2 : sw_in (a3 + 2) L = true) (h3 : sw_in (a3 + 3) L = true) (h4 : sw_in (a3 + 4) L = true) (h5 : sw_in (a3 + 5) L = true) : okL a3 (fL_law_L735 xs L σ a3) := by
  unfold fL_law_L735
  simp only [h1, h2, h3, h4, h5, gd_true]
  exact kl_rr (k_serve _ h) h
theorem y758 (h : rel σ) (h1 : sw_in (a3 + 1) L = true) (h2 : sw_in (a3 + 2) L = true) (h3 : sw_in (a3 + 3) L = true) (h4 : sw_in (a3 + 4) L = true) (h5 : sw_in (a3 + 5) L = true) : okL a3 (fL_law_L758 xs L σ a3) := by
  unfold fL_law_L758
  simp only [h1, h2, h3, h4, h5, gd_true]
  exact kl_mm (k_balm _ _ h)
theorem y791 (h : rel σ) (h1 : sw_in (a3 + 1) L = true) (h2 : sw_in (a3 + 2) L = true) (h3 : sw_in (a3 + 3) L = true) (h4 : sw_in (a3 + 4) L = true) (h5 : sw_in (a3 + 5) L = true) : okL a3 (fL_law_L791 xs L σ a3) := by
  unfold fL_law_L791
  simp only [h1, h2, h3, h4, h5, gd_true]
  exact kl_mm (k_cook _ h)
theorem y814 (h : rel σ) (h1 : sw_in (a3 + 1) L = true) (h2 : sw_in (a3 + 2) L = true) (h3 : sw_in (a3 + 3) L = true) (h4 : sw_in (a3 + 4) L = true) (h5 : sw_in (a3 + 5) L = true) : okL a3 (fL_law_L814 xs L σ a3) := by
  unfold fL_law_L814
  simp only [h1, h2, h3, h4, h5, gd_true]
  exact kl_rr (k_lacks _ h) h
theorem y837 (h : rel σ) (h1 : sw_in (a3 + 1) L = true) (h2 : sw_in (a3 + 2) L = true) (h3 : sw_in (a3 + 3) L = true) (h4 : sw_in (a3 + 4) L = true) (h5 : sw_in (a3 + 5) L = true) : okL a3 (fL_law_L837 xs L σ a3) := by
  unfold fL_law_L837
  exact kl_mm (k_rest h)
theorem y850 (h : rel σ) (h1 : sw_in (a3 + 1) L = true) (h2 : sw_in (a3 + 2) L = true) (h3 : sw_in (a3 + 3) L = true) (h4 : sw_in (a3 + 4) L = true) (h5 : sw_in (a3 + 5) L = true) : okL a3 (fL_law_L850 xs L σ a3) := by
  unfold fL_law_L850
  simp only [h1, h2, h3, h4, h5, gd_true]
  exact kl_mm (k_order _ h)
theorem y873 (h : rel σ) (h1 : sw_in (a3 + 1) L = true) (h2 : sw_in (a3 + 2) L = true) (h3 : sw_in (a3 + 3) L = true) (h4 : sw_in (a3 + 4) L = true) (h5 : sw_in (a3 + 5) L = true) : okL a3 (fL_law_L873 xs L σ a3) := by
  unfold fL_law_L873
  simp only [h1, h2, h3, h4, h5, gd_true]
  exact kl_rr (k_comes _ h) h
theorem y896 (h : rel σ) (h1 : sw_in (a3 + 1) L = true) (h2 : sw_in (a3 + 2) L = true) (h3 : sw_in (a3 + 3) L = true) (h4 : sw_in (a3 + 4) L = true) (h5 : sw_in (a3 + 5) L = true) : okL a3 (fL_law_L896 xs L σ a3) := by
  unfold fL_law_L896
  simp only [h1, h2, h3, h4, h5, gd_true]
  exact kl_rr (k_steps _ _ h) h
theorem y929 (h : rel σ) (h1 : sw_in (a3 + 1) L = true) (h2 : sw_in (a3 + 2) L = true) (h3 : sw_in (a3 + 3) L = true) (h4 : sw_in (a3 + 4) L = true) (h5 : sw_in (a3 + 5) L = true) : okL a3 (fL_law_L929 xs L σ a3) := by
  unfold fL_law_L929
  simp only [h1, h2, h3, h4, h5, gd_true]
  exact kl_mm (k_duel _ _ h)
theorem y962 (h : rel σ) (h1 : sw_in (a3 + 1) L = true) (h2 : sw_in (a3 + 2) L = true) (h3 : sw_in (a3 + 3) L = true) (h4 : sw_in (a3 + 4) L = true) (h5 : sw_in (a3 + 5) L = true) : okL a3 (fL_law_L962 xs L σ a3) := by
  unfold fL_law_L962
  exact kl_rr (k_nearest h) h
theorem y975 (h : rel σ) (h1 : sw_in (a3 + 1) L = true) (h2 : sw_in (a3 + 2) L = true) (h3 : sw_in (a3 + 3) L = true) (h4 : sw_in (a3 + 4) L = true) (h5 : sw_in (a3 + 5) L = true) : okL a3 (fL_law_L975 xs L σ a3) := by
  unfold fL_law_L975
  simp only [h1, h2, h3, h4, h5, gd_true]
  exact kl_rr (k_wanted _ h) h
theorem y998 (h : rel σ) (h1 : sw_in (a3 + 1) L = true) (h2 : sw_in (a3 + 2) L = true) (h3 : sw_in (a3 + 3) L = true) (h4 : sw_in (a3 + 4) L = true) (h5 : sw_in (a3 + 5) L = true) : okL a3 (fL_law_L998 xs L σ a3) := by
  unfold fL_law_L998
  simp only [h1, h2, h3, h4, h5, gd_true]
  exact kl_rr (k_sinners _ h) h
theorem y1021 (h : rel σ) (h1 : sw_in (a3 + 1) L = true) (h2 : sw_in (a3 + 2) L = true) (h3 : sw_in (a3 + 3) L = true) (h4 : sw_in (a3 + 4) L = true) (h5 : sw_in (a3 + 5) L = true) : okL a3 (fL_law_L1021 xs L σ a3) := by
  unfold fL_law_L1021
  exact kl_rr (k_inert h) h
theorem y1034 (h : rel σ) (h1 : sw_in (a3 + 1) L = true) (h2 : sw_in (a3 + 2) L = true) (h3 : sw_in (a3 + 3) L = true) (h4 : sw_in (a3 + 4) L = true) (h5 : sw_in (a3 + 5) L = true) : okL a3 (fL_law_L1034 xs L σ a3) := by
  unfold fL_law_L1034
  exact kl_rm (k_alive h)
theorem y1047 (h : rel σ) (h1 : sw_in (a3 + 1) L = true) (h2 : sw_in (a3 + 2) L = true) (h3 : sw_in (a3 + 3) L = true) (h4 : sw_in (a3 + 4) L = true) (h5 : sw_in (a3 + 5) L = true) : okL a3 (fL_law_L1047 xs L σ a3) := by
  unfold fL_law_L1047
  exact kl_rr (k_thickest h) h
theorem y1060 (h : rel σ) (h1 : sw_in (a3 + 1) L = true) (h2 : sw_in (a3 + 2) L = true) (h3 : sw_in (a3 + 3) L = true) (h4 : sw_in (a3 + 4) L = true) (h5 : sw_in (a3 + 5) L = true) : okL a3 (fL_law_L1060 xs L σ a3) := by
  unfold fL_law_L1060
  exact kl_rr (k_thinnest h) h
theorem y1073 (h : rel σ) (h1 : sw_in (a3 + 1) L = true) (h2 : sw_in (a3 + 2) L = true) (h3 : sw_in (a3 + 3) L = true) (h4 : sw_in (a3 + 4) L = true) (h5 : sw_in (a3 + 5) L = true) : okL a3 (fL_law_L1073 xs L σ a3) := by
  unfold fL_law_L1073
  simp only [h1, h2, h3, h4, h5, gd_true]
  exact kl_rr (k_makers _ h) h
theorem y1096 (h : rel σ) (h1 : sw_in (a3 + 1) L = true) (h2 : sw_in (a3 + 2) L = true) (h3 : sw_in (a3 + 3) L = true) (h4 : sw_in (a3 + 4) L = true) (h5 : sw_in (a3 + 5) L = true) : okL a3 (fL_law_L1096 xs L σ a3) := by
  unfold fL_law_L1096
  exact kl_rr (k_heaviest h) h
theorem y1109 (h : rel σ) (h1 : sw_in (a3 + 1) L = true) (h2 : sw_in (a3 + 2) L = true) (h3 : sw_in (a3 + 3) L = true) (h4 : sw_in (a3 + 4) L = true) (h5 : sw_in (a3 + 5) L = true) : okL a3 (fL_law_L1109 xs L σ a3) := by
  unfold fL_law_L1109
  simp only [h1, h2, h3, h4, h5, gd_true]
  exact kl_mm (k_law _ h)
theorem y1132 (h : rel σ) (h1 : sw_in (a3 + 1) L = true) (h2 : sw_in (a3 + 2) L = true) (h3 : sw_in (a3 + 3) L = true) (h4 : sw_in (a3 + 4) L = true) (h5 : sw_in (a3 + 5) L = true) : okL a3 (fL_law_L1132 xs L σ a3) := by
  unfold fL_law_L1132
  exact kl_rm (k_mission h)
theorem y1145 (h : rel σ) (h1 : sw_in (a3 + 1) L = true) (h2 : sw_in (a3 + 2) L = true) (h3 : sw_in (a3 + 3) L = true) (h4 : sw_in (a3 + 4) L = true) (h5 : sw_in (a3 + 5) L = true) : okL a3 (fL_law_L1145 xs L σ a3) := by
  unfold fL_law_L1145
  simp only [h1, h2, h3, h4, h5, gd_true]
  exact kl_rr (k_odds _ _ h) h
theorem y1178 (h : rel σ) (h1 : sw_in (a3 + 1) L = true) (h2 : sw_in (a3 + 2) L = true) (h3 : sw_in (a3 + 3) L = true) (h4 : sw_in (a3 + 4) L = true) (h5 : sw_in (a3 + 5) L = true) : okL a3 (fL_law_L1178 xs L σ a3) := by
  unfold fL_law_L1178
  simp only [h1, h2, h3, h4, h5, gd_true]
  exact kl_rr (k_lies _ h) h
theorem y1270 (h : rel σ) (h1 : sw_in (a3 + 1) L = true) (h2 : sw_in (a3 + 2) L = true) (h3 : sw_in (a3 + 3) L = true) (h4 : sw_in (a3 + 4) L = true) (h5 : sw_in (a3 + 5) L = true) : okL a3 (fL_law_L1270 xs L σ a3) := by
  unfold fL_law_L1270
  simp only [h1, h2, h3, h4, h5, gd_true]
  exact kl_mm (k_untell _ h)
theorem y1293 (h : rel σ) (h1 : sw_in (a3 + 1) L = true) (h2 : sw_in (a3 + 2) L = true) (h3 : sw_in (a3 + 3) L = true) (h4 : sw_in (a3 + 4) L = true) (h5 : sw_in (a3 + 5) L = true) : okL a3 (fL_law_L1293 xs L σ a3) := by
  unfold fL_law_L1293
  simp only [h1, h2, h3, h4, h5, gd_true]
  exact kl_mm (k_later _ h)
theorem y1316 (h : rel σ) (h1 : sw_in (a3 + 1) L = true) (h2 : sw_in (a3 + 2) L = true) (h3 : sw_in (a3 + 3) L = true) (h4 : sw_in (a3 + 4) L = true) (h5 : sw_in (a3 + 5) L = true) : okL a3 (fL_law_L1316 xs L σ a3) := by
  unfold fL_law_L1316
  simp only [h1, h2, h3, h4, h5, gd_true]
  exact kl_mm (k_fits _ h)
theorem y1339 (h : rel σ) (h1 : sw_in (a3 + 1) L = true) (h2 : sw_in (a3 + 2) L = true) (h3 : sw_in (a3 + 3) L = true) (h4 : sw_in (a3 + 4) L = true) (h5 : sw_in (a3 + 5) L = true) : okL a3 (fL_law_L1339 xs L σ a3) := by
  unfold fL_law_L1339
  simp only [h1, h2, h3, h4, h5, gd_true]
  exact kl_mm (k_sure _ _ h)
theorem y1372 (h : rel σ) (h1 : sw_in (a3 + 1) L = true) (h2 : sw_in (a3 + 2) L = true) (h3 : sw_in (a3 + 3) L = true) (h4 : sw_in (a3 + 4) L = true) (h5 : sw_in (a3 + 5) L = true) : okL a3 (fL_law_L1372 xs L σ a3) := by
  unfold fL_law_L1372
  simp only [h1, h2, h3, h4, h5, gd_true]
  exact kl_mm (k_ask _ _ _ h)
theorem y1415 (h : rel σ) (h1 : sw_in (a3 + 1) L = true) (h2 : sw_in (a3 + 2) L = true) (h3 : sw_in (a3 + 3) L = true) (h4 : sw_in (a3 + 4) L = true) (h5 : sw_in (a3 + 5) L = true) : okL a3 (fL_law_L1415 xs L σ a3) := by
  unfold fL_law_L1415
  simp only [h1, h2, h3, h4, h5, gd_true]
  exact kl_mm (k_image _ h)
theorem y1438 (h : rel σ) (h1 : sw_in (a3 + 1) L = true) (h2 : sw_in (a3 + 2) L = true) (h3 : sw_in (a3 + 3) L = true) (h4 : sw_in (a3 + 4) L = true) (h5 : sw_in (a3 + 5) L = true) : okL a3 (fL_law_L1438 xs L σ a3) := by
  unfold fL_law_L1438
  simp only [h1, h2, h3, h4, h5, gd_true]
  exact kl_mm (k_back _ h)
theorem y1461 (h : rel σ) (h1 : sw_in (a3 + 1) L = true) (h2 : sw_in (a3 + 2) L = true) (h3 : sw_in (a3 + 3) L = true) (h4 : sw_in (a3 + 4) L = true) (h5 : sw_in (a3 + 5) L = true) : okL a3 (fL_law_L1461 xs L σ a3) := by
  unfold fL_law_L1461
  simp only [h1, h2, h3, h4, h5, gd_true]
  exact kl_ee (k_about _ h) h
theorem y1230 {d : Int32} (h : rel σ) (hd : d = 0 ∨ d = 1) (hx : (xs (a3 + 4).toNatClampNeg = 0 ∧ d = 0) ∨ (¬ xs (a3 + 4).toNatClampNeg = 0 ∧ d = 1)) (h1 : sw_in (a3 + 1) L = true) (h2 : sw_in (a3 + 2) L = true) (h3 : sw_in (a3 + 3) L = true) (h4 : sw_in (a3 + 4) L = true) (h5 : sw_in (a3 + 5) L = true) : okL a3 (fL_law_L1230 xs L σ a3 d (xs (a3 + 3).toNatClampNeg) (xs (a3 + 2).toNatClampNeg) (xs (a3 + 1).toNatClampNeg)) := by
  obtain ⟨r, τ, υ, e1, e2, e3⟩ := k_seen (xs (a3 + 1).toNatClampNeg) (xs (a3 + 2).toNatClampNeg) (xs (a3 + 3).toNatClampNeg) d hd h
  have e2 : fX10_seen τ (xs (a3 + 1).toNatClampNeg) (xs (a3 + 2).toNatClampNeg) (xs (a3 + 3).toNatClampNeg) d = some (r, υ) := e2
  unfold fL_law_L1230
  simp only [h1, h2, h3, h4, h5, gd_true]
  rw [e1, b2_s]
  rcases hx with ⟨x, rfl⟩ | ⟨x, rfl⟩
  · rw [if_pos x, fL_law_L1262, e2, b2_s, if_pos rfl]
    exact kl_0 e3
  · rw [if_neg x, fL_law_L1262, e2, b2_s, if_pos rfl]
    exact kl_0 e3
theorem y1201 (h : rel σ) (h1 : sw_in (a3 + 1) L = true) (h2 : sw_in (a3 + 2) L = true) (h3 : sw_in (a3 + 3) L = true) (h4 : sw_in (a3 + 4) L = true) (h5 : sw_in (a3 + 5) L = true) : okL a3 (fL_law_L1201 xs L σ a3) := by
  unfold fL_law_L1201
  simp only [h1, h2, h3, h4, h5, gd_true]
  by_cases x : xs (a3 + 4).toNatClampNeg = 0
  · rw [if_pos x]
    exact y1230 h (.inl rfl) (.inl ⟨x, rfl⟩) h1 h2 h3 h4 h5
  · rw [if_neg x]
    exact y1230 h (.inr rfl) (.inr ⟨x, rfl⟩) h1 h2 h3 h4 h5
theorem y18 (h : rel σ) (h0 : sw_in a3 L = true) (h1 : sw_in (a3 + 1) L = true) (h2 : sw_in (a3 + 2) L = true) (h3 : sw_in (a3 + 3) L = true) (h4 : sw_in (a3 + 4) L = true) (h5 : sw_in (a3 + 5) L = true) (hlt : ¬ ((Int32.ofNat L) - 6) < a3) : okL a3 (fL_law_L18 xs L σ a3) := by
  unfold fL_law_L18
  rw [if_neg hlt, sw_gd_t h0, let_s]
  refine ite_ok (fun _ => y248 h h1 h2 h3 h4 h5) (fun _ => ?_)
  refine ite_ok (fun _ => y311 h h1 h2 h3 h4 h5) (fun _ => ?_)
  refine ite_ok (fun _ => y334 h h1 h2 h3 h4 h5) (fun _ => ?_)
  refine ite_ok (fun _ => y347 h h1 h2 h3 h4 h5) (fun _ => ?_)
  refine ite_ok (fun _ => y370 h h1 h2 h3 h4 h5) (fun _ => ?_)
  refine ite_ok (fun _ => y393 h h1 h2 h3 h4 h5) (fun _ => ?_)
  refine ite_ok (fun _ => y426 h h1 h2 h3 h4 h5) (fun _ => ?_)
  refine ite_ok (fun _ => y459 h h1 h2 h3 h4 h5) (fun _ => ?_)
  refine ite_ok (fun _ => y492 h h1 h2 h3 h4 h5) (fun _ => ?_)
  refine ite_ok (fun _ => y515 h h1 h2 h3 h4 h5) (fun _ => ?_)
  refine ite_ok (fun _ => y528 h h1 h2 h3 h4 h5) (fun _ => ?_)
  refine ite_ok (fun _ => y551 h h1 h2 h3 h4 h5) (fun _ => ?_)
  refine ite_ok (fun _ => y574 h h1 h2 h3 h4 h5) (fun _ => ?_)
  refine ite_ok (fun _ => y587 h h1 h2 h3 h4 h5) (fun _ => ?_)
  refine ite_ok (fun _ => y600 h h1 h2 h3 h4 h5) (fun _ => ?_)
  refine ite_ok (fun _ => y643 h h1 h2 h3 h4 h5) (fun _ => ?_)
  refine ite_ok (fun _ => y656 h h1 h2 h3 h4 h5) (fun _ => ?_)
  refine ite_ok (fun _ => y679 h h1 h2 h3 h4 h5) (fun _ => ?_)
  refine ite_ok (fun _ => y712 h h1 h2 h3 h4 h5) (fun _ => ?_)
  refine ite_ok (fun _ => y735 h h1 h2 h3 h4 h5) (fun _ => ?_)
  refine ite_ok (fun _ => y758 h h1 h2 h3 h4 h5) (fun _ => ?_)
  refine ite_ok (fun _ => y791 h h1 h2 h3 h4 h5) (fun _ => ?_)
  refine ite_ok (fun _ => y814 h h1 h2 h3 h4 h5) (fun _ => ?_)
  refine ite_ok (fun _ => y837 h h1 h2 h3 h4 h5) (fun _ => ?_)
  refine ite_ok (fun _ => y850 h h1 h2 h3 h4 h5) (fun _ => ?_)
  refine ite_ok (fun _ => y873 h h1 h2 h3 h4 h5) (fun _ => ?_)
  refine ite_ok (fun _ => y896 h h1 h2 h3 h4 h5) (fun _ => ?_)
  refine ite_ok (fun _ => y929 h h1 h2 h3 h4 h5) (fun _ => ?_)
  refine ite_ok (fun _ => y962 h h1 h2 h3 h4 h5) (fun _ => ?_)
  refine ite_ok (fun _ => y975 h h1 h2 h3 h4 h5) (fun _ => ?_)
  refine ite_ok (fun _ => y998 h h1 h2 h3 h4 h5) (fun _ => ?_)
  refine ite_ok (fun _ => y1021 h h1 h2 h3 h4 h5) (fun _ => ?_)
  refine ite_ok (fun _ => y1034 h h1 h2 h3 h4 h5) (fun _ => ?_)
  refine ite_ok (fun _ => y1047 h h1 h2 h3 h4 h5) (fun _ => ?_)
  refine ite_ok (fun _ => y1060 h h1 h2 h3 h4 h5) (fun _ => ?_)
  refine ite_ok (fun _ => y1073 h h1 h2 h3 h4 h5) (fun _ => ?_)
  refine ite_ok (fun _ => y1096 h h1 h2 h3 h4 h5) (fun _ => ?_)
  refine ite_ok (fun _ => y1109 h h1 h2 h3 h4 h5) (fun _ => ?_)
  refine ite_ok (fun _ => y1132 h h1 h2 h3 h4 h5) (fun _ => ?_)
  refine ite_ok (fun _ => y1145 h h1 h2 h3 h4 h5) (fun _ => ?_)
  refine ite_ok (fun _ => y1178 h h1 h2 h3 h4 h5) (fun _ => ?_)
  refine ite_ok (fun _ => y1201 h h1 h2 h3 h4 h5) (fun _ => ?_)
  refine ite_ok (fun _ => y1270 h h1 h2 h3 h4 h5) (fun _ => ?_)
  refine ite_ok (fun _ => y1293 h h1 h2 h3 h4 h5) (fun _ => ?_)
  refine ite_ok (fun _ => y1316 h h1 h2 h3 h4 h5) (fun _ => ?_)
  refine ite_ok (fun _ => y1339 h h1 h2 h3 h4 h5) (fun _ => ?_)
  refine ite_ok (fun _ => y1372 h h1 h2 h3 h4 h5) (fun _ => ?_)
  refine ite_ok (fun _ => y1415 h h1 h2 h3 h4 h5) (fun _ => ?_)
  refine ite_ok (fun _ => y1438 h h1 h2 h3 h4 h5) (fun _ => ?_)
  refine ite_ok (fun _ => y1461 h h1 h2 h3 h4 h5) (fun _ => ?_)
  exact kl_0 h
end PX
theorem rel_0 : rel sw_0 := by
  refine ⟨16, 0, 0, 0, 0, 0, fun _ => 0, fun _ => 0, ⟨rfl, by decide, ⟨rfl, by omega, rfl, by omega, fun r hr => absurd hr (by omega), rfl, by omega, fun x => absurd x (by omega)⟩, ⟨rfl, by omega, rfl, by omega, fun r hr => absurd hr (by omega), rfl, by omega, fun x => absurd x (by omega), ⟨fun _ => rfl, fun _ => rfl⟩, fun k hk => absurd hk (by omega)⟩, ⟨rfl, rfl, by omega⟩, ⟨rfl, rfl, by omega⟩, ⟨fun r hr => absurd hr (by omega), fun r c hr => absurd hr (by omega)⟩, fun p j hp => absurd hp (by omega), fun p j hp => absurd hp (by omega), ⟨0, by omega, rfl, rfl⟩, rfl, fun _ k hk => absurd hk (by omega), fun x => absurd x (by omega)⟩, ⟨?_, ⟨fun j _ hj => ?_, ⟨0, by decide, rfl, fun _ => 0, fun j hj => absurd hj (by omega), fun _ _ => Nat.zero_le _, Nat.zero_le _⟩, ⟨0, by decide, rfl⟩, ⟨0, by omega, rfl⟩⟩⟩, ⟨0, 0, rfl, rfl, rfl, rfl, ⟨⟨by omega, by omega, fun j hj => absurd hj (by omega), fun j _ hj => absurd hj (by omega)⟩, fun x => absurd x (by omega)⟩, fun j hj => absurd hj (by omega)⟩, fun i hi => ⟨rfl, fun x => absurd rfl x⟩, ⟨0, by omega, rfl, rfl, fun i hi => absurd hi (by omega)⟩, ⟨⟨0, by omega, rfl, rfl, fun i hi => absurd hi (by omega)⟩, fun x => absurd rfl x⟩, ⟨0, by omega, rfl, rfl⟩, ⟨rfl, rfl⟩, ⟨0, by omega, rfl, rfl, fun j hj => absurd hj (by omega)⟩, fun k hk => rfl⟩
  · funext j
    unfold pk ck
    by_cases a : j < 5
    · rw [if_pos a, if_pos (by omega)]; rfl
    · rw [if_neg a]
      by_cases b : j < 10
      · rw [if_pos b, if_pos b]; rfl
      · rw [if_neg b, if_neg b]
  · unfold ck
    rw [if_pos (by omega)]
    rfl
theorem L6 {L a : Nat} (hL : L ≤ 3072) (ha : a < 100000) (h : ¬ ((Int32.ofNat L) - 6) < nI a) : a + 6 ≤ L := by
  by_cases h6 : L < 6
  · have key : ∀ L, L < 6 → Int32.ofNat L - 6 < 0 := by decide
    exact absurd (Int32.lt_of_lt_of_le (key L h6) (nI_pos' (by omega))) h
  · obtain ⟨M, rfl⟩ : ∃ M, L = M + 6 := ⟨L - 6, by omega⟩
    have e : Int32.ofNat (M + 6) - 6 = nI M := by
      have : Int32.ofNat (M + 6) = nI M + 6 := (nI_add M 6).symm
      rw [this, Int32.add_sub_cancel]
    rw [e] at h
    refine Nat.le_of_not_lt fun x => h (nI_lt (by omega) (by omega))
theorem all_ok : sw_pure := by
  intro L xs hL
  have key := wh_gen (b := fun s : Int32 × sw_M => fL_law_L18 xs L s.2 s.1) (fun k s => s.1 = nI (6 * k) ∧ rel s.2) (fun t : Int32 => t = 1) (L / 6 + 1) (fun k s hk hI => ?_) (s0 := ((0 : Int32), sw_0)) ⟨rfl, rel_0⟩ (n := sw_F) (by unfold sw_F; omega)
  · obtain ⟨t, h1, rfl⟩ := key
    exact h1
  · obtain ⟨a, σ⟩ := s
    obtain ⟨e, hr⟩ := hI
    have e : a = nI (6 * k) := e
    have hr : rel σ := hr
    subst e
    show (∃ s', fL_law_L18 xs L σ (nI (6 * k)) = some (.inl s') ∧ _) ∨ (∃ t, fL_law_L18 xs L σ (nI (6 * k)) = some (.inr t) ∧ _)
    by_cases hlt : ((Int32.ofNat L) - 6) < nI (6 * k)
    · exact .inr ⟨1, by unfold fL_law_L18; rw [if_pos hlt], rfl⟩
    · have h6 := L6 hL (by omega) hlt
      have g : ∀ j, j < 6 → sw_in (nI (6 * k + j)) L = true := fun j hj => in_t (by omega) (by omega)
      have ej : ∀ j, nI (6 * k) + nI j = nI (6 * k + j) := fun j => nI_add (6 * k) j
      obtain ⟨υ, x1, x2⟩ := y18 (xs := xs) (a3 := nI (6 * k)) hr (g 0 (by omega)) (by rw [show (1 : Int32) = nI 1 from rfl, ej]; exact g 1 (by omega)) (by rw [show (2 : Int32) = nI 2 from rfl, ej]; exact g 2 (by omega)) (by rw [show (3 : Int32) = nI 3 from rfl, ej]; exact g 3 (by omega)) (by rw [show (4 : Int32) = nI 4 from rfl, ej]; exact g 4 (by omega)) (by rw [show (5 : Int32) = nI 5 from rfl, ej]; exact g 5 (by omega)) hlt
      refine .inl ⟨_, x1, ⟨?_, x2⟩, by omega⟩
      show nI (6 * k) + 6 = nI (6 * (k + 1))
      rw [show (6 : Int32) = nI 6 from rfl, ej, show 6 * k + 6 = 6 * (k + 1) by omega]
