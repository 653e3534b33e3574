def fX4_needs (P0 : Nat) (σ : sw_M) (a1 : Int32) (a2 : Int32) : Option (Int32) :=
  sw_gd (sw_in ((a1 * 5) + a2) 20) <|
  some (σ.1 (P0 + 5) ((a1 * 5) + a2).toNatClampNeg)
set_option maxRecDepth 20000 in
theorem sX4_needs {l : Launch} {E : sw_E} {K : Nat} (hK : 0 ≤ K) (P0 : Nat) (hP0 : sw_isP P0) (σ : sw_M) (a1 : Int32) (a2 : Int32) {res : Int32} (h : fX4_needs P0 σ a1 a2 = some res) : sw_Ct l E K yX4_needs cX4_needs 3 (some .int) [.ref P0, .int a1, .int a2] σ (some (.int res)) σ := by
  obtain ⟨t, hk, h⟩ : ∃ t, t = res ∧ fX4_needs P0 σ a1 a2 = some t := ⟨res, rfl, h⟩
  unfold fX4_needs at h
  refine sw_enter2 (own := RX4) (lv := [(0, .ref P0), (1, .int a1), (2, .int a2)]) (by decide +kernel) (Nat.le_of_ble_eq_true rfl) rfl rfl ?_
  refine sw_aload_n (k0 := 0) 0 rfl (by decide +kernel) rfl ?_
  refine gf_X4_25 (i := P0) hP0.o.1 hP0.o.2 (by decide +kernel) ?_
  refine sw_iload_n (k0 := 1) 1 rfl (by decide +kernel) rfl ?_
  refine sw_iconst (n := 5) (v := 5) (by decide +kernel) (by decide) ?_
  refine sw_imul (by decide +kernel) ?_
  refine sw_iload_n (k0 := 2) 2 rfl (by decide +kernel) rfl ?_
  refine sw_iadd (by decide +kernel) ?_
  obtain ⟨g1, h⟩ := sw_gd_e h
  refine sw_iaload (a := (P0 + 5)) hP0.p5.1 hP0.p5.2 (sw_in_e g1) (by decide +kernel) ?_
  cases h
  obtain rfl : _ = res := hk
  exact sw_iret (by decide +kernel)
def fX4_lacking_L5 (P0 : Nat) (P1 : Nat) (σ : sw_M) (a2 : Int32) (a3 : Int32) (a4 : Int32) : Option ((Int32 × Int32) ⊕ (Int32)) :=
  if (σ.1 P0 0) ≤ a4 then
    some (.inr (a3))
  else
    sw_b1 (fX4_needs P0 σ a2 a4) fun r2 =>
    sw_gd (sw_in a4 (sw_s P1).2) <|
    sw_let (a3 + (sw_max 0 (r2 - (σ.1 P1 a4.toNatClampNeg)))) fun v5 =>
    sw_let (a4 + 1) fun v7 =>
    some (.inl (v5, v7))
def fX4_lacking (P0 : Nat) (P1 : Nat) (σ : sw_M) (a2 : Int32) : Option (Int32) :=
  sw_wh sw_F (fun s => fX4_lacking_L5 P0 P1 σ a2 s.1 s.2) (0, 0)
set_option maxRecDepth 20000 in
theorem sX4_lacking_L5 {l : Launch} {E : sw_E} {K : Nat} (hK : 1 ≤ K) (P0 : Nat) (P1 : Nat) (hP0 : sw_isP P0) (hP1 : sw_isA 1 P1) (σ : sw_M) (a2 : Int32) (a3 : Int32) (a4 : Int32) {res : Int32} {t : (Int32 × Int32) ⊕ (Int32)} (h : fX4_lacking_L5 P0 P1 σ a2 a3 a4 = some t) (hk : (Sum.elim (fun s : Int32 × Int32 => sw_Go l E K RX4 cX4_lacking 5 (some .int) 5 [(0, .ref P0), (1, .ref P1), (2, .int a2), (3, .int s.1), (4, .int s.2)] [] σ (some (.int res)) σ) (fun q => q = res)) t) : sw_Go l E K RX4 cX4_lacking 5 (some .int) 5 [(0, .ref P0), (1, .ref P1), (2, .int a2), (3, .int a3), (4, .int a4)] [] σ (some (.int res)) σ := by
  unfold fX4_lacking_L5 at h
  refine sw_iload 4 rfl (by decide +kernel) ?_
  refine sw_aload_n (k0 := 0) 0 rfl (by decide +kernel) rfl ?_
  refine gf_X4_38 (i := P0) hP0.o.1 hP0.o.2 (by decide +kernel) ?_
  refine sw_icmp_ge (off := 28) 39 (by decide +kernel) (by decide) (fun c1 => ?_) (fun c1 => ?_)
  · rw [if_pos c1] at h
    refine sw_iload_n (k0 := 3) 3 rfl (by decide +kernel) rfl ?_
    cases h
    obtain rfl : _ = res := hk
    exact sw_iret (by decide +kernel)
  · rw [if_neg c1] at h
    refine sw_iload_n (k0 := 3) 3 rfl (by decide +kernel) rfl ?_
    refine sw_iconst (n := 0) (v := 0) (by decide +kernel) (by decide) ?_
    refine sw_aload_n (k0 := 0) 0 rfl (by decide +kernel) rfl ?_
    refine sw_iload_n (k0 := 2) 2 rfl (by decide +kernel) rfl ?_
    refine sw_iload 4 rfl (by decide +kernel) ?_
    obtain ⟨r2, w3, h⟩ := sw_b1_e h
    refine sw_callVi (ci := 4) (i := P0) [.int a2, .int a4] (sX4_needs (K := K - 1) (by omega) P0 hP0 σ a2 a4 w3) rfl (by omega) rfl gs_X4_96 hy_X4_needs (by decide) hP0.o.1 hP0.o.2 rfl (Nat.le_of_ble_eq_true rfl) (by decide +kernel) ?_
    refine sw_aload_n (k0 := 1) 1 rfl (by decide +kernel) rfl ?_
    refine sw_iload 4 rfl (by decide +kernel) ?_
    obtain ⟨g4, h⟩ := sw_gd_e h
    refine sw_iaload (a := P1) hP1.1 hP1.s (sw_in_e g4) (by decide +kernel) ?_
    refine sw_isub (by decide +kernel) ?_
    refine sw_mmax mx_X4_99 mx_max_s mx_i mx_max_c (by omega) (Nat.le_of_ble_eq_true rfl) (by decide +kernel) ?_
    refine sw_iadd (by decide +kernel) ?_
    obtain ⟨v5, e6, h⟩ := sw_let_e h
    refine sw_topi e6 ?_
    refine sw_istore_n (k0 := 3) (lv' := [(3, .int v5), (0, .ref P0), (1, .ref P1), (2, .int a2), (4, .int a4)]) (by decide +kernel) rfl (by decide) rfl ?_
    obtain ⟨v7, e8, h⟩ := sw_let_e h
    refine sw_iincv (i := 4) (n := 1) (lv' := [(4, .int v7), (3, .int v5), (0, .ref P0), (1, .ref P1), (2, .int a2)]) 4 rfl e8 (by decide +kernel) (by decide) (by decide) rfl ?_
    refine sw_goto (off := (-31)) 5 (by decide +kernel) (by decide) ?_
    cases h
    refine sw_lv [2, 3, 4, 1, 0] rfl ?_
    exact hk
set_option maxRecDepth 20000 in
theorem sX4_lacking {l : Launch} {E : sw_E} {K : Nat} (hK : 1 ≤ K) (P0 : Nat) (P1 : Nat) (hP0 : sw_isP P0) (hP1 : sw_isA 1 P1) (σ : sw_M) (a2 : Int32) {res : Int32} (h : fX4_lacking P0 P1 σ a2 = some res) : sw_Ct l E K yX4_lacking cX4_lacking 5 (some .int) [.ref P0, .ref P1, .int a2] σ (some (.int res)) σ := by
  obtain ⟨t, hk, h⟩ : ∃ t, t = res ∧ fX4_lacking P0 P1 σ a2 = some t := ⟨res, rfl, h⟩
  unfold fX4_lacking at h
  refine sw_enter2 (own := RX4) (lv := [(0, .ref P0), (1, .ref P1), (2, .int a2)]) (by decide +kernel) (Nat.le_of_ble_eq_true rfl) rfl rfl ?_
  refine sw_iconst (n := 0) (v := 0) (by decide +kernel) (by decide) ?_
  refine sw_istore_n (k0 := 3) (lv' := [(3, .int 0), (0, .ref P0), (1, .ref P1), (2, .int a2)]) (by decide +kernel) rfl (by decide) rfl ?_
  refine sw_iconst (n := 0) (v := 0) (by decide +kernel) (by decide) ?_
  refine sw_istore (i := 4) (lv' := [(4, .int 0), (3, .int 0), (0, .ref P0), (1, .ref P1), (2, .int a2)]) (by decide +kernel) (by decide) rfl ?_
  refine sw_lv [2, 3, 4, 1, 0] rfl ?_
  exact sw_wh_e (fun s : Int32 × Int32 => sw_Go l E K RX4 cX4_lacking 5 (some .int) 5 [(0, .ref P0), (1, .ref P1), (2, .int a2), (3, .int s.1), (4, .int s.2)] [] σ (some (.int res)) σ) (fun q => q = res) (fun s => fX4_lacking_L5 P0 P1 σ a2 s.1 s.2) (fun s t hb hk => sX4_lacking_L5 hK P0 P1 hP0 hP1 σ a2 s.1 s.2 hb hk) _ _ _ h hk
def fX3_wouldHold (P1 : Nat) (P2 : Nat) (σ : sw_M) (a3 : Int32) (a4 : Int32) : Option (Int32 × sw_M) :=
  sw_b1 (fX8_copy 35 P2 σ) fun m1 =>
  sw_b1 (fX4_tell P1 35 m1 a3) fun m3 =>
  sw_b1 (fX4_lacking P1 36 m3 a4) fun r5 =>
  if r5 = 0 then
    some ((1, m3))
  else
    some ((0, m3))
set_option maxRecDepth 20000 in
theorem sX3_wouldHold {l : Launch} {E : sw_E} {K : Nat} (hK : 3 ≤ K) (P1 : Nat) (P2 : Nat) (hP1 : sw_isP P1) (hP2 : sw_isV P2) (σ : sw_M) (a3 : Int32) (a4 : Int32) {res : Int32 × sw_M} (h : fX3_wouldHold P1 P2 σ a3 a4 = some res) : sw_Ct l E K yX3_wouldHold cX3_wouldHold 5 (some .boolean) [.ref 34, .ref P1, .ref P2, .int a3, .int a4] σ (some (.int res.1)) res.2 := by
  obtain ⟨t, hk, h⟩ : ∃ t, t = res ∧ fX3_wouldHold P1 P2 σ a3 a4 = some t := ⟨res, rfl, h⟩
  unfold fX3_wouldHold at h
  refine sw_enter2 (own := RX3) (lv := [(0, .ref 34), (1, .ref P1), (2, .ref P2), (3, .int a3), (4, .int a4)]) (by decide +kernel) (Nat.le_of_ble_eq_true rfl) rfl rfl ?_
  refine sw_aload_n (k0 := 0) 0 rfl (by decide +kernel) rfl ?_
  refine gf_X3_12 (i := 34) (by decide) rfl (by decide +kernel) ?_
  refine sw_refj 35 rfl ?_
  refine sw_aload_n (k0 := 2) 2 rfl (by decide +kernel) rfl ?_
  obtain ⟨m1, w2, h⟩ := sw_b1_e h
  refine sw_callVv (ci := 8) (i := 35) [.ref P2] (sX8_copy (K := K - 1) (by omega) 35 P2 (Or.inr rfl) hP2 σ w2) rfl (by omega) rfl gs_X3_25 hy_X8_copy (by decide) (by decide) rfl rfl (Nat.le_of_ble_eq_true rfl) (by decide +kernel) ?_
  refine sw_aload_n (k0 := 1) 1 rfl (by decide +kernel) rfl ?_
  refine sw_aload_n (k0 := 0) 0 rfl (by decide +kernel) rfl ?_
  refine gf_X3_12 (i := 34) (by decide) rfl (by decide +kernel) ?_
  refine sw_refj 35 rfl ?_
  refine sw_iload_n (k0 := 3) 3 rfl (by decide +kernel) rfl ?_
  obtain ⟨m3, w4, h⟩ := sw_b1_e h
  refine sw_callVv (ci := 4) (i := P1) [.ref 35, .int a3] (sX4_tell (K := K - 1) (by omega) P1 35 hP1 (Or.inr rfl) m1 a3 w4) rfl (by omega) rfl gs_X3_29 hy_X4_tell (by decide) hP1.o.1 hP1.o.2 rfl (Nat.le_of_ble_eq_true rfl) (by decide +kernel) ?_
  refine sw_aload_n (k0 := 1) 1 rfl (by decide +kernel) rfl ?_
  refine sw_aload_n (k0 := 0) 0 rfl (by decide +kernel) rfl ?_
  refine gf_X3_12 (i := 34) (by decide) rfl (by decide +kernel) ?_
  refine sw_refj 35 rfl ?_
  refine gf_X3_35 (i := 35) (by decide) rfl (by decide +kernel) ?_
  refine sw_refj 36 rfl ?_
  refine sw_iload 4 rfl (by decide +kernel) ?_
  obtain ⟨r5, w6, h⟩ := sw_b1_e h
  refine sw_callVi (ci := 4) (i := P1) [.ref 36, .int a4] (sX4_lacking (K := K - 1) (by omega) P1 36 hP1 (sw_A_of (by decide) rfl) m3 a4 w6) rfl (by omega) rfl gs_X3_64 hy_X4_lacking (by decide) hP1.o.1 hP1.o.2 rfl (Nat.le_of_ble_eq_true rfl) (by decide +kernel) ?_
  refine sw_if_ne (off := 7) 37 (by decide +kernel) (by decide) (fun c7 => ?_) (fun c7 => ?_)
  · rw [if_neg c7] at h
    refine sw_iconst (n := 0) (v := 0) (by decide +kernel) (by decide) ?_
    cases h
    obtain rfl : _ = res := hk
    exact sw_zret rfl (by decide +kernel)
  · rw [if_pos c7] at h
    refine sw_iconst (n := 1) (v := 1) (by decide +kernel) (by decide) ?_
    refine sw_goto (off := 4) 38 (by decide +kernel) (by decide) ?_
    cases h
    obtain rfl : _ = res := hk
    exact sw_zret rfl (by decide +kernel)
def fX3_boilingsTill_L11 (P1 : Nat) (P2 : Nat) (σ : sw_M) (a3 : Int32) (a4 : Int32) : Option ((Int32 × sw_M) ⊕ (Int32 × sw_M)) :=
  if 60 < a4 then
    some (.inr (((-1), σ)))
  else
    sw_b1 (fX4_lacking P1 36 σ a3) fun r2 =>
    if r2 = 0 then
      some (.inr ((a4, σ)))
    else
      sw_b2 (fX4_boilInEarnest P1 35 σ 0) fun r5 m6 =>
      sw_let (a4 + 1) fun v8 =>
      some (.inl (v8, m6))
def fX3_boilingsTill (P1 : Nat) (P2 : Nat) (σ : sw_M) (a3 : Int32) : Option (Int32 × sw_M) :=
  sw_b1 (fX8_copy 35 P2 σ) fun m1 =>
  sw_wh sw_F (fun s => fX3_boilingsTill_L11 P1 P2 s.2 a3 s.1) (0, m1)
set_option maxRecDepth 20000 in
theorem sX3_boilingsTill_L11 {l : Launch} {E : sw_E} {K : Nat} (hK : 5 ≤ K) (P1 : Nat) (P2 : Nat) (hP1 : sw_isP P1) (hP2 : sw_isV P2) (σ : sw_M) (a3 : Int32) (a4 : Int32) {res : Int32 × sw_M} {t : (Int32 × sw_M) ⊕ (Int32 × sw_M)} (h : fX3_boilingsTill_L11 P1 P2 σ a3 a4 = some t) (hk : (Sum.elim (fun s : Int32 × sw_M => sw_Go l E K RX3 cX3_boilingsTill 5 (some .int) 11 [(0, .ref 34), (1, .ref P1), (3, .int a3), (4, .int s.1)] [] s.2 (some (.int res.1)) res.2) (fun q => q = res)) t) : sw_Go l E K RX3 cX3_boilingsTill 5 (some .int) 11 [(0, .ref 34), (1, .ref P1), (3, .int a3), (4, .int a4)] [] σ (some (.int res.1)) res.2 := by
  unfold fX3_boilingsTill_L11 at h
  refine sw_iload 3 rfl (by decide +kernel) ?_
  refine sw_bipush (n := 60) (v := 60) (by decide +kernel) (by decide) ?_
  refine sw_icmp_gt (off := 37) 52 (by decide +kernel) (by decide) (fun c1 => ?_) (fun c1 => ?_)
  · rw [if_pos c1] at h
    refine sw_iconst (n := (-1)) (v := (-1)) (by decide +kernel) (by decide) ?_
    cases h
    obtain rfl : _ = res := hk
    exact sw_iret (by decide +kernel)
  · rw [if_neg c1] at h
    refine sw_aload_n (k0 := 1) 1 rfl (by decide +kernel) rfl ?_
    refine sw_aload_n (k0 := 0) 0 rfl (by decide +kernel) rfl ?_
    refine gf_X3_12 (i := 34) (by decide) rfl (by decide +kernel) ?_
    refine sw_refj 35 rfl ?_
    refine gf_X3_35 (i := 35) (by decide) rfl (by decide +kernel) ?_
    refine sw_refj 36 rfl ?_
    refine sw_iload_n (k0 := 3) 2 rfl (by decide +kernel) rfl ?_
    obtain ⟨r2, w3, h⟩ := sw_b1_e h
    refine sw_callVi (ci := 4) (i := P1) [.ref 36, .int a3] (sX4_lacking (K := K - 1) (by omega) P1 36 hP1 (sw_A_of (by decide) rfl) σ a3 w3) rfl (by omega) rfl gs_X3_64 hy_X4_lacking (by decide) hP1.o.1 hP1.o.2 rfl (Nat.le_of_ble_eq_true rfl) (by decide +kernel) ?_
    refine sw_if_ne (off := 6) 36 (by decide +kernel) (by decide) (fun c4 => ?_) (fun c4 => ?_)
    · rw [if_neg c4] at h
      refine sw_aload_n (k0 := 1) 1 rfl (by decide +kernel) rfl ?_
      refine sw_aload_n (k0 := 0) 0 rfl (by decide +kernel) rfl ?_
      refine gf_X3_12 (i := 34) (by decide) rfl (by decide +kernel) ?_
      refine sw_refj 35 rfl ?_
      refine sw_iconst (n := 0) (v := 0) (by decide +kernel) (by decide) ?_
      obtain ⟨r5, m6, w7, h⟩ := sw_b2_e h
      refine sw_callVi (ci := 4) (i := P1) [.ref 35, .int 0] (sX4_boilInEarnest (K := K - 1) (by omega) P1 35 hP1 (Or.inr rfl) σ 0 w7) rfl (by omega) rfl gs_X3_60 hy_X4_boilInEarnest (by decide) hP1.o.1 hP1.o.2 rfl (Nat.le_of_ble_eq_true rfl) (by decide +kernel) ?_
      refine sw_pop (by decide +kernel) rfl ?_
      obtain ⟨v8, e9, h⟩ := sw_let_e h
      refine sw_iincv (i := 4) (n := 1) (lv' := [(4, .int v8), (0, .ref 34), (1, .ref P1), (3, .int a3)]) 3 rfl e9 (by decide +kernel) (by decide) (by decide) rfl ?_
      refine sw_goto (off := (-38)) 11 (by decide +kernel) (by decide) ?_
      cases h
      refine sw_lv [1, 2, 3, 0] rfl ?_
      exact hk
    · rw [if_pos c4] at h
      refine sw_iload 3 rfl (by decide +kernel) ?_
      cases h
      obtain rfl : _ = res := hk
      exact sw_iret (by decide +kernel)
set_option maxRecDepth 20000 in
theorem sX3_boilingsTill {l : Launch} {E : sw_E} {K : Nat} (hK : 5 ≤ K) (P1 : Nat) (P2 : Nat) (hP1 : sw_isP P1) (hP2 : sw_isV P2) (σ : sw_M) (a3 : Int32) {res : Int32 × sw_M} (h : fX3_boilingsTill P1 P2 σ a3 = some res) : sw_Ct l E K yX3_boilingsTill cX3_boilingsTill 5 (some .int) [.ref 34, .ref P1, .ref P2, .int a3] σ (some (.int res.1)) res.2 := by
  obtain ⟨t, hk, h⟩ : ∃ t, t = res ∧ fX3_boilingsTill P1 P2 σ a3 = some t := ⟨res, rfl, h⟩
  unfold fX3_boilingsTill at h
  refine sw_enter2 (own := RX3) (lv := [(0, .ref 34), (1, .ref P1), (2, .ref P2), (3, .int a3)]) (by decide +kernel) (Nat.le_of_ble_eq_true rfl) rfl rfl ?_
  refine sw_aload_n (k0 := 0) 0 rfl (by decide +kernel) rfl ?_
  refine gf_X3_12 (i := 34) (by decide) rfl (by decide +kernel) ?_
  refine sw_refj 35 rfl ?_
  refine sw_aload_n (k0 := 2) 2 rfl (by decide +kernel) rfl ?_
  obtain ⟨m1, w2, h⟩ := sw_b1_e h
  refine sw_callVv (ci := 8) (i := 35) [.ref P2] (sX8_copy (K := K - 1) (by omega) 35 P2 (Or.inr rfl) hP2 σ w2) rfl (by omega) rfl gs_X3_25 hy_X8_copy (by decide) (by decide) rfl rfl (Nat.le_of_ble_eq_true rfl) (by decide +kernel) ?_
  refine sw_iconst (n := 0) (v := 0) (by decide +kernel) (by decide) ?_
  refine sw_istore (i := 4) (lv' := [(4, .int 0), (0, .ref 34), (1, .ref P1), (2, .ref P2), (3, .int a3)]) (by decide +kernel) (by decide) rfl ?_
  refine sw_lv [1, 2, 4, 0] rfl ?_
  exact sw_wh_e (fun s : Int32 × sw_M => sw_Go l E K RX3 cX3_boilingsTill 5 (some .int) 11 [(0, .ref 34), (1, .ref P1), (3, .int a3), (4, .int s.1)] [] s.2 (some (.int res.1)) res.2) (fun q => q = res) (fun s => fX3_boilingsTill_L11 P1 P2 s.2 a3 s.1) (fun s t hb hk => sX3_boilingsTill_L11 hK P1 P2 hP1 hP2 s.2 a3 s.1 hb hk) _ _ _ h hk
def fX3_boilingsToRest_L10 (P1 : Nat) (P2 : Nat) (σ : sw_M) (a3 : Int32) : Option ((Int32 × sw_M) ⊕ (Int32 × sw_M)) :=
  if 60 < a3 then
    some (.inr (((-1), σ)))
  else
    sw_b2 (fX4_boilRules P1 36 σ) fun r2 m3 =>
    if r2 = 0 then
      some (.inr ((a3, m3)))
    else
      sw_let (a3 + 1) fun v6 =>
      some (.inl (v6, m3))
def fX3_boilingsToRest (P1 : Nat) (P2 : Nat) (σ : sw_M) : Option (Int32 × sw_M) :=
  sw_b1 (fX8_copy 35 P2 σ) fun m1 =>
  sw_wh sw_F (fun s => fX3_boilingsToRest_L10 P1 P2 s.2 s.1) (0, m1)
set_option maxRecDepth 20000 in
theorem sX3_boilingsToRest_L10 {l : Launch} {E : sw_E} {K : Nat} (hK : 4 ≤ K) (P1 : Nat) (P2 : Nat) (hP1 : sw_isP P1) (hP2 : sw_isV P2) (σ : sw_M) (a3 : Int32) {res : Int32 × sw_M} {t : (Int32 × sw_M) ⊕ (Int32 × sw_M)} (h : fX3_boilingsToRest_L10 P1 P2 σ a3 = some t) (hk : (Sum.elim (fun s : Int32 × sw_M => sw_Go l E K RX3 cX3_boilingsToRest 4 (some .int) 10 [(0, .ref 34), (1, .ref P1), (3, .int s.1)] [] s.2 (some (.int res.1)) res.2) (fun q => q = res)) t) : sw_Go l E K RX3 cX3_boilingsToRest 4 (some .int) 10 [(0, .ref 34), (1, .ref P1), (3, .int a3)] [] σ (some (.int res.1)) res.2 := by
  unfold fX3_boilingsToRest_L10 at h
  refine sw_iload_n (k0 := 3) 2 rfl (by decide +kernel) rfl ?_
  refine sw_bipush (n := 60) (v := 60) (by decide +kernel) (by decide) ?_
  refine sw_icmp_gt (off := 25) 38 (by decide +kernel) (by decide) (fun c1 => ?_) (fun c1 => ?_)
  · rw [if_pos c1] at h
    refine sw_iconst (n := (-1)) (v := (-1)) (by decide +kernel) (by decide) ?_
    cases h
    obtain rfl : _ = res := hk
    exact sw_iret (by decide +kernel)
  · rw [if_neg c1] at h
    refine sw_aload_n (k0 := 1) 1 rfl (by decide +kernel) rfl ?_
    refine sw_aload_n (k0 := 0) 0 rfl (by decide +kernel) rfl ?_
    refine gf_X3_12 (i := 34) (by decide) rfl (by decide +kernel) ?_
    refine sw_refj 35 rfl ?_
    refine gf_X3_35 (i := 35) (by decide) rfl (by decide +kernel) ?_
    refine sw_refj 36 rfl ?_
    obtain ⟨r2, m3, w4, h⟩ := sw_b2_e h
    refine sw_callVi (ci := 4) (i := P1) [.ref 36] (sX4_boilRules (K := K - 1) (by omega) P1 36 hP1 (sw_A_of (by decide) rfl) σ w4) rfl (by omega) rfl gs_X3_38 hy_X4_boilRules (by decide) hP1.o.1 hP1.o.2 rfl (Nat.le_of_ble_eq_true rfl) (by decide +kernel) ?_
    refine sw_if_ne (off := 5) 32 (by decide +kernel) (by decide) (fun c5 => ?_) (fun c5 => ?_)
    · rw [if_neg c5] at h
      obtain ⟨v6, e7, h⟩ := sw_let_e h
      refine sw_iincv (i := 3) (n := 1) (lv' := [(3, .int v6), (0, .ref 34), (1, .ref P1)]) 2 rfl e7 (by decide +kernel) (by decide) (by decide) rfl ?_
      refine sw_goto (off := (-25)) 10 (by decide +kernel) (by decide) ?_
      cases h
      refine sw_lv [1, 2, 0] rfl ?_
      exact hk
    · rw [if_pos c5] at h
      refine sw_iload_n (k0 := 3) 2 rfl (by decide +kernel) rfl ?_
      cases h
      obtain rfl : _ = res := hk
      exact sw_iret (by decide +kernel)
set_option maxRecDepth 20000 in
theorem sX3_boilingsToRest {l : Launch} {E : sw_E} {K : Nat} (hK : 4 ≤ K) (P1 : Nat) (P2 : Nat) (hP1 : sw_isP P1) (hP2 : sw_isV P2) (σ : sw_M) {res : Int32 × sw_M} (h : fX3_boilingsToRest P1 P2 σ = some res) : sw_Ct l E K yX3_boilingsToRest cX3_boilingsToRest 4 (some .int) [.ref 34, .ref P1, .ref P2] σ (some (.int res.1)) res.2 := by
  obtain ⟨t, hk, h⟩ : ∃ t, t = res ∧ fX3_boilingsToRest P1 P2 σ = some t := ⟨res, rfl, h⟩
  unfold fX3_boilingsToRest at h
  refine sw_enter2 (own := RX3) (lv := [(0, .ref 34), (1, .ref P1), (2, .ref P2)]) (by decide +kernel) (Nat.le_of_ble_eq_true rfl) rfl rfl ?_
  refine sw_aload_n (k0 := 0) 0 rfl (by decide +kernel) rfl ?_
  refine gf_X3_12 (i := 34) (by decide) rfl (by decide +kernel) ?_
  refine sw_refj 35 rfl ?_
  refine sw_aload_n (k0 := 2) 2 rfl (by decide +kernel) rfl ?_
  obtain ⟨m1, w2, h⟩ := sw_b1_e h
  refine sw_callVv (ci := 8) (i := 35) [.ref P2] (sX8_copy (K := K - 1) (by omega) 35 P2 (Or.inr rfl) hP2 σ w2) rfl (by omega) rfl gs_X3_25 hy_X8_copy (by decide) (by decide) rfl rfl (Nat.le_of_ble_eq_true rfl) (by decide +kernel) ?_
  refine sw_iconst (n := 0) (v := 0) (by decide +kernel) (by decide) ?_
  refine sw_istore_n (k0 := 3) (lv' := [(3, .int 0), (0, .ref 34), (1, .ref P1), (2, .ref P2)]) (by decide +kernel) rfl (by decide) rfl ?_
  refine sw_lv [1, 2, 0] rfl ?_
  exact sw_wh_e (fun s : Int32 × sw_M => sw_Go l E K RX3 cX3_boilingsToRest 4 (some .int) 10 [(0, .ref 34), (1, .ref P1), (3, .int s.1)] [] s.2 (some (.int res.1)) res.2) (fun q => q = res) (fun s => fX3_boilingsToRest_L10 P1 P2 s.2 s.1) (fun s t hb hk => sX3_boilingsToRest_L10 hK P1 P2 hP1 hP2 s.2 s.1 hb hk) _ _ _ h hk
def fX8_all_L4 (P0 : Nat) (σ : sw_M) (a1 : Int32) (a2 : Int32) : Option ((Int32 × Int32) ⊕ (Int32)) :=
  if 5 ≤ a2 then
    some (.inr (a1))
  else
    sw_gd (sw_in a2 5) <|
    sw_let (a1 + (σ.1 (P0 + 1) a2.toNatClampNeg)) fun v3 =>
    sw_let (a2 + 1) fun v5 =>
    some (.inl (v3, v5))
def fX8_all (P0 : Nat) (σ : sw_M) : Option (Int32) :=
  sw_wh sw_F (fun s => fX8_all_L4 P0 σ s.1 s.2) (0, 0)
set_option maxRecDepth 20000 in
theorem sX8_all_L4 {l : Launch} {E : sw_E} {K : Nat} (hK : 0 ≤ K) (P0 : Nat) (hP0 : sw_isV P0) (σ : sw_M) (a1 : Int32) (a2 : Int32) {res : Int32} {t : (Int32 × Int32) ⊕ (Int32)} (h : fX8_all_L4 P0 σ a1 a2 = some t) (hk : (Sum.elim (fun s : Int32 × Int32 => sw_Go l E K RX8 cX8_all 3 (some .int) 4 [(0, .ref P0), (1, .int s.1), (2, .int s.2)] [] σ (some (.int res)) σ) (fun q => q = res)) t) : sw_Go l E K RX8 cX8_all 3 (some .int) 4 [(0, .ref P0), (1, .int a1), (2, .int a2)] [] σ (some (.int res)) σ := by
  unfold fX8_all_L4 at h
  refine sw_iload_n (k0 := 2) 2 rfl (by decide +kernel) rfl ?_
  refine sw_iconst (n := 5) (v := 5) (by decide +kernel) (by decide) ?_
  refine sw_icmp_ge (off := 18) 24 (by decide +kernel) (by decide) (fun c1 => ?_) (fun c1 => ?_)
  · rw [if_pos c1] at h
    refine sw_iload_n (k0 := 1) 1 rfl (by decide +kernel) rfl ?_
    cases h
    obtain rfl : _ = res := hk
    exact sw_iret (by decide +kernel)
  · rw [if_neg c1] at h
    refine sw_iload_n (k0 := 1) 1 rfl (by decide +kernel) rfl ?_
    refine sw_aload_n (k0 := 0) 0 rfl (by decide +kernel) rfl ?_
    refine gf_X8_9 (i := P0) hP0.o.1 hP0.o.2 (by decide +kernel) ?_
    refine sw_iload_n (k0 := 2) 2 rfl (by decide +kernel) rfl ?_
    obtain ⟨g2, h⟩ := sw_gd_e h
    refine sw_iaload (a := (P0 + 1)) hP0.p1.1 hP0.p1.2 (sw_in_e g2) (by decide +kernel) ?_
    refine sw_iadd (by decide +kernel) ?_
    obtain ⟨v3, e4, h⟩ := sw_let_e h
    refine sw_topi e4 ?_
    refine sw_istore_n (k0 := 1) (lv' := [(1, .int v3), (0, .ref P0), (2, .int a2)]) (by decide +kernel) rfl (by decide) rfl ?_
    obtain ⟨v5, e6, h⟩ := sw_let_e h
    refine sw_iincv (i := 2) (n := 1) (lv' := [(2, .int v5), (1, .int v3), (0, .ref P0)]) 2 rfl e6 (by decide +kernel) (by decide) (by decide) rfl ?_
    refine sw_goto (off := (-17)) 4 (by decide +kernel) (by decide) ?_
    cases h
    refine sw_lv [2, 1, 0] rfl ?_
    exact hk
set_option maxRecDepth 20000 in
theorem sX8_all {l : Launch} {E : sw_E} {K : Nat} (hK : 0 ≤ K) (P0 : Nat) (hP0 : sw_isV P0) (σ : sw_M) {res : Int32} (h : fX8_all P0 σ = some res) : sw_Ct l E K yX8_all cX8_all 3 (some .int) [.ref P0] σ (some (.int res)) σ := by
  obtain ⟨t, hk, h⟩ : ∃ t, t = res ∧ fX8_all P0 σ = some t := ⟨res, rfl, h⟩
  unfold fX8_all at h
  refine sw_enter2 (own := RX8) (lv := [(0, .ref P0)]) (by decide +kernel) (Nat.le_of_ble_eq_true rfl) rfl rfl ?_
  refine sw_iconst (n := 0) (v := 0) (by decide +kernel) (by decide) ?_
  refine sw_istore_n (k0 := 1) (lv' := [(1, .int 0), (0, .ref P0)]) (by decide +kernel) rfl (by decide) rfl ?_
  refine sw_iconst (n := 0) (v := 0) (by decide +kernel) (by decide) ?_
  refine sw_istore_n (k0 := 2) (lv' := [(2, .int 0), (1, .int 0), (0, .ref P0)]) (by decide +kernel) rfl (by decide) rfl ?_
  refine sw_lv [2, 1, 0] rfl ?_
  exact sw_wh_e (fun s : Int32 × Int32 => sw_Go l E K RX8 cX8_all 3 (some .int) 4 [(0, .ref P0), (1, .int s.1), (2, .int s.2)] [] σ (some (.int res)) σ) (fun q => q = res) (fun s => fX8_all_L4 P0 σ s.1 s.2) (fun s t hb hk => sX8_all_L4 hK P0 hP0 σ s.1 s.2 hb hk) _ _ _ h hk
def fX3_allUnderLaw_L11 (P1 : Nat) (P2 : Nat) (σ : sw_M) (a3 : Int32) (a4 : Int32) : Option ((Int32 × sw_M) ⊕ (Int32 × sw_M)) :=
  if (σ.1 P1 2) ≤ a4 then
    sw_b1 (fX8_all 35 σ) fun r2 =>
    some (.inr ((r2, σ)))
  else
    sw_b2 (fX4_turn P1 36 σ a4 a3) fun r4 m5 =>
    sw_let (a4 + 1) fun v7 =>
    some (.inl (v7, m5))
def fX3_allUnderLaw (P1 : Nat) (P2 : Nat) (σ : sw_M) (a3 : Int32) : Option (Int32 × sw_M) :=
  sw_b1 (fX8_copy 35 P2 σ) fun m1 =>
  sw_wh sw_F (fun s => fX3_allUnderLaw_L11 P1 P2 s.2 a3 s.1) (0, m1)
set_option maxRecDepth 20000 in
theorem sX3_allUnderLaw_L11 {l : Launch} {E : sw_E} {K : Nat} (hK : 3 ≤ K) (P1 : Nat) (P2 : Nat) (hP1 : sw_isP P1) (hP2 : sw_isV P2) (σ : sw_M) (a3 : Int32) (a4 : Int32) {res : Int32 × sw_M} {t : (Int32 × sw_M) ⊕ (Int32 × sw_M)} (h : fX3_allUnderLaw_L11 P1 P2 σ a3 a4 = some t) (hk : (Sum.elim (fun s : Int32 × sw_M => sw_Go l E K RX3 cX3_allUnderLaw 5 (some .int) 11 [(0, .ref 34), (1, .ref P1), (3, .int a3), (4, .int s.1)] [] s.2 (some (.int res.1)) res.2) (fun q => q = res)) t) : sw_Go l E K RX3 cX3_allUnderLaw 5 (some .int) 11 [(0, .ref 34), (1, .ref P1), (3, .int a3), (4, .int a4)] [] σ (some (.int res.1)) res.2 := by
  unfold fX3_allUnderLaw_L11 at h
  refine sw_iload 3 rfl (by decide +kernel) ?_
  refine sw_aload_n (k0 := 1) 1 rfl (by decide +kernel) rfl ?_
  refine gf_X3_68 (i := P1) hP1.o.1 hP1.o.2 (by decide +kernel) ?_
  refine sw_icmp_ge (off := 24) 41 (by decide +kernel) (by decide) (fun c1 => ?_) (fun c1 => ?_)
  · rw [if_pos c1] at h
    refine sw_aload_n (k0 := 0) 0 rfl (by decide +kernel) rfl ?_
    refine gf_X3_12 (i := 34) (by decide) rfl (by decide +kernel) ?_
    refine sw_refj 35 rfl ?_
    obtain ⟨r2, w3, h⟩ := sw_b1_e h
    refine sw_callVi (ci := 8) (i := 35) [] (sX8_all (K := K - 1) (by omega) 35 (Or.inr rfl) σ w3) rfl (by omega) rfl gs_X3_75 hy_X8_all (by decide) (by decide) rfl rfl (Nat.le_of_ble_eq_true rfl) (by decide +kernel) ?_
    cases h
    obtain rfl : _ = res := hk
    exact sw_iret (by decide +kernel)
  · rw [if_neg c1] at h
    refine sw_aload_n (k0 := 1) 1 rfl (by decide +kernel) rfl ?_
    refine sw_aload_n (k0 := 0) 0 rfl (by decide +kernel) rfl ?_
    refine gf_X3_12 (i := 34) (by decide) rfl (by decide +kernel) ?_
    refine sw_refj 35 rfl ?_
    refine gf_X3_35 (i := 35) (by decide) rfl (by decide +kernel) ?_
    refine sw_refj 36 rfl ?_
    refine sw_iload 3 rfl (by decide +kernel) ?_
    refine sw_iload_n (k0 := 3) 2 rfl (by decide +kernel) rfl ?_
    obtain ⟨r4, m5, w6, h⟩ := sw_b2_e h
    refine sw_callVi (ci := 4) (i := P1) [.ref 36, .int a4, .int a3] (sX4_turn (K := K - 1) (by omega) P1 36 hP1 (sw_A_of (by decide) rfl) σ a4 a3 w6) rfl (by omega) rfl gs_X3_71 hy_X4_turn (by decide) hP1.o.1 hP1.o.2 rfl (Nat.le_of_ble_eq_true rfl) (by decide +kernel) ?_
    refine sw_pop (by decide +kernel) rfl ?_
    obtain ⟨v7, e8, h⟩ := sw_let_e h
    refine sw_iincv (i := 4) (n := 1) (lv' := [(4, .int v7), (0, .ref 34), (1, .ref P1), (3, .int a3)]) 3 rfl e8 (by decide +kernel) (by decide) (by decide) rfl ?_
    refine sw_goto (off := (-27)) 11 (by decide +kernel) (by decide) ?_
    cases h
    refine sw_lv [1, 2, 3, 0] rfl ?_
    exact hk
set_option maxRecDepth 20000 in
theorem sX3_allUnderLaw {l : Launch} {E : sw_E} {K : Nat} (hK : 3 ≤ K) (P1 : Nat) (P2 : Nat) (hP1 : sw_isP P1) (hP2 : sw_isV P2) (σ : sw_M) (a3 : Int32) {res : Int32 × sw_M} (h : fX3_allUnderLaw P1 P2 σ a3 = some res) : sw_Ct l E K yX3_allUnderLaw cX3_allUnderLaw 5 (some .int) [.ref 34, .ref P1, .ref P2, .int a3] σ (some (.int res.1)) res.2 := by
  obtain ⟨t, hk, h⟩ : ∃ t, t = res ∧ fX3_allUnderLaw P1 P2 σ a3 = some t := ⟨res, rfl, h⟩
  unfold fX3_allUnderLaw at h
  refine sw_enter2 (own := RX3) (lv := [(0, .ref 34), (1, .ref P1), (2, .ref P2), (3, .int a3)]) (by decide +kernel) (Nat.le_of_ble_eq_true rfl) rfl rfl ?_
  refine sw_aload_n (k0 := 0) 0 rfl (by decide +kernel) rfl ?_
  refine gf_X3_12 (i := 34) (by decide) rfl (by decide +kernel) ?_
  refine sw_refj 35 rfl ?_
  refine sw_aload_n (k0 := 2) 2 rfl (by decide +kernel) rfl ?_
  obtain ⟨m1, w2, h⟩ := sw_b1_e h
  refine sw_callVv (ci := 8) (i := 35) [.ref P2] (sX8_copy (K := K - 1) (by omega) 35 P2 (Or.inr rfl) hP2 σ w2) rfl (by omega) rfl gs_X3_25 hy_X8_copy (by decide) (by decide) rfl rfl (Nat.le_of_ble_eq_true rfl) (by decide +kernel) ?_
  refine sw_iconst (n := 0) (v := 0) (by decide +kernel) (by decide) ?_
  refine sw_istore (i := 4) (lv' := [(4, .int 0), (0, .ref 34), (1, .ref P1), (2, .ref P2), (3, .int a3)]) (by decide +kernel) (by decide) rfl ?_
  refine sw_lv [1, 2, 4, 0] rfl ?_
  exact sw_wh_e (fun s : Int32 × sw_M => sw_Go l E K RX3 cX3_allUnderLaw 5 (some .int) 11 [(0, .ref 34), (1, .ref P1), (3, .int a3), (4, .int s.1)] [] s.2 (some (.int res.1)) res.2) (fun q => q = res) (fun s => fX3_allUnderLaw_L11 P1 P2 s.2 a3 s.1) (fun s t hb hk => sX3_allUnderLaw_L11 hK P1 P2 hP1 hP2 s.2 a3 s.1 hb hk) _ _ _ h hk
def fX3_muchByOrder_L17 (P1 : Nat) (P2 : Nat) (σ : sw_M) (a3 : Int32) (a4 : Int32) : Option ((Int32 × sw_M) ⊕ (Int32 × sw_M)) :=
  if (σ.1 P1 2) ≤ a4 then
    sw_gd (sw_in a3 5) <|
    some (.inr ((σ.1 37 a3.toNatClampNeg, σ)))
  else
    sw_gd (sw_in a4 6) <|
    sw_gd (sw_in a4 6) <|
    sw_b1 (fX4_limit P1 σ (σ.1 38 a4.toNatClampNeg)) fun r5 =>
    sw_b2 (fX4_turn P1 37 σ (σ.1 38 a4.toNatClampNeg) r5) fun r7 m8 =>
    sw_let (a4 + 1) fun v10 =>
    some (.inl (v10, m8))
def fX3_muchByOrder (P1 : Nat) (P2 : Nat) (σ : sw_M) (a3 : Int32) : Option (Int32 × sw_M) :=
  sw_gd (sw_cg 0 0 5 5 5) <|
  sw_let (sw_wA σ 37 (va_cpy (σ.1 (P2 + 1)) (σ.1 37) (0 : Int32).toNatClampNeg (0 : Int32).toNatClampNeg (5 : Int32).toNatClampNeg)) fun m2 =>
  sw_wh sw_F (fun s => fX3_muchByOrder_L17 P1 P2 s.2 a3 s.1) (0, m2)
set_option maxRecDepth 20000 in
theorem sX3_muchByOrder_L17 {l : Launch} {E : sw_E} {K : Nat} (hK : 3 ≤ K) (P1 : Nat) (P2 : Nat) (hP1 : sw_isP P1) (hP2 : sw_isV P2) (σ : sw_M) (a3 : Int32) (a4 : Int32) {res : Int32 × sw_M} {t : (Int32 × sw_M) ⊕ (Int32 × sw_M)} (h : fX3_muchByOrder_L17 P1 P2 σ a3 a4 = some t) (hk : (Sum.elim (fun s : Int32 × sw_M => sw_Go l E K RX3 cX3_muchByOrder 5 (some .int) 17 [(0, .ref 34), (1, .ref P1), (3, .int a3), (4, .int s.1)] [] s.2 (some (.int res.1)) res.2) (fun q => q = res)) t) : sw_Go l E K RX3 cX3_muchByOrder 5 (some .int) 17 [(0, .ref 34), (1, .ref P1), (3, .int a3), (4, .int a4)] [] σ (some (.int res.1)) res.2 := by
  unfold fX3_muchByOrder_L17 at h
  refine sw_iload 3 rfl (by decide +kernel) ?_
  refine sw_aload_n (k0 := 1) 1 rfl (by decide +kernel) rfl ?_
  refine gf_X3_68 (i := P1) hP1.o.1 hP1.o.2 (by decide +kernel) ?_
  refine sw_icmp_ge (off := 36) 59 (by decide +kernel) (by decide) (fun c1 => ?_) (fun c1 => ?_)
  · rw [if_pos c1] at h
    refine sw_aload_n (k0 := 0) 0 rfl (by decide +kernel) rfl ?_
    refine gf_X3_18 (i := 34) (by decide) rfl (by decide +kernel) ?_
    refine sw_refj 37 rfl ?_
    refine sw_iload_n (k0 := 3) 2 rfl (by decide +kernel) rfl ?_
    obtain ⟨g2, h⟩ := sw_gd_e h
    refine sw_iaload (a := 37) (by decide) rfl (sw_in_e g2) (by decide +kernel) ?_
    cases h
    obtain rfl : _ = res := hk
    exact sw_iret (by decide +kernel)
  · rw [if_neg c1] at h
    refine sw_aload_n (k0 := 1) 1 rfl (by decide +kernel) rfl ?_
    refine sw_aload_n (k0 := 0) 0 rfl (by decide +kernel) rfl ?_
    refine gf_X3_18 (i := 34) (by decide) rfl (by decide +kernel) ?_
    refine sw_refj 37 rfl ?_
    refine sw_aload_n (k0 := 0) 0 rfl (by decide +kernel) rfl ?_
    refine gf_X3_22 (i := 34) (by decide) rfl (by decide +kernel) ?_
    refine sw_refj 38 rfl ?_
    refine sw_iload 3 rfl (by decide +kernel) ?_
    obtain ⟨g3, h⟩ := sw_gd_e h
    refine sw_iaload (a := 38) (by decide) rfl (sw_in_e g3) (by decide +kernel) ?_
    refine sw_aload_n (k0 := 1) 1 rfl (by decide +kernel) rfl ?_
    refine sw_aload_n (k0 := 0) 0 rfl (by decide +kernel) rfl ?_
    refine gf_X3_22 (i := 34) (by decide) rfl (by decide +kernel) ?_
    refine sw_refj 38 rfl ?_
    refine sw_iload 3 rfl (by decide +kernel) ?_
    obtain ⟨g4, h⟩ := sw_gd_e h
    refine sw_iaload (a := 38) (by decide) rfl (sw_in_e g4) (by decide +kernel) ?_
    obtain ⟨r5, w6, h⟩ := sw_b1_e h
    refine sw_callVi (ci := 4) (i := P1) [.int (σ.1 38 a4.toNatClampNeg)] (sX4_limit (K := K - 1) (by omega) P1 hP1 σ (σ.1 38 a4.toNatClampNeg) w6) rfl (by omega) rfl gs_X3_93 hy_X4_limit (by decide) hP1.o.1 hP1.o.2 rfl (Nat.le_of_ble_eq_true rfl) (by decide +kernel) ?_
    obtain ⟨r7, m8, w9, h⟩ := sw_b2_e h
    refine sw_callVi (ci := 4) (i := P1) [.ref 37, .int (σ.1 38 a4.toNatClampNeg), .int r5] (sX4_turn (K := K - 1) (by omega) P1 37 hP1 (sw_A_of (by decide) rfl) σ (σ.1 38 a4.toNatClampNeg) r5 w9) rfl (by omega) rfl gs_X3_71 hy_X4_turn (by decide) hP1.o.1 hP1.o.2 rfl (Nat.le_of_ble_eq_true rfl) (by decide +kernel) ?_
    refine sw_pop (by decide +kernel) rfl ?_
    obtain ⟨v10, e11, h⟩ := sw_let_e h
    refine sw_iincv (i := 4) (n := 1) (lv' := [(4, .int v10), (0, .ref 34), (1, .ref P1), (3, .int a3)]) 3 rfl e11 (by decide +kernel) (by decide) (by decide) rfl ?_
    refine sw_goto (off := (-39)) 17 (by decide +kernel) (by decide) ?_
    cases h
    refine sw_lv [1, 2, 3, 0] rfl ?_
    exact hk
set_option maxRecDepth 20000 in
theorem sX3_muchByOrder {l : Launch} {E : sw_E} {K : Nat} (hK : 3 ≤ K) (P1 : Nat) (P2 : Nat) (hP1 : sw_isP P1) (hP2 : sw_isV P2) (σ : sw_M) (a3 : Int32) {res : Int32 × sw_M} (h : fX3_muchByOrder P1 P2 σ a3 = some res) : sw_Ct l E K yX3_muchByOrder cX3_muchByOrder 5 (some .int) [.ref 34, .ref P1, .ref P2, .int a3] σ (some (.int res.1)) res.2 := by
  obtain ⟨t, hk, h⟩ : ∃ t, t = res ∧ fX3_muchByOrder P1 P2 σ a3 = some t := ⟨res, rfl, h⟩
  unfold fX3_muchByOrder at h
  refine sw_enter2 (own := RX3) (lv := [(0, .ref 34), (1, .ref P1), (2, .ref P2), (3, .int a3)]) (by decide +kernel) (Nat.le_of_ble_eq_true rfl) rfl rfl ?_
  refine sw_aload_n (k0 := 2) 2 rfl (by decide +kernel) rfl ?_
  refine gf_X3_35 (i := P2) hP2.o.1 hP2.o.2 (by decide +kernel) ?_
  refine sw_iconst (n := 0) (v := 0) (by decide +kernel) (by decide) ?_
  refine sw_aload_n (k0 := 0) 0 rfl (by decide +kernel) rfl ?_
  refine gf_X3_18 (i := 34) (by decide) rfl (by decide +kernel) ?_
  refine sw_refj 37 rfl ?_
  refine sw_iconst (n := 0) (v := 0) (by decide +kernel) (by decide) ?_
  refine sw_iconst (n := 5) (v := 5) (by decide +kernel) (by decide) ?_
  obtain ⟨g1, h⟩ := sw_gd_e h
  obtain ⟨m2, e3, h⟩ := sw_let_e h
  refine sw_acopy (a0 := (P2 + 1)) (a := 37) ac_X3_83 ac_nat ac_sta ac_ini hP2.p1.1 hP2.p1.2 (by decide) rfl (sw_cg_e g1).1 (sw_cg_e g1).2.1 (sw_cg_e g1).2.2.1 (sw_cg_e g1).2.2.2.1 (sw_cg_e g1).2.2.2.2 (by omega) (by decide) (by decide +kernel) ?_
  refine sw_mem e3 ?_
  refine sw_iconst (n := 0) (v := 0) (by decide +kernel) (by decide) ?_
  refine sw_istore (i := 4) (lv' := [(4, .int 0), (0, .ref 34), (1, .ref P1), (2, .ref P2), (3, .int a3)]) (by decide +kernel) (by decide) rfl ?_
  refine sw_lv [1, 2, 4, 0] rfl ?_
  exact sw_wh_e (fun s : Int32 × sw_M => sw_Go l E K RX3 cX3_muchByOrder 5 (some .int) 17 [(0, .ref 34), (1, .ref P1), (3, .int a3), (4, .int s.1)] [] s.2 (some (.int res.1)) res.2) (fun q => q = res) (fun s => fX3_muchByOrder_L17 P1 P2 s.2 a3 s.1) (fun s t hb hk => sX3_muchByOrder_L17 hK P1 P2 hP1 hP2 s.2 a3 s.1 hb hk) _ _ _ h hk
def fX3_exchange (σ : sw_M) (a1 : Int32) (a2 : Int32) : Option (sw_M) :=
  sw_gd (sw_in a1 6) <|
  sw_let (σ.1 38 a1.toNatClampNeg) fun v2 =>
  sw_gd (sw_in a2 6) <|
  sw_gd (sw_in a1 6) <|
  sw_let (sw_w σ 38 a1.toNatClampNeg (σ.1 38 a2.toNatClampNeg)) fun m6 =>
  sw_gd (sw_in a2 6) <|
  sw_let (sw_w m6 38 a2.toNatClampNeg v2) fun m9 =>
  some (m9)
set_option maxRecDepth 20000 in
theorem sX3_exchange {l : Launch} {E : sw_E} {K : Nat} (hK : 0 ≤ K) (σ : sw_M) (a1 : Int32) (a2 : Int32) {res : sw_M} (h : fX3_exchange σ a1 a2 = some res) : sw_Ct l E K yX3_exchange cX3_exchange 4 none [.ref 34, .int a1, .int a2] σ none res := by
  obtain ⟨t, hk, h⟩ : ∃ t, t = res ∧ fX3_exchange σ a1 a2 = some t := ⟨res, rfl, h⟩
  unfold fX3_exchange at h
  refine sw_enter2 (own := RX3) (lv := [(0, .ref 34), (1, .int a1), (2, .int a2)]) (by decide +kernel) (Nat.le_of_ble_eq_true rfl) rfl rfl ?_
  refine sw_aload_n (k0 := 0) 0 rfl (by decide +kernel) rfl ?_
  refine gf_X3_22 (i := 34) (by decide) rfl (by decide +kernel) ?_
  refine sw_refj 38 rfl ?_
  refine sw_iload_n (k0 := 1) 1 rfl (by decide +kernel) rfl ?_
  obtain ⟨g1, h⟩ := sw_gd_e h
  refine sw_iaload (a := 38) (by decide) rfl (sw_in_e g1) (by decide +kernel) ?_
  obtain ⟨v2, e3, h⟩ := sw_let_e h
  refine sw_topi e3 ?_
  refine sw_istore_n (k0 := 3) (lv' := [(3, .int v2), (0, .ref 34), (1, .int a1), (2, .int a2)]) (by decide +kernel) rfl (by decide) rfl ?_
  refine sw_aload_n (k0 := 0) 1 rfl (by decide +kernel) rfl ?_
  refine gf_X3_22 (i := 34) (by decide) rfl (by decide +kernel) ?_
  refine sw_refj 38 rfl ?_
  refine sw_iload_n (k0 := 1) 2 rfl (by decide +kernel) rfl ?_
  refine sw_aload_n (k0 := 0) 1 rfl (by decide +kernel) rfl ?_
  refine gf_X3_22 (i := 34) (by decide) rfl (by decide +kernel) ?_
  refine sw_refj 38 rfl ?_
  refine sw_iload_n (k0 := 2) 3 rfl (by decide +kernel) rfl ?_
  obtain ⟨g4, h⟩ := sw_gd_e h
  refine sw_iaload (a := 38) (by decide) rfl (sw_in_e g4) (by decide +kernel) ?_
  obtain ⟨g5, h⟩ := sw_gd_e h
  obtain ⟨m6, e7, h⟩ := sw_let_e h
  refine sw_iastore (a := 38) (by decide) rfl (sw_in_e g5) (by decide +kernel) ?_
  refine sw_mem e7 ?_
  refine sw_aload_n (k0 := 0) 1 rfl (by decide +kernel) rfl ?_
  refine gf_X3_22 (i := 34) (by decide) rfl (by decide +kernel) ?_
  refine sw_refj 38 rfl ?_
  refine sw_iload_n (k0 := 2) 3 rfl (by decide +kernel) rfl ?_
  refine sw_iload_n (k0 := 3) 0 rfl (by decide +kernel) rfl ?_
  obtain ⟨g8, h⟩ := sw_gd_e h
  obtain ⟨m9, e10, h⟩ := sw_let_e h
  refine sw_iastore (a := 38) (by decide) rfl (sw_in_e g8) (by decide +kernel) ?_
  refine sw_mem e10 ?_
  cases h
  obtain rfl : _ = res := hk
  exact sw_vret (by decide +kernel)
def fX3_toNextOrder_L83 (σ : sw_M) (a4 : Int32) (a5 : Int32) : Option ((Int32 × Int32 × sw_M) ⊕ (Int32 × sw_M)) :=
  if a5 ≤ a4 then
    some (.inr ((1, σ)))
  else
    sw_b1 (fX3_exchange σ a4 a5) fun m2 =>
    sw_let (a4 + 1) fun v4 =>
    sw_let (a5 + (-1)) fun v6 =>
    some (.inl (v4, v6, m2))
def fX3_toNextOrder_L67 (σ : sw_M) (a1 : Int32) (a2 : Int32) (a3 : Int32) : Option ((Int32 × sw_M)) :=
  sw_b1 (fX3_exchange σ a2 a3) fun m1 =>
  sw_let (a2 + 1) fun v3 =>
  sw_let (a1 - 1) fun v5 =>
  sw_wh sw_F (fun s => fX3_toNextOrder_L83 s.2.2 s.1 s.2.1) (v3, v5, m1)
def fX3_toNextOrder_L41 (σ : sw_M) (a1 : Int32) (a2 : Int32) (a3 : Int32) : Option ((Int32) ⊕ (Int32 × sw_M)) :=
  if a3 ≤ a2 then
    sw_up (fX3_toNextOrder_L67 σ a1 a2 a3)
  else
    sw_gd (sw_in a3 6) <|
    sw_gd (sw_in a2 6) <|
    if (σ.1 38 a2.toNatClampNeg) ≤ (σ.1 38 a3.toNatClampNeg) then
      sw_up (fX3_toNextOrder_L67 σ a1 a2 a3)
    else
      sw_let (a3 + (-1)) fun v7 =>
      some (.inl v7)
def fX3_toNextOrder_L31 (σ : sw_M) (a1 : Int32) (a2 : Int32) : Option ((Int32 × sw_M)) :=
  if (0 : Int32) ≤ a2 then
    sw_let (a1 - 1) fun v2 =>
    sw_wh sw_F (fun s => fX3_toNextOrder_L41 σ a1 a2 s) v2
  else
    some ((0, σ))
def fX3_toNextOrder_L4 (σ : sw_M) (a1 : Int32) (a2 : Int32) : Option ((Int32) ⊕ (Int32 × sw_M)) :=
  if a2 < 0 then
    sw_up (fX3_toNextOrder_L31 σ a1 a2)
  else
    sw_gd (sw_in a2 6) <|
    sw_gd (sw_in (a2 + 1) 6) <|
    if (σ.1 38 a2.toNatClampNeg) ≤ (σ.1 38 (a2 + 1).toNatClampNeg) then
      sw_up (fX3_toNextOrder_L31 σ a1 a2)
    else
      sw_let (a2 + (-1)) fun v7 =>
      some (.inl v7)
def fX3_toNextOrder (σ : sw_M) (a1 : Int32) : Option (Int32 × sw_M) :=
  sw_let (a1 - 2) fun v1 =>
  sw_wh sw_F (fun s => fX3_toNextOrder_L4 σ a1 s) v1
set_option maxRecDepth 20000 in
theorem sX3_toNextOrder_L83 {l : Launch} {E : sw_E} {K : Nat} (hK : 1 ≤ K) (σ : sw_M) (a4 : Int32) (a5 : Int32) {res : Int32 × sw_M} {t : (Int32 × Int32 × sw_M) ⊕ (Int32 × sw_M)} (h : fX3_toNextOrder_L83 σ a4 a5 = some t) (hk : (Sum.elim (fun s : Int32 × Int32 × sw_M => sw_Go l E K RX3 cX3_toNextOrder 6 (some .boolean) 83 [(0, .ref 34), (4, .int s.1), (5, .int s.2.1)] [] s.2.2 (some (.int res.1)) res.2) (fun q => q = res)) t) : sw_Go l E K RX3 cX3_toNextOrder 6 (some .boolean) 83 [(0, .ref 34), (4, .int a4), (5, .int a5)] [] σ (some (.int res.1)) res.2 := by
  unfold fX3_toNextOrder_L83 at h
  refine sw_iload 1 rfl (by decide +kernel) ?_
  refine sw_iload 2 rfl (by decide +kernel) ?_
  refine sw_icmp_ge (off := 20) 107 (by decide +kernel) (by decide) (fun c1 => ?_) (fun c1 => ?_)
  · rw [if_pos c1] at h
    refine sw_iconst (n := 1) (v := 1) (by decide +kernel) (by decide) ?_
    cases h
    obtain rfl : _ = res := hk
    exact sw_zret rfl (by decide +kernel)
  · rw [if_neg c1] at h
    refine sw_aload_n (k0 := 0) 0 rfl (by decide +kernel) rfl ?_
    refine sw_iload 1 rfl (by decide +kernel) ?_
    refine sw_iload 2 rfl (by decide +kernel) ?_
    obtain ⟨m2, w3, h⟩ := sw_b1_e h
    refine sw_callVv (ci := 3) (i := 34) [.int a4, .int a5] (sX3_exchange (K := K - 1) (by omega) σ a4 a5 w3) rfl (by omega) rfl gs_X3_97 hy_X3_exchange (by decide) (by decide) rfl rfl (Nat.le_of_ble_eq_true rfl) (by decide +kernel) ?_
    obtain ⟨v4, e5, h⟩ := sw_let_e h
    refine sw_iincv (i := 4) (n := 1) (lv' := [(4, .int v4), (0, .ref 34), (5, .int a5)]) 1 rfl e5 (by decide +kernel) (by decide) (by decide) rfl ?_
    obtain ⟨v6, e7, h⟩ := sw_let_e h
    refine sw_iincv (i := 5) (n := (-1)) (lv' := [(5, .int v6), (4, .int v4), (0, .ref 34)]) 2 rfl e7 (by decide +kernel) (by decide) (by decide) rfl ?_
    refine sw_goto (off := (-21)) 83 (by decide +kernel) (by decide) ?_
    cases h
    refine sw_lv [2, 1, 0] rfl ?_
    exact hk
set_option maxRecDepth 20000 in
theorem sX3_toNextOrder_L67 {l : Launch} {E : sw_E} {K : Nat} (hK : 1 ≤ K) (σ : sw_M) (a1 : Int32) (a2 : Int32) (a3 : Int32) {res : Int32 × sw_M} {t : (Int32 × sw_M)} (h : fX3_toNextOrder_L67 σ a1 a2 a3 = some t) (hk : (fun q => q = res) t) : sw_Go l E K RX3 cX3_toNextOrder 6 (some .boolean) 67 [(0, .ref 34), (1, .int a1), (2, .int a2), (3, .int a3)] [] σ (some (.int res.1)) res.2 := by
  unfold fX3_toNextOrder_L67 at h
  refine sw_aload_n (k0 := 0) 0 rfl (by decide +kernel) rfl ?_
  refine sw_iload_n (k0 := 2) 2 rfl (by decide +kernel) rfl ?_
  refine sw_iload_n (k0 := 3) 3 rfl (by decide +kernel) rfl ?_
  obtain ⟨m1, w2, h⟩ := sw_b1_e h
  refine sw_callVv (ci := 3) (i := 34) [.int a2, .int a3] (sX3_exchange (K := K - 1) (by omega) σ a2 a3 w2) rfl (by omega) rfl gs_X3_97 hy_X3_exchange (by decide) (by decide) rfl rfl (Nat.le_of_ble_eq_true rfl) (by decide +kernel) ?_
  refine sw_iload_n (k0 := 2) 2 rfl (by decide +kernel) rfl ?_
  refine sw_iconst (n := 1) (v := 1) (by decide +kernel) (by decide) ?_
  refine sw_iadd (by decide +kernel) ?_
  obtain ⟨v3, e4, h⟩ := sw_let_e h
  refine sw_topi e4 ?_
  refine sw_istore (i := 4) (lv' := [(4, .int v3), (0, .ref 34), (1, .int a1), (2, .int a2), (3, .int a3)]) (by decide +kernel) (by decide) rfl ?_
  refine sw_iload_n (k0 := 1) 2 rfl (by decide +kernel) rfl ?_
  refine sw_iconst (n := 1) (v := 1) (by decide +kernel) (by decide) ?_
  refine sw_isub (by decide +kernel) ?_
  obtain ⟨v5, e6, h⟩ := sw_let_e h
  refine sw_topi e6 ?_
  refine sw_istore (i := 5) (lv' := [(5, .int v5), (4, .int v3), (0, .ref 34), (1, .int a1), (2, .int a2), (3, .int a3)]) (by decide +kernel) (by decide) rfl ?_
  refine sw_lv [2, 1, 0] rfl ?_
  exact sw_wh_e (fun s : Int32 × Int32 × sw_M => sw_Go l E K RX3 cX3_toNextOrder 6 (some .boolean) 83 [(0, .ref 34), (4, .int s.1), (5, .int s.2.1)] [] s.2.2 (some (.int res.1)) res.2) (fun q => q = res) (fun s => fX3_toNextOrder_L83 s.2.2 s.1 s.2.1) (fun s t hb hk => sX3_toNextOrder_L83 hK s.2.2 s.1 s.2.1 hb hk) _ _ _ h hk
set_option maxRecDepth 20000 in
theorem sX3_toNextOrder_L41 {l : Launch} {E : sw_E} {K : Nat} (hK : 1 ≤ K) (σ : sw_M) (a1 : Int32) (a2 : Int32) (a3 : Int32) {res : Int32 × sw_M} {t : (Int32) ⊕ (Int32 × sw_M)} (h : fX3_toNextOrder_L41 σ a1 a2 a3 = some t) (hk : (Sum.elim (fun s : Int32 => sw_Go l E K RX3 cX3_toNextOrder 6 (some .boolean) 41 [(0, .ref 34), (1, .int a1), (2, .int a2), (3, .int s)] [] σ (some (.int res.1)) res.2) (fun q => q = res)) t) : sw_Go l E K RX3 cX3_toNextOrder 6 (some .boolean) 41 [(0, .ref 34), (1, .int a1), (2, .int a2), (3, .int a3)] [] σ (some (.int res.1)) res.2 := by
  unfold fX3_toNextOrder_L41 at h
  refine sw_iload_n (k0 := 3) 3 rfl (by decide +kernel) rfl ?_
  refine sw_iload_n (k0 := 2) 2 rfl (by decide +kernel) rfl ?_
  refine sw_icmp_le (off := 24) 67 (by decide +kernel) (by decide) (fun c1 => ?_) (fun c1 => ?_)
  · rw [if_pos c1] at h
    obtain ⟨q1, h1, rfl⟩ := sw_up_e h
    replace h := h1
    exact sX3_toNextOrder_L67 hK σ a1 a2 a3 h hk
  · rw [if_neg c1] at h
    refine sw_aload_n (k0 := 0) 0 rfl (by decide +kernel) rfl ?_
    refine gf_X3_22 (i := 34) (by decide) rfl (by decide +kernel) ?_
    refine sw_refj 38 rfl ?_
    refine sw_iload_n (k0 := 3) 3 rfl (by decide +kernel) rfl ?_
    obtain ⟨g3, h⟩ := sw_gd_e h
    refine sw_iaload (a := 38) (by decide) rfl (sw_in_e g3) (by decide +kernel) ?_
    refine sw_aload_n (k0 := 0) 0 rfl (by decide +kernel) rfl ?_
    refine gf_X3_22 (i := 34) (by decide) rfl (by decide +kernel) ?_
    refine sw_refj 38 rfl ?_
    refine sw_iload_n (k0 := 2) 2 rfl (by decide +kernel) rfl ?_
    obtain ⟨g4, h⟩ := sw_gd_e h
    refine sw_iaload (a := 38) (by decide) rfl (sw_in_e g4) (by decide +kernel) ?_
    refine sw_icmp_ge (off := 9) 67 (by decide +kernel) (by decide) (fun c5 => ?_) (fun c5 => ?_)
    · rw [if_pos c5] at h
      obtain ⟨q5, h5, rfl⟩ := sw_up_e h
      replace h := h5
      exact sX3_toNextOrder_L67 hK σ a1 a2 a3 h hk
    · rw [if_neg c5] at h
      obtain ⟨v7, e8, h⟩ := sw_let_e h
      refine sw_iincv (i := 3) (n := (-1)) (lv' := [(3, .int v7), (0, .ref 34), (1, .int a1), (2, .int a2)]) 3 rfl e8 (by decide +kernel) (by decide) (by decide) rfl ?_
      refine sw_goto (off := (-23)) 41 (by decide +kernel) (by decide) ?_
      cases h
      refine sw_lv [1, 2, 3, 0] rfl ?_
      exact hk
set_option maxRecDepth 20000 in
theorem sX3_toNextOrder_L31 {l : Launch} {E : sw_E} {K : Nat} (hK : 1 ≤ K) (σ : sw_M) (a1 : Int32) (a2 : Int32) {res : Int32 × sw_M} {t : (Int32 × sw_M)} (h : fX3_toNextOrder_L31 σ a1 a2 = some t) (hk : (fun q => q = res) t) : sw_Go l E K RX3 cX3_toNextOrder 6 (some .boolean) 31 [(0, .ref 34), (1, .int a1), (2, .int a2)] [] σ (some (.int res.1)) res.2 := by
  unfold fX3_toNextOrder_L31 at h
  refine sw_iload_n (k0 := 2) 2 rfl (by decide +kernel) rfl ?_
  refine sw_if_ge (off := 5) 37 (by decide +kernel) (by decide) (fun c1 => ?_) (fun c1 => ?_)
  · rw [if_pos c1] at h
    refine sw_iload_n (k0 := 1) 1 rfl (by decide +kernel) rfl ?_
    refine sw_iconst (n := 1) (v := 1) (by decide +kernel) (by decide) ?_
    refine sw_isub (by decide +kernel) ?_
    obtain ⟨v2, e3, h⟩ := sw_let_e h
    refine sw_topi e3 ?_
    refine sw_istore_n (k0 := 3) (lv' := [(3, .int v2), (0, .ref 34), (1, .int a1), (2, .int a2)]) (by decide +kernel) rfl (by decide) rfl ?_
    refine sw_lv [1, 2, 3, 0] rfl ?_
    exact sw_wh_e (fun s : Int32 => sw_Go l E K RX3 cX3_toNextOrder 6 (some .boolean) 41 [(0, .ref 34), (1, .int a1), (2, .int a2), (3, .int s)] [] σ (some (.int res.1)) res.2) (fun q => q = res) (fun s => fX3_toNextOrder_L41 σ a1 a2 s) (fun s t hb hk => sX3_toNextOrder_L41 hK σ a1 a2 s hb hk) _ _ _ h hk
  · rw [if_neg c1] at h
    refine sw_iconst (n := 0) (v := 0) (by decide +kernel) (by decide) ?_
    cases h
    obtain rfl : _ = res := hk
    exact sw_zret rfl (by decide +kernel)
set_option maxRecDepth 20000 in
theorem sX3_toNextOrder_L4 {l : Launch} {E : sw_E} {K : Nat} (hK : 1 ≤ K) (σ : sw_M) (a1 : Int32) (a2 : Int32) {res : Int32 × sw_M} {t : (Int32) ⊕ (Int32 × sw_M)} (h : fX3_toNextOrder_L4 σ a1 a2 = some t) (hk : (Sum.elim (fun s : Int32 => sw_Go l E K RX3 cX3_toNextOrder 6 (some .boolean) 4 [(0, .ref 34), (1, .int a1), (2, .int s)] [] σ (some (.int res.1)) res.2) (fun q => q = res)) t) : sw_Go l E K RX3 cX3_toNextOrder 6 (some .boolean) 4 [(0, .ref 34), (1, .int a1), (2, .int a2)] [] σ (some (.int res.1)) res.2 := by
  unfold fX3_toNextOrder_L4 at h
  refine sw_iload_n (k0 := 2) 2 rfl (by decide +kernel) rfl ?_
  refine sw_if_lt (off := 26) 31 (by decide +kernel) (by decide) (fun c1 => ?_) (fun c1 => ?_)
  · rw [if_pos c1] at h
    obtain ⟨q1, h1, rfl⟩ := sw_up_e h
    replace h := h1
    exact sX3_toNextOrder_L31 hK σ a1 a2 h hk
  · rw [if_neg c1] at h
    refine sw_aload_n (k0 := 0) 0 rfl (by decide +kernel) rfl ?_
    refine gf_X3_22 (i := 34) (by decide) rfl (by decide +kernel) ?_
    refine sw_refj 38 rfl ?_
    refine sw_iload_n (k0 := 2) 2 rfl (by decide +kernel) rfl ?_
    obtain ⟨g3, h⟩ := sw_gd_e h
    refine sw_iaload (a := 38) (by decide) rfl (sw_in_e g3) (by decide +kernel) ?_
    refine sw_aload_n (k0 := 0) 0 rfl (by decide +kernel) rfl ?_
    refine gf_X3_22 (i := 34) (by decide) rfl (by decide +kernel) ?_
    refine sw_refj 38 rfl ?_
    refine sw_iload_n (k0 := 2) 2 rfl (by decide +kernel) rfl ?_
    refine sw_iconst (n := 1) (v := 1) (by decide +kernel) (by decide) ?_
    refine sw_iadd (by decide +kernel) ?_
    obtain ⟨g4, h⟩ := sw_gd_e h
    refine sw_iaload (a := 38) (by decide) rfl (sw_in_e g4) (by decide +kernel) ?_
    refine sw_icmp_le (off := 9) 31 (by decide +kernel) (by decide) (fun c5 => ?_) (fun c5 => ?_)
    · rw [if_pos c5] at h
      obtain ⟨q5, h5, rfl⟩ := sw_up_e h
      replace h := h5
      exact sX3_toNextOrder_L31 hK σ a1 a2 h hk
    · rw [if_neg c5] at h
      obtain ⟨v7, e8, h⟩ := sw_let_e h
      refine sw_iincv (i := 2) (n := (-1)) (lv' := [(2, .int v7), (0, .ref 34), (1, .int a1)]) 2 rfl e8 (by decide +kernel) (by decide) (by decide) rfl ?_
      refine sw_goto (off := (-24)) 4 (by decide +kernel) (by decide) ?_
      cases h
      refine sw_lv [1, 2, 0] rfl ?_
      exact hk
set_option maxRecDepth 20000 in
theorem sX3_toNextOrder {l : Launch} {E : sw_E} {K : Nat} (hK : 1 ≤ K) (σ : sw_M) (a1 : Int32) {res : Int32 × sw_M} (h : fX3_toNextOrder σ a1 = some res) : sw_Ct l E K yX3_toNextOrder cX3_toNextOrder 6 (some .boolean) [.ref 34, .int a1] σ (some (.int res.1)) res.2 := by
  obtain ⟨t, hk, h⟩ : ∃ t, t = res ∧ fX3_toNextOrder σ a1 = some t := ⟨res, rfl, h⟩
  unfold fX3_toNextOrder at h
  refine sw_enter2 (own := RX3) (lv := [(0, .ref 34), (1, .int a1)]) (by decide +kernel) (Nat.le_of_ble_eq_true rfl) rfl rfl ?_
  refine sw_iload_n (k0 := 1) 1 rfl (by decide +kernel) rfl ?_
  refine sw_iconst (n := 2) (v := 2) (by decide +kernel) (by decide) ?_
  refine sw_isub (by decide +kernel) ?_
  obtain ⟨v1, e2, h⟩ := sw_let_e h
  refine sw_topi e2 ?_
  refine sw_istore_n (k0 := 2) (lv' := [(2, .int v1), (0, .ref 34), (1, .int a1)]) (by decide +kernel) rfl (by decide) rfl ?_
  refine sw_lv [1, 2, 0] rfl ?_
  exact sw_wh_e (fun s : Int32 => sw_Go l E K RX3 cX3_toNextOrder 6 (some .boolean) 4 [(0, .ref 34), (1, .int a1), (2, .int s)] [] σ (some (.int res.1)) res.2) (fun q => q = res) (fun s => fX3_toNextOrder_L4 σ a1 s) (fun s t hb hk => sX3_toNextOrder_L4 hK σ a1 s hb hk) _ _ _ h hk
def fX3_mostByOrder_L76 (P1 : Nat) (P2 : Nat) (P4 : Nat) (σ : sw_M) (a3 : Int32) (a5 : Int32) (a6 : Int32) : Option ((Int32 × Int32 × sw_M) ⊕ (Int32 × sw_M)) :=
  sw_b2 (fX3_toNextOrder σ (σ.1 P1 2)) fun r1 m2 =>
  if r1 = 0 then
    some (.inr ((a5, m2)))
  else
    sw_let (a6 + 1) fun v5 =>
    some (.inl (a5, v5, m2))
def fX3_mostByOrder_L33 (P1 : Nat) (P2 : Nat) (P4 : Nat) (σ : sw_M) (a3 : Int32) (a5 : Int32) (a6 : Int32) : Option ((Int32 × Int32 × sw_M) ⊕ (Int32 × sw_M)) :=
  if 720 ≤ a6 then
    some (.inr ((a5, σ)))
  else
    sw_b2 (fX3_muchByOrder P1 P2 σ a3) fun r2 m3 =>
    if r2 ≤ a5 then
      fX3_mostByOrder_L76 P1 P2 P4 m3 a3 a5 a6
    else
      sw_gd (sw_cg 0 0 (m3.1 P1 2) 6 (sw_s P4).2) <|
      sw_let (sw_wA m3 P4 (va_cpy (m3.1 38) (m3.1 P4) (0 : Int32).toNatClampNeg (0 : Int32).toNatClampNeg (m3.1 P1 2).toNatClampNeg)) fun m7 =>
      fX3_mostByOrder_L76 P1 P2 P4 m7 a3 r2 a6
def fX3_mostByOrder_L3 (P1 : Nat) (P2 : Nat) (P4 : Nat) (σ : sw_M) (a3 : Int32) (a5 : Int32) : Option ((Int32 × sw_M) ⊕ (Int32 × sw_M)) :=
  if (σ.1 P1 2) ≤ a5 then
    sw_up (sw_wh sw_F (fun s => fX3_mostByOrder_L33 P1 P2 P4 s.2.2 a3 s.1 s.2.1) ((-1), 0, σ))
  else
    sw_gd (sw_in a5 6) <|
    sw_let (sw_w σ 38 a5.toNatClampNeg a5) fun m4 =>
    sw_let (a5 + 1) fun v6 =>
    some (.inl (v6, m4))
def fX3_mostByOrder (P1 : Nat) (P2 : Nat) (P4 : Nat) (σ : sw_M) (a3 : Int32) : Option (Int32 × sw_M) :=
  sw_wh sw_F (fun s => fX3_mostByOrder_L3 P1 P2 P4 s.2 a3 s.1) (0, σ)
set_option maxRecDepth 20000 in
theorem sX3_mostByOrder_L76 {l : Launch} {E : sw_E} {K : Nat} (hK : 4 ≤ K) (P1 : Nat) (P2 : Nat) (P4 : Nat) (hP1 : sw_isP P1) (hP2 : sw_isV P2) (hP4 : sw_isA 1 P4) (σ : sw_M) (a3 : Int32) (a5 : Int32) (a6 : Int32) {res : Int32 × sw_M} {t : (Int32 × Int32 × sw_M) ⊕ (Int32 × sw_M)} (h : fX3_mostByOrder_L76 P1 P2 P4 σ a3 a5 a6 = some t) (hk : (Sum.elim (fun s : Int32 × Int32 × sw_M => sw_Go l E K RX3 cX3_mostByOrder 8 (some .int) 33 [(0, .ref 34), (1, .ref P1), (2, .ref P2), (3, .int a3), (4, .ref P4), (5, .int s.1), (6, .int s.2.1)] [] s.2.2 (some (.int res.1)) res.2) (fun q => q = res)) t) : sw_Go l E K RX3 cX3_mostByOrder 8 (some .int) 76 [(0, .ref 34), (1, .ref P1), (2, .ref P2), (3, .int a3), (4, .ref P4), (5, .int a5), (6, .int a6)] [] σ (some (.int res.1)) res.2 := by
  unfold fX3_mostByOrder_L76 at h
  refine sw_aload_n (k0 := 0) 0 rfl (by decide +kernel) rfl ?_
  refine sw_aload_n (k0 := 1) 1 rfl (by decide +kernel) rfl ?_
  refine gf_X3_68 (i := P1) hP1.o.1 hP1.o.2 (by decide +kernel) ?_
  obtain ⟨r1, m2, w3, h⟩ := sw_b2_e h
  refine sw_callVi (ci := 3) (i := 34) [.int (σ.1 P1 2)] (sX3_toNextOrder (K := K - 1) (by omega) σ (σ.1 P1 2) w3) rfl (by omega) rfl gs_X3_89 hy_X3_toNextOrder (by decide) (by decide) rfl rfl (Nat.le_of_ble_eq_true rfl) (by decide +kernel) ?_
  refine sw_if_ne (off := 6) 90 (by decide +kernel) (by decide) (fun c4 => ?_) (fun c4 => ?_)
  · rw [if_neg c4] at h
    obtain ⟨v5, e6, h⟩ := sw_let_e h
    refine sw_iincv (i := 6) (n := 1) (lv' := [(6, .int v5), (0, .ref 34), (1, .ref P1), (2, .ref P2), (3, .int a3), (4, .ref P4), (5, .int a5)]) 6 rfl e6 (by decide +kernel) (by decide) (by decide) rfl ?_
    refine sw_goto (off := (-60)) 33 (by decide +kernel) (by decide) ?_
    cases h
    refine sw_lv [1, 2, 3, 4, 5, 6, 0] rfl ?_
    exact hk
  · rw [if_pos c4] at h
    refine sw_iload 5 rfl (by decide +kernel) ?_
    cases h
    obtain rfl : _ = res := hk
    exact sw_iret (by decide +kernel)
set_option maxRecDepth 20000 in
theorem sX3_mostByOrder_L33 {l : Launch} {E : sw_E} {K : Nat} (hK : 4 ≤ K) (P1 : Nat) (P2 : Nat) (P4 : Nat) (hP1 : sw_isP P1) (hP2 : sw_isV P2) (hP4 : sw_isA 1 P4) (σ : sw_M) (a3 : Int32) (a5 : Int32) (a6 : Int32) {res : Int32 × sw_M} {t : (Int32 × Int32 × sw_M) ⊕ (Int32 × sw_M)} (h : fX3_mostByOrder_L33 P1 P2 P4 σ a3 a5 a6 = some t) (hk : (Sum.elim (fun s : Int32 × Int32 × sw_M => sw_Go l E K RX3 cX3_mostByOrder 8 (some .int) 33 [(0, .ref 34), (1, .ref P1), (2, .ref P2), (3, .int a3), (4, .ref P4), (5, .int s.1), (6, .int s.2.1)] [] s.2.2 (some (.int res.1)) res.2) (fun q => q = res)) t) : sw_Go l E K RX3 cX3_mostByOrder 8 (some .int) 33 [(0, .ref 34), (1, .ref P1), (2, .ref P2), (3, .int a3), (4, .ref P4), (5, .int a5), (6, .int a6)] [] σ (some (.int res.1)) res.2 := by
  unfold fX3_mostByOrder_L33 at h
  refine sw_iload 6 rfl (by decide +kernel) ?_
  refine sw_sipush (n := 720) (v := 720) (by decide +kernel) (by decide) ?_
  refine sw_icmp_ge (off := 58) 96 (by decide +kernel) (by decide) (fun c1 => ?_) (fun c1 => ?_)
  · rw [if_pos c1] at h
    refine sw_iload 5 rfl (by decide +kernel) ?_
    cases h
    obtain rfl : _ = res := hk
    exact sw_iret (by decide +kernel)
  · rw [if_neg c1] at h
    refine sw_aload_n (k0 := 0) 0 rfl (by decide +kernel) rfl ?_
    refine sw_aload_n (k0 := 1) 1 rfl (by decide +kernel) rfl ?_
    refine sw_aload_n (k0 := 2) 2 rfl (by decide +kernel) rfl ?_
    refine sw_iload_n (k0 := 3) 3 rfl (by decide +kernel) rfl ?_
    obtain ⟨r2, m3, w4, h⟩ := sw_b2_e h
    refine sw_callVi (ci := 3) (i := 34) [.ref P1, .ref P2, .int a3] (sX3_muchByOrder (K := K - 1) (by omega) P1 P2 hP1 hP2 σ a3 w4) rfl (by omega) rfl gs_X3_79 hy_X3_muchByOrder (by decide) (by decide) rfl rfl (Nat.le_of_ble_eq_true rfl) (by decide +kernel) ?_
    refine sw_istore (i := 7) (lv' := [(7, .int r2), (0, .ref 34), (1, .ref P1), (2, .ref P2), (3, .int a3), (4, .ref P4), (5, .int a5), (6, .int a6)]) (by decide +kernel) (by decide) rfl ?_
    refine sw_iload 0 rfl (by decide +kernel) ?_
    refine sw_iload 6 rfl (by decide +kernel) ?_
    refine sw_icmp_le (off := 22) 76 (by decide +kernel) (by decide) (fun c5 => ?_) (fun c5 => ?_)
    · rw [if_pos c5] at h
      refine sw_lv [1, 2, 3, 4, 5, 6, 7] rfl ?_
      exact sX3_mostByOrder_L76 hK P1 P2 P4 hP1 hP2 hP4 m3 a3 a5 a6 h hk
    · rw [if_neg c5] at h
      refine sw_iload 0 rfl (by decide +kernel) ?_
      refine sw_istore (i := 5) (lv' := [(5, .int r2), (7, .int r2), (0, .ref 34), (1, .ref P1), (2, .ref P2), (3, .int a3), (4, .ref P4), (6, .int a6)]) (by decide +kernel) (by decide) rfl ?_
      refine sw_aload_n (k0 := 0) 2 rfl (by decide +kernel) rfl ?_
      refine gf_X3_22 (i := 34) (by decide) rfl (by decide +kernel) ?_
      refine sw_refj 38 rfl ?_
      refine sw_iconst (n := 0) (v := 0) (by decide +kernel) (by decide) ?_
      refine sw_aload 6 rfl (by decide +kernel) ?_
      refine sw_iconst (n := 0) (v := 0) (by decide +kernel) (by decide) ?_
      refine sw_aload_n (k0 := 1) 3 rfl (by decide +kernel) rfl ?_
      refine gf_X3_68 (i := P1) hP1.o.1 hP1.o.2 (by decide +kernel) ?_
      obtain ⟨g6, h⟩ := sw_gd_e h
      obtain ⟨m7, e8, h⟩ := sw_let_e h
      refine sw_acopy (a0 := 38) (a := P4) ac_X3_83 ac_nat ac_sta ac_ini (by decide) rfl hP4.1 hP4.s (sw_cg_e g6).1 (sw_cg_e g6).2.1 (sw_cg_e g6).2.2.1 (sw_cg_e g6).2.2.2.1 (sw_cg_e g6).2.2.2.2 (by omega) (by decide) (by decide +kernel) ?_
      refine sw_mem e8 ?_
      refine sw_lv [2, 3, 4, 5, 6, 0, 7] rfl ?_
      exact sX3_mostByOrder_L76 hK P1 P2 P4 hP1 hP2 hP4 m7 a3 r2 a6 h hk
set_option maxRecDepth 20000 in
theorem sX3_mostByOrder_L3 {l : Launch} {E : sw_E} {K : Nat} (hK : 4 ≤ K) (P1 : Nat) (P2 : Nat) (P4 : Nat) (hP1 : sw_isP P1) (hP2 : sw_isV P2) (hP4 : sw_isA 1 P4) (σ : sw_M) (a3 : Int32) (a5 : Int32) {res : Int32 × sw_M} {t : (Int32 × sw_M) ⊕ (Int32 × sw_M)} (h : fX3_mostByOrder_L3 P1 P2 P4 σ a3 a5 = some t) (hk : (Sum.elim (fun s : Int32 × sw_M => sw_Go l E K RX3 cX3_mostByOrder 8 (some .int) 3 [(0, .ref 34), (1, .ref P1), (2, .ref P2), (3, .int a3), (4, .ref P4), (5, .int s.1)] [] s.2 (some (.int res.1)) res.2) (fun q => q = res)) t) : sw_Go l E K RX3 cX3_mostByOrder 8 (some .int) 3 [(0, .ref 34), (1, .ref P1), (2, .ref P2), (3, .int a3), (4, .ref P4), (5, .int a5)] [] σ (some (.int res.1)) res.2 := by
  unfold fX3_mostByOrder_L3 at h
  refine sw_iload 5 rfl (by decide +kernel) ?_
  refine sw_aload_n (k0 := 1) 1 rfl (by decide +kernel) rfl ?_
  refine gf_X3_68 (i := P1) hP1.o.1 hP1.o.2 (by decide +kernel) ?_
  refine sw_icmp_ge (off := 18) 27 (by decide +kernel) (by decide) (fun c1 => ?_) (fun c1 => ?_)
  · rw [if_pos c1] at h
    refine sw_iconst (n := (-1)) (v := (-1)) (by decide +kernel) (by decide) ?_
    refine sw_istore (i := 5) (lv' := [(5, .int (-1)), (0, .ref 34), (1, .ref P1), (2, .ref P2), (3, .int a3), (4, .ref P4)]) (by decide +kernel) (by decide) rfl ?_
    refine sw_iconst (n := 0) (v := 0) (by decide +kernel) (by decide) ?_
    refine sw_istore (i := 6) (lv' := [(6, .int 0), (5, .int (-1)), (0, .ref 34), (1, .ref P1), (2, .ref P2), (3, .int a3), (4, .ref P4)]) (by decide +kernel) (by decide) rfl ?_
    obtain ⟨q1, h1, rfl⟩ := sw_up_e h
    replace h := h1
    refine sw_lv [2, 3, 4, 5, 6, 1, 0] rfl ?_
    exact sw_wh_e (fun s : Int32 × Int32 × sw_M => sw_Go l E K RX3 cX3_mostByOrder 8 (some .int) 33 [(0, .ref 34), (1, .ref P1), (2, .ref P2), (3, .int a3), (4, .ref P4), (5, .int s.1), (6, .int s.2.1)] [] s.2.2 (some (.int res.1)) res.2) (fun q => q = res) (fun s => fX3_mostByOrder_L33 P1 P2 P4 s.2.2 a3 s.1 s.2.1) (fun s t hb hk => sX3_mostByOrder_L33 hK P1 P2 P4 hP1 hP2 hP4 s.2.2 a3 s.1 s.2.1 hb hk) _ _ _ h hk
  · rw [if_neg c1] at h
    refine sw_aload_n (k0 := 0) 0 rfl (by decide +kernel) rfl ?_
    refine gf_X3_22 (i := 34) (by decide) rfl (by decide +kernel) ?_
    refine sw_refj 38 rfl ?_
    refine sw_iload 5 rfl (by decide +kernel) ?_
    refine sw_iload 5 rfl (by decide +kernel) ?_
    obtain ⟨g3, h⟩ := sw_gd_e h
    obtain ⟨m4, e5, h⟩ := sw_let_e h
    refine sw_iastore (a := 38) (by decide) rfl (sw_in_e g3) (by decide +kernel) ?_
    refine sw_mem e5 ?_
    obtain ⟨v6, e7, h⟩ := sw_let_e h
    refine sw_iincv (i := 5) (n := 1) (lv' := [(5, .int v6), (0, .ref 34), (1, .ref P1), (2, .ref P2), (3, .int a3), (4, .ref P4)]) 5 rfl e7 (by decide +kernel) (by decide) (by decide) rfl ?_
    refine sw_goto (off := (-21)) 3 (by decide +kernel) (by decide) ?_
    cases h
    refine sw_lv [1, 2, 3, 4, 5, 0] rfl ?_
    exact hk
set_option maxRecDepth 20000 in
theorem sX3_mostByOrder {l : Launch} {E : sw_E} {K : Nat} (hK : 4 ≤ K) (P1 : Nat) (P2 : Nat) (P4 : Nat) (hP1 : sw_isP P1) (hP2 : sw_isV P2) (hP4 : sw_isA 1 P4) (σ : sw_M) (a3 : Int32) {res : Int32 × sw_M} (h : fX3_mostByOrder P1 P2 P4 σ a3 = some res) : sw_Ct l E K yX3_mostByOrder cX3_mostByOrder 8 (some .int) [.ref 34, .ref P1, .ref P2, .int a3, .ref P4] σ (some (.int res.1)) res.2 := by
  obtain ⟨t, hk, h⟩ : ∃ t, t = res ∧ fX3_mostByOrder P1 P2 P4 σ a3 = some t := ⟨res, rfl, h⟩
  unfold fX3_mostByOrder at h
  refine sw_enter2 (own := RX3) (lv := [(0, .ref 34), (1, .ref P1), (2, .ref P2), (3, .int a3), (4, .ref P4)]) (by decide +kernel) (Nat.le_of_ble_eq_true rfl) rfl rfl ?_
  refine sw_iconst (n := 0) (v := 0) (by decide +kernel) (by decide) ?_
  refine sw_istore (i := 5) (lv' := [(5, .int 0), (0, .ref 34), (1, .ref P1), (2, .ref P2), (3, .int a3), (4, .ref P4)]) (by decide +kernel) (by decide) rfl ?_
  refine sw_lv [1, 2, 3, 4, 5, 0] rfl ?_
  exact sw_wh_e (fun s : Int32 × sw_M => sw_Go l E K RX3 cX3_mostByOrder 8 (some .int) 3 [(0, .ref 34), (1, .ref P1), (2, .ref P2), (3, .int a3), (4, .ref P4), (5, .int s.1)] [] s.2 (some (.int res.1)) res.2) (fun q => q = res) (fun s => fX3_mostByOrder_L3 P1 P2 P4 s.2 a3 s.1) (fun s t hb hk => sX3_mostByOrder_L3 hK P1 P2 P4 hP1 hP2 hP4 s.2 a3 s.1 hb hk) _ _ _ h hk
def fX4_burden_L4 (P0 : Nat) (σ : sw_M) (a1 : Int32) (a2 : Int32) (a3 : Int32) : Option ((Int32 × Int32) ⊕ (Int32)) :=
  if (σ.1 P0 0) ≤ a3 then
    some (.inr (a2))
  else
    sw_b1 (fX4_has P0 σ a1 a3) fun r2 =>
    sw_let (a2 + r2) fun v4 =>
    sw_let (a3 + 1) fun v6 =>
    some (.inl (v4, v6))
def fX4_burden (P0 : Nat) (σ : sw_M) (a1 : Int32) : Option (Int32) :=
  sw_wh sw_F (fun s => fX4_burden_L4 P0 σ a1 s.1 s.2) (0, 0)
set_option maxRecDepth 20000 in
theorem sX4_burden_L4 {l : Launch} {E : sw_E} {K : Nat} (hK : 1 ≤ K) (P0 : Nat) (hP0 : sw_isP P0) (σ : sw_M) (a1 : Int32) (a2 : Int32) (a3 : Int32) {res : Int32} {t : (Int32 × Int32) ⊕ (Int32)} (h : fX4_burden_L4 P0 σ a1 a2 a3 = some t) (hk : (Sum.elim (fun s : Int32 × Int32 => sw_Go l E K RX4 cX4_burden 4 (some .int) 4 [(0, .ref P0), (1, .int a1), (2, .int s.1), (3, .int s.2)] [] σ (some (.int res)) σ) (fun q => q = res)) t) : sw_Go l E K RX4 cX4_burden 4 (some .int) 4 [(0, .ref P0), (1, .int a1), (2, .int a2), (3, .int a3)] [] σ (some (.int res)) σ := by
  unfold fX4_burden_L4 at h
  refine sw_iload_n (k0 := 3) 3 rfl (by decide +kernel) rfl ?_
  refine sw_aload_n (k0 := 0) 0 rfl (by decide +kernel) rfl ?_
  refine gf_X4_38 (i := P0) hP0.o.1 hP0.o.2 (by decide +kernel) ?_
  refine sw_icmp_ge (off := 18) 27 (by decide +kernel) (by decide) (fun c1 => ?_) (fun c1 => ?_)
  · rw [if_pos c1] at h
    refine sw_iload_n (k0 := 2) 2 rfl (by decide +kernel) rfl ?_
    cases h
    obtain rfl : _ = res := hk
    exact sw_iret (by decide +kernel)
  · rw [if_neg c1] at h
    refine sw_iload_n (k0 := 2) 2 rfl (by decide +kernel) rfl ?_
    refine sw_aload_n (k0 := 0) 0 rfl (by decide +kernel) rfl ?_
    refine sw_iload_n (k0 := 1) 1 rfl (by decide +kernel) rfl ?_
    refine sw_iload_n (k0 := 3) 3 rfl (by decide +kernel) rfl ?_
    obtain ⟨r2, w3, h⟩ := sw_b1_e h
    refine sw_callVi (ci := 4) (i := P0) [.int a1, .int a3] (sX4_has (K := K - 1) (by omega) P0 hP0 σ a1 a3 w3) rfl (by omega) rfl gs_X4_76 hy_X4_has (by decide) hP0.o.1 hP0.o.2 rfl (Nat.le_of_ble_eq_true rfl) (by decide +kernel) ?_
    refine sw_iadd (by decide +kernel) ?_
    obtain ⟨v4, e5, h⟩ := sw_let_e h
    refine sw_topi e5 ?_
    refine sw_istore_n (k0 := 2) (lv' := [(2, .int v4), (0, .ref P0), (1, .int a1), (3, .int a3)]) (by decide +kernel) rfl (by decide) rfl ?_
    obtain ⟨v6, e7, h⟩ := sw_let_e h
    refine sw_iincv (i := 3) (n := 1) (lv' := [(3, .int v6), (2, .int v4), (0, .ref P0), (1, .int a1)]) 3 rfl e7 (by decide +kernel) (by decide) (by decide) rfl ?_
    refine sw_goto (off := (-20)) 4 (by decide +kernel) (by decide) ?_
    cases h
    refine sw_lv [2, 3, 1, 0] rfl ?_
    exact hk
set_option maxRecDepth 20000 in
theorem sX4_burden {l : Launch} {E : sw_E} {K : Nat} (hK : 1 ≤ K) (P0 : Nat) (hP0 : sw_isP P0) (σ : sw_M) (a1 : Int32) {res : Int32} (h : fX4_burden P0 σ a1 = some res) : sw_Ct l E K yX4_burden cX4_burden 4 (some .int) [.ref P0, .int a1] σ (some (.int res)) σ := by
  obtain ⟨t, hk, h⟩ : ∃ t, t = res ∧ fX4_burden P0 σ a1 = some t := ⟨res, rfl, h⟩
  unfold fX4_burden at h
  refine sw_enter2 (own := RX4) (lv := [(0, .ref P0), (1, .int a1)]) (by decide +kernel) (Nat.le_of_ble_eq_true rfl) rfl rfl ?_
  refine sw_iconst (n := 0) (v := 0) (by decide +kernel) (by decide) ?_
  refine sw_istore_n (k0 := 2) (lv' := [(2, .int 0), (0, .ref P0), (1, .int a1)]) (by decide +kernel) rfl (by decide) rfl ?_
  refine sw_iconst (n := 0) (v := 0) (by decide +kernel) (by decide) ?_
  refine sw_istore_n (k0 := 3) (lv' := [(3, .int 0), (2, .int 0), (0, .ref P0), (1, .int a1)]) (by decide +kernel) rfl (by decide) rfl ?_
  refine sw_lv [2, 3, 1, 0] rfl ?_
  exact sw_wh_e (fun s : Int32 × Int32 => sw_Go l E K RX4 cX4_burden 4 (some .int) 4 [(0, .ref P0), (1, .int a1), (2, .int s.1), (3, .int s.2)] [] σ (some (.int res)) σ) (fun q => q = res) (fun s => fX4_burden_L4 P0 σ a1 s.1 s.2) (fun s t hb hk => sX4_burden_L4 hK P0 hP0 σ a1 s.1 s.2 hb hk) _ _ _ h hk
def fX3_gain (a0 : Int32) (a1 : Int32) (a2 : Int32) (a3 : Int32) : Int32 :=
  if ((a0 >>> (a1 &&& 31)) &&& 1) = 1 then
    (-5)
  else
    if (a1 &&& a2) = 0 then
      0
    else
      a3
set_option maxRecDepth 20000 in
theorem sX3_gain {l : Launch} {E : sw_E} {K : Nat} (hK : 0 ≤ K) (σ : sw_M) (a0 : Int32) (a1 : Int32) (a2 : Int32) (a3 : Int32) {res : Int32} (h : fX3_gain a0 a1 a2 a3 = res) : sw_Ct l E K yX3_gain cX3_gain 4 (some .int) [.int a0, .int a1, .int a2, .int a3] σ (some (.int res)) σ := by
  obtain ⟨t, hk, h⟩ : ∃ t, t = res ∧ fX3_gain a0 a1 a2 a3 = t := ⟨res, rfl, h⟩
  unfold fX3_gain at h
  refine sw_enter2 (own := RX3) (lv := [(0, .int a0), (1, .int a1), (2, .int a2), (3, .int a3)]) (by decide +kernel) (Nat.le_of_ble_eq_true rfl) rfl rfl ?_
  refine sw_iload_n (k0 := 0) 0 rfl (by decide +kernel) rfl ?_
  refine sw_iload_n (k0 := 1) 1 rfl (by decide +kernel) rfl ?_
  refine sw_ishr (by decide +kernel) ?_
  refine sw_iconst (n := 1) (v := 1) (by decide +kernel) (by decide) ?_
  refine sw_iand (by decide +kernel) ?_
  refine sw_iconst (n := 1) (v := 1) (by decide +kernel) (by decide) ?_
  refine sw_icmp_ne (off := 6) 12 (by decide +kernel) (by decide) (fun c1 => ?_) (fun c1 => ?_)
  · rw [if_neg c1] at h
    refine sw_iload_n (k0 := 1) 1 rfl (by decide +kernel) rfl ?_
    refine sw_iload_n (k0 := 2) 2 rfl (by decide +kernel) rfl ?_
    refine sw_iand (by decide +kernel) ?_
    refine sw_if_ne (off := 7) 22 (by decide +kernel) (by decide) (fun c2 => ?_) (fun c2 => ?_)
    · rw [if_neg c2] at h
      refine sw_iload_n (k0 := 3) 3 rfl (by decide +kernel) rfl ?_
      subst h
      obtain rfl : _ = res := hk
      exact sw_iret (by decide +kernel)
    · rw [if_pos c2] at h
      refine sw_iconst (n := 0) (v := 0) (by decide +kernel) (by decide) ?_
      refine sw_goto (off := 4) 23 (by decide +kernel) (by decide) ?_
      subst h
      obtain rfl : _ = res := hk
      exact sw_iret (by decide +kernel)
  · rw [if_pos c1] at h
    refine sw_bipush (n := (-5)) (v := (-5)) (by decide +kernel) (by decide) ?_
    subst h
    obtain rfl : _ = res := hk
    exact sw_iret (by decide +kernel)
def fX3_duelRests_L165 (P1 : Nat) (P2 : Nat) (σ : sw_M) (a3 : Int32) (a4 : Int32) (a5 : Int32) (a6 : Int32) (a7 : Int32) : Option ((Int32 × Int32) ⊕ (Int32 × sw_M)) :=
  sw_let (a7 + 1) fun v1 =>
  some (.inl (a6, v1))
def fX3_duelRests_L144 (P1 : Nat) (P2 : Nat) (σ : sw_M) (a3 : Int32) (a4 : Int32) (a5 : Int32) (a6 : Int32) (a7 : Int32) (a8 : Int32) (b0 : Int32) : Option ((Int32 × Int32) ⊕ (Int32 × sw_M)) :=
  if a8 = 0 then
    fX3_duelRests_L165 P1 P2 σ a3 a4 a5 a6 a7
  else
    if b0 = 0 then
      fX3_duelRests_L165 P1 P2 σ a3 a4 a5 a6 a7
    else
      sw_let (a6 ||| (1 <<< (a7 &&& 31))) fun v3 =>
      fX3_duelRests_L165 P1 P2 σ a3 a4 a5 v3 a7
def fX3_duelRests_L104 (P1 : Nat) (P2 : Nat) (σ : sw_M) (a3 : Int32) (a4 : Int32) (a5 : Int32) (a6 : Int32) (a7 : Int32) (b0 : Int32) : Option ((Int32 × Int32) ⊕ (Int32 × sw_M)) :=
  sw_b1 (fX4_burden P1 σ a4) fun r1 =>
  sw_b1 (fX4_burden P1 σ a4) fun r3 =>
  if (fX3_gain a5 a7 1 r1) < (fX3_gain a5 (a7 ^^^ 1) 1 r3) then
    fX3_duelRests_L144 P1 P2 σ a3 a4 a5 a6 a7 b0 0
  else
    fX3_duelRests_L144 P1 P2 σ a3 a4 a5 a6 a7 b0 1
def fX3_duelRests_L62 (P1 : Nat) (P2 : Nat) (σ : sw_M) (a3 : Int32) (a4 : Int32) (a5 : Int32) (a6 : Int32) (a7 : Int32) : Option ((Int32 × Int32) ⊕ (Int32 × sw_M)) :=
  if 4 ≤ a7 then
    some (.inr ((a6, σ)))
  else
    sw_b1 (fX4_burden P1 σ a3) fun r2 =>
    sw_b1 (fX4_burden P1 σ a3) fun r4 =>
    if (fX3_gain a5 a7 2 r2) < (fX3_gain a5 (a7 ^^^ 2) 2 r4) then
      fX3_duelRests_L104 P1 P2 σ a3 a4 a5 a6 a7 0
    else
      fX3_duelRests_L104 P1 P2 σ a3 a4 a5 a6 a7 1
def fX3_duelRests_L50 (P1 : Nat) (P2 : Nat) (σ : sw_M) (a3 : Int32) (a4 : Int32) (a5 : Int32) (a6 : Int32) : Option ((Int32 × Int32 × sw_M) ⊕ (Int32 × sw_M)) :=
  sw_let (a6 + 1) fun v1 =>
  some (.inl (a5, v1, σ))
def fX3_duelRests_L6 (P1 : Nat) (P2 : Nat) (σ : sw_M) (a3 : Int32) (a4 : Int32) (a5 : Int32) (a6 : Int32) : Option ((Int32 × Int32 × sw_M) ⊕ (Int32 × sw_M)) :=
  if 4 ≤ a6 then
    sw_up (sw_wh sw_F (fun s => fX3_duelRests_L62 P1 P2 σ a3 a4 a5 s.1 s.2) (0, 0))
  else
    sw_let (((a6 >>> (1 &&& 31)) <<< (a3 &&& 31)) ||| ((a6 &&& 1) <<< (a4 &&& 31))) fun v3 =>
    sw_b2 (fX3_riseIf P1 P2 σ v3 1) fun r5 m6 =>
    if r5 = (-1) then
      fX3_duelRests_L50 P1 P2 m6 a3 a4 a5 a6
    else
      sw_let (a5 ||| (1 <<< (a6 &&& 31))) fun v9 =>
      fX3_duelRests_L50 P1 P2 m6 a3 a4 v9 a6
def fX3_duelRests (P1 : Nat) (P2 : Nat) (σ : sw_M) (a3 : Int32) (a4 : Int32) : Option (Int32 × sw_M) :=
  sw_wh sw_F (fun s => fX3_duelRests_L6 P1 P2 s.2.2 a3 a4 s.1 s.2.1) (0, 0, σ)
set_option maxRecDepth 20000 in
theorem sX3_duelRests_L165 {l : Launch} {E : sw_E} {K : Nat} (hK : 5 ≤ K) (P1 : Nat) (P2 : Nat) (hP1 : sw_isP P1) (hP2 : sw_isV P2) (σ : sw_M) (a3 : Int32) (a4 : Int32) (a5 : Int32) (a6 : Int32) (a7 : Int32) {res : Int32 × sw_M} {t : (Int32 × Int32) ⊕ (Int32 × sw_M)} (h : fX3_duelRests_L165 P1 P2 σ a3 a4 a5 a6 a7 = some t) (hk : (Sum.elim (fun s : Int32 × Int32 => sw_Go l E K RX3 cX3_duelRests 10 (some .int) 62 [(1, .ref P1), (3, .int a3), (4, .int a4), (5, .int a5), (6, .int s.1), (7, .int s.2)] [] σ (some (.int res.1)) res.2) (fun q => q = res)) t) : sw_Go l E K RX3 cX3_duelRests 10 (some .int) 165 [(1, .ref P1), (3, .int a3), (4, .int a4), (5, .int a5), (6, .int a6), (7, .int a7)] [] σ (some (.int res.1)) res.2 := by
  unfold fX3_duelRests_L165 at h
  obtain ⟨v1, e2, h⟩ := sw_let_e h
  refine sw_iincv (i := 7) (n := 1) (lv' := [(7, .int v1), (1, .ref P1), (3, .int a3), (4, .int a4), (5, .int a5), (6, .int a6)]) 5 rfl e2 (by decide +kernel) (by decide) (by decide) rfl ?_
  refine sw_goto (off := (-106)) 62 (by decide +kernel) (by decide) ?_
  cases h
  refine sw_lv [1, 2, 3, 4, 5, 0] rfl ?_
  exact hk
set_option maxRecDepth 20000 in
theorem sX3_duelRests_L144 {l : Launch} {E : sw_E} {K : Nat} (hK : 5 ≤ K) (P1 : Nat) (P2 : Nat) (hP1 : sw_isP P1) (hP2 : sw_isV P2) (σ : sw_M) (a3 : Int32) (a4 : Int32) (a5 : Int32) (a6 : Int32) (a7 : Int32) (a8 : Int32) (b0 : Int32) {res : Int32 × sw_M} {t : (Int32 × Int32) ⊕ (Int32 × sw_M)} (h : fX3_duelRests_L144 P1 P2 σ a3 a4 a5 a6 a7 a8 b0 = some t) (hk : (Sum.elim (fun s : Int32 × Int32 => sw_Go l E K RX3 cX3_duelRests 10 (some .int) 62 [(1, .ref P1), (3, .int a3), (4, .int a4), (5, .int a5), (6, .int s.1), (7, .int s.2)] [] σ (some (.int res.1)) res.2) (fun q => q = res)) t) : sw_Go l E K RX3 cX3_duelRests 10 (some .int) 144 [(1, .ref P1), (3, .int a3), (4, .int a4), (5, .int a5), (6, .int a6), (7, .int a7), (8, .int a8)] [.int b0] σ (some (.int res.1)) res.2 := by
  unfold fX3_duelRests_L144 at h
  refine sw_istore (i := 9) (lv' := [(9, .int b0), (1, .ref P1), (3, .int a3), (4, .int a4), (5, .int a5), (6, .int a6), (7, .int a7), (8, .int a8)]) (by decide +kernel) (by decide) rfl ?_
  refine sw_iload 7 rfl (by decide +kernel) ?_
  refine sw_if_eq (off := 17) 165 (by decide +kernel) (by decide) (fun c1 => ?_) (fun c1 => ?_)
  · rw [if_pos c1] at h
    refine sw_lv [1, 2, 3, 4, 5, 6] rfl ?_
    exact sX3_duelRests_L165 hK P1 P2 hP1 hP2 σ a3 a4 a5 a6 a7 h hk
  · rw [if_neg c1] at h
    refine sw_iload 0 rfl (by decide +kernel) ?_
    refine sw_if_eq (off := 12) 165 (by decide +kernel) (by decide) (fun c2 => ?_) (fun c2 => ?_)
    · rw [if_pos c2] at h
      refine sw_lv [1, 2, 3, 4, 5, 6] rfl ?_
      exact sX3_duelRests_L165 hK P1 P2 hP1 hP2 σ a3 a4 a5 a6 a7 h hk
    · rw [if_neg c2] at h
      refine sw_iload 5 rfl (by decide +kernel) ?_
      refine sw_iconst (n := 1) (v := 1) (by decide +kernel) (by decide) ?_
      refine sw_iload 6 rfl (by decide +kernel) ?_
      refine sw_ishl (by decide +kernel) ?_
      refine sw_ior (by decide +kernel) ?_
      obtain ⟨v3, e4, h⟩ := sw_let_e h
      refine sw_topi e4 ?_
      refine sw_istore (i := 6) (lv' := [(6, .int v3), (9, .int b0), (1, .ref P1), (3, .int a3), (4, .int a4), (5, .int a5), (7, .int a7), (8, .int a8)]) (by decide +kernel) (by decide) rfl ?_
      refine sw_lv [2, 3, 4, 5, 0, 6] rfl ?_
      exact sX3_duelRests_L165 hK P1 P2 hP1 hP2 σ a3 a4 a5 v3 a7 h hk
set_option maxRecDepth 20000 in
theorem sX3_duelRests_L104 {l : Launch} {E : sw_E} {K : Nat} (hK : 5 ≤ K) (P1 : Nat) (P2 : Nat) (hP1 : sw_isP P1) (hP2 : sw_isV P2) (σ : sw_M) (a3 : Int32) (a4 : Int32) (a5 : Int32) (a6 : Int32) (a7 : Int32) (b0 : Int32) {res : Int32 × sw_M} {t : (Int32 × Int32) ⊕ (Int32 × sw_M)} (h : fX3_duelRests_L104 P1 P2 σ a3 a4 a5 a6 a7 b0 = some t) (hk : (Sum.elim (fun s : Int32 × Int32 => sw_Go l E K RX3 cX3_duelRests 10 (some .int) 62 [(1, .ref P1), (3, .int a3), (4, .int a4), (5, .int a5), (6, .int s.1), (7, .int s.2)] [] σ (some (.int res.1)) res.2) (fun q => q = res)) t) : sw_Go l E K RX3 cX3_duelRests 10 (some .int) 104 [(1, .ref P1), (3, .int a3), (4, .int a4), (5, .int a5), (6, .int a6), (7, .int a7)] [.int b0] σ (some (.int res.1)) res.2 := by
  unfold fX3_duelRests_L104 at h
  refine sw_istore (i := 8) (lv' := [(8, .int b0), (1, .ref P1), (3, .int a3), (4, .int a4), (5, .int a5), (6, .int a6), (7, .int a7)]) (by decide +kernel) (by decide) rfl ?_
  refine sw_iload 4 rfl (by decide +kernel) ?_
  refine sw_iload 6 rfl (by decide +kernel) ?_
  refine sw_iconst (n := 1) (v := 1) (by decide +kernel) (by decide) ?_
  refine sw_aload_n (k0 := 1) 1 rfl (by decide +kernel) rfl ?_
  refine sw_iload 3 rfl (by decide +kernel) ?_
  obtain ⟨r1, w2, h⟩ := sw_b1_e h
  refine sw_callVi (ci := 4) (i := P1) [.int a4] (sX4_burden (K := K - 1) (by omega) P1 hP1 σ a4 w2) rfl (by omega) rfl gs_X3_105 hy_X4_burden (by decide) hP1.o.1 hP1.o.2 rfl (Nat.le_of_ble_eq_true rfl) (by decide +kernel) ?_
  refine sw_callSi [.int a5, .int a7, .int 1, .int r1] (sX3_gain (K := K - 1) (by omega) σ a5 a7 1 r1 rfl) rfl (by omega) gs_X3_108 hy_X3_gain (by decide) rfl (Nat.le_of_ble_eq_true rfl) (by decide +kernel) ?_
  refine sw_iload 4 rfl (by decide +kernel) ?_
  refine sw_iload 6 rfl (by decide +kernel) ?_
  refine sw_iconst (n := 1) (v := 1) (by decide +kernel) (by decide) ?_
  refine sw_ixor (by decide +kernel) ?_
  refine sw_iconst (n := 1) (v := 1) (by decide +kernel) (by decide) ?_
  refine sw_aload_n (k0 := 1) 1 rfl (by decide +kernel) rfl ?_
  refine sw_iload 3 rfl (by decide +kernel) ?_
  obtain ⟨r3, w4, h⟩ := sw_b1_e h
  refine sw_callVi (ci := 4) (i := P1) [.int a4] (sX4_burden (K := K - 1) (by omega) P1 hP1 σ a4 w4) rfl (by omega) rfl gs_X3_105 hy_X4_burden (by decide) hP1.o.1 hP1.o.2 rfl (Nat.le_of_ble_eq_true rfl) (by decide +kernel) ?_
  refine sw_callSi [.int a5, .int (a7 ^^^ 1), .int 1, .int r3] (sX3_gain (K := K - 1) (by omega) σ a5 (a7 ^^^ 1) 1 r3 rfl) rfl (by omega) gs_X3_108 hy_X3_gain (by decide) rfl (Nat.le_of_ble_eq_true rfl) (by decide +kernel) ?_
  refine sw_icmp_lt (off := 7) 143 (by decide +kernel) (by decide) (fun c5 => ?_) (fun c5 => ?_)
  · rw [if_pos c5] at h
    refine sw_iconst (n := 0) (v := 0) (by decide +kernel) (by decide) ?_
    refine sw_lv [1, 2, 3, 4, 5, 6, 0] rfl ?_
    exact sX3_duelRests_L144 hK P1 P2 hP1 hP2 σ a3 a4 a5 a6 a7 b0 0 h hk
  · rw [if_neg c5] at h
    refine sw_iconst (n := 1) (v := 1) (by decide +kernel) (by decide) ?_
    refine sw_goto (off := 4) 144 (by decide +kernel) (by decide) ?_
    refine sw_lv [1, 2, 3, 4, 5, 6, 0] rfl ?_
    exact sX3_duelRests_L144 hK P1 P2 hP1 hP2 σ a3 a4 a5 a6 a7 b0 1 h hk
set_option maxRecDepth 20000 in
theorem sX3_duelRests_L62 {l : Launch} {E : sw_E} {K : Nat} (hK : 5 ≤ K) (P1 : Nat) (P2 : Nat) (hP1 : sw_isP P1) (hP2 : sw_isV P2) (σ : sw_M) (a3 : Int32) (a4 : Int32) (a5 : Int32) (a6 : Int32) (a7 : Int32) {res : Int32 × sw_M} {t : (Int32 × Int32) ⊕ (Int32 × sw_M)} (h : fX3_duelRests_L62 P1 P2 σ a3 a4 a5 a6 a7 = some t) (hk : (Sum.elim (fun s : Int32 × Int32 => sw_Go l E K RX3 cX3_duelRests 10 (some .int) 62 [(1, .ref P1), (3, .int a3), (4, .int a4), (5, .int a5), (6, .int s.1), (7, .int s.2)] [] σ (some (.int res.1)) res.2) (fun q => q = res)) t) : sw_Go l E K RX3 cX3_duelRests 10 (some .int) 62 [(1, .ref P1), (3, .int a3), (4, .int a4), (5, .int a5), (6, .int a6), (7, .int a7)] [] σ (some (.int res.1)) res.2 := by
  unfold fX3_duelRests_L62 at h
  refine sw_iload 5 rfl (by decide +kernel) ?_
  refine sw_iconst (n := 4) (v := 4) (by decide +kernel) (by decide) ?_
  refine sw_icmp_ge (off := 106) 171 (by decide +kernel) (by decide) (fun c1 => ?_) (fun c1 => ?_)
  · rw [if_pos c1] at h
    refine sw_iload 4 rfl (by decide +kernel) ?_
    cases h
    obtain rfl : _ = res := hk
    exact sw_iret (by decide +kernel)
  · rw [if_neg c1] at h
    refine sw_iload 3 rfl (by decide +kernel) ?_
    refine sw_iload 5 rfl (by decide +kernel) ?_
    refine sw_iconst (n := 2) (v := 2) (by decide +kernel) (by decide) ?_
    refine sw_aload_n (k0 := 1) 0 rfl (by decide +kernel) rfl ?_
    refine sw_iload_n (k0 := 3) 1 rfl (by decide +kernel) rfl ?_
    obtain ⟨r2, w3, h⟩ := sw_b1_e h
    refine sw_callVi (ci := 4) (i := P1) [.int a3] (sX4_burden (K := K - 1) (by omega) P1 hP1 σ a3 w3) rfl (by omega) rfl gs_X3_105 hy_X4_burden (by decide) hP1.o.1 hP1.o.2 rfl (Nat.le_of_ble_eq_true rfl) (by decide +kernel) ?_
    refine sw_callSi [.int a5, .int a7, .int 2, .int r2] (sX3_gain (K := K - 1) (by omega) σ a5 a7 2 r2 rfl) rfl (by omega) gs_X3_108 hy_X3_gain (by decide) rfl (Nat.le_of_ble_eq_true rfl) (by decide +kernel) ?_
    refine sw_iload 3 rfl (by decide +kernel) ?_
    refine sw_iload 5 rfl (by decide +kernel) ?_
    refine sw_iconst (n := 2) (v := 2) (by decide +kernel) (by decide) ?_
    refine sw_ixor (by decide +kernel) ?_
    refine sw_iconst (n := 2) (v := 2) (by decide +kernel) (by decide) ?_
    refine sw_aload_n (k0 := 1) 0 rfl (by decide +kernel) rfl ?_
    refine sw_iload_n (k0 := 3) 1 rfl (by decide +kernel) rfl ?_
    obtain ⟨r4, w5, h⟩ := sw_b1_e h
    refine sw_callVi (ci := 4) (i := P1) [.int a3] (sX4_burden (K := K - 1) (by omega) P1 hP1 σ a3 w5) rfl (by omega) rfl gs_X3_105 hy_X4_burden (by decide) hP1.o.1 hP1.o.2 rfl (Nat.le_of_ble_eq_true rfl) (by decide +kernel) ?_
    refine sw_callSi [.int a5, .int (a7 ^^^ 2), .int 2, .int r4] (sX3_gain (K := K - 1) (by omega) σ a5 (a7 ^^^ 2) 2 r4 rfl) rfl (by omega) gs_X3_108 hy_X3_gain (by decide) rfl (Nat.le_of_ble_eq_true rfl) (by decide +kernel) ?_
    refine sw_icmp_lt (off := 7) 103 (by decide +kernel) (by decide) (fun c6 => ?_) (fun c6 => ?_)
    · rw [if_pos c6] at h
      refine sw_iconst (n := 0) (v := 0) (by decide +kernel) (by decide) ?_
      exact sX3_duelRests_L104 hK P1 P2 hP1 hP2 σ a3 a4 a5 a6 a7 0 h hk
    · rw [if_neg c6] at h
      refine sw_iconst (n := 1) (v := 1) (by decide +kernel) (by decide) ?_
      refine sw_goto (off := 4) 104 (by decide +kernel) (by decide) ?_
      exact sX3_duelRests_L104 hK P1 P2 hP1 hP2 σ a3 a4 a5 a6 a7 1 h hk
set_option maxRecDepth 20000 in
theorem sX3_duelRests_L50 {l : Launch} {E : sw_E} {K : Nat} (hK : 5 ≤ K) (P1 : Nat) (P2 : Nat) (hP1 : sw_isP P1) (hP2 : sw_isV P2) (σ : sw_M) (a3 : Int32) (a4 : Int32) (a5 : Int32) (a6 : Int32) {res : Int32 × sw_M} {t : (Int32 × Int32 × sw_M) ⊕ (Int32 × sw_M)} (h : fX3_duelRests_L50 P1 P2 σ a3 a4 a5 a6 = some t) (hk : (Sum.elim (fun s : Int32 × Int32 × sw_M => sw_Go l E K RX3 cX3_duelRests 10 (some .int) 6 [(0, .ref 34), (1, .ref P1), (2, .ref P2), (3, .int a3), (4, .int a4), (5, .int s.1), (6, .int s.2.1)] [] s.2.2 (some (.int res.1)) res.2) (fun q => q = res)) t) : sw_Go l E K RX3 cX3_duelRests 10 (some .int) 50 [(0, .ref 34), (1, .ref P1), (2, .ref P2), (3, .int a3), (4, .int a4), (5, .int a5), (6, .int a6)] [] σ (some (.int res.1)) res.2 := by
  unfold fX3_duelRests_L50 at h
  obtain ⟨v1, e2, h⟩ := sw_let_e h
  refine sw_iincv (i := 6) (n := 1) (lv' := [(6, .int v1), (0, .ref 34), (1, .ref P1), (2, .ref P2), (3, .int a3), (4, .int a4), (5, .int a5)]) 6 rfl e2 (by decide +kernel) (by decide) (by decide) rfl ?_
  refine sw_goto (off := (-47)) 6 (by decide +kernel) (by decide) ?_
  cases h
  refine sw_lv [1, 2, 3, 4, 5, 6, 0] rfl ?_
  exact hk
set_option maxRecDepth 20000 in
theorem sX3_duelRests_L6 {l : Launch} {E : sw_E} {K : Nat} (hK : 5 ≤ K) (P1 : Nat) (P2 : Nat) (hP1 : sw_isP P1) (hP2 : sw_isV P2) (σ : sw_M) (a3 : Int32) (a4 : Int32) (a5 : Int32) (a6 : Int32) {res : Int32 × sw_M} {t : (Int32 × Int32 × sw_M) ⊕ (Int32 × sw_M)} (h : fX3_duelRests_L6 P1 P2 σ a3 a4 a5 a6 = some t) (hk : (Sum.elim (fun s : Int32 × Int32 × sw_M => sw_Go l E K RX3 cX3_duelRests 10 (some .int) 6 [(0, .ref 34), (1, .ref P1), (2, .ref P2), (3, .int a3), (4, .int a4), (5, .int s.1), (6, .int s.2.1)] [] s.2.2 (some (.int res.1)) res.2) (fun q => q = res)) t) : sw_Go l E K RX3 cX3_duelRests 10 (some .int) 6 [(0, .ref 34), (1, .ref P1), (2, .ref P2), (3, .int a3), (4, .int a4), (5, .int a5), (6, .int a6)] [] σ (some (.int res.1)) res.2 := by
  unfold fX3_duelRests_L6 at h
  refine sw_iload 6 rfl (by decide +kernel) ?_
  refine sw_iconst (n := 4) (v := 4) (by decide +kernel) (by decide) ?_
  refine sw_icmp_ge (off := 47) 56 (by decide +kernel) (by decide) (fun c1 => ?_) (fun c1 => ?_)
  · rw [if_pos c1] at h
    refine sw_iconst (n := 0) (v := 0) (by decide +kernel) (by decide) ?_
    refine sw_istore (i := 6) (lv' := [(6, .int 0), (0, .ref 34), (1, .ref P1), (2, .ref P2), (3, .int a3), (4, .int a4), (5, .int a5)]) (by decide +kernel) (by decide) rfl ?_
    refine sw_iconst (n := 0) (v := 0) (by decide +kernel) (by decide) ?_
    refine sw_istore (i := 7) (lv' := [(7, .int 0), (6, .int 0), (0, .ref 34), (1, .ref P1), (2, .ref P2), (3, .int a3), (4, .int a4), (5, .int a5)]) (by decide +kernel) (by decide) rfl ?_
    obtain ⟨q1, h1, rfl⟩ := sw_up_e h
    replace h := h1
    refine sw_lv [3, 5, 6, 7, 1, 0] rfl ?_
    exact sw_wh_e (fun s : Int32 × Int32 => sw_Go l E K RX3 cX3_duelRests 10 (some .int) 62 [(1, .ref P1), (3, .int a3), (4, .int a4), (5, .int a5), (6, .int s.1), (7, .int s.2)] [] σ (some (.int res.1)) res.2) (fun q => q = res) (fun s => fX3_duelRests_L62 P1 P2 σ a3 a4 a5 s.1 s.2) (fun s t hb hk => sX3_duelRests_L62 hK P1 P2 hP1 hP2 σ a3 a4 a5 s.1 s.2 hb hk) _ _ _ h hk
  · rw [if_neg c1] at h
    refine sw_iload 6 rfl (by decide +kernel) ?_
    refine sw_iconst (n := 1) (v := 1) (by decide +kernel) (by decide) ?_
    refine sw_ishr (by decide +kernel) ?_
    refine sw_iload_n (k0 := 3) 3 rfl (by decide +kernel) rfl ?_
    refine sw_ishl (by decide +kernel) ?_
    refine sw_iload 6 rfl (by decide +kernel) ?_
    refine sw_iconst (n := 1) (v := 1) (by decide +kernel) (by decide) ?_
    refine sw_iand (by decide +kernel) ?_
    refine sw_iload 4 rfl (by decide +kernel) ?_
    refine sw_ishl (by decide +kernel) ?_
    refine sw_ior (by decide +kernel) ?_
    obtain ⟨v3, e4, h⟩ := sw_let_e h
    refine sw_topi e4 ?_
    refine sw_istore (i := 7) (lv' := [(7, .int v3), (0, .ref 34), (1, .ref P1), (2, .ref P2), (3, .int a3), (4, .int a4), (5, .int a5), (6, .int a6)]) (by decide +kernel) (by decide) rfl ?_
    refine sw_aload_n (k0 := 0) 1 rfl (by decide +kernel) rfl ?_
    refine sw_aload_n (k0 := 1) 2 rfl (by decide +kernel) rfl ?_
    refine sw_aload_n (k0 := 2) 3 rfl (by decide +kernel) rfl ?_
    refine sw_iload 0 rfl (by decide +kernel) ?_
    refine sw_iconst (n := 1) (v := 1) (by decide +kernel) (by decide) ?_
    obtain ⟨r5, m6, w7, h⟩ := sw_b2_e h
    refine sw_callVi (ci := 3) (i := 34) [.ref P1, .ref P2, .int v3, .int 1] (sX3_riseIf (K := K - 1) (by omega) P1 P2 hP1 hP2 σ v3 1 w7) rfl (by omega) rfl gs_X3_101 hy_X3_riseIf (by decide) (by decide) rfl rfl (Nat.le_of_ble_eq_true rfl) (by decide +kernel) ?_
    refine sw_iconst (n := (-1)) (v := (-1)) (by decide +kernel) (by decide) ?_
    refine sw_icmp_eq (off := 12) 50 (by decide +kernel) (by decide) (fun c8 => ?_) (fun c8 => ?_)
    · rw [if_pos c8] at h
      refine sw_lv [1, 2, 3, 4, 5, 6, 7] rfl ?_
      exact sX3_duelRests_L50 hK P1 P2 hP1 hP2 m6 a3 a4 a5 a6 h hk
    · rw [if_neg c8] at h
      refine sw_iload 6 rfl (by decide +kernel) ?_
      refine sw_iconst (n := 1) (v := 1) (by decide +kernel) (by decide) ?_
      refine sw_iload 7 rfl (by decide +kernel) ?_
      refine sw_ishl (by decide +kernel) ?_
      refine sw_ior (by decide +kernel) ?_
      obtain ⟨v9, e10, h⟩ := sw_let_e h
      refine sw_topi e10 ?_
      refine sw_istore (i := 5) (lv' := [(5, .int v9), (7, .int v3), (0, .ref 34), (1, .ref P1), (2, .ref P2), (3, .int a3), (4, .int a4), (6, .int a6)]) (by decide +kernel) (by decide) rfl ?_
      refine sw_lv [2, 3, 4, 5, 6, 0, 7] rfl ?_
      exact sX3_duelRests_L50 hK P1 P2 hP1 hP2 m6 a3 a4 v9 a6 h hk
set_option maxRecDepth 20000 in
theorem sX3_duelRests {l : Launch} {E : sw_E} {K : Nat} (hK : 5 ≤ K) (P1 : Nat) (P2 : Nat) (hP1 : sw_isP P1) (hP2 : sw_isV P2) (σ : sw_M) (a3 : Int32) (a4 : Int32) {res : Int32 × sw_M} (h : fX3_duelRests P1 P2 σ a3 a4 = some res) : sw_Ct l E K yX3_duelRests cX3_duelRests 10 (some .int) [.ref 34, .ref P1, .ref P2, .int a3, .int a4] σ (some (.int res.1)) res.2 := by
  obtain ⟨t, hk, h⟩ : ∃ t, t = res ∧ fX3_duelRests P1 P2 σ a3 a4 = some t := ⟨res, rfl, h⟩
  unfold fX3_duelRests at h
  refine sw_enter2 (own := RX3) (lv := [(0, .ref 34), (1, .ref P1), (2, .ref P2), (3, .int a3), (4, .int a4)]) (by decide +kernel) (Nat.le_of_ble_eq_true rfl) rfl rfl ?_
  refine sw_iconst (n := 0) (v := 0) (by decide +kernel) (by decide) ?_
  refine sw_istore (i := 5) (lv' := [(5, .int 0), (0, .ref 34), (1, .ref P1), (2, .ref P2), (3, .int a3), (4, .int a4)]) (by decide +kernel) (by decide) rfl ?_
  refine sw_iconst (n := 0) (v := 0) (by decide +kernel) (by decide) ?_
  refine sw_istore (i := 6) (lv' := [(6, .int 0), (5, .int 0), (0, .ref 34), (1, .ref P1), (2, .ref P2), (3, .int a3), (4, .int a4)]) (by decide +kernel) (by decide) rfl ?_
  refine sw_lv [2, 3, 4, 5, 6, 1, 0] rfl ?_
  exact sw_wh_e (fun s : Int32 × Int32 × sw_M => sw_Go l E K RX3 cX3_duelRests 10 (some .int) 6 [(0, .ref 34), (1, .ref P1), (2, .ref P2), (3, .int a3), (4, .int a4), (5, .int s.1), (6, .int s.2.1)] [] s.2.2 (some (.int res.1)) res.2) (fun q => q = res) (fun s => fX3_duelRests_L6 P1 P2 s.2.2 a3 a4 s.1 s.2.1) (fun s t hb hk => sX3_duelRests_L6 hK P1 P2 hP1 hP2 s.2.2 a3 a4 s.1 s.2.1 hb hk) _ _ _ h hk
def fX4_clear (P0 : Nat) (σ : sw_M) : Option (sw_M) :=
  sw_let (sw_w σ P0 0 0) fun m1 =>
  sw_let (sw_w m1 P0 1 0) fun m3 =>
  sw_let (sw_w m3 P0 2 0) fun m5 =>
  sw_let (sw_w m5 P0 3 0) fun m7 =>
  sw_let (sw_w m7 P0 4 0) fun m9 =>
  sw_let (sw_w m9 P0 5 0) fun m11 =>
  sw_let (sw_w m11 P0 6 0) fun m13 =>
  sw_let (sw_w m13 P0 7 0) fun m15 =>
  sw_let (sw_w m15 P0 8 0) fun m17 =>
  sw_b1 (fJ7_fill_53178 (P0 + 4) m17 0) fun m19 =>
  sw_b1 (fJ7_fill_53178 (P0 + 5) m19 0) fun m21 =>
  sw_b1 (fX2_clear (P0 + 7) m21) fun m23 =>
  some (m23)
set_option maxRecDepth 20000 in
theorem sX4_clear {l : Launch} {E : sw_E} {K : Nat} (hK : 1 ≤ K) (P0 : Nat) (hP0 : sw_isP P0) (σ : sw_M) {res : sw_M} (h : fX4_clear P0 σ = some res) : sw_Ct l E K yX4_clear cX4_clear 1 none [.ref P0] σ none res := by
  obtain ⟨t, hk, h⟩ : ∃ t, t = res ∧ fX4_clear P0 σ = some t := ⟨res, rfl, h⟩
  unfold fX4_clear at h
  refine sw_enter2 (own := RX4) (lv := [(0, .ref P0)]) (by decide +kernel) (Nat.le_of_ble_eq_true rfl) rfl rfl ?_
  refine sw_aload_n (k0 := 0) 0 rfl (by decide +kernel) rfl ?_
  refine sw_iconst (n := 0) (v := 0) (by decide +kernel) (by decide) ?_
  obtain ⟨m1, e2, h⟩ := sw_let_e h
  refine pf_X4_38 hP0.o.1 hP0.o.2 (by decide +kernel) ?_
  refine sw_mem e2 ?_
  refine sw_aload_n (k0 := 0) 0 rfl (by decide +kernel) rfl ?_
  refine sw_iconst (n := 0) (v := 0) (by decide +kernel) (by decide) ?_
  obtain ⟨m3, e4, h⟩ := sw_let_e h
  refine pf_X4_42 hP0.o.1 hP0.o.2 (by decide +kernel) ?_
  refine sw_mem e4 ?_
  refine sw_aload_n (k0 := 0) 0 rfl (by decide +kernel) rfl ?_
  refine sw_iconst (n := 0) (v := 0) (by decide +kernel) (by decide) ?_
  obtain ⟨m5, e6, h⟩ := sw_let_e h
  refine pf_X4_45 hP0.o.1 hP0.o.2 (by decide +kernel) ?_
  refine sw_mem e6 ?_
  refine sw_aload_n (k0 := 0) 0 rfl (by decide +kernel) rfl ?_
  refine sw_iconst (n := 0) (v := 0) (by decide +kernel) (by decide) ?_
  obtain ⟨m7, e8, h⟩ := sw_let_e h
  refine pf_X4_48 hP0.o.1 hP0.o.2 (by decide +kernel) ?_
  refine sw_mem e8 ?_
  refine sw_aload_n (k0 := 0) 0 rfl (by decide +kernel) rfl ?_
  refine sw_iconst (n := 0) (v := 0) (by decide +kernel) (by decide) ?_
  obtain ⟨m9, e10, h⟩ := sw_let_e h
  refine pf_X4_51 hP0.o.1 hP0.o.2 (by decide +kernel) ?_
  refine sw_mem e10 ?_
  refine sw_aload_n (k0 := 0) 0 rfl (by decide +kernel) rfl ?_
  refine sw_iconst (n := 0) (v := 0) (by decide +kernel) (by decide) ?_
  obtain ⟨m11, e12, h⟩ := sw_let_e h
  refine pf_X4_54 hP0.o.1 hP0.o.2 (by decide +kernel) ?_
  refine sw_mem e12 ?_
  refine sw_aload_n (k0 := 0) 0 rfl (by decide +kernel) rfl ?_
  refine sw_iconst (n := 0) (v := 0) (by decide +kernel) (by decide) ?_
  obtain ⟨m13, e14, h⟩ := sw_let_e h
  refine pf_X4_57 (Or.inl rfl) hP0.o.1 hP0.o.2 (by decide +kernel) ?_
  refine sw_mem e14 ?_
  refine sw_aload_n (k0 := 0) 0 rfl (by decide +kernel) rfl ?_
  refine sw_iconst (n := 0) (v := 0) (by decide +kernel) (by decide) ?_
  obtain ⟨m15, e16, h⟩ := sw_let_e h
  refine pf_X4_61 (Or.inl rfl) hP0.o.1 hP0.o.2 (by decide +kernel) ?_
  refine sw_mem e16 ?_
  refine sw_aload_n (k0 := 0) 0 rfl (by decide +kernel) rfl ?_
  refine sw_iconst (n := 0) (v := 0) (by decide +kernel) (by decide) ?_
  obtain ⟨m17, e18, h⟩ := sw_let_e h
  refine pf_X4_64 hP0.o.1 hP0.o.2 (by decide +kernel) ?_
  refine sw_mem e18 ?_
  refine sw_aload_n (k0 := 0) 0 rfl (by decide +kernel) rfl ?_
  refine gf_X4_21 (i := P0) hP0.o.1 hP0.o.2 (by decide +kernel) ?_
  refine sw_iconst (n := 0) (v := 0) (by decide +kernel) (by decide) ?_
  obtain ⟨m19, w20, h⟩ := sw_b1_e h
  refine sw_callSv [.ref (P0 + 4), .int 0] (sJ7_fill_53178 (K := K - 1) (by omega) (P0 + 4) (sw_A_of hP0.p4.1 hP0.p4.2) m17 0 w20) rfl (by omega) gs_X4_67 hy_J7_fill_53178 (by decide) rfl (Nat.le_of_ble_eq_true rfl) (by decide +kernel) ?_
  refine sw_aload_n (k0 := 0) 0 rfl (by decide +kernel) rfl ?_
  refine gf_X4_25 (i := P0) hP0.o.1 hP0.o.2 (by decide +kernel) ?_
  refine sw_iconst (n := 0) (v := 0) (by decide +kernel) (by decide) ?_
  obtain ⟨m21, w22, h⟩ := sw_b1_e h
  refine sw_callSv [.ref (P0 + 5), .int 0] (sJ7_fill_53178 (K := K - 1) (by omega) (P0 + 5) (sw_A_of hP0.p5.1 hP0.p5.2) m19 0 w22) rfl (by omega) gs_X4_67 hy_J7_fill_53178 (by decide) rfl (Nat.le_of_ble_eq_true rfl) (by decide +kernel) ?_
  refine sw_aload_n (k0 := 0) 0 rfl (by decide +kernel) rfl ?_
  refine gf_X4_34 (i := P0) hP0.o.1 hP0.o.2 (by decide +kernel) ?_
  obtain ⟨m23, w24, h⟩ := sw_b1_e h
  refine sw_callVv (ci := 2) (i := (P0 + 7)) [] (sX2_clear (K := K - 1) (by omega) (P0 + 7) hP0.F m21 w24) rfl (by omega) rfl gs_X4_73 hy_X2_clear (by decide) hP0.F.o.1 hP0.F.o.2 rfl (Nat.le_of_ble_eq_true rfl) (by decide +kernel) ?_
  cases h
  obtain rfl : _ = res := hk
  exact sw_vret (by decide +kernel)
