def fX9_wash_L54 (σ : sw_M) (a1 : Int32) (a2 : Int32) : Option ((Int32 × sw_M) ⊕ (Int32 × sw_M)) :=
  if (σ.1 (sw_pl (σ.2.2 0)) 0) ≤ a2 then
    sw_let (sw_w σ 27 2 ((σ.1 27 2) ||| (1 <<< (a1 &&& 31)))) fun m2 =>
    sw_b1 (fX8_all 27 m2) fun r4 =>
    some (.inr ((r4, m2)))
  else
    sw_gd (sw_in a2 5) <|
    sw_b1 (fX4_needs (sw_pl (σ.2.2 0)) σ a1 a2) fun r7 =>
    sw_gd (sw_in a2 5) <|
    sw_let (sw_w σ 28 a2.toNatClampNeg ((σ.1 28 a2.toNatClampNeg) - r7)) fun m10 =>
    sw_let (a2 + 1) fun v12 =>
    some (.inl (v12, m10))
def fX9_wash (σ : sw_M) (a1 : Int32) : Option (Int32 × sw_M) :=
  if (fX4_isBasin (sw_pl (σ.2.2 0)) σ a1) = 0 then
    some (((-1), σ))
  else
    if (fX9_isEased σ a1) = 0 then
      sw_b1 (fX4_lacking (sw_pl (σ.2.2 0)) 28 σ a1) fun r3 =>
      if r3 ≤ 0 then
        sw_b1 (fX0_keep 27 σ) fun m6 =>
        sw_wh sw_F (fun s => fX9_wash_L54 s.2 a1 s.1) (0, m6)
      else
        some (((-1), σ))
    else
      some (((-1), σ))
set_option maxRecDepth 20000 in
theorem sX9_wash_L54 {l : Launch} {E : sw_E} {K : Nat} (hK : 3 ≤ K) (σ : sw_M) (a1 : Int32) (a2 : Int32) {res : Int32 × sw_M} {t : (Int32 × sw_M) ⊕ (Int32 × sw_M)} (h : fX9_wash_L54 σ a1 a2 = some t) (hk : (Sum.elim (fun s : Int32 × sw_M => sw_Go l E K RX9 cX9_wash 3 (some .int) 54 [(0, .ref 0), (1, .int a1), (2, .int s.1)] [] s.2 (some (.int res.1)) res.2) (fun q => q = res)) t) : sw_Go l E K RX9 cX9_wash 3 (some .int) 54 [(0, .ref 0), (1, .int a1), (2, .int a2)] [] σ (some (.int res.1)) res.2 := by
  unfold fX9_wash_L54 at h
  refine sw_iload_n (k0 := 2) 2 rfl (by decide +kernel) rfl ?_
  refine sw_aload_n (k0 := 0) 0 rfl (by decide +kernel) rfl ?_
  refine gf_X9_19 (i := 0) (by decide) rfl (by decide +kernel) ?_
  refine gf_X9_164 (i := (sw_pl (σ.2.2 0))) (sw_pl_P _).o.1 (sw_pl_P _).o.2 (by decide +kernel) ?_
  refine sw_icmp_ge (off := 30) 92 (by decide +kernel) (by decide) (fun c1 => ?_) (fun c1 => ?_)
  · rw [if_pos c1] at h
    refine sw_aload_n (k0 := 0) 0 rfl (by decide +kernel) rfl ?_
    refine gf_X9_26 (i := 0) (by decide) rfl (by decide +kernel) ?_
    refine sw_refj 27 rfl ?_
    refine sw_dup (by decide +kernel) rfl ?_
    refine gf_X9_167 (i := 27) (by decide) rfl (by decide +kernel) ?_
    refine sw_iconst (n := 1) (v := 1) (by decide +kernel) (by decide) ?_
    refine sw_iload_n (k0 := 1) 1 rfl (by decide +kernel) rfl ?_
    refine sw_ishl (by decide +kernel) ?_
    refine sw_ior (by decide +kernel) ?_
    obtain ⟨m2, e3, h⟩ := sw_let_e h
    refine pf_X9_167 (by decide) rfl (by decide +kernel) ?_
    refine sw_mem e3 ?_
    refine sw_aload_n (k0 := 0) 0 rfl (by decide +kernel) rfl ?_
    refine gf_X9_26 (i := 0) (by decide) rfl (by decide +kernel) ?_
    refine sw_refj 27 rfl ?_
    obtain ⟨r4, w5, h⟩ := sw_b1_e h
    refine sw_callVi (ci := 8) (i := 27) [] (sX8_all (K := K - 1) (by omega) 27 (Or.inl rfl) m2 w5) rfl (by omega) rfl gs_X9_146 hy_X8_all (by decide) (by decide) rfl rfl (Nat.le_of_ble_eq_true rfl) (by decide +kernel) ?_
    cases h
    obtain rfl : _ = res := hk
    exact sw_iret (by decide +kernel)
  · rw [if_neg c1] at h
    refine sw_aload_n (k0 := 0) 0 rfl (by decide +kernel) rfl ?_
    refine gf_X9_26 (i := 0) (by decide) rfl (by decide +kernel) ?_
    refine sw_refj 27 rfl ?_
    refine gf_X9_113 (i := 27) (by decide) rfl (by decide +kernel) ?_
    refine sw_refj 28 rfl ?_
    refine sw_iload_n (k0 := 2) 2 rfl (by decide +kernel) rfl ?_
    refine sw_dup2 (by decide +kernel) rfl rfl ?_
    obtain ⟨g6, h⟩ := sw_gd_e h
    refine sw_iaload (a := 28) (by decide) rfl (sw_in_e g6) (by decide +kernel) ?_
    refine sw_aload_n (k0 := 0) 0 rfl (by decide +kernel) rfl ?_
    refine gf_X9_19 (i := 0) (by decide) rfl (by decide +kernel) ?_
    refine sw_iload_n (k0 := 1) 1 rfl (by decide +kernel) rfl ?_
    refine sw_iload_n (k0 := 2) 2 rfl (by decide +kernel) rfl ?_
    obtain ⟨r7, w8, h⟩ := sw_b1_e h
    refine sw_callVi (ci := 4) (i := (sw_pl (σ.2.2 0))) [.int a1, .int a2] (sX4_needs (K := K - 1) (by omega) (sw_pl (σ.2.2 0)) (sw_pl_P _) σ a1 a2 w8) rfl (by omega) rfl gs_X9_126 hy_X4_needs (by decide) (sw_pl_P _).o.1 (sw_pl_P _).o.2 rfl (Nat.le_of_ble_eq_true rfl) (by decide +kernel) ?_
    refine sw_isub (by decide +kernel) ?_
    obtain ⟨g9, h⟩ := sw_gd_e h
    obtain ⟨m10, e11, h⟩ := sw_let_e h
    refine sw_iastore (a := 28) (by decide) rfl (sw_in_e g9) (by decide +kernel) ?_
    refine sw_mem e11 ?_
    obtain ⟨v12, e13, h⟩ := sw_let_e h
    refine sw_iincv (i := 2) (n := 1) (lv' := [(2, .int v12), (0, .ref 0), (1, .int a1)]) 2 rfl e13 (by decide +kernel) (by decide) (by decide) rfl ?_
    refine sw_goto (off := (-35)) 54 (by decide +kernel) (by decide) ?_
    cases h
    refine sw_lv [1, 2, 0] rfl ?_
    exact hk
set_option maxRecDepth 20000 in
theorem sX9_wash {l : Launch} {E : sw_E} {K : Nat} (hK : 3 ≤ K) (σ : sw_M) (a1 : Int32) {res : Int32 × sw_M} (h : fX9_wash σ a1 = some res) : sw_Ct l E K yX9_wash cX9_wash 3 (some .int) [.ref 0, .int a1] σ (some (.int res.1)) res.2 := by
  obtain ⟨t, hk, h⟩ : ∃ t, t = res ∧ fX9_wash σ a1 = some t := ⟨res, rfl, h⟩
  unfold fX9_wash at h
  refine sw_enter2 (own := RX9) (lv := [(0, .ref 0), (1, .int a1)]) (by decide +kernel) (Nat.le_of_ble_eq_true rfl) rfl rfl ?_
  refine sw_aload_n (k0 := 0) 0 rfl (by decide +kernel) rfl ?_
  refine gf_X9_19 (i := 0) (by decide) rfl (by decide +kernel) ?_
  refine sw_iload_n (k0 := 1) 1 rfl (by decide +kernel) rfl ?_
  refine sw_callVi (ci := 4) (i := (sw_pl (σ.2.2 0))) [.int a1] (sX4_isBasin (K := K - 1) (by omega) (sw_pl (σ.2.2 0)) (sw_pl_P _) σ a1 rfl) rfl (by omega) rfl gs_X9_123 hy_X4_isBasin (by decide) (sw_pl_P _).o.1 (sw_pl_P _).o.2 rfl (Nat.le_of_ble_eq_true rfl) (by decide +kernel) ?_
  refine sw_if_eq (off := 11) 19 (by decide +kernel) (by decide) (fun c1 => ?_) (fun c1 => ?_)
  · rw [if_pos c1] at h
    refine sw_iconst (n := (-1)) (v := (-1)) (by decide +kernel) (by decide) ?_
    cases h
    obtain rfl : _ = res := hk
    exact sw_iret (by decide +kernel)
  · rw [if_neg c1] at h
    refine sw_aload_n (k0 := 0) 0 rfl (by decide +kernel) rfl ?_
    refine sw_iload_n (k0 := 1) 1 rfl (by decide +kernel) rfl ?_
    refine sw_callVi (ci := 9) (i := 0) [.int a1] (sX9_isEased (K := K - 1) (by omega) σ a1 rfl) rfl (by omega) rfl gs_X9_157 hy_X9_isEased (by decide) (by decide) rfl rfl (Nat.le_of_ble_eq_true rfl) (by decide +kernel) ?_
    refine sw_if_eq (off := 5) 21 (by decide +kernel) (by decide) (fun c2 => ?_) (fun c2 => ?_)
    · rw [if_pos c2] at h
      refine sw_aload_n (k0 := 0) 0 rfl (by decide +kernel) rfl ?_
      refine gf_X9_19 (i := 0) (by decide) rfl (by decide +kernel) ?_
      refine sw_aload_n (k0 := 0) 0 rfl (by decide +kernel) rfl ?_
      refine gf_X9_26 (i := 0) (by decide) rfl (by decide +kernel) ?_
      refine sw_refj 27 rfl ?_
      refine gf_X9_113 (i := 27) (by decide) rfl (by decide +kernel) ?_
      refine sw_refj 28 rfl ?_
      refine sw_iload_n (k0 := 1) 1 rfl (by decide +kernel) rfl ?_
      obtain ⟨r3, w4, h⟩ := sw_b1_e h
      refine sw_callVi (ci := 4) (i := (sw_pl (σ.2.2 0))) [.ref 28, .int a1] (sX4_lacking (K := K - 1) (by omega) (sw_pl (σ.2.2 0)) 28 (sw_pl_P _) (sw_A_of (by decide) rfl) σ a1 w4) rfl (by omega) rfl gs_X9_160 hy_X4_lacking (by decide) (sw_pl_P _).o.1 (sw_pl_P _).o.2 rfl (Nat.le_of_ble_eq_true rfl) (by decide +kernel) ?_
      refine sw_if_le (off := 5) 41 (by decide +kernel) (by decide) (fun c5 => ?_) (fun c5 => ?_)
      · rw [if_pos c5] at h
        refine sw_aload_n (k0 := 0) 0 rfl (by decide +kernel) rfl ?_
        refine gf_X9_33 (i := 0) (by decide) rfl (by decide +kernel) ?_
        refine sw_refj 29 rfl ?_
        refine sw_aload_n (k0 := 0) 0 rfl (by decide +kernel) rfl ?_
        refine gf_X9_26 (i := 0) (by decide) rfl (by decide +kernel) ?_
        refine sw_refj 27 rfl ?_
        obtain ⟨m6, w7, h⟩ := sw_b1_e h
        refine sw_callVv (ci := 0) (i := 29) [.ref 27] (sX0_keep (K := K - 1) (by omega) 27 (Or.inl rfl) σ w7) rfl (by omega) rfl gs_X9_138 hy_X0_keep (by decide) (by decide) rfl rfl (Nat.le_of_ble_eq_true rfl) (by decide +kernel) ?_
        refine sw_iconst (n := 0) (v := 0) (by decide +kernel) (by decide) ?_
        refine sw_istore_n (k0 := 2) (lv' := [(2, .int 0), (0, .ref 0), (1, .int a1)]) (by decide +kernel) rfl (by decide) rfl ?_
        refine sw_lv [1, 2, 0] rfl ?_
        exact sw_wh_e (fun s : Int32 × sw_M => sw_Go l E K RX9 cX9_wash 3 (some .int) 54 [(0, .ref 0), (1, .int a1), (2, .int s.1)] [] s.2 (some (.int res.1)) res.2) (fun q => q = res) (fun s => fX9_wash_L54 s.2 a1 s.1) (fun s t hb hk => sX9_wash_L54 hK s.2 a1 s.1 hb hk) _ _ _ h hk
      · rw [if_neg c5] at h
        refine sw_iconst (n := (-1)) (v := (-1)) (by decide +kernel) (by decide) ?_
        cases h
        obtain rfl : _ = res := hk
        exact sw_iret (by decide +kernel)
    · rw [if_neg c2] at h
      refine sw_iconst (n := (-1)) (v := (-1)) (by decide +kernel) (by decide) ?_
      cases h
      obtain rfl : _ = res := hk
      exact sw_iret (by decide +kernel)
def fX9_sweep (σ : sw_M) (a1 : Int32) : Option (Int32 × sw_M) :=
  if (fX4_isKind (sw_pl (σ.2.2 0)) σ a1) = 0 then
    some (((-1), σ))
  else
    sw_gd (sw_in a1 5) <|
    if (σ.1 28 a1.toNatClampNeg) = 0 then
      some (((-1), σ))
    else
      sw_b1 (fX0_keep 27 σ) fun m4 =>
      sw_gd (sw_in a1 5) <|
      sw_let (m4.1 28 a1.toNatClampNeg) fun v7 =>
      sw_gd (sw_in a1 5) <|
      sw_let (sw_w m4 28 a1.toNatClampNeg 0) fun m10 =>
      some ((v7, m10))
set_option maxRecDepth 20000 in
theorem sX9_sweep {l : Launch} {E : sw_E} {K : Nat} (hK : 3 ≤ K) (σ : sw_M) (a1 : Int32) {res : Int32 × sw_M} (h : fX9_sweep σ a1 = some res) : sw_Ct l E K yX9_sweep cX9_sweep 3 (some .int) [.ref 0, .int a1] σ (some (.int res.1)) res.2 := by
  obtain ⟨t, hk, h⟩ : ∃ t, t = res ∧ fX9_sweep σ a1 = some t := ⟨res, rfl, h⟩
  unfold fX9_sweep at h
  refine sw_enter2 (own := RX9) (lv := [(0, .ref 0), (1, .int a1)]) (by decide +kernel) (Nat.le_of_ble_eq_true rfl) rfl rfl ?_
  refine sw_aload_n (k0 := 0) 0 rfl (by decide +kernel) rfl ?_
  refine gf_X9_19 (i := 0) (by decide) rfl (by decide +kernel) ?_
  refine sw_iload_n (k0 := 1) 1 rfl (by decide +kernel) rfl ?_
  refine sw_callVi (ci := 4) (i := (sw_pl (σ.2.2 0))) [.int a1] (sX4_isKind (K := K - 1) (by omega) (sw_pl (σ.2.2 0)) (sw_pl_P _) σ a1 rfl) rfl (by omega) rfl gs_X9_109 hy_X4_isKind (by decide) (sw_pl_P _).o.1 (sw_pl_P _).o.2 rfl (Nat.le_of_ble_eq_true rfl) (by decide +kernel) ?_
  refine sw_if_eq (off := 15) 23 (by decide +kernel) (by decide) (fun c1 => ?_) (fun c1 => ?_)
  · rw [if_pos c1] at h
    refine sw_iconst (n := (-1)) (v := (-1)) (by decide +kernel) (by decide) ?_
    cases h
    obtain rfl : _ = res := hk
    exact sw_iret (by decide +kernel)
  · rw [if_neg c1] at h
    refine sw_aload_n (k0 := 0) 0 rfl (by decide +kernel) rfl ?_
    refine gf_X9_26 (i := 0) (by decide) rfl (by decide +kernel) ?_
    refine sw_refj 27 rfl ?_
    refine gf_X9_113 (i := 27) (by decide) rfl (by decide +kernel) ?_
    refine sw_refj 28 rfl ?_
    refine sw_iload_n (k0 := 1) 1 rfl (by decide +kernel) rfl ?_
    obtain ⟨g2, h⟩ := sw_gd_e h
    refine sw_iaload (a := 28) (by decide) rfl (sw_in_e g2) (by decide +kernel) ?_
    refine sw_if_ne (off := 5) 25 (by decide +kernel) (by decide) (fun c3 => ?_) (fun c3 => ?_)
    · rw [if_neg c3] at h
      refine sw_aload_n (k0 := 0) 0 rfl (by decide +kernel) rfl ?_
      refine gf_X9_33 (i := 0) (by decide) rfl (by decide +kernel) ?_
      refine sw_refj 29 rfl ?_
      refine sw_aload_n (k0 := 0) 0 rfl (by decide +kernel) rfl ?_
      refine gf_X9_26 (i := 0) (by decide) rfl (by decide +kernel) ?_
      refine sw_refj 27 rfl ?_
      obtain ⟨m4, w5, h⟩ := sw_b1_e h
      refine sw_callVv (ci := 0) (i := 29) [.ref 27] (sX0_keep (K := K - 1) (by omega) 27 (Or.inl rfl) σ w5) rfl (by omega) rfl gs_X9_138 hy_X0_keep (by decide) (by decide) rfl rfl (Nat.le_of_ble_eq_true rfl) (by decide +kernel) ?_
      refine sw_aload_n (k0 := 0) 0 rfl (by decide +kernel) rfl ?_
      refine gf_X9_26 (i := 0) (by decide) rfl (by decide +kernel) ?_
      refine sw_refj 27 rfl ?_
      refine gf_X9_113 (i := 27) (by decide) rfl (by decide +kernel) ?_
      refine sw_refj 28 rfl ?_
      refine sw_iload_n (k0 := 1) 1 rfl (by decide +kernel) rfl ?_
      obtain ⟨g6, h⟩ := sw_gd_e h
      refine sw_iaload (a := 28) (by decide) rfl (sw_in_e g6) (by decide +kernel) ?_
      obtain ⟨v7, e8, h⟩ := sw_let_e h
      refine sw_topi e8 ?_
      refine sw_istore_n (k0 := 2) (lv' := [(2, .int v7), (0, .ref 0), (1, .int a1)]) (by decide +kernel) rfl (by decide) rfl ?_
      refine sw_aload_n (k0 := 0) 1 rfl (by decide +kernel) rfl ?_
      refine gf_X9_26 (i := 0) (by decide) rfl (by decide +kernel) ?_
      refine sw_refj 27 rfl ?_
      refine gf_X9_113 (i := 27) (by decide) rfl (by decide +kernel) ?_
      refine sw_refj 28 rfl ?_
      refine sw_iload_n (k0 := 1) 2 rfl (by decide +kernel) rfl ?_
      refine sw_iconst (n := 0) (v := 0) (by decide +kernel) (by decide) ?_
      obtain ⟨g9, h⟩ := sw_gd_e h
      obtain ⟨m10, e11, h⟩ := sw_let_e h
      refine sw_iastore (a := 28) (by decide) rfl (sw_in_e g9) (by decide +kernel) ?_
      refine sw_mem e11 ?_
      refine sw_iload_n (k0 := 2) 0 rfl (by decide +kernel) rfl ?_
      cases h
      obtain rfl : _ = res := hk
      exact sw_iret (by decide +kernel)
    · rw [if_pos c3] at h
      refine sw_iconst (n := (-1)) (v := (-1)) (by decide +kernel) (by decide) ?_
      cases h
      obtain rfl : _ = res := hk
      exact sw_iret (by decide +kernel)
def fX9_undo (σ : sw_M) : Option (Int32 × sw_M) :=
  sw_b2 (fX0_takeBack 27 σ) fun r1 m2 =>
  sw_gd (sw_bo r1) <|
  some ((r1, m2))
set_option maxRecDepth 20000 in
theorem sX9_undo {l : Launch} {E : sw_E} {K : Nat} (hK : 3 ≤ K) (σ : sw_M) {res : Int32 × sw_M} (h : fX9_undo σ = some res) : sw_Ct l E K yX9_undo cX9_undo 1 (some .boolean) [.ref 0] σ (some (.int res.1)) res.2 := by
  obtain ⟨t, hk, h⟩ : ∃ t, t = res ∧ fX9_undo σ = some t := ⟨res, rfl, h⟩
  unfold fX9_undo at h
  refine sw_enter2 (own := RX9) (lv := [(0, .ref 0)]) (by decide +kernel) (Nat.le_of_ble_eq_true rfl) rfl rfl ?_
  refine sw_aload_n (k0 := 0) 0 rfl (by decide +kernel) rfl ?_
  refine gf_X9_33 (i := 0) (by decide) rfl (by decide +kernel) ?_
  refine sw_refj 29 rfl ?_
  refine sw_aload_n (k0 := 0) 0 rfl (by decide +kernel) rfl ?_
  refine gf_X9_26 (i := 0) (by decide) rfl (by decide +kernel) ?_
  refine sw_refj 27 rfl ?_
  obtain ⟨r1, m2, w3, h⟩ := sw_b2_e h
  refine sw_callVi (ci := 0) (i := 29) [.ref 27] (sX0_takeBack (K := K - 1) (by omega) 27 (Or.inl rfl) σ w3) rfl (by omega) rfl gs_X9_170 hy_X0_takeBack (by decide) (by decide) rfl rfl (Nat.le_of_ble_eq_true rfl) (by decide +kernel) ?_
  obtain ⟨g4, h⟩ := sw_gd_e h
  cases h
  obtain rfl : _ = res := hk
  exact sw_zret (sw_bo_n (sw_bo_e g4)) (by decide +kernel)
def fX9_redo (σ : sw_M) : Option (Int32 × sw_M) :=
  sw_b2 (fX0_doAgain 27 σ) fun r1 m2 =>
  sw_gd (sw_bo r1) <|
  some ((r1, m2))
set_option maxRecDepth 20000 in
theorem sX9_redo {l : Launch} {E : sw_E} {K : Nat} (hK : 3 ≤ K) (σ : sw_M) {res : Int32 × sw_M} (h : fX9_redo σ = some res) : sw_Ct l E K yX9_redo cX9_redo 1 (some .boolean) [.ref 0] σ (some (.int res.1)) res.2 := by
  obtain ⟨t, hk, h⟩ : ∃ t, t = res ∧ fX9_redo σ = some t := ⟨res, rfl, h⟩
  unfold fX9_redo at h
  refine sw_enter2 (own := RX9) (lv := [(0, .ref 0)]) (by decide +kernel) (Nat.le_of_ble_eq_true rfl) rfl rfl ?_
  refine sw_aload_n (k0 := 0) 0 rfl (by decide +kernel) rfl ?_
  refine gf_X9_33 (i := 0) (by decide) rfl (by decide +kernel) ?_
  refine sw_refj 29 rfl ?_
  refine sw_aload_n (k0 := 0) 0 rfl (by decide +kernel) rfl ?_
  refine gf_X9_26 (i := 0) (by decide) rfl (by decide +kernel) ?_
  refine sw_refj 27 rfl ?_
  obtain ⟨r1, m2, w3, h⟩ := sw_b2_e h
  refine sw_callVi (ci := 0) (i := 29) [.ref 27] (sX0_doAgain (K := K - 1) (by omega) 27 (Or.inl rfl) σ w3) rfl (by omega) rfl gs_X9_174 hy_X0_doAgain (by decide) (by decide) rfl rfl (Nat.le_of_ble_eq_true rfl) (by decide +kernel) ?_
  obtain ⟨g4, h⟩ := sw_gd_e h
  cases h
  obtain rfl : _ = res := hk
  exact sw_zret (sw_bo_n (sw_bo_e g4)) (by decide +kernel)
def fX9_will_L56 (q4 : Nat) (σ : sw_M) (b0 : Int32) (b1 : Int32) (b2 : Int32) : Option ((Int32 × sw_M)) :=
  sw_b2 (fX3_muchBehind q4 27 σ b2 b1 b0) fun r1 m2 =>
  some ((r1, m2))
def fX9_will (σ : sw_M) (a1 : Int32) (a2 : Int32) (a3 : Int32) : Option (Int32 × sw_M) :=
  if (fX4_isKind (sw_pl (σ.2.2 0)) σ a1) = 0 then
    some (((-1), σ))
  else
    if a2 < 0 then
      some (((-1), σ))
    else
      if 60 < a2 then
        some (((-1), σ))
      else
        if a3 < 0 then
          some (((-1), σ))
        else
          if a3 ≤ 1 then
            if a3 = 1 then
              fX9_will_L56 (sw_pl (σ.2.2 0)) σ 1 a2 a1
            else
              fX9_will_L56 (sw_pl (σ.2.2 0)) σ 0 a2 a1
          else
            some (((-1), σ))
set_option maxRecDepth 20000 in
theorem sX9_will_L56 {l : Launch} {E : sw_E} {K : Nat} (hK : 6 ≤ K) (q4 : Nat) (hq4 : sw_isP q4) (σ : sw_M) (b0 : Int32) (b1 : Int32) (b2 : Int32) {res : Int32 × sw_M} {t : (Int32 × sw_M)} (h : fX9_will_L56 q4 σ b0 b1 b2 = some t) (hk : (fun q => q = res) t) : sw_Go l E K RX9 cX9_will 4 (some .int) 56 [] [.int b0, .int b1, .int b2, .ref 27, .ref q4, .ref 34] σ (some (.int res.1)) res.2 := by
  unfold fX9_will_L56 at h
  obtain ⟨r1, m2, w3, h⟩ := sw_b2_e h
  refine sw_callVi (ci := 3) (i := 34) [.ref q4, .ref 27, .int b2, .int b1, .int b0] (sX3_muchBehind (K := K - 1) (by omega) q4 27 hq4 (Or.inl rfl) σ b2 b1 b0 w3) rfl (by omega) rfl gs_X9_177 hy_X3_muchBehind (by decide) (by decide) rfl rfl (Nat.le_of_ble_eq_true rfl) (by decide +kernel) ?_
  cases h
  obtain rfl : _ = res := hk
  exact sw_iret (by decide +kernel)
set_option maxRecDepth 20000 in
theorem sX9_will {l : Launch} {E : sw_E} {K : Nat} (hK : 6 ≤ K) (σ : sw_M) (a1 : Int32) (a2 : Int32) (a3 : Int32) {res : Int32 × sw_M} (h : fX9_will σ a1 a2 a3 = some res) : sw_Ct l E K yX9_will cX9_will 4 (some .int) [.ref 0, .int a1, .int a2, .int a3] σ (some (.int res.1)) res.2 := by
  obtain ⟨t, hk, h⟩ : ∃ t, t = res ∧ fX9_will σ a1 a2 a3 = some t := ⟨res, rfl, h⟩
  unfold fX9_will at h
  refine sw_enter2 (own := RX9) (lv := [(0, .ref 0), (1, .int a1), (2, .int a2), (3, .int a3)]) (by decide +kernel) (Nat.le_of_ble_eq_true rfl) rfl rfl ?_
  refine sw_aload_n (k0 := 0) 0 rfl (by decide +kernel) rfl ?_
  refine gf_X9_19 (i := 0) (by decide) rfl (by decide +kernel) ?_
  refine sw_iload_n (k0 := 1) 1 rfl (by decide +kernel) rfl ?_
  refine sw_callVi (ci := 4) (i := (sw_pl (σ.2.2 0))) [.int a1] (sX4_isKind (K := K - 1) (by omega) (sw_pl (σ.2.2 0)) (sw_pl_P _) σ a1 rfl) rfl (by omega) rfl gs_X9_109 hy_X4_isKind (by decide) (sw_pl_P _).o.1 (sw_pl_P _).o.2 rfl (Nat.le_of_ble_eq_true rfl) (by decide +kernel) ?_
  refine sw_if_eq (off := 22) 30 (by decide +kernel) (by decide) (fun c1 => ?_) (fun c1 => ?_)
  · rw [if_pos c1] at h
    refine sw_iconst (n := (-1)) (v := (-1)) (by decide +kernel) (by decide) ?_
    cases h
    obtain rfl : _ = res := hk
    exact sw_iret (by decide +kernel)
  · rw [if_neg c1] at h
    refine sw_iload_n (k0 := 2) 2 rfl (by decide +kernel) rfl ?_
    refine sw_if_lt (off := 18) 30 (by decide +kernel) (by decide) (fun c2 => ?_) (fun c2 => ?_)
    · rw [if_pos c2] at h
      refine sw_iconst (n := (-1)) (v := (-1)) (by decide +kernel) (by decide) ?_
      cases h
      obtain rfl : _ = res := hk
      exact sw_iret (by decide +kernel)
    · rw [if_neg c2] at h
      refine sw_iload_n (k0 := 2) 2 rfl (by decide +kernel) rfl ?_
      refine sw_bipush (n := 60) (v := 60) (by decide +kernel) (by decide) ?_
      refine sw_icmp_gt (off := 12) 30 (by decide +kernel) (by decide) (fun c3 => ?_) (fun c3 => ?_)
      · rw [if_pos c3] at h
        refine sw_iconst (n := (-1)) (v := (-1)) (by decide +kernel) (by decide) ?_
        cases h
        obtain rfl : _ = res := hk
        exact sw_iret (by decide +kernel)
      · rw [if_neg c3] at h
        refine sw_iload_n (k0 := 3) 3 rfl (by decide +kernel) rfl ?_
        refine sw_if_lt (off := 8) 30 (by decide +kernel) (by decide) (fun c4 => ?_) (fun c4 => ?_)
        · rw [if_pos c4] at h
          refine sw_iconst (n := (-1)) (v := (-1)) (by decide +kernel) (by decide) ?_
          cases h
          obtain rfl : _ = res := hk
          exact sw_iret (by decide +kernel)
        · rw [if_neg c4] at h
          refine sw_iload_n (k0 := 3) 3 rfl (by decide +kernel) rfl ?_
          refine sw_iconst (n := 1) (v := 1) (by decide +kernel) (by decide) ?_
          refine sw_icmp_le (off := 5) 32 (by decide +kernel) (by decide) (fun c5 => ?_) (fun c5 => ?_)
          · rw [if_pos c5] at h
            refine sw_aload_n (k0 := 0) 0 rfl (by decide +kernel) rfl ?_
            refine gf_X9_47 (i := 0) (by decide) rfl (by decide +kernel) ?_
            refine sw_refj 34 rfl ?_
            refine sw_aload_n (k0 := 0) 0 rfl (by decide +kernel) rfl ?_
            refine gf_X9_19 (i := 0) (by decide) rfl (by decide +kernel) ?_
            refine sw_aload_n (k0 := 0) 0 rfl (by decide +kernel) rfl ?_
            refine gf_X9_26 (i := 0) (by decide) rfl (by decide +kernel) ?_
            refine sw_refj 27 rfl ?_
            refine sw_iload_n (k0 := 1) 1 rfl (by decide +kernel) rfl ?_
            refine sw_iload_n (k0 := 2) 2 rfl (by decide +kernel) rfl ?_
            refine sw_iload_n (k0 := 3) 3 rfl (by decide +kernel) rfl ?_
            refine sw_iconst (n := 1) (v := 1) (by decide +kernel) (by decide) ?_
            refine sw_icmp_ne (off := 7) 55 (by decide +kernel) (by decide) (fun c6 => ?_) (fun c6 => ?_)
            · rw [if_neg c6] at h
              refine sw_iconst (n := 0) (v := 0) (by decide +kernel) (by decide) ?_
              refine sw_lv [] rfl ?_
              exact sX9_will_L56 hK (sw_pl (σ.2.2 0)) (sw_pl_P _) σ 0 a2 a1 h hk
            · rw [if_pos c6] at h
              refine sw_iconst (n := 1) (v := 1) (by decide +kernel) (by decide) ?_
              refine sw_goto (off := 4) 56 (by decide +kernel) (by decide) ?_
              refine sw_lv [] rfl ?_
              exact sX9_will_L56 hK (sw_pl (σ.2.2 0)) (sw_pl_P _) σ 1 a2 a1 h hk
          · rw [if_neg c5] at h
            refine sw_iconst (n := (-1)) (v := (-1)) (by decide +kernel) (by decide) ?_
            cases h
            obtain rfl : _ = res := hk
            exact sw_iret (by decide +kernel)
def fX9_rise (σ : sw_M) : Option (Int32 × sw_M) :=
  sw_b2 (fX3_riseIf (sw_pl (σ.2.2 0)) 27 σ 0 60) fun r1 m2 =>
  some ((r1, m2))
set_option maxRecDepth 20000 in
theorem sX9_rise {l : Launch} {E : sw_E} {K : Nat} (hK : 5 ≤ K) (σ : sw_M) {res : Int32 × sw_M} (h : fX9_rise σ = some res) : sw_Ct l E K yX9_rise cX9_rise 1 (some .int) [.ref 0] σ (some (.int res.1)) res.2 := by
  obtain ⟨t, hk, h⟩ : ∃ t, t = res ∧ fX9_rise σ = some t := ⟨res, rfl, h⟩
  unfold fX9_rise at h
  refine sw_enter2 (own := RX9) (lv := [(0, .ref 0)]) (by decide +kernel) (Nat.le_of_ble_eq_true rfl) rfl rfl ?_
  refine sw_aload_n (k0 := 0) 0 rfl (by decide +kernel) rfl ?_
  refine gf_X9_47 (i := 0) (by decide) rfl (by decide +kernel) ?_
  refine sw_refj 34 rfl ?_
  refine sw_aload_n (k0 := 0) 0 rfl (by decide +kernel) rfl ?_
  refine gf_X9_19 (i := 0) (by decide) rfl (by decide +kernel) ?_
  refine sw_aload_n (k0 := 0) 0 rfl (by decide +kernel) rfl ?_
  refine gf_X9_26 (i := 0) (by decide) rfl (by decide +kernel) ?_
  refine sw_refj 27 rfl ?_
  refine sw_iconst (n := 0) (v := 0) (by decide +kernel) (by decide) ?_
  refine sw_bipush (n := 60) (v := 60) (by decide +kernel) (by decide) ?_
  obtain ⟨r1, m2, w3, h⟩ := sw_b2_e h
  refine sw_callVi (ci := 3) (i := 34) [.ref (sw_pl (σ.2.2 0)), .ref 27, .int 0, .int 60] (sX3_riseIf (K := K - 1) (by omega) (sw_pl (σ.2.2 0)) 27 (sw_pl_P _) (Or.inl rfl) σ 0 60 w3) rfl (by omega) rfl gs_X9_181 hy_X3_riseIf (by decide) (by decide) rfl rfl (Nat.le_of_ble_eq_true rfl) (by decide +kernel) ?_
  cases h
  obtain rfl : _ = res := hk
  exact sw_iret (by decide +kernel)
def fX9_rouser_L84 (σ : sw_M) (a1 : Int32) (a2 : Int32) (a3 : Int32) (a4 : Int32) : Option ((Int32 × Int32 × Int32 × sw_M) ⊕ (Int32 × sw_M)) :=
  sw_let (a4 + 1) fun v1 =>
  some (.inl (a2, a3, v1, σ))
def fX9_rouser_L19 (σ : sw_M) (a1 : Int32) (a2 : Int32) (a3 : Int32) (a4 : Int32) : Option ((Int32 × Int32 × Int32 × sw_M) ⊕ (Int32 × sw_M)) :=
  if (σ.1 (sw_pl (σ.2.2 0)) 1) ≤ a4 then
    if a2 = (-1) then
      some (.inr (((-1), σ)))
    else
      if a1 = 0 then
        some (.inr ((a2, σ)))
      else
        some (.inr ((a3, σ)))
  else
    if (fX9_isSilent σ a4) = 0 then
      fX9_rouser_L84 σ a1 a2 a3 a4
    else
      sw_b2 (fX3_riseIf (sw_pl (σ.2.2 0)) 27 σ (1 <<< (a4 &&& 31)) 60) fun r5 m6 =>
      if r5 = (-1) then
        fX9_rouser_L84 m6 a1 a2 a3 a4
      else
        if a3 ≤ r5 then
          fX9_rouser_L84 m6 a1 a2 a3 a4
        else
          fX9_rouser_L84 m6 a1 a4 r5 a4
def fX9_rouser (σ : sw_M) (a1 : Int32) : Option (Int32 × sw_M) :=
  if a1 < 0 then
    some (((-1), σ))
  else
    if a1 ≤ 1 then
      sw_wh sw_F (fun s => fX9_rouser_L19 s.2.2.2 a1 s.1 s.2.1 s.2.2.1) ((-1), 61, 0, σ)
    else
      some (((-1), σ))
set_option maxRecDepth 20000 in
theorem sX9_rouser_L84 {l : Launch} {E : sw_E} {K : Nat} (hK : 5 ≤ K) (σ : sw_M) (a1 : Int32) (a2 : Int32) (a3 : Int32) (a4 : Int32) {res : Int32 × sw_M} {t : (Int32 × Int32 × Int32 × sw_M) ⊕ (Int32 × sw_M)} (h : fX9_rouser_L84 σ a1 a2 a3 a4 = some t) (hk : (Sum.elim (fun s : Int32 × Int32 × Int32 × sw_M => sw_Go l E K RX9 cX9_rouser 6 (some .int) 19 [(0, .ref 0), (1, .int a1), (2, .int s.1), (3, .int s.2.1), (4, .int s.2.2.1)] [] s.2.2.2 (some (.int res.1)) res.2) (fun q => q = res)) t) : sw_Go l E K RX9 cX9_rouser 6 (some .int) 84 [(0, .ref 0), (1, .int a1), (2, .int a2), (3, .int a3), (4, .int a4)] [] σ (some (.int res.1)) res.2 := by
  unfold fX9_rouser_L84 at h
  obtain ⟨v1, e2, h⟩ := sw_let_e h
  refine sw_iincv (i := 4) (n := 1) (lv' := [(4, .int v1), (0, .ref 0), (1, .int a1), (2, .int a2), (3, .int a3)]) 4 rfl e2 (by decide +kernel) (by decide) (by decide) rfl ?_
  refine sw_goto (off := (-68)) 19 (by decide +kernel) (by decide) ?_
  cases h
  refine sw_lv [1, 2, 3, 4, 0] rfl ?_
  exact hk
set_option maxRecDepth 20000 in
theorem sX9_rouser_L19 {l : Launch} {E : sw_E} {K : Nat} (hK : 5 ≤ K) (σ : sw_M) (a1 : Int32) (a2 : Int32) (a3 : Int32) (a4 : Int32) {res : Int32 × sw_M} {t : (Int32 × Int32 × Int32 × sw_M) ⊕ (Int32 × sw_M)} (h : fX9_rouser_L19 σ a1 a2 a3 a4 = some t) (hk : (Sum.elim (fun s : Int32 × Int32 × Int32 × sw_M => sw_Go l E K RX9 cX9_rouser 6 (some .int) 19 [(0, .ref 0), (1, .int a1), (2, .int s.1), (3, .int s.2.1), (4, .int s.2.2.1)] [] s.2.2.2 (some (.int res.1)) res.2) (fun q => q = res)) t) : sw_Go l E K RX9 cX9_rouser 6 (some .int) 19 [(0, .ref 0), (1, .int a1), (2, .int a2), (3, .int a3), (4, .int a4)] [] σ (some (.int res.1)) res.2 := by
  unfold fX9_rouser_L19 at h
  refine sw_iload 4 rfl (by decide +kernel) ?_
  refine sw_aload_n (k0 := 0) 0 rfl (by decide +kernel) rfl ?_
  refine gf_X9_19 (i := 0) (by decide) rfl (by decide +kernel) ?_
  refine gf_X9_100 (i := (sw_pl (σ.2.2 0))) (sw_pl_P _).o.1 (sw_pl_P _).o.2 (by decide +kernel) ?_
  refine sw_icmp_ge (off := 62) 90 (by decide +kernel) (by decide) (fun c1 => ?_) (fun c1 => ?_)
  · rw [if_pos c1] at h
    refine sw_iload_n (k0 := 2) 2 rfl (by decide +kernel) rfl ?_
    refine sw_iconst (n := (-1)) (v := (-1)) (by decide +kernel) (by decide) ?_
    refine sw_icmp_ne (off := 5) 97 (by decide +kernel) (by decide) (fun c2 => ?_) (fun c2 => ?_)
    · rw [if_neg c2] at h
      refine sw_iload_n (k0 := 1) 1 rfl (by decide +kernel) rfl ?_
      refine sw_if_ne (off := 7) 105 (by decide +kernel) (by decide) (fun c3 => ?_) (fun c3 => ?_)
      · rw [if_neg c3] at h
        refine sw_iload_n (k0 := 3) 3 rfl (by decide +kernel) rfl ?_
        cases h
        obtain rfl : _ = res := hk
        exact sw_iret (by decide +kernel)
      · rw [if_pos c3] at h
        refine sw_iload_n (k0 := 2) 2 rfl (by decide +kernel) rfl ?_
        refine sw_goto (off := 4) 106 (by decide +kernel) (by decide) ?_
        cases h
        obtain rfl : _ = res := hk
        exact sw_iret (by decide +kernel)
    · rw [if_pos c2] at h
      refine sw_iconst (n := (-1)) (v := (-1)) (by decide +kernel) (by decide) ?_
      cases h
      obtain rfl : _ = res := hk
      exact sw_iret (by decide +kernel)
  · rw [if_neg c1] at h
    refine sw_aload_n (k0 := 0) 0 rfl (by decide +kernel) rfl ?_
    refine sw_iload 4 rfl (by decide +kernel) ?_
    refine sw_callVi (ci := 9) (i := 0) [.int a4] (sX9_isSilent (K := K - 1) (by omega) σ a4 rfl) rfl (by omega) rfl gs_X9_135 hy_X9_isSilent (by decide) (by decide) rfl rfl (Nat.le_of_ble_eq_true rfl) (by decide +kernel) ?_
    refine sw_if_ne (off := 6) 43 (by decide +kernel) (by decide) (fun c4 => ?_) (fun c4 => ?_)
    · rw [if_neg c4] at h
      refine sw_aload_n (k0 := 0) 0 rfl (by decide +kernel) rfl ?_
      refine gf_X9_47 (i := 0) (by decide) rfl (by decide +kernel) ?_
      refine sw_refj 34 rfl ?_
      refine sw_aload_n (k0 := 0) 0 rfl (by decide +kernel) rfl ?_
      refine gf_X9_19 (i := 0) (by decide) rfl (by decide +kernel) ?_
      refine sw_aload_n (k0 := 0) 0 rfl (by decide +kernel) rfl ?_
      refine gf_X9_26 (i := 0) (by decide) rfl (by decide +kernel) ?_
      refine sw_refj 27 rfl ?_
      refine sw_iconst (n := 1) (v := 1) (by decide +kernel) (by decide) ?_
      refine sw_iload 4 rfl (by decide +kernel) ?_
      refine sw_ishl (by decide +kernel) ?_
      refine sw_bipush (n := 60) (v := 60) (by decide +kernel) (by decide) ?_
      obtain ⟨r5, m6, w7, h⟩ := sw_b2_e h
      refine sw_callVi (ci := 3) (i := 34) [.ref (sw_pl (σ.2.2 0)), .ref 27, .int (1 <<< (a4 &&& 31)), .int 60] (sX3_riseIf (K := K - 1) (by omega) (sw_pl (σ.2.2 0)) 27 (sw_pl_P _) (Or.inl rfl) σ (1 <<< (a4 &&& 31)) 60 w7) rfl (by omega) rfl gs_X9_181 hy_X3_riseIf (by decide) (by decide) rfl rfl (Nat.le_of_ble_eq_true rfl) (by decide +kernel) ?_
      refine sw_istore (i := 5) (lv' := [(5, .int r5), (0, .ref 0), (1, .int a1), (2, .int a2), (3, .int a3), (4, .int a4)]) (by decide +kernel) (by decide) rfl ?_
      refine sw_iload 0 rfl (by decide +kernel) ?_
      refine sw_iconst (n := (-1)) (v := (-1)) (by decide +kernel) (by decide) ?_
      refine sw_icmp_eq (off := 15) 84 (by decide +kernel) (by decide) (fun c8 => ?_) (fun c8 => ?_)
      · rw [if_pos c8] at h
        refine sw_lv [1, 2, 3, 4, 5] rfl ?_
        exact sX9_rouser_L84 hK m6 a1 a2 a3 a4 h hk
      · rw [if_neg c8] at h
        refine sw_iload 0 rfl (by decide +kernel) ?_
        refine sw_iload_n (k0 := 3) 4 rfl (by decide +kernel) rfl ?_
        refine sw_icmp_ge (off := 9) 84 (by decide +kernel) (by decide) (fun c9 => ?_) (fun c9 => ?_)
        · rw [if_pos c9] at h
          refine sw_lv [1, 2, 3, 4, 5] rfl ?_
          exact sX9_rouser_L84 hK m6 a1 a2 a3 a4 h hk
        · rw [if_neg c9] at h
          refine sw_iload 0 rfl (by decide +kernel) ?_
          refine sw_istore_n (k0 := 3) (lv' := [(3, .int r5), (5, .int r5), (0, .ref 0), (1, .int a1), (2, .int a2), (4, .int a4)]) (by decide +kernel) rfl (by decide) rfl ?_
          refine sw_iload 5 rfl (by decide +kernel) ?_
          refine sw_istore_n (k0 := 2) (lv' := [(2, .int a4), (3, .int r5), (5, .int r5), (0, .ref 0), (1, .int a1), (4, .int a4)]) (by decide +kernel) rfl (by decide) rfl ?_
          refine sw_lv [3, 4, 0, 1, 5] rfl ?_
          exact sX9_rouser_L84 hK m6 a1 a4 r5 a4 h hk
    · rw [if_pos c4] at h
      refine sw_goto (off := 44) 84 (by decide +kernel) (by decide) ?_
      exact sX9_rouser_L84 hK σ a1 a2 a3 a4 h hk
set_option maxRecDepth 20000 in
theorem sX9_rouser {l : Launch} {E : sw_E} {K : Nat} (hK : 5 ≤ K) (σ : sw_M) (a1 : Int32) {res : Int32 × sw_M} (h : fX9_rouser σ a1 = some res) : sw_Ct l E K yX9_rouser cX9_rouser 6 (some .int) [.ref 0, .int a1] σ (some (.int res.1)) res.2 := by
  obtain ⟨t, hk, h⟩ : ∃ t, t = res ∧ fX9_rouser σ a1 = some t := ⟨res, rfl, h⟩
  unfold fX9_rouser at h
  refine sw_enter2 (own := RX9) (lv := [(0, .ref 0), (1, .int a1)]) (by decide +kernel) (Nat.le_of_ble_eq_true rfl) rfl rfl ?_
  refine sw_iload_n (k0 := 1) 1 rfl (by decide +kernel) rfl ?_
  refine sw_if_lt (off := 8) 9 (by decide +kernel) (by decide) (fun c1 => ?_) (fun c1 => ?_)
  · rw [if_pos c1] at h
    refine sw_iconst (n := (-1)) (v := (-1)) (by decide +kernel) (by decide) ?_
    cases h
    obtain rfl : _ = res := hk
    exact sw_iret (by decide +kernel)
  · rw [if_neg c1] at h
    refine sw_iload_n (k0 := 1) 1 rfl (by decide +kernel) rfl ?_
    refine sw_iconst (n := 1) (v := 1) (by decide +kernel) (by decide) ?_
    refine sw_icmp_le (off := 5) 11 (by decide +kernel) (by decide) (fun c2 => ?_) (fun c2 => ?_)
    · rw [if_pos c2] at h
      refine sw_iconst (n := (-1)) (v := (-1)) (by decide +kernel) (by decide) ?_
      refine sw_istore_n (k0 := 2) (lv' := [(2, .int (-1)), (0, .ref 0), (1, .int a1)]) (by decide +kernel) rfl (by decide) rfl ?_
      refine sw_bipush (n := 61) (v := 61) (by decide +kernel) (by decide) ?_
      refine sw_istore_n (k0 := 3) (lv' := [(3, .int 61), (2, .int (-1)), (0, .ref 0), (1, .int a1)]) (by decide +kernel) rfl (by decide) rfl ?_
      refine sw_iconst (n := 0) (v := 0) (by decide +kernel) (by decide) ?_
      refine sw_istore (i := 4) (lv' := [(4, .int 0), (3, .int 61), (2, .int (-1)), (0, .ref 0), (1, .int a1)]) (by decide +kernel) (by decide) rfl ?_
      refine sw_lv [3, 4, 2, 1, 0] rfl ?_
      exact sw_wh_e (fun s : Int32 × Int32 × Int32 × sw_M => sw_Go l E K RX9 cX9_rouser 6 (some .int) 19 [(0, .ref 0), (1, .int a1), (2, .int s.1), (3, .int s.2.1), (4, .int s.2.2.1)] [] s.2.2.2 (some (.int res.1)) res.2) (fun q => q = res) (fun s => fX9_rouser_L19 s.2.2.2 a1 s.1 s.2.1 s.2.2.1) (fun s t hb hk => sX9_rouser_L19 hK s.2.2.2 a1 s.1 s.2.1 s.2.2.1 hb hk) _ _ _ h hk
    · rw [if_neg c2] at h
      refine sw_iconst (n := (-1)) (v := (-1)) (by decide +kernel) (by decide) ?_
      cases h
      obtain rfl : _ = res := hk
      exact sw_iret (by decide +kernel)
def fX9_silentOnes (σ : sw_M) : Int32 :=
  ((1 <<< ((σ.1 (sw_pl (σ.2.2 0)) 1) &&& 31)) - 1) &&& ((σ.1 27 1) ^^^ (-1))
set_option maxRecDepth 20000 in
theorem sX9_silentOnes {l : Launch} {E : sw_E} {K : Nat} (hK : 0 ≤ K) (σ : sw_M) {res : Int32} (h : fX9_silentOnes σ = res) : sw_Ct l E K yX9_silentOnes cX9_silentOnes 1 (some .int) [.ref 0] σ (some (.int res)) σ := by
  obtain ⟨t, hk, h⟩ : ∃ t, t = res ∧ fX9_silentOnes σ = t := ⟨res, rfl, h⟩
  unfold fX9_silentOnes at h
  refine sw_enter2 (own := RX9) (lv := [(0, .ref 0)]) (by decide +kernel) (Nat.le_of_ble_eq_true rfl) rfl rfl ?_
  refine sw_iconst (n := 1) (v := 1) (by decide +kernel) (by decide) ?_
  refine sw_aload_n (k0 := 0) 0 rfl (by decide +kernel) rfl ?_
  refine gf_X9_19 (i := 0) (by decide) rfl (by decide +kernel) ?_
  refine gf_X9_100 (i := (sw_pl (σ.2.2 0))) (sw_pl_P _).o.1 (sw_pl_P _).o.2 (by decide +kernel) ?_
  refine sw_ishl (by decide +kernel) ?_
  refine sw_iconst (n := 1) (v := 1) (by decide +kernel) (by decide) ?_
  refine sw_isub (by decide +kernel) ?_
  refine sw_aload_n (k0 := 0) 0 rfl (by decide +kernel) rfl ?_
  refine gf_X9_26 (i := 0) (by decide) rfl (by decide +kernel) ?_
  refine sw_refj 27 rfl ?_
  refine gf_X9_296 (i := 27) (by decide) rfl (by decide +kernel) ?_
  refine sw_iconst (n := (-1)) (v := (-1)) (by decide +kernel) (by decide) ?_
  refine sw_ixor (by decide +kernel) ?_
  refine sw_iand (by decide +kernel) ?_
  subst h
  obtain rfl : _ = res := hk
  exact sw_iret (by decide +kernel)
def fX9_isFewer (a0 : Int32) (a1 : Int32) : Int32 :=
  if a1 = (-1) then
    1
  else
    if (fJ6_bitCount_0f7a4 a1) ≤ (fJ6_bitCount_0f7a4 a0) then
      0
    else
      1
set_option maxRecDepth 20000 in
theorem sX9_isFewer {l : Launch} {E : sw_E} {K : Nat} (hK : 1 ≤ K) (σ : sw_M) (a0 : Int32) (a1 : Int32) {res : Int32} (h : fX9_isFewer a0 a1 = res) : sw_Ct l E K yX9_isFewer cX9_isFewer 2 (some .boolean) [.int a0, .int a1] σ (some (.int res)) σ := by
  obtain ⟨t, hk, h⟩ : ∃ t, t = res ∧ fX9_isFewer a0 a1 = t := ⟨res, rfl, h⟩
  unfold fX9_isFewer at h
  refine sw_enter2 (own := RX9) (lv := [(0, .int a0), (1, .int a1)]) (by decide +kernel) (Nat.le_of_ble_eq_true rfl) rfl rfl ?_
  refine sw_iload_n (k0 := 1) 1 rfl (by decide +kernel) rfl ?_
  refine sw_iconst (n := (-1)) (v := (-1)) (by decide +kernel) (by decide) ?_
  refine sw_icmp_eq (off := 14) 16 (by decide +kernel) (by decide) (fun c1 => ?_) (fun c1 => ?_)
  · rw [if_pos c1] at h
    refine sw_iconst (n := 1) (v := 1) (by decide +kernel) (by decide) ?_
    refine sw_goto (off := 4) 21 (by decide +kernel) (by decide) ?_
    subst h
    obtain rfl : _ = res := hk
    exact sw_zret rfl (by decide +kernel)
  · rw [if_neg c1] at h
    refine sw_iload_n (k0 := 0) 0 rfl (by decide +kernel) rfl ?_
    refine sw_callSi [.int a0] (sJ6_bitCount_0f7a4 (K := K - 1) (by omega) σ a0 rfl) rfl (by omega) gs_X9_230 hy_J6_bitCount_0f7a4 (by decide) rfl (Nat.le_of_ble_eq_true rfl) (by decide +kernel) ?_
    refine sw_iload_n (k0 := 1) 1 rfl (by decide +kernel) rfl ?_
    refine sw_callSi [.int a1] (sJ6_bitCount_0f7a4 (K := K - 1) (by omega) σ a1 rfl) rfl (by omega) gs_X9_230 hy_J6_bitCount_0f7a4 (by decide) rfl (Nat.le_of_ble_eq_true rfl) (by decide +kernel) ?_
    refine sw_icmp_ge (off := 7) 20 (by decide +kernel) (by decide) (fun c2 => ?_) (fun c2 => ?_)
    · rw [if_pos c2] at h
      refine sw_iconst (n := 0) (v := 0) (by decide +kernel) (by decide) ?_
      subst h
      obtain rfl : _ = res := hk
      exact sw_zret rfl (by decide +kernel)
    · rw [if_neg c2] at h
      refine sw_iconst (n := 1) (v := 1) (by decide +kernel) (by decide) ?_
      refine sw_goto (off := 4) 21 (by decide +kernel) (by decide) ?_
      subst h
      obtain rfl : _ = res := hk
      exact sw_zret rfl (by decide +kernel)
theorem bX9_isFewer (a0 : Int32) (a1 : Int32) : fX9_isFewer a0 a1 = 0 ∨ fX9_isFewer a0 a1 = 1 := by
  simp only [fX9_isFewer, sw_let]
  repeat' (first | exact Or.inl rfl | exact Or.inr rfl | refine sw_ite_bo ?_ ?_)
def fX9_countOrBits (a0 : Int32) (a1 : Int32) : Int32 :=
  if a0 = (-1) then
    (-1)
  else
    if a1 = 0 then
      fJ6_bitCount_0f7a4 a0
    else
      a0
set_option maxRecDepth 20000 in
theorem sX9_countOrBits {l : Launch} {E : sw_E} {K : Nat} (hK : 1 ≤ K) (σ : sw_M) (a0 : Int32) (a1 : Int32) {res : Int32} (h : fX9_countOrBits a0 a1 = res) : sw_Ct l E K yX9_countOrBits cX9_countOrBits 2 (some .int) [.int a0, .int a1] σ (some (.int res)) σ := by
  obtain ⟨t, hk, h⟩ : ∃ t, t = res ∧ fX9_countOrBits a0 a1 = t := ⟨res, rfl, h⟩
  unfold fX9_countOrBits at h
  refine sw_enter2 (own := RX9) (lv := [(0, .int a0), (1, .int a1)]) (by decide +kernel) (Nat.le_of_ble_eq_true rfl) rfl rfl ?_
  refine sw_iload_n (k0 := 0) 0 rfl (by decide +kernel) rfl ?_
  refine sw_iconst (n := (-1)) (v := (-1)) (by decide +kernel) (by decide) ?_
  refine sw_icmp_ne (off := 5) 7 (by decide +kernel) (by decide) (fun c1 => ?_) (fun c1 => ?_)
  · rw [if_neg c1] at h
    refine sw_iload_n (k0 := 1) 1 rfl (by decide +kernel) rfl ?_
    refine sw_if_ne (off := 10) 18 (by decide +kernel) (by decide) (fun c2 => ?_) (fun c2 => ?_)
    · rw [if_neg c2] at h
      refine sw_iload_n (k0 := 0) 0 rfl (by decide +kernel) rfl ?_
      subst h
      obtain rfl : _ = res := hk
      exact sw_iret (by decide +kernel)
    · rw [if_pos c2] at h
      refine sw_iload_n (k0 := 0) 0 rfl (by decide +kernel) rfl ?_
      refine sw_callSi [.int a0] (sJ6_bitCount_0f7a4 (K := K - 1) (by omega) σ a0 rfl) rfl (by omega) gs_X9_230 hy_J6_bitCount_0f7a4 (by decide) rfl (Nat.le_of_ble_eq_true rfl) (by decide +kernel) ?_
      refine sw_goto (off := 4) 19 (by decide +kernel) (by decide) ?_
      subst h
      obtain rfl : _ = res := hk
      exact sw_iret (by decide +kernel)
  · rw [if_pos c1] at h
    refine sw_iconst (n := (-1)) (v := (-1)) (by decide +kernel) (by decide) ?_
    subst h
    obtain rfl : _ = res := hk
    exact sw_iret (by decide +kernel)
def fX9_choir_L87 (σ : sw_M) (a1 : Int32) (a2 : Int32) (a3 : Int32) (a4 : Int32) (a5 : Int32) : Option ((Int32 × Int32 × sw_M) ⊕ (Int32 × sw_M)) :=
  sw_let (a5 + 1) fun v1 =>
  some (.inl (a4, v1, σ))
def fX9_choir_L33 (σ : sw_M) (a1 : Int32) (a2 : Int32) (a3 : Int32) (a4 : Int32) (a5 : Int32) : Option ((Int32 × Int32 × sw_M) ⊕ (Int32 × sw_M)) :=
  if a3 < a5 then
    some (.inr ((fX9_countOrBits a4 a2, σ)))
  else
    if (a5 &&& (a3 ^^^ (-1))) = 0 then
      if (fX9_isFewer a5 a4) = 0 then
        fX9_choir_L87 σ a1 a2 a3 a4 a5
      else
        sw_b2 (fX3_riseIf (sw_pl (σ.2.2 0)) 27 σ a5 a1) fun r4 m5 =>
        if r4 = (-1) then
          fX9_choir_L87 m5 a1 a2 a3 a4 a5
        else
          fX9_choir_L87 m5 a1 a2 a3 a5 a5
    else
      fX9_choir_L87 σ a1 a2 a3 a4 a5
def fX9_choir (σ : sw_M) (a1 : Int32) (a2 : Int32) : Option (Int32 × sw_M) :=
  if a1 < 1 then
    some (((-1), σ))
  else
    if 30 < a1 then
      some (((-1), σ))
    else
      if a2 < 0 then
        some (((-1), σ))
      else
        if a2 ≤ 1 then
          sw_let (fX9_silentOnes σ) fun v5 =>
          sw_wh sw_F (fun s => fX9_choir_L33 s.2.2 a1 a2 v5 s.1 s.2.1) ((-1), 0, σ)
        else
          some (((-1), σ))
set_option maxRecDepth 20000 in
theorem sX9_choir_L87 {l : Launch} {E : sw_E} {K : Nat} (hK : 5 ≤ K) (σ : sw_M) (a1 : Int32) (a2 : Int32) (a3 : Int32) (a4 : Int32) (a5 : Int32) {res : Int32 × sw_M} {t : (Int32 × Int32 × sw_M) ⊕ (Int32 × sw_M)} (h : fX9_choir_L87 σ a1 a2 a3 a4 a5 = some t) (hk : (Sum.elim (fun s : Int32 × Int32 × sw_M => sw_Go l E K RX9 cX9_choir 6 (some .int) 33 [(0, .ref 0), (1, .int a1), (2, .int a2), (3, .int a3), (4, .int s.1), (5, .int s.2.1)] [] s.2.2 (some (.int res.1)) res.2) (fun q => q = res)) t) : sw_Go l E K RX9 cX9_choir 6 (some .int) 87 [(0, .ref 0), (1, .int a1), (2, .int a2), (3, .int a3), (4, .int a4), (5, .int a5)] [] σ (some (.int res.1)) res.2 := by
  unfold fX9_choir_L87 at h
  obtain ⟨v1, e2, h⟩ := sw_let_e h
  refine sw_iincv (i := 5) (n := 1) (lv' := [(5, .int v1), (0, .ref 0), (1, .int a1), (2, .int a2), (3, .int a3), (4, .int a4)]) 5 rfl e2 (by decide +kernel) (by decide) (by decide) rfl ?_
  refine sw_goto (off := (-57)) 33 (by decide +kernel) (by decide) ?_
  cases h
  refine sw_lv [1, 2, 3, 4, 5, 0] rfl ?_
  exact hk
set_option maxRecDepth 20000 in
theorem sX9_choir_L33 {l : Launch} {E : sw_E} {K : Nat} (hK : 5 ≤ K) (σ : sw_M) (a1 : Int32) (a2 : Int32) (a3 : Int32) (a4 : Int32) (a5 : Int32) {res : Int32 × sw_M} {t : (Int32 × Int32 × sw_M) ⊕ (Int32 × sw_M)} (h : fX9_choir_L33 σ a1 a2 a3 a4 a5 = some t) (hk : (Sum.elim (fun s : Int32 × Int32 × sw_M => sw_Go l E K RX9 cX9_choir 6 (some .int) 33 [(0, .ref 0), (1, .int a1), (2, .int a2), (3, .int a3), (4, .int s.1), (5, .int s.2.1)] [] s.2.2 (some (.int res.1)) res.2) (fun q => q = res)) t) : sw_Go l E K RX9 cX9_choir 6 (some .int) 33 [(0, .ref 0), (1, .int a1), (2, .int a2), (3, .int a3), (4, .int a4), (5, .int a5)] [] σ (some (.int res.1)) res.2 := by
  unfold fX9_choir_L33 at h
  refine sw_iload 5 rfl (by decide +kernel) ?_
  refine sw_iload_n (k0 := 3) 3 rfl (by decide +kernel) rfl ?_
  refine sw_icmp_gt (off := 57) 93 (by decide +kernel) (by decide) (fun c1 => ?_) (fun c1 => ?_)
  · rw [if_pos c1] at h
    refine sw_iload 4 rfl (by decide +kernel) ?_
    refine sw_iload_n (k0 := 2) 2 rfl (by decide +kernel) rfl ?_
    refine sw_callSi [.int a4, .int a2] (sX9_countOrBits (K := K - 1) (by omega) σ a4 a2 rfl) rfl (by omega) gs_X9_192 hy_X9_countOrBits (by decide) rfl (Nat.le_of_ble_eq_true rfl) (by decide +kernel) ?_
    cases h
    obtain rfl : _ = res := hk
    exact sw_iret (by decide +kernel)
  · rw [if_neg c1] at h
    refine sw_iload 5 rfl (by decide +kernel) ?_
    refine sw_iload_n (k0 := 3) 3 rfl (by decide +kernel) rfl ?_
    refine sw_iconst (n := (-1)) (v := (-1)) (by decide +kernel) (by decide) ?_
    refine sw_ixor (by decide +kernel) ?_
    refine sw_iand (by decide +kernel) ?_
    refine sw_if_ne (off := 42) 87 (by decide +kernel) (by decide) (fun c2 => ?_) (fun c2 => ?_)
    · rw [if_neg c2] at h
      exact sX9_choir_L87 hK σ a1 a2 a3 a4 a5 h hk
    · rw [if_pos c2] at h
      refine sw_iload 5 rfl (by decide +kernel) ?_
      refine sw_iload 4 rfl (by decide +kernel) ?_
      refine sw_callSi [.int a5, .int a4] (sX9_isFewer (K := K - 1) (by omega) σ a5 a4 rfl) rfl (by omega) gs_X9_188 hy_X9_isFewer (by decide) rfl (Nat.le_of_ble_eq_true rfl) (by decide +kernel) ?_
      refine sw_if_ne (off := 6) 61 (by decide +kernel) (by decide) (fun c3 => ?_) (fun c3 => ?_)
      · rw [if_neg c3] at h
        refine sw_aload_n (k0 := 0) 0 rfl (by decide +kernel) rfl ?_
        refine gf_X9_47 (i := 0) (by decide) rfl (by decide +kernel) ?_
        refine sw_refj 34 rfl ?_
        refine sw_aload_n (k0 := 0) 0 rfl (by decide +kernel) rfl ?_
        refine gf_X9_19 (i := 0) (by decide) rfl (by decide +kernel) ?_
        refine sw_aload_n (k0 := 0) 0 rfl (by decide +kernel) rfl ?_
        refine gf_X9_26 (i := 0) (by decide) rfl (by decide +kernel) ?_
        refine sw_refj 27 rfl ?_
        refine sw_iload 5 rfl (by decide +kernel) ?_
        refine sw_iload_n (k0 := 1) 1 rfl (by decide +kernel) rfl ?_
        obtain ⟨r4, m5, w6, h⟩ := sw_b2_e h
        refine sw_callVi (ci := 3) (i := 34) [.ref (sw_pl (σ.2.2 0)), .ref 27, .int a5, .int a1] (sX3_riseIf (K := K - 1) (by omega) (sw_pl (σ.2.2 0)) 27 (sw_pl_P _) (Or.inl rfl) σ a5 a1 w6) rfl (by omega) rfl gs_X9_181 hy_X3_riseIf (by decide) (by decide) rfl rfl (Nat.le_of_ble_eq_true rfl) (by decide +kernel) ?_
        refine sw_iconst (n := (-1)) (v := (-1)) (by decide +kernel) (by decide) ?_
        refine sw_icmp_eq (off := 7) 87 (by decide +kernel) (by decide) (fun c7 => ?_) (fun c7 => ?_)
        · rw [if_pos c7] at h
          exact sX9_choir_L87 hK m5 a1 a2 a3 a4 a5 h hk
        · rw [if_neg c7] at h
          refine sw_iload 5 rfl (by decide +kernel) ?_
          refine sw_istore (i := 4) (lv' := [(4, .int a5), (0, .ref 0), (1, .int a1), (2, .int a2), (3, .int a3), (5, .int a5)]) (by decide +kernel) (by decide) rfl ?_
          refine sw_lv [1, 2, 3, 4, 0, 5] rfl ?_
          exact sX9_choir_L87 hK m5 a1 a2 a3 a5 a5 h hk
      · rw [if_pos c3] at h
        refine sw_goto (off := 29) 87 (by decide +kernel) (by decide) ?_
        exact sX9_choir_L87 hK σ a1 a2 a3 a4 a5 h hk
set_option maxRecDepth 20000 in
theorem sX9_choir {l : Launch} {E : sw_E} {K : Nat} (hK : 5 ≤ K) (σ : sw_M) (a1 : Int32) (a2 : Int32) {res : Int32 × sw_M} (h : fX9_choir σ a1 a2 = some res) : sw_Ct l E K yX9_choir cX9_choir 6 (some .int) [.ref 0, .int a1, .int a2] σ (some (.int res.1)) res.2 := by
  obtain ⟨t, hk, h⟩ : ∃ t, t = res ∧ fX9_choir σ a1 a2 = some t := ⟨res, rfl, h⟩
  unfold fX9_choir at h
  refine sw_enter2 (own := RX9) (lv := [(0, .ref 0), (1, .int a1), (2, .int a2)]) (by decide +kernel) (Nat.le_of_ble_eq_true rfl) rfl rfl ?_
  refine sw_iload_n (k0 := 1) 1 rfl (by decide +kernel) rfl ?_
  refine sw_iconst (n := 1) (v := 1) (by decide +kernel) (by decide) ?_
  refine sw_icmp_lt (off := 18) 20 (by decide +kernel) (by decide) (fun c1 => ?_) (fun c1 => ?_)
  · rw [if_pos c1] at h
    refine sw_iconst (n := (-1)) (v := (-1)) (by decide +kernel) (by decide) ?_
    cases h
    obtain rfl : _ = res := hk
    exact sw_iret (by decide +kernel)
  · rw [if_neg c1] at h
    refine sw_iload_n (k0 := 1) 1 rfl (by decide +kernel) rfl ?_
    refine sw_bipush (n := 30) (v := 30) (by decide +kernel) (by decide) ?_
    refine sw_icmp_gt (off := 12) 20 (by decide +kernel) (by decide) (fun c2 => ?_) (fun c2 => ?_)
    · rw [if_pos c2] at h
      refine sw_iconst (n := (-1)) (v := (-1)) (by decide +kernel) (by decide) ?_
      cases h
      obtain rfl : _ = res := hk
      exact sw_iret (by decide +kernel)
    · rw [if_neg c2] at h
      refine sw_iload_n (k0 := 2) 2 rfl (by decide +kernel) rfl ?_
      refine sw_if_lt (off := 8) 20 (by decide +kernel) (by decide) (fun c3 => ?_) (fun c3 => ?_)
      · rw [if_pos c3] at h
        refine sw_iconst (n := (-1)) (v := (-1)) (by decide +kernel) (by decide) ?_
        cases h
        obtain rfl : _ = res := hk
        exact sw_iret (by decide +kernel)
      · rw [if_neg c3] at h
        refine sw_iload_n (k0 := 2) 2 rfl (by decide +kernel) rfl ?_
        refine sw_iconst (n := 1) (v := 1) (by decide +kernel) (by decide) ?_
        refine sw_icmp_le (off := 5) 22 (by decide +kernel) (by decide) (fun c4 => ?_) (fun c4 => ?_)
        · rw [if_pos c4] at h
          refine sw_aload_n (k0 := 0) 0 rfl (by decide +kernel) rfl ?_
          refine sw_callVi (ci := 9) (i := 0) [] (sX9_silentOnes (K := K - 1) (by omega) σ rfl) rfl (by omega) rfl gs_X9_185 hy_X9_silentOnes (by decide) (by decide) rfl rfl (Nat.le_of_ble_eq_true rfl) (by decide +kernel) ?_
          obtain ⟨v5, e6, h⟩ := sw_let_e h
          refine sw_topi e6 ?_
          refine sw_istore_n (k0 := 3) (lv' := [(3, .int v5), (0, .ref 0), (1, .int a1), (2, .int a2)]) (by decide +kernel) rfl (by decide) rfl ?_
          refine sw_iconst (n := (-1)) (v := (-1)) (by decide +kernel) (by decide) ?_
          refine sw_istore (i := 4) (lv' := [(4, .int (-1)), (3, .int v5), (0, .ref 0), (1, .int a1), (2, .int a2)]) (by decide +kernel) (by decide) rfl ?_
          refine sw_iconst (n := 0) (v := 0) (by decide +kernel) (by decide) ?_
          refine sw_istore (i := 5) (lv' := [(5, .int 0), (4, .int (-1)), (3, .int v5), (0, .ref 0), (1, .int a1), (2, .int a2)]) (by decide +kernel) (by decide) rfl ?_
          refine sw_lv [3, 4, 5, 2, 1, 0] rfl ?_
          exact sw_wh_e (fun s : Int32 × Int32 × sw_M => sw_Go l E K RX9 cX9_choir 6 (some .int) 33 [(0, .ref 0), (1, .int a1), (2, .int a2), (3, .int v5), (4, .int s.1), (5, .int s.2.1)] [] s.2.2 (some (.int res.1)) res.2) (fun q => q = res) (fun s => fX9_choir_L33 s.2.2 a1 a2 v5 s.1 s.2.1) (fun s t hb hk => sX9_choir_L33 hK s.2.2 a1 a2 v5 s.1 s.2.1 hb hk) _ _ _ h hk
        · rw [if_neg c4] at h
          refine sw_iconst (n := (-1)) (v := (-1)) (by decide +kernel) (by decide) ?_
          cases h
          obtain rfl : _ = res := hk
          exact sw_iret (by decide +kernel)
def fX9_power_L96 (σ : sw_M) (a2 : Int32) (a3 : Int32) (a4 : Int32) (a5 : Int32) : Option ((Int32 × Int32 × sw_M) ⊕ (Int32 × sw_M)) :=
  sw_let (a5 + 1) fun v1 =>
  some (.inl (a4, v1, σ))
def fX9_power_L29 (σ : sw_M) (a2 : Int32) (a3 : Int32) (a4 : Int32) (a5 : Int32) : Option ((Int32 × Int32 × sw_M) ⊕ (Int32 × sw_M)) :=
  if a3 < a5 then
    some (.inr ((a4, σ)))
  else
    if (a5 &&& (a3 ^^^ (-1))) = 0 then
      sw_b2 (fX3_riseIf (sw_pl (σ.2.2 0)) 27 σ a5 1) fun r3 m4 =>
      if r3 = (-1) then
        sw_b2 (fX3_riseIf (sw_pl (m4.2.2 0)) 27 m4 (a5 ||| a2) 1) fun r7 m8 =>
        if r7 = (-1) then
          fX9_power_L96 m8 a2 a3 a4 a5
        else
          sw_let (a4 + 1) fun v11 =>
          fX9_power_L96 m8 a2 a3 v11 a5
      else
        fX9_power_L96 m4 a2 a3 a4 a5
    else
      fX9_power_L96 σ a2 a3 a4 a5
def fX9_power (σ : sw_M) (a1 : Int32) : Option (Int32 × sw_M) :=
  if (fX9_isSilent σ a1) = 0 then
    some (((-1), σ))
  else
    sw_let (1 <<< (a1 &&& 31)) fun v2 =>
    sw_let ((fX9_silentOnes σ) &&& (v2 ^^^ (-1))) fun v4 =>
    sw_wh sw_F (fun s => fX9_power_L29 s.2.2 v2 v4 s.1 s.2.1) (0, 0, σ)
set_option maxRecDepth 20000 in
theorem sX9_power_L96 {l : Launch} {E : sw_E} {K : Nat} (hK : 5 ≤ K) (σ : sw_M) (a2 : Int32) (a3 : Int32) (a4 : Int32) (a5 : Int32) {res : Int32 × sw_M} {t : (Int32 × Int32 × sw_M) ⊕ (Int32 × sw_M)} (h : fX9_power_L96 σ a2 a3 a4 a5 = some t) (hk : (Sum.elim (fun s : Int32 × Int32 × sw_M => sw_Go l E K RX9 cX9_power 6 (some .int) 29 [(0, .ref 0), (2, .int a2), (3, .int a3), (4, .int s.1), (5, .int s.2.1)] [] s.2.2 (some (.int res.1)) res.2) (fun q => q = res)) t) : sw_Go l E K RX9 cX9_power 6 (some .int) 96 [(0, .ref 0), (2, .int a2), (3, .int a3), (4, .int a4), (5, .int a5)] [] σ (some (.int res.1)) res.2 := by
  unfold fX9_power_L96 at h
  obtain ⟨v1, e2, h⟩ := sw_let_e h
  refine sw_iincv (i := 5) (n := 1) (lv' := [(5, .int v1), (0, .ref 0), (2, .int a2), (3, .int a3), (4, .int a4)]) 4 rfl e2 (by decide +kernel) (by decide) (by decide) rfl ?_
  refine sw_goto (off := (-70)) 29 (by decide +kernel) (by decide) ?_
  cases h
  refine sw_lv [1, 2, 3, 4, 0] rfl ?_
  exact hk
set_option maxRecDepth 20000 in
theorem sX9_power_L29 {l : Launch} {E : sw_E} {K : Nat} (hK : 5 ≤ K) (σ : sw_M) (a2 : Int32) (a3 : Int32) (a4 : Int32) (a5 : Int32) {res : Int32 × sw_M} {t : (Int32 × Int32 × sw_M) ⊕ (Int32 × sw_M)} (h : fX9_power_L29 σ a2 a3 a4 a5 = some t) (hk : (Sum.elim (fun s : Int32 × Int32 × sw_M => sw_Go l E K RX9 cX9_power 6 (some .int) 29 [(0, .ref 0), (2, .int a2), (3, .int a3), (4, .int s.1), (5, .int s.2.1)] [] s.2.2 (some (.int res.1)) res.2) (fun q => q = res)) t) : sw_Go l E K RX9 cX9_power 6 (some .int) 29 [(0, .ref 0), (2, .int a2), (3, .int a3), (4, .int a4), (5, .int a5)] [] σ (some (.int res.1)) res.2 := by
  unfold fX9_power_L29 at h
  refine sw_iload 4 rfl (by decide +kernel) ?_
  refine sw_iload_n (k0 := 3) 2 rfl (by decide +kernel) rfl ?_
  refine sw_icmp_gt (off := 70) 102 (by decide +kernel) (by decide) (fun c1 => ?_) (fun c1 => ?_)
  · rw [if_pos c1] at h
    refine sw_iload 3 rfl (by decide +kernel) ?_
    cases h
    obtain rfl : _ = res := hk
    exact sw_iret (by decide +kernel)
  · rw [if_neg c1] at h
    refine sw_iload 4 rfl (by decide +kernel) ?_
    refine sw_iload_n (k0 := 3) 2 rfl (by decide +kernel) rfl ?_
    refine sw_iconst (n := (-1)) (v := (-1)) (by decide +kernel) (by decide) ?_
    refine sw_ixor (by decide +kernel) ?_
    refine sw_iand (by decide +kernel) ?_
    refine sw_if_ne (off := 55) 96 (by decide +kernel) (by decide) (fun c2 => ?_) (fun c2 => ?_)
    · rw [if_neg c2] at h
      exact sX9_power_L96 hK σ a2 a3 a4 a5 h hk
    · rw [if_pos c2] at h
      refine sw_aload_n (k0 := 0) 0 rfl (by decide +kernel) rfl ?_
      refine gf_X9_47 (i := 0) (by decide) rfl (by decide +kernel) ?_
      refine sw_refj 34 rfl ?_
      refine sw_aload_n (k0 := 0) 0 rfl (by decide +kernel) rfl ?_
      refine gf_X9_19 (i := 0) (by decide) rfl (by decide +kernel) ?_
      refine sw_aload_n (k0 := 0) 0 rfl (by decide +kernel) rfl ?_
      refine gf_X9_26 (i := 0) (by decide) rfl (by decide +kernel) ?_
      refine sw_refj 27 rfl ?_
      refine sw_iload 4 rfl (by decide +kernel) ?_
      refine sw_iconst (n := 1) (v := 1) (by decide +kernel) (by decide) ?_
      obtain ⟨r3, m4, w5, h⟩ := sw_b2_e h
      refine sw_callVi (ci := 3) (i := 34) [.ref (sw_pl (σ.2.2 0)), .ref 27, .int a5, .int 1] (sX3_riseIf (K := K - 1) (by omega) (sw_pl (σ.2.2 0)) 27 (sw_pl_P _) (Or.inl rfl) σ a5 1 w5) rfl (by omega) rfl gs_X9_181 hy_X3_riseIf (by decide) (by decide) rfl rfl (Nat.le_of_ble_eq_true rfl) (by decide +kernel) ?_
      refine sw_iconst (n := (-1)) (v := (-1)) (by decide +kernel) (by decide) ?_
      refine sw_icmp_eq (off := 6) 69 (by decide +kernel) (by decide) (fun c6 => ?_) (fun c6 => ?_)
      · rw [if_pos c6] at h
        refine sw_aload_n (k0 := 0) 0 rfl (by decide +kernel) rfl ?_
        refine gf_X9_47 (i := 0) (by decide) rfl (by decide +kernel) ?_
        refine sw_refj 34 rfl ?_
        refine sw_aload_n (k0 := 0) 0 rfl (by decide +kernel) rfl ?_
        refine gf_X9_19 (i := 0) (by decide) rfl (by decide +kernel) ?_
        refine sw_aload_n (k0 := 0) 0 rfl (by decide +kernel) rfl ?_
        refine gf_X9_26 (i := 0) (by decide) rfl (by decide +kernel) ?_
        refine sw_refj 27 rfl ?_
        refine sw_iload 4 rfl (by decide +kernel) ?_
        refine sw_iload_n (k0 := 2) 1 rfl (by decide +kernel) rfl ?_
        refine sw_ior (by decide +kernel) ?_
        refine sw_iconst (n := 1) (v := 1) (by decide +kernel) (by decide) ?_
        obtain ⟨r7, m8, w9, h⟩ := sw_b2_e h
        refine sw_callVi (ci := 3) (i := 34) [.ref (sw_pl (m4.2.2 0)), .ref 27, .int (a5 ||| a2), .int 1] (sX3_riseIf (K := K - 1) (by omega) (sw_pl (m4.2.2 0)) 27 (sw_pl_P _) (Or.inl rfl) m4 (a5 ||| a2) 1 w9) rfl (by omega) rfl gs_X9_181 hy_X3_riseIf (by decide) (by decide) rfl rfl (Nat.le_of_ble_eq_true rfl) (by decide +kernel) ?_
        refine sw_iconst (n := (-1)) (v := (-1)) (by decide +kernel) (by decide) ?_
        refine sw_icmp_eq (off := 6) 96 (by decide +kernel) (by decide) (fun c10 => ?_) (fun c10 => ?_)
        · rw [if_pos c10] at h
          exact sX9_power_L96 hK m8 a2 a3 a4 a5 h hk
        · rw [if_neg c10] at h
          obtain ⟨v11, e12, h⟩ := sw_let_e h
          refine sw_iincv (i := 4) (n := 1) (lv' := [(4, .int v11), (0, .ref 0), (2, .int a2), (3, .int a3), (5, .int a5)]) 3 rfl e12 (by decide +kernel) (by decide) (by decide) rfl ?_
          refine sw_lv [1, 2, 3, 0, 4] rfl ?_
          exact sX9_power_L96 hK m8 a2 a3 v11 a5 h hk
      · rw [if_neg c6] at h
        refine sw_goto (off := 30) 96 (by decide +kernel) (by decide) ?_
        exact sX9_power_L96 hK m4 a2 a3 a4 a5 h hk
set_option maxRecDepth 20000 in
theorem sX9_power {l : Launch} {E : sw_E} {K : Nat} (hK : 5 ≤ K) (σ : sw_M) (a1 : Int32) {res : Int32 × sw_M} (h : fX9_power σ a1 = some res) : sw_Ct l E K yX9_power cX9_power 6 (some .int) [.ref 0, .int a1] σ (some (.int res.1)) res.2 := by
  obtain ⟨t, hk, h⟩ : ∃ t, t = res ∧ fX9_power σ a1 = some t := ⟨res, rfl, h⟩
  unfold fX9_power at h
  refine sw_enter2 (own := RX9) (lv := [(0, .ref 0), (1, .int a1)]) (by decide +kernel) (Nat.le_of_ble_eq_true rfl) rfl rfl ?_
  refine sw_aload_n (k0 := 0) 0 rfl (by decide +kernel) rfl ?_
  refine sw_iload_n (k0 := 1) 1 rfl (by decide +kernel) rfl ?_
  refine sw_callVi (ci := 9) (i := 0) [.int a1] (sX9_isSilent (K := K - 1) (by omega) σ a1 rfl) rfl (by omega) rfl gs_X9_135 hy_X9_isSilent (by decide) (by decide) rfl rfl (Nat.le_of_ble_eq_true rfl) (by decide +kernel) ?_
  refine sw_if_ne (off := 5) 10 (by decide +kernel) (by decide) (fun c1 => ?_) (fun c1 => ?_)
  · rw [if_neg c1] at h
    refine sw_iconst (n := 1) (v := 1) (by decide +kernel) (by decide) ?_
    refine sw_iload_n (k0 := 1) 1 rfl (by decide +kernel) rfl ?_
    refine sw_ishl (by decide +kernel) ?_
    obtain ⟨v2, e3, h⟩ := sw_let_e h
    refine sw_topi e3 ?_
    refine sw_istore_n (k0 := 2) (lv' := [(2, .int v2), (0, .ref 0), (1, .int a1)]) (by decide +kernel) rfl (by decide) rfl ?_
    refine sw_aload_n (k0 := 0) 1 rfl (by decide +kernel) rfl ?_
    refine sw_callVi (ci := 9) (i := 0) [] (sX9_silentOnes (K := K - 1) (by omega) σ rfl) rfl (by omega) rfl gs_X9_185 hy_X9_silentOnes (by decide) (by decide) rfl rfl (Nat.le_of_ble_eq_true rfl) (by decide +kernel) ?_
    refine sw_iload_n (k0 := 2) 0 rfl (by decide +kernel) rfl ?_
    refine sw_iconst (n := (-1)) (v := (-1)) (by decide +kernel) (by decide) ?_
    refine sw_ixor (by decide +kernel) ?_
    refine sw_iand (by decide +kernel) ?_
    obtain ⟨v4, e5, h⟩ := sw_let_e h
    refine sw_topi e5 ?_
    refine sw_istore_n (k0 := 3) (lv' := [(3, .int v4), (2, .int v2), (0, .ref 0), (1, .int a1)]) (by decide +kernel) rfl (by decide) rfl ?_
    refine sw_iconst (n := 0) (v := 0) (by decide +kernel) (by decide) ?_
    refine sw_istore (i := 4) (lv' := [(4, .int 0), (3, .int v4), (2, .int v2), (0, .ref 0), (1, .int a1)]) (by decide +kernel) (by decide) rfl ?_
    refine sw_iconst (n := 0) (v := 0) (by decide +kernel) (by decide) ?_
    refine sw_istore (i := 5) (lv' := [(5, .int 0), (4, .int 0), (3, .int v4), (2, .int v2), (0, .ref 0), (1, .int a1)]) (by decide +kernel) (by decide) rfl ?_
    refine sw_lv [4, 3, 2, 1, 0] rfl ?_
    exact sw_wh_e (fun s : Int32 × Int32 × sw_M => sw_Go l E K RX9 cX9_power 6 (some .int) 29 [(0, .ref 0), (2, .int v2), (3, .int v4), (4, .int s.1), (5, .int s.2.1)] [] s.2.2 (some (.int res.1)) res.2) (fun q => q = res) (fun s => fX9_power_L29 s.2.2 v2 v4 s.1 s.2.1) (fun s t hb hk => sX9_power_L29 hK s.2.2 v2 v4 s.1 s.2.1 hb hk) _ _ _ h hk
  · rw [if_pos c1] at h
    refine sw_iconst (n := (-1)) (v := (-1)) (by decide +kernel) (by decide) ?_
    cases h
    obtain rfl : _ = res := hk
    exact sw_iret (by decide +kernel)
def fX9_serve_L71 (σ : sw_M) (a1 : Int32) (a2 : Int32) (a3 : Int32) : Option ((Int32 × Int32) ⊕ (Int32)) :=
  sw_let (a3 + 1) fun v1 =>
  some (.inl (a2, v1))
def fX9_serve_L15 (σ : sw_M) (a1 : Int32) (a2 : Int32) (a3 : Int32) : Option ((Int32 × Int32) ⊕ (Int32)) :=
  if (1 <<< ((σ.1 (sw_pl (σ.2.2 0)) 3) &&& 31)) ≤ a3 then
    some (.inr (fX9_countOrBits a2 a1))
  else
    if (a3 &&& (σ.1 27 2)) = 0 then
      if (fX9_isFewer a2 a3) = 0 then
        fX9_serve_L71 σ a1 a2 a3
      else
        sw_b1 (fX4_canServe (sw_pl (σ.2.2 0)) 28 σ a3) fun r4 =>
        if r4 = 0 then
          fX9_serve_L71 σ a1 a2 a3
        else
          fX9_serve_L71 σ a1 a3 a3
    else
      fX9_serve_L71 σ a1 a2 a3
def fX9_serve (σ : sw_M) (a1 : Int32) : Option (Int32) :=
  if a1 < 0 then
    some ((-1))
  else
    if a1 ≤ 1 then
      sw_wh sw_F (fun s => fX9_serve_L15 σ a1 s.1 s.2) (0, 1)
    else
      some ((-1))
set_option maxRecDepth 20000 in
theorem sX9_serve_L71 {l : Launch} {E : sw_E} {K : Nat} (hK : 2 ≤ K) (σ : sw_M) (a1 : Int32) (a2 : Int32) (a3 : Int32) {res : Int32} {t : (Int32 × Int32) ⊕ (Int32)} (h : fX9_serve_L71 σ a1 a2 a3 = some t) (hk : (Sum.elim (fun s : Int32 × Int32 => sw_Go l E K RX9 cX9_serve 4 (some .int) 15 [(0, .ref 0), (1, .int a1), (2, .int s.1), (3, .int s.2)] [] σ (some (.int res)) σ) (fun q => q = res)) t) : sw_Go l E K RX9 cX9_serve 4 (some .int) 71 [(0, .ref 0), (1, .int a1), (2, .int a2), (3, .int a3)] [] σ (some (.int res)) σ := by
  unfold fX9_serve_L71 at h
  obtain ⟨v1, e2, h⟩ := sw_let_e h
  refine sw_iincv (i := 3) (n := 1) (lv' := [(3, .int v1), (0, .ref 0), (1, .int a1), (2, .int a2)]) 3 rfl e2 (by decide +kernel) (by decide) (by decide) rfl ?_
  refine sw_goto (off := (-59)) 15 (by decide +kernel) (by decide) ?_
  cases h
  refine sw_lv [1, 2, 3, 0] rfl ?_
  exact hk
set_option maxRecDepth 20000 in
theorem sX9_serve_L15 {l : Launch} {E : sw_E} {K : Nat} (hK : 2 ≤ K) (σ : sw_M) (a1 : Int32) (a2 : Int32) (a3 : Int32) {res : Int32} {t : (Int32 × Int32) ⊕ (Int32)} (h : fX9_serve_L15 σ a1 a2 a3 = some t) (hk : (Sum.elim (fun s : Int32 × Int32 => sw_Go l E K RX9 cX9_serve 4 (some .int) 15 [(0, .ref 0), (1, .int a1), (2, .int s.1), (3, .int s.2)] [] σ (some (.int res)) σ) (fun q => q = res)) t) : sw_Go l E K RX9 cX9_serve 4 (some .int) 15 [(0, .ref 0), (1, .int a1), (2, .int a2), (3, .int a3)] [] σ (some (.int res)) σ := by
  unfold fX9_serve_L15 at h
  refine sw_iload_n (k0 := 3) 3 rfl (by decide +kernel) rfl ?_
  refine sw_iconst (n := 1) (v := 1) (by decide +kernel) (by decide) ?_
  refine sw_aload_n (k0 := 0) 0 rfl (by decide +kernel) rfl ?_
  refine gf_X9_19 (i := 0) (by decide) rfl (by decide +kernel) ?_
  refine gf_X9_195 (i := (sw_pl (σ.2.2 0))) (sw_pl_P _).o.1 (sw_pl_P _).o.2 (by decide +kernel) ?_
  refine sw_ishl (by decide +kernel) ?_
  refine sw_icmp_ge (off := 52) 77 (by decide +kernel) (by decide) (fun c1 => ?_) (fun c1 => ?_)
  · rw [if_pos c1] at h
    refine sw_iload_n (k0 := 2) 2 rfl (by decide +kernel) rfl ?_
    refine sw_iload_n (k0 := 1) 1 rfl (by decide +kernel) rfl ?_
    refine sw_callSi [.int a2, .int a1] (sX9_countOrBits (K := K - 1) (by omega) σ a2 a1 rfl) rfl (by omega) gs_X9_192 hy_X9_countOrBits (by decide) rfl (Nat.le_of_ble_eq_true rfl) (by decide +kernel) ?_
    cases h
    obtain rfl : _ = res := hk
    exact sw_iret (by decide +kernel)
  · rw [if_neg c1] at h
    refine sw_iload_n (k0 := 3) 3 rfl (by decide +kernel) rfl ?_
    refine sw_aload_n (k0 := 0) 0 rfl (by decide +kernel) rfl ?_
    refine gf_X9_26 (i := 0) (by decide) rfl (by decide +kernel) ?_
    refine sw_refj 27 rfl ?_
    refine gf_X9_167 (i := 27) (by decide) rfl (by decide +kernel) ?_
    refine sw_iand (by decide +kernel) ?_
    refine sw_if_ne (off := 34) 71 (by decide +kernel) (by decide) (fun c2 => ?_) (fun c2 => ?_)
    · rw [if_neg c2] at h
      exact sX9_serve_L71 hK σ a1 a2 a3 h hk
    · rw [if_pos c2] at h
      refine sw_iload_n (k0 := 2) 2 rfl (by decide +kernel) rfl ?_
      refine sw_iload_n (k0 := 3) 3 rfl (by decide +kernel) rfl ?_
      refine sw_callSi [.int a2, .int a3] (sX9_isFewer (K := K - 1) (by omega) σ a2 a3 rfl) rfl (by omega) gs_X9_188 hy_X9_isFewer (by decide) rfl (Nat.le_of_ble_eq_true rfl) (by decide +kernel) ?_
      refine sw_if_ne (off := 6) 51 (by decide +kernel) (by decide) (fun c3 => ?_) (fun c3 => ?_)
      · rw [if_neg c3] at h
        refine sw_aload_n (k0 := 0) 0 rfl (by decide +kernel) rfl ?_
        refine gf_X9_19 (i := 0) (by decide) rfl (by decide +kernel) ?_
        refine sw_aload_n (k0 := 0) 0 rfl (by decide +kernel) rfl ?_
        refine gf_X9_26 (i := 0) (by decide) rfl (by decide +kernel) ?_
        refine sw_refj 27 rfl ?_
        refine gf_X9_113 (i := 27) (by decide) rfl (by decide +kernel) ?_
        refine sw_refj 28 rfl ?_
        refine sw_iload_n (k0 := 3) 3 rfl (by decide +kernel) rfl ?_
        obtain ⟨r4, w5, h⟩ := sw_b1_e h
        refine sw_callVi (ci := 4) (i := (sw_pl (σ.2.2 0))) [.ref 28, .int a3] (sX4_canServe (K := K - 1) (by omega) (sw_pl (σ.2.2 0)) 28 (sw_pl_P _) (sw_A_of (by decide) rfl) σ a3 w5) rfl (by omega) rfl gs_X9_198 hy_X4_canServe (by decide) (sw_pl_P _).o.1 (sw_pl_P _).o.2 rfl (Nat.le_of_ble_eq_true rfl) (by decide +kernel) ?_
        refine sw_if_eq (off := 5) 71 (by decide +kernel) (by decide) (fun c6 => ?_) (fun c6 => ?_)
        · rw [if_pos c6] at h
          exact sX9_serve_L71 hK σ a1 a2 a3 h hk
        · rw [if_neg c6] at h
          refine sw_iload_n (k0 := 3) 3 rfl (by decide +kernel) rfl ?_
          refine sw_istore_n (k0 := 2) (lv' := [(2, .int a3), (0, .ref 0), (1, .int a1), (3, .int a3)]) (by decide +kernel) rfl (by decide) rfl ?_
          refine sw_lv [1, 2, 0, 3] rfl ?_
          exact sX9_serve_L71 hK σ a1 a3 a3 h hk
      · rw [if_pos c3] at h
        refine sw_goto (off := 23) 71 (by decide +kernel) (by decide) ?_
        exact sX9_serve_L71 hK σ a1 a2 a3 h hk
set_option maxRecDepth 20000 in
theorem sX9_serve {l : Launch} {E : sw_E} {K : Nat} (hK : 2 ≤ K) (σ : sw_M) (a1 : Int32) {res : Int32} (h : fX9_serve σ a1 = some res) : sw_Ct l E K yX9_serve cX9_serve 4 (some .int) [.ref 0, .int a1] σ (some (.int res)) σ := by
  obtain ⟨t, hk, h⟩ : ∃ t, t = res ∧ fX9_serve σ a1 = some t := ⟨res, rfl, h⟩
  unfold fX9_serve at h
  refine sw_enter2 (own := RX9) (lv := [(0, .ref 0), (1, .int a1)]) (by decide +kernel) (Nat.le_of_ble_eq_true rfl) rfl rfl ?_
  refine sw_iload_n (k0 := 1) 1 rfl (by decide +kernel) rfl ?_
  refine sw_if_lt (off := 8) 9 (by decide +kernel) (by decide) (fun c1 => ?_) (fun c1 => ?_)
  · rw [if_pos c1] at h
    refine sw_iconst (n := (-1)) (v := (-1)) (by decide +kernel) (by decide) ?_
    cases h
    obtain rfl : _ = res := hk
    exact sw_iret (by decide +kernel)
  · rw [if_neg c1] at h
    refine sw_iload_n (k0 := 1) 1 rfl (by decide +kernel) rfl ?_
    refine sw_iconst (n := 1) (v := 1) (by decide +kernel) (by decide) ?_
    refine sw_icmp_le (off := 5) 11 (by decide +kernel) (by decide) (fun c2 => ?_) (fun c2 => ?_)
    · rw [if_pos c2] at h
      refine sw_iconst (n := 0) (v := 0) (by decide +kernel) (by decide) ?_
      refine sw_istore_n (k0 := 2) (lv' := [(2, .int 0), (0, .ref 0), (1, .int a1)]) (by decide +kernel) rfl (by decide) rfl ?_
      refine sw_iconst (n := 1) (v := 1) (by decide +kernel) (by decide) ?_
      refine sw_istore_n (k0 := 3) (lv' := [(3, .int 1), (2, .int 0), (0, .ref 0), (1, .int a1)]) (by decide +kernel) rfl (by decide) rfl ?_
      refine sw_lv [2, 3, 1, 0] rfl ?_
      exact sw_wh_e (fun s : Int32 × Int32 => sw_Go l E K RX9 cX9_serve 4 (some .int) 15 [(0, .ref 0), (1, .int a1), (2, .int s.1), (3, .int s.2)] [] σ (some (.int res)) σ) (fun q => q = res) (fun s => fX9_serve_L15 σ a1 s.1 s.2) (fun s t hb hk => sX9_serve_L15 hK σ a1 s.1 s.2 hb hk) _ _ _ h hk
    · rw [if_neg c2] at h
      refine sw_iconst (n := (-1)) (v := (-1)) (by decide +kernel) (by decide) ?_
      cases h
      obtain rfl : _ = res := hk
      exact sw_iret (by decide +kernel)
def fX9_balm_L86 (σ : sw_M) (a1 : Int32) (a2 : Int32) (a3 : Int32) (a4 : Int32) (a5 : Int32) : Option ((Int32 × Int32 × sw_M) ⊕ (Int32 × sw_M)) :=
  sw_let (a5 + 1) fun v1 =>
  some (.inl (a4, v1, σ))
def fX9_balm_L33 (σ : sw_M) (a1 : Int32) (a2 : Int32) (a3 : Int32) (a4 : Int32) (a5 : Int32) : Option ((Int32 × Int32 × sw_M) ⊕ (Int32 × sw_M)) :=
  if a3 < a5 then
    some (.inr ((fX9_countOrBits a4 a2, σ)))
  else
    if (a5 &&& (a3 ^^^ (-1))) = 0 then
      if (fX9_isFewer a5 a4) = 0 then
        fX9_balm_L86 σ a1 a2 a3 a4 a5
      else
        sw_b2 (fX3_wouldHold (sw_pl (σ.2.2 0)) 27 σ a5 a1) fun r4 m5 =>
        if r4 = 0 then
          fX9_balm_L86 m5 a1 a2 a3 a4 a5
        else
          fX9_balm_L86 m5 a1 a2 a3 a5 a5
    else
      fX9_balm_L86 σ a1 a2 a3 a4 a5
def fX9_balm (σ : sw_M) (a1 : Int32) (a2 : Int32) : Option (Int32 × sw_M) :=
  if (fX4_isBasin (sw_pl (σ.2.2 0)) σ a1) = 0 then
    some (((-1), σ))
  else
    if a2 < 0 then
      some (((-1), σ))
    else
      if a2 ≤ 1 then
        sw_let (fX9_silentOnes σ) fun v4 =>
        sw_wh sw_F (fun s => fX9_balm_L33 s.2.2 a1 a2 v4 s.1 s.2.1) ((-1), 0, σ)
      else
        some (((-1), σ))
set_option maxRecDepth 20000 in
theorem sX9_balm_L86 {l : Launch} {E : sw_E} {K : Nat} (hK : 4 ≤ K) (σ : sw_M) (a1 : Int32) (a2 : Int32) (a3 : Int32) (a4 : Int32) (a5 : Int32) {res : Int32 × sw_M} {t : (Int32 × Int32 × sw_M) ⊕ (Int32 × sw_M)} (h : fX9_balm_L86 σ a1 a2 a3 a4 a5 = some t) (hk : (Sum.elim (fun s : Int32 × Int32 × sw_M => sw_Go l E K RX9 cX9_balm 6 (some .int) 33 [(0, .ref 0), (1, .int a1), (2, .int a2), (3, .int a3), (4, .int s.1), (5, .int s.2.1)] [] s.2.2 (some (.int res.1)) res.2) (fun q => q = res)) t) : sw_Go l E K RX9 cX9_balm 6 (some .int) 86 [(0, .ref 0), (1, .int a1), (2, .int a2), (3, .int a3), (4, .int a4), (5, .int a5)] [] σ (some (.int res.1)) res.2 := by
  unfold fX9_balm_L86 at h
  obtain ⟨v1, e2, h⟩ := sw_let_e h
  refine sw_iincv (i := 5) (n := 1) (lv' := [(5, .int v1), (0, .ref 0), (1, .int a1), (2, .int a2), (3, .int a3), (4, .int a4)]) 5 rfl e2 (by decide +kernel) (by decide) (by decide) rfl ?_
  refine sw_goto (off := (-56)) 33 (by decide +kernel) (by decide) ?_
  cases h
  refine sw_lv [1, 2, 3, 4, 5, 0] rfl ?_
  exact hk
set_option maxRecDepth 20000 in
theorem sX9_balm_L33 {l : Launch} {E : sw_E} {K : Nat} (hK : 4 ≤ K) (σ : sw_M) (a1 : Int32) (a2 : Int32) (a3 : Int32) (a4 : Int32) (a5 : Int32) {res : Int32 × sw_M} {t : (Int32 × Int32 × sw_M) ⊕ (Int32 × sw_M)} (h : fX9_balm_L33 σ a1 a2 a3 a4 a5 = some t) (hk : (Sum.elim (fun s : Int32 × Int32 × sw_M => sw_Go l E K RX9 cX9_balm 6 (some .int) 33 [(0, .ref 0), (1, .int a1), (2, .int a2), (3, .int a3), (4, .int s.1), (5, .int s.2.1)] [] s.2.2 (some (.int res.1)) res.2) (fun q => q = res)) t) : sw_Go l E K RX9 cX9_balm 6 (some .int) 33 [(0, .ref 0), (1, .int a1), (2, .int a2), (3, .int a3), (4, .int a4), (5, .int a5)] [] σ (some (.int res.1)) res.2 := by
  unfold fX9_balm_L33 at h
  refine sw_iload 5 rfl (by decide +kernel) ?_
  refine sw_iload_n (k0 := 3) 3 rfl (by decide +kernel) rfl ?_
  refine sw_icmp_gt (off := 56) 92 (by decide +kernel) (by decide) (fun c1 => ?_) (fun c1 => ?_)
  · rw [if_pos c1] at h
    refine sw_iload 4 rfl (by decide +kernel) ?_
    refine sw_iload_n (k0 := 2) 2 rfl (by decide +kernel) rfl ?_
    refine sw_callSi [.int a4, .int a2] (sX9_countOrBits (K := K - 1) (by omega) σ a4 a2 rfl) rfl (by omega) gs_X9_192 hy_X9_countOrBits (by decide) rfl (Nat.le_of_ble_eq_true rfl) (by decide +kernel) ?_
    cases h
    obtain rfl : _ = res := hk
    exact sw_iret (by decide +kernel)
  · rw [if_neg c1] at h
    refine sw_iload 5 rfl (by decide +kernel) ?_
    refine sw_iload_n (k0 := 3) 3 rfl (by decide +kernel) rfl ?_
    refine sw_iconst (n := (-1)) (v := (-1)) (by decide +kernel) (by decide) ?_
    refine sw_ixor (by decide +kernel) ?_
    refine sw_iand (by decide +kernel) ?_
    refine sw_if_ne (off := 41) 86 (by decide +kernel) (by decide) (fun c2 => ?_) (fun c2 => ?_)
    · rw [if_neg c2] at h
      exact sX9_balm_L86 hK σ a1 a2 a3 a4 a5 h hk
    · rw [if_pos c2] at h
      refine sw_iload 5 rfl (by decide +kernel) ?_
      refine sw_iload 4 rfl (by decide +kernel) ?_
      refine sw_callSi [.int a5, .int a4] (sX9_isFewer (K := K - 1) (by omega) σ a5 a4 rfl) rfl (by omega) gs_X9_188 hy_X9_isFewer (by decide) rfl (Nat.le_of_ble_eq_true rfl) (by decide +kernel) ?_
      refine sw_if_ne (off := 6) 61 (by decide +kernel) (by decide) (fun c3 => ?_) (fun c3 => ?_)
      · rw [if_neg c3] at h
        refine sw_aload_n (k0 := 0) 0 rfl (by decide +kernel) rfl ?_
        refine gf_X9_47 (i := 0) (by decide) rfl (by decide +kernel) ?_
        refine sw_refj 34 rfl ?_
        refine sw_aload_n (k0 := 0) 0 rfl (by decide +kernel) rfl ?_
        refine gf_X9_19 (i := 0) (by decide) rfl (by decide +kernel) ?_
        refine sw_aload_n (k0 := 0) 0 rfl (by decide +kernel) rfl ?_
        refine gf_X9_26 (i := 0) (by decide) rfl (by decide +kernel) ?_
        refine sw_refj 27 rfl ?_
        refine sw_iload 5 rfl (by decide +kernel) ?_
        refine sw_iload_n (k0 := 1) 1 rfl (by decide +kernel) rfl ?_
        obtain ⟨r4, m5, w6, h⟩ := sw_b2_e h
        refine sw_callVi (ci := 3) (i := 34) [.ref (sw_pl (σ.2.2 0)), .ref 27, .int a5, .int a1] (sX3_wouldHold (K := K - 1) (by omega) (sw_pl (σ.2.2 0)) 27 (sw_pl_P _) (Or.inl rfl) σ a5 a1 w6) rfl (by omega) rfl gs_X9_202 hy_X3_wouldHold (by decide) (by decide) rfl rfl (Nat.le_of_ble_eq_true rfl) (by decide +kernel) ?_
        refine sw_if_eq (off := 7) 86 (by decide +kernel) (by decide) (fun c7 => ?_) (fun c7 => ?_)
        · rw [if_pos c7] at h
          exact sX9_balm_L86 hK m5 a1 a2 a3 a4 a5 h hk
        · rw [if_neg c7] at h
          refine sw_iload 5 rfl (by decide +kernel) ?_
          refine sw_istore (i := 4) (lv' := [(4, .int a5), (0, .ref 0), (1, .int a1), (2, .int a2), (3, .int a3), (5, .int a5)]) (by decide +kernel) (by decide) rfl ?_
          refine sw_lv [1, 2, 3, 4, 0, 5] rfl ?_
          exact sX9_balm_L86 hK m5 a1 a2 a3 a5 a5 h hk
      · rw [if_pos c3] at h
        refine sw_goto (off := 28) 86 (by decide +kernel) (by decide) ?_
        exact sX9_balm_L86 hK σ a1 a2 a3 a4 a5 h hk
set_option maxRecDepth 20000 in
theorem sX9_balm {l : Launch} {E : sw_E} {K : Nat} (hK : 4 ≤ K) (σ : sw_M) (a1 : Int32) (a2 : Int32) {res : Int32 × sw_M} (h : fX9_balm σ a1 a2 = some res) : sw_Ct l E K yX9_balm cX9_balm 6 (some .int) [.ref 0, .int a1, .int a2] σ (some (.int res.1)) res.2 := by
  obtain ⟨t, hk, h⟩ : ∃ t, t = res ∧ fX9_balm σ a1 a2 = some t := ⟨res, rfl, h⟩
  unfold fX9_balm at h
  refine sw_enter2 (own := RX9) (lv := [(0, .ref 0), (1, .int a1), (2, .int a2)]) (by decide +kernel) (Nat.le_of_ble_eq_true rfl) rfl rfl ?_
  refine sw_aload_n (k0 := 0) 0 rfl (by decide +kernel) rfl ?_
  refine gf_X9_19 (i := 0) (by decide) rfl (by decide +kernel) ?_
  refine sw_iload_n (k0 := 1) 1 rfl (by decide +kernel) rfl ?_
  refine sw_callVi (ci := 4) (i := (sw_pl (σ.2.2 0))) [.int a1] (sX4_isBasin (K := K - 1) (by omega) (sw_pl (σ.2.2 0)) (sw_pl_P _) σ a1 rfl) rfl (by omega) rfl gs_X9_123 hy_X4_isBasin (by decide) (sw_pl_P _).o.1 (sw_pl_P _).o.2 rfl (Nat.le_of_ble_eq_true rfl) (by decide +kernel) ?_
  refine sw_if_eq (off := 12) 20 (by decide +kernel) (by decide) (fun c1 => ?_) (fun c1 => ?_)
  · rw [if_pos c1] at h
    refine sw_iconst (n := (-1)) (v := (-1)) (by decide +kernel) (by decide) ?_
    cases h
    obtain rfl : _ = res := hk
    exact sw_iret (by decide +kernel)
  · rw [if_neg c1] at h
    refine sw_iload_n (k0 := 2) 2 rfl (by decide +kernel) rfl ?_
    refine sw_if_lt (off := 8) 20 (by decide +kernel) (by decide) (fun c2 => ?_) (fun c2 => ?_)
    · rw [if_pos c2] at h
      refine sw_iconst (n := (-1)) (v := (-1)) (by decide +kernel) (by decide) ?_
      cases h
      obtain rfl : _ = res := hk
      exact sw_iret (by decide +kernel)
    · rw [if_neg c2] at h
      refine sw_iload_n (k0 := 2) 2 rfl (by decide +kernel) rfl ?_
      refine sw_iconst (n := 1) (v := 1) (by decide +kernel) (by decide) ?_
      refine sw_icmp_le (off := 5) 22 (by decide +kernel) (by decide) (fun c3 => ?_) (fun c3 => ?_)
      · rw [if_pos c3] at h
        refine sw_aload_n (k0 := 0) 0 rfl (by decide +kernel) rfl ?_
        refine sw_callVi (ci := 9) (i := 0) [] (sX9_silentOnes (K := K - 1) (by omega) σ rfl) rfl (by omega) rfl gs_X9_185 hy_X9_silentOnes (by decide) (by decide) rfl rfl (Nat.le_of_ble_eq_true rfl) (by decide +kernel) ?_
        obtain ⟨v4, e5, h⟩ := sw_let_e h
        refine sw_topi e5 ?_
        refine sw_istore_n (k0 := 3) (lv' := [(3, .int v4), (0, .ref 0), (1, .int a1), (2, .int a2)]) (by decide +kernel) rfl (by decide) rfl ?_
        refine sw_iconst (n := (-1)) (v := (-1)) (by decide +kernel) (by decide) ?_
        refine sw_istore (i := 4) (lv' := [(4, .int (-1)), (3, .int v4), (0, .ref 0), (1, .int a1), (2, .int a2)]) (by decide +kernel) (by decide) rfl ?_
        refine sw_iconst (n := 0) (v := 0) (by decide +kernel) (by decide) ?_
        refine sw_istore (i := 5) (lv' := [(5, .int 0), (4, .int (-1)), (3, .int v4), (0, .ref 0), (1, .int a1), (2, .int a2)]) (by decide +kernel) (by decide) rfl ?_
        refine sw_lv [3, 4, 5, 2, 1, 0] rfl ?_
        exact sw_wh_e (fun s : Int32 × Int32 × sw_M => sw_Go l E K RX9 cX9_balm 6 (some .int) 33 [(0, .ref 0), (1, .int a1), (2, .int a2), (3, .int v4), (4, .int s.1), (5, .int s.2.1)] [] s.2.2 (some (.int res.1)) res.2) (fun q => q = res) (fun s => fX9_balm_L33 s.2.2 a1 a2 v4 s.1 s.2.1) (fun s t hb hk => sX9_balm_L33 hK s.2.2 a1 a2 v4 s.1 s.2.1 hb hk) _ _ _ h hk
      · rw [if_neg c3] at h
        refine sw_iconst (n := (-1)) (v := (-1)) (by decide +kernel) (by decide) ?_
        cases h
        obtain rfl : _ = res := hk
        exact sw_iret (by decide +kernel)
def fX9_cook (σ : sw_M) (a1 : Int32) : Option (Int32 × sw_M) :=
  if (fX4_isBasin (sw_pl (σ.2.2 0)) σ a1) = 0 then
    some (((-1), σ))
  else
    sw_b2 (fX3_boilingsTill (sw_pl (σ.2.2 0)) 27 σ a1) fun r2 m3 =>
    some ((r2, m3))
set_option maxRecDepth 20000 in
theorem sX9_cook {l : Launch} {E : sw_E} {K : Nat} (hK : 6 ≤ K) (σ : sw_M) (a1 : Int32) {res : Int32 × sw_M} (h : fX9_cook σ a1 = some res) : sw_Ct l E K yX9_cook cX9_cook 2 (some .int) [.ref 0, .int a1] σ (some (.int res.1)) res.2 := by
  obtain ⟨t, hk, h⟩ : ∃ t, t = res ∧ fX9_cook σ a1 = some t := ⟨res, rfl, h⟩
  unfold fX9_cook at h
  refine sw_enter2 (own := RX9) (lv := [(0, .ref 0), (1, .int a1)]) (by decide +kernel) (Nat.le_of_ble_eq_true rfl) rfl rfl ?_
  refine sw_aload_n (k0 := 0) 0 rfl (by decide +kernel) rfl ?_
  refine gf_X9_19 (i := 0) (by decide) rfl (by decide +kernel) ?_
  refine sw_iload_n (k0 := 1) 1 rfl (by decide +kernel) rfl ?_
  refine sw_callVi (ci := 4) (i := (sw_pl (σ.2.2 0))) [.int a1] (sX4_isBasin (K := K - 1) (by omega) (sw_pl (σ.2.2 0)) (sw_pl_P _) σ a1 rfl) rfl (by omega) rfl gs_X9_123 hy_X4_isBasin (by decide) (sw_pl_P _).o.1 (sw_pl_P _).o.2 rfl (Nat.le_of_ble_eq_true rfl) (by decide +kernel) ?_
  refine sw_if_eq (off := 22) 30 (by decide +kernel) (by decide) (fun c1 => ?_) (fun c1 => ?_)
  · rw [if_pos c1] at h
    refine sw_iconst (n := (-1)) (v := (-1)) (by decide +kernel) (by decide) ?_
    cases h
    obtain rfl : _ = res := hk
    exact sw_iret (by decide +kernel)
  · rw [if_neg c1] at h
    refine sw_aload_n (k0 := 0) 0 rfl (by decide +kernel) rfl ?_
    refine gf_X9_47 (i := 0) (by decide) rfl (by decide +kernel) ?_
    refine sw_refj 34 rfl ?_
    refine sw_aload_n (k0 := 0) 0 rfl (by decide +kernel) rfl ?_
    refine gf_X9_19 (i := 0) (by decide) rfl (by decide +kernel) ?_
    refine sw_aload_n (k0 := 0) 0 rfl (by decide +kernel) rfl ?_
    refine gf_X9_26 (i := 0) (by decide) rfl (by decide +kernel) ?_
    refine sw_refj 27 rfl ?_
    refine sw_iload_n (k0 := 1) 1 rfl (by decide +kernel) rfl ?_
    obtain ⟨r2, m3, w4, h⟩ := sw_b2_e h
    refine sw_callVi (ci := 3) (i := 34) [.ref (sw_pl (σ.2.2 0)), .ref 27, .int a1] (sX3_boilingsTill (K := K - 1) (by omega) (sw_pl (σ.2.2 0)) 27 (sw_pl_P _) (Or.inl rfl) σ a1 w4) rfl (by omega) rfl gs_X9_206 hy_X3_boilingsTill (by decide) (by decide) rfl rfl (Nat.le_of_ble_eq_true rfl) (by decide +kernel) ?_
    refine sw_goto (off := 4) 31 (by decide +kernel) (by decide) ?_
    cases h
    obtain rfl : _ = res := hk
    exact sw_iret (by decide +kernel)
def fX9_lacks (σ : sw_M) (a1 : Int32) : Option (Int32) :=
  if (fX4_isBasin (sw_pl (σ.2.2 0)) σ a1) = 0 then
    some ((-1))
  else
    sw_b1 (fX4_lacking (sw_pl (σ.2.2 0)) 28 σ a1) fun r2 =>
    some (r2)
set_option maxRecDepth 20000 in
theorem sX9_lacks {l : Launch} {E : sw_E} {K : Nat} (hK : 2 ≤ K) (σ : sw_M) (a1 : Int32) {res : Int32} (h : fX9_lacks σ a1 = some res) : sw_Ct l E K yX9_lacks cX9_lacks 2 (some .int) [.ref 0, .int a1] σ (some (.int res)) σ := by
  obtain ⟨t, hk, h⟩ : ∃ t, t = res ∧ fX9_lacks σ a1 = some t := ⟨res, rfl, h⟩
  unfold fX9_lacks at h
  refine sw_enter2 (own := RX9) (lv := [(0, .ref 0), (1, .int a1)]) (by decide +kernel) (Nat.le_of_ble_eq_true rfl) rfl rfl ?_
  refine sw_aload_n (k0 := 0) 0 rfl (by decide +kernel) rfl ?_
  refine gf_X9_19 (i := 0) (by decide) rfl (by decide +kernel) ?_
  refine sw_iload_n (k0 := 1) 1 rfl (by decide +kernel) rfl ?_
  refine sw_callVi (ci := 4) (i := (sw_pl (σ.2.2 0))) [.int a1] (sX4_isBasin (K := K - 1) (by omega) (sw_pl (σ.2.2 0)) (sw_pl_P _) σ a1 rfl) rfl (by omega) rfl gs_X9_123 hy_X4_isBasin (by decide) (sw_pl_P _).o.1 (sw_pl_P _).o.2 rfl (Nat.le_of_ble_eq_true rfl) (by decide +kernel) ?_
  refine sw_if_eq (off := 21) 29 (by decide +kernel) (by decide) (fun c1 => ?_) (fun c1 => ?_)
  · rw [if_pos c1] at h
    refine sw_iconst (n := (-1)) (v := (-1)) (by decide +kernel) (by decide) ?_
    cases h
    obtain rfl : _ = res := hk
    exact sw_iret (by decide +kernel)
  · rw [if_neg c1] at h
    refine sw_aload_n (k0 := 0) 0 rfl (by decide +kernel) rfl ?_
    refine gf_X9_19 (i := 0) (by decide) rfl (by decide +kernel) ?_
    refine sw_aload_n (k0 := 0) 0 rfl (by decide +kernel) rfl ?_
    refine gf_X9_26 (i := 0) (by decide) rfl (by decide +kernel) ?_
    refine sw_refj 27 rfl ?_
    refine gf_X9_113 (i := 27) (by decide) rfl (by decide +kernel) ?_
    refine sw_refj 28 rfl ?_
    refine sw_iload_n (k0 := 1) 1 rfl (by decide +kernel) rfl ?_
    obtain ⟨r2, w3, h⟩ := sw_b1_e h
    refine sw_callVi (ci := 4) (i := (sw_pl (σ.2.2 0))) [.ref 28, .int a1] (sX4_lacking (K := K - 1) (by omega) (sw_pl (σ.2.2 0)) 28 (sw_pl_P _) (sw_A_of (by decide) rfl) σ a1 w3) rfl (by omega) rfl gs_X9_160 hy_X4_lacking (by decide) (sw_pl_P _).o.1 (sw_pl_P _).o.2 rfl (Nat.le_of_ble_eq_true rfl) (by decide +kernel) ?_
    refine sw_goto (off := 4) 30 (by decide +kernel) (by decide) ?_
    cases h
    obtain rfl : _ = res := hk
    exact sw_iret (by decide +kernel)
def fX9_rest (σ : sw_M) : Option (Int32 × sw_M) :=
  sw_b2 (fX3_boilingsToRest (sw_pl (σ.2.2 0)) 27 σ) fun r1 m2 =>
  some ((r1, m2))
set_option maxRecDepth 20000 in
theorem sX9_rest {l : Launch} {E : sw_E} {K : Nat} (hK : 5 ≤ K) (σ : sw_M) {res : Int32 × sw_M} (h : fX9_rest σ = some res) : sw_Ct l E K yX9_rest cX9_rest 1 (some .int) [.ref 0] σ (some (.int res.1)) res.2 := by
  obtain ⟨t, hk, h⟩ : ∃ t, t = res ∧ fX9_rest σ = some t := ⟨res, rfl, h⟩
  unfold fX9_rest at h
  refine sw_enter2 (own := RX9) (lv := [(0, .ref 0)]) (by decide +kernel) (Nat.le_of_ble_eq_true rfl) rfl rfl ?_
  refine sw_aload_n (k0 := 0) 0 rfl (by decide +kernel) rfl ?_
  refine gf_X9_47 (i := 0) (by decide) rfl (by decide +kernel) ?_
  refine sw_refj 34 rfl ?_
  refine sw_aload_n (k0 := 0) 0 rfl (by decide +kernel) rfl ?_
  refine gf_X9_19 (i := 0) (by decide) rfl (by decide +kernel) ?_
  refine sw_aload_n (k0 := 0) 0 rfl (by decide +kernel) rfl ?_
  refine gf_X9_26 (i := 0) (by decide) rfl (by decide +kernel) ?_
  refine sw_refj 27 rfl ?_
  obtain ⟨r1, m2, w3, h⟩ := sw_b2_e h
  refine sw_callVi (ci := 3) (i := 34) [.ref (sw_pl (σ.2.2 0)), .ref 27] (sX3_boilingsToRest (K := K - 1) (by omega) (sw_pl (σ.2.2 0)) 27 (sw_pl_P _) (Or.inl rfl) σ w3) rfl (by omega) rfl gs_X9_210 hy_X3_boilingsToRest (by decide) (by decide) rfl rfl (Nat.le_of_ble_eq_true rfl) (by decide +kernel) ?_
  cases h
  obtain rfl : _ = res := hk
  exact sw_iret (by decide +kernel)
