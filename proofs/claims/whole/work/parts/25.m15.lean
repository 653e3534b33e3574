def fX10_goBoiling_L55 (σ : sw_M) (a2 : Int32) : Option ((Int32 × sw_M)) :=
  sw_let (sw_w σ 66 7 ((σ.1 66 7) + (fX10_truth a2))) fun m1 =>
  sw_gd (sw_bo a2) <|
  some ((a2, m1))
def fX10_goBoiling_L30 (σ : sw_M) (a2 : Int32) (a3 : Int32) : Option ((Int32 × sw_M) ⊕ (Int32 × sw_M)) :=
  if (σ.1 49 40) ≤ a3 then
    sw_up (fX10_goBoiling_L55 σ a2)
  else
    if a2 = 0 then
      sw_up (fX10_goBoiling_L55 σ a2)
    else
      sw_gd (sw_in a3 10) <|
      sw_let (sw_w σ 66 a3.toNatClampNeg 0) fun m6 =>
      sw_let (a3 + 1) fun v8 =>
      some (.inl (v8, m6))
def fX10_goBoiling_L12 (σ : sw_M) : Option ((Int32 × sw_M)) :=
  sw_let (sw_w σ 66 8 ((σ.1 66 8) + 1)) fun m1 =>
  sw_b2 (fX10_isRisen m1) fun r3 m4 =>
  sw_wh sw_F (fun s => fX10_goBoiling_L30 s.2 r3 s.1) (0, m4)
def fX10_goBoiling (σ : sw_M) (a1 : Int32) : Option (Int32 × sw_M) :=
  sw_b1 (fX10_boilAll σ) fun m1 =>
  if a1 = 0 then
    fX10_goBoiling_L12 m1
  else
    sw_b1 (fX10_skims m1) fun m4 =>
    fX10_goBoiling_L12 m4
set_option maxRecDepth 20000 in
theorem sX10_goBoiling_L55 {l : Launch} {E : sw_E} {K : Nat} (hK : 4 ≤ K) (σ : sw_M) (a2 : Int32) {res : Int32 × sw_M} {t : (Int32 × sw_M)} (h : fX10_goBoiling_L55 σ a2 = some t) (hk : (fun q => q = res) t) : sw_Go l E K RX10 cX10_goBoiling 4 (some .boolean) 55 [(0, .ref 49), (2, .int a2)] [] σ (some (.int res.1)) res.2 := by
  unfold fX10_goBoiling_L55 at h
  refine sw_aload_n (k0 := 0) 0 rfl (by decide +kernel) rfl ?_
  refine gf_X10_63 (i := 49) (by decide) rfl (by decide +kernel) ?_
  refine sw_refj 66 rfl ?_
  refine sw_bipush (n := 7) (v := 7) (by decide +kernel) (by decide) ?_
  refine sw_dup2 (by decide +kernel) rfl rfl ?_
  refine sw_iaload (a := 66) (by decide) rfl (sw_in_e (by decide)) (by decide +kernel) ?_
  refine sw_topi (x := σ.1 66 7) rfl ?_
  refine sw_iload_n (k0 := 2) 1 rfl (by decide +kernel) rfl ?_
  refine sw_callSi [.int a2] (sX10_truth (K := K - 1) (by omega) σ a2 rfl) rfl (by omega) gs_X10_287 hy_X10_truth (by decide) rfl (Nat.le_of_ble_eq_true rfl) (by decide +kernel) ?_
  refine sw_iadd (by decide +kernel) ?_
  obtain ⟨m1, e2, h⟩ := sw_let_e h
  refine sw_iastore (a := 66) (by decide) rfl (sw_in_e (by decide)) (by decide +kernel) ?_
  refine sw_mem (e2.trans (show sw_w σ 66 7 ((σ.1 66 7) + (fX10_truth a2)) = sw_w σ 66 (7 : Int32).toNatClampNeg ((σ.1 66 7) + (fX10_truth a2)) from rfl)) ?_
  refine sw_iload_n (k0 := 2) 1 rfl (by decide +kernel) rfl ?_
  obtain ⟨g3, h⟩ := sw_gd_e h
  cases h
  obtain rfl : _ = res := hk
  exact sw_zret (sw_bo_n (sw_bo_e g3)) (by decide +kernel)
set_option maxRecDepth 20000 in
theorem sX10_goBoiling_L30 {l : Launch} {E : sw_E} {K : Nat} (hK : 4 ≤ K) (σ : sw_M) (a2 : Int32) (a3 : Int32) {res : Int32 × sw_M} {t : (Int32 × sw_M) ⊕ (Int32 × sw_M)} (h : fX10_goBoiling_L30 σ a2 a3 = some t) (hk : (Sum.elim (fun s : Int32 × sw_M => sw_Go l E K RX10 cX10_goBoiling 4 (some .boolean) 30 [(0, .ref 49), (2, .int a2), (3, .int s.1)] [] s.2 (some (.int res.1)) res.2) (fun q => q = res)) t) : sw_Go l E K RX10 cX10_goBoiling 4 (some .boolean) 30 [(0, .ref 49), (2, .int a2), (3, .int a3)] [] σ (some (.int res.1)) res.2 := by
  unfold fX10_goBoiling_L30 at h
  refine sw_iload_n (k0 := 3) 2 rfl (by decide +kernel) rfl ?_
  refine sw_aload_n (k0 := 0) 0 rfl (by decide +kernel) rfl ?_
  refine gf_X10_291 (i := 49) (by decide) rfl (by decide +kernel) ?_
  refine sw_icmp_ge (off := 20) 55 (by decide +kernel) (by decide) (fun c1 => ?_) (fun c1 => ?_)
  · rw [if_pos c1] at h
    obtain ⟨q1, h1, rfl⟩ := sw_up_e h
    replace h := h1
    refine sw_lv [0, 1] rfl ?_
    exact sX10_goBoiling_L55 hK σ a2 h hk
  · rw [if_neg c1] at h
    refine sw_iload_n (k0 := 2) 1 rfl (by decide +kernel) rfl ?_
    refine sw_if_eq (off := 16) 55 (by decide +kernel) (by decide) (fun c3 => ?_) (fun c3 => ?_)
    · rw [if_pos c3] at h
      obtain ⟨q3, h3, rfl⟩ := sw_up_e h
      replace h := h3
      refine sw_lv [0, 1] rfl ?_
      exact sX10_goBoiling_L55 hK σ a2 h hk
    · rw [if_neg c3] at h
      refine sw_aload_n (k0 := 0) 0 rfl (by decide +kernel) rfl ?_
      refine gf_X10_63 (i := 49) (by decide) rfl (by decide +kernel) ?_
      refine sw_refj 66 rfl ?_
      refine sw_iload_n (k0 := 3) 2 rfl (by decide +kernel) rfl ?_
      refine sw_iconst (n := 0) (v := 0) (by decide +kernel) (by decide) ?_
      obtain ⟨g5, h⟩ := sw_gd_e h
      obtain ⟨m6, e7, h⟩ := sw_let_e h
      refine sw_iastore (a := 66) (by decide) rfl (sw_in_e g5) (by decide +kernel) ?_
      refine sw_mem e7 ?_
      obtain ⟨v8, e9, h⟩ := sw_let_e h
      refine sw_iincv (i := 3) (n := 1) (lv' := [(3, .int v8), (0, .ref 49), (2, .int a2)]) 2 rfl e9 (by decide +kernel) (by decide) (by decide) rfl ?_
      refine sw_goto (off := (-22)) 30 (by decide +kernel) (by decide) ?_
      cases h
      refine sw_lv [1, 2, 0] rfl ?_
      exact hk
set_option maxRecDepth 20000 in
theorem sX10_goBoiling_L12 {l : Launch} {E : sw_E} {K : Nat} (hK : 4 ≤ K) (σ : sw_M) {res : Int32 × sw_M} {t : (Int32 × sw_M)} (h : fX10_goBoiling_L12 σ = some t) (hk : (fun q => q = res) t) : sw_Go l E K RX10 cX10_goBoiling 4 (some .boolean) 12 [(0, .ref 49)] [] σ (some (.int res.1)) res.2 := by
  unfold fX10_goBoiling_L12 at h
  refine sw_aload_n (k0 := 0) 0 rfl (by decide +kernel) rfl ?_
  refine gf_X10_63 (i := 49) (by decide) rfl (by decide +kernel) ?_
  refine sw_refj 66 rfl ?_
  refine sw_bipush (n := 8) (v := 8) (by decide +kernel) (by decide) ?_
  refine sw_dup2 (by decide +kernel) rfl rfl ?_
  refine sw_iaload (a := 66) (by decide) rfl (sw_in_e (by decide)) (by decide +kernel) ?_
  refine sw_topi (x := σ.1 66 8) rfl ?_
  refine sw_iconst (n := 1) (v := 1) (by decide +kernel) (by decide) ?_
  refine sw_iadd (by decide +kernel) ?_
  obtain ⟨m1, e2, h⟩ := sw_let_e h
  refine sw_iastore (a := 66) (by decide) rfl (sw_in_e (by decide)) (by decide +kernel) ?_
  refine sw_mem (e2.trans (show sw_w σ 66 8 ((σ.1 66 8) + 1) = sw_w σ 66 (8 : Int32).toNatClampNeg ((σ.1 66 8) + 1) from rfl)) ?_
  refine sw_aload_n (k0 := 0) 0 rfl (by decide +kernel) rfl ?_
  obtain ⟨r3, m4, w5, h⟩ := sw_b2_e h
  refine sw_callVi (ci := 10) (i := 49) [] (sX10_isRisen (K := K - 1) (by omega) m1 w5) rfl (by omega) rfl gs_X10_430 hy_X10_isRisen (by decide) (by decide) rfl rfl (Nat.le_of_ble_eq_true rfl) (by decide +kernel) ?_
  refine sw_istore_n (k0 := 2) (lv' := [(2, .int r3), (0, .ref 49)]) (by decide +kernel) rfl (by decide) rfl ?_
  refine sw_iconst (n := 0) (v := 0) (by decide +kernel) (by decide) ?_
  refine sw_istore_n (k0 := 3) (lv' := [(3, .int 0), (2, .int r3), (0, .ref 49)]) (by decide +kernel) rfl (by decide) rfl ?_
  refine sw_lv [2, 1, 0] rfl ?_
  exact sw_wh_e (fun s : Int32 × sw_M => sw_Go l E K RX10 cX10_goBoiling 4 (some .boolean) 30 [(0, .ref 49), (2, .int r3), (3, .int s.1)] [] s.2 (some (.int res.1)) res.2) (fun q => q = res) (fun s => fX10_goBoiling_L30 s.2 r3 s.1) (fun s t hb hk => sX10_goBoiling_L30 hK s.2 r3 s.1 hb hk) _ _ _ h hk
set_option maxRecDepth 20000 in
theorem sX10_goBoiling {l : Launch} {E : sw_E} {K : Nat} (hK : 4 ≤ K) (σ : sw_M) (a1 : Int32) {res : Int32 × sw_M} (h : fX10_goBoiling σ a1 = some res) : sw_Ct l E K yX10_goBoiling cX10_goBoiling 4 (some .boolean) [.ref 49, .int a1] σ (some (.int res.1)) res.2 := by
  obtain ⟨t, hk, h⟩ : ∃ t, t = res ∧ fX10_goBoiling σ a1 = some t := ⟨res, rfl, h⟩
  unfold fX10_goBoiling at h
  refine sw_enter2 (own := RX10) (lv := [(0, .ref 49), (1, .int a1)]) (by decide +kernel) (Nat.le_of_ble_eq_true rfl) rfl rfl ?_
  refine sw_aload_n (k0 := 0) 0 rfl (by decide +kernel) rfl ?_
  obtain ⟨m1, w2, h⟩ := sw_b1_e h
  refine sw_callVv (ci := 10) (i := 49) [] (sX10_boilAll (K := K - 1) (by omega) σ w2) rfl (by omega) rfl gs_X10_424 hy_X10_boilAll (by decide) (by decide) rfl rfl (Nat.le_of_ble_eq_true rfl) (by decide +kernel) ?_
  refine sw_iload_n (k0 := 1) 1 rfl (by decide +kernel) rfl ?_
  refine sw_if_eq (off := 7) 12 (by decide +kernel) (by decide) (fun c3 => ?_) (fun c3 => ?_)
  · rw [if_pos c3] at h
    refine sw_lv [0] rfl ?_
    exact sX10_goBoiling_L12 hK m1 h hk
  · rw [if_neg c3] at h
    refine sw_aload_n (k0 := 0) 0 rfl (by decide +kernel) rfl ?_
    obtain ⟨m4, w5, h⟩ := sw_b1_e h
    refine sw_callVv (ci := 10) (i := 49) [] (sX10_skims (K := K - 1) (by omega) m1 w5) rfl (by omega) rfl gs_X10_427 hy_X10_skims (by decide) (by decide) rfl rfl (Nat.le_of_ble_eq_true rfl) (by decide +kernel) ?_
    refine sw_lv [0] rfl ?_
    exact sX10_goBoiling_L12 hK m4 h hk
def fX10_vat (σ : sw_M) (a1 : Int32) : Option (Int32) :=
  if (fX10_isKind σ a1) = 0 then
    some ((-1))
  else
    sw_gd (sw_in a1 10) <|
    some (σ.1 65 a1.toNatClampNeg)
set_option maxRecDepth 20000 in
theorem sX10_vat {l : Launch} {E : sw_E} {K : Nat} (hK : 2 ≤ K) (σ : sw_M) (a1 : Int32) {res : Int32} (h : fX10_vat σ a1 = some res) : sw_Ct l E K yX10_vat cX10_vat 2 (some .int) [.ref 49, .int a1] σ (some (.int res)) σ := by
  obtain ⟨t, hk, h⟩ : ∃ t, t = res ∧ fX10_vat σ a1 = some t := ⟨res, rfl, h⟩
  unfold fX10_vat at h
  refine sw_enter2 (own := RX10) (lv := [(0, .ref 49), (1, .int a1)]) (by decide +kernel) (Nat.le_of_ble_eq_true rfl) rfl rfl ?_
  refine sw_aload_n (k0 := 0) 0 rfl (by decide +kernel) rfl ?_
  refine sw_iload_n (k0 := 1) 1 rfl (by decide +kernel) rfl ?_
  refine sw_callVi (ci := 10) (i := 49) [.int a1] (sX10_isKind (K := K - 1) (by omega) σ a1 rfl) rfl (by omega) rfl gs_X10_433 hy_X10_isKind (by decide) (by decide) rfl rfl (Nat.le_of_ble_eq_true rfl) (by decide +kernel) ?_
  refine sw_if_eq (off := 12) 17 (by decide +kernel) (by decide) (fun c1 => ?_) (fun c1 => ?_)
  · rw [if_pos c1] at h
    refine sw_iconst (n := (-1)) (v := (-1)) (by decide +kernel) (by decide) ?_
    cases h
    obtain rfl : _ = res := hk
    exact sw_iret (by decide +kernel)
  · rw [if_neg c1] at h
    refine sw_aload_n (k0 := 0) 0 rfl (by decide +kernel) rfl ?_
    refine gf_X10_60 (i := 49) (by decide) rfl (by decide +kernel) ?_
    refine sw_refj 65 rfl ?_
    refine sw_iload_n (k0 := 1) 1 rfl (by decide +kernel) rfl ?_
    obtain ⟨g2, h⟩ := sw_gd_e h
    refine sw_iaload (a := 65) (by decide) rfl (sw_in_e g2) (by decide +kernel) ?_
    refine sw_goto (off := 4) 18 (by decide +kernel) (by decide) ?_
    cases h
    obtain rfl : _ = res := hk
    exact sw_iret (by decide +kernel)
def fX10_mind (σ : sw_M) (a1 : Int32) (a2 : Int32) : Option (Int32) :=
  if (fX10_isPerson σ a1) = 0 then
    some ((-1))
  else
    if (fX10_isKind σ a2) = 0 then
      some ((-1))
    else
      sw_gd (sw_in ((5 * a1) + a2) 35) <|
      some (σ.1 62 ((5 * a1) + a2).toNatClampNeg)
set_option maxRecDepth 20000 in
theorem sX10_mind {l : Launch} {E : sw_E} {K : Nat} (hK : 2 ≤ K) (σ : sw_M) (a1 : Int32) (a2 : Int32) {res : Int32} (h : fX10_mind σ a1 a2 = some res) : sw_Ct l E K yX10_mind cX10_mind 3 (some .int) [.ref 49, .int a1, .int a2] σ (some (.int res)) σ := by
  obtain ⟨t, hk, h⟩ : ∃ t, t = res ∧ fX10_mind σ a1 a2 = some t := ⟨res, rfl, h⟩
  unfold fX10_mind at h
  refine sw_enter2 (own := RX10) (lv := [(0, .ref 49), (1, .int a1), (2, .int a2)]) (by decide +kernel) (Nat.le_of_ble_eq_true rfl) rfl rfl ?_
  refine sw_aload_n (k0 := 0) 0 rfl (by decide +kernel) rfl ?_
  refine sw_iload_n (k0 := 1) 1 rfl (by decide +kernel) rfl ?_
  refine sw_callVi (ci := 10) (i := 49) [.int a1] (sX10_isPerson (K := K - 1) (by omega) σ a1 rfl) rfl (by omega) rfl gs_X10_436 hy_X10_isPerson (by decide) (by decide) rfl rfl (Nat.le_of_ble_eq_true rfl) (by decide +kernel) ?_
  refine sw_if_eq (off := 24) 29 (by decide +kernel) (by decide) (fun c1 => ?_) (fun c1 => ?_)
  · rw [if_pos c1] at h
    refine sw_iconst (n := (-1)) (v := (-1)) (by decide +kernel) (by decide) ?_
    cases h
    obtain rfl : _ = res := hk
    exact sw_iret (by decide +kernel)
  · rw [if_neg c1] at h
    refine sw_aload_n (k0 := 0) 0 rfl (by decide +kernel) rfl ?_
    refine sw_iload_n (k0 := 2) 2 rfl (by decide +kernel) rfl ?_
    refine sw_callVi (ci := 10) (i := 49) [.int a2] (sX10_isKind (K := K - 1) (by omega) σ a2 rfl) rfl (by omega) rfl gs_X10_433 hy_X10_isKind (by decide) (by decide) rfl rfl (Nat.le_of_ble_eq_true rfl) (by decide +kernel) ?_
    refine sw_if_eq (off := 16) 29 (by decide +kernel) (by decide) (fun c2 => ?_) (fun c2 => ?_)
    · rw [if_pos c2] at h
      refine sw_iconst (n := (-1)) (v := (-1)) (by decide +kernel) (by decide) ?_
      cases h
      obtain rfl : _ = res := hk
      exact sw_iret (by decide +kernel)
    · rw [if_neg c2] at h
      refine sw_aload_n (k0 := 0) 0 rfl (by decide +kernel) rfl ?_
      refine gf_X10_51 (i := 49) (by decide) rfl (by decide +kernel) ?_
      refine sw_refj 62 rfl ?_
      refine sw_iconst (n := 5) (v := 5) (by decide +kernel) (by decide) ?_
      refine sw_iload_n (k0 := 1) 1 rfl (by decide +kernel) rfl ?_
      refine sw_imul (by decide +kernel) ?_
      refine sw_iload_n (k0 := 2) 2 rfl (by decide +kernel) rfl ?_
      refine sw_iadd (by decide +kernel) ?_
      obtain ⟨g3, h⟩ := sw_gd_e h
      refine sw_iaload (a := 62) (by decide) rfl (sw_in_e g3) (by decide +kernel) ?_
      refine sw_goto (off := 4) 30 (by decide +kernel) (by decide) ?_
      cases h
      obtain rfl : _ = res := hk
      exact sw_iret (by decide +kernel)
def fX10_wants (σ : sw_M) (a1 : Int32) (a2 : Int32) : Option (Int32) :=
  if (fX10_isBasin σ a1) = 0 then
    some ((-1))
  else
    if (fX10_isKind σ a2) = 0 then
      some ((-1))
    else
      sw_gd (sw_in ((5 * a1) + a2) 20) <|
      some (σ.1 63 ((5 * a1) + a2).toNatClampNeg)
set_option maxRecDepth 20000 in
theorem sX10_wants {l : Launch} {E : sw_E} {K : Nat} (hK : 2 ≤ K) (σ : sw_M) (a1 : Int32) (a2 : Int32) {res : Int32} (h : fX10_wants σ a1 a2 = some res) : sw_Ct l E K yX10_wants cX10_wants 3 (some .int) [.ref 49, .int a1, .int a2] σ (some (.int res)) σ := by
  obtain ⟨t, hk, h⟩ : ∃ t, t = res ∧ fX10_wants σ a1 a2 = some t := ⟨res, rfl, h⟩
  unfold fX10_wants at h
  refine sw_enter2 (own := RX10) (lv := [(0, .ref 49), (1, .int a1), (2, .int a2)]) (by decide +kernel) (Nat.le_of_ble_eq_true rfl) rfl rfl ?_
  refine sw_aload_n (k0 := 0) 0 rfl (by decide +kernel) rfl ?_
  refine sw_iload_n (k0 := 1) 1 rfl (by decide +kernel) rfl ?_
  refine sw_callVi (ci := 10) (i := 49) [.int a1] (sX10_isBasin (K := K - 1) (by omega) σ a1 rfl) rfl (by omega) rfl gs_X10_439 hy_X10_isBasin (by decide) (by decide) rfl rfl (Nat.le_of_ble_eq_true rfl) (by decide +kernel) ?_
  refine sw_if_eq (off := 24) 29 (by decide +kernel) (by decide) (fun c1 => ?_) (fun c1 => ?_)
  · rw [if_pos c1] at h
    refine sw_iconst (n := (-1)) (v := (-1)) (by decide +kernel) (by decide) ?_
    cases h
    obtain rfl : _ = res := hk
    exact sw_iret (by decide +kernel)
  · rw [if_neg c1] at h
    refine sw_aload_n (k0 := 0) 0 rfl (by decide +kernel) rfl ?_
    refine sw_iload_n (k0 := 2) 2 rfl (by decide +kernel) rfl ?_
    refine sw_callVi (ci := 10) (i := 49) [.int a2] (sX10_isKind (K := K - 1) (by omega) σ a2 rfl) rfl (by omega) rfl gs_X10_433 hy_X10_isKind (by decide) (by decide) rfl rfl (Nat.le_of_ble_eq_true rfl) (by decide +kernel) ?_
    refine sw_if_eq (off := 16) 29 (by decide +kernel) (by decide) (fun c2 => ?_) (fun c2 => ?_)
    · rw [if_pos c2] at h
      refine sw_iconst (n := (-1)) (v := (-1)) (by decide +kernel) (by decide) ?_
      cases h
      obtain rfl : _ = res := hk
      exact sw_iret (by decide +kernel)
    · rw [if_neg c2] at h
      refine sw_aload_n (k0 := 0) 0 rfl (by decide +kernel) rfl ?_
      refine gf_X10_54 (i := 49) (by decide) rfl (by decide +kernel) ?_
      refine sw_refj 63 rfl ?_
      refine sw_iconst (n := 5) (v := 5) (by decide +kernel) (by decide) ?_
      refine sw_iload_n (k0 := 1) 1 rfl (by decide +kernel) rfl ?_
      refine sw_imul (by decide +kernel) ?_
      refine sw_iload_n (k0 := 2) 2 rfl (by decide +kernel) rfl ?_
      refine sw_iadd (by decide +kernel) ?_
      obtain ⟨g3, h⟩ := sw_gd_e h
      refine sw_iaload (a := 63) (by decide) rfl (sw_in_e g3) (by decide +kernel) ?_
      refine sw_goto (off := 4) 30 (by decide +kernel) (by decide) ?_
      cases h
      obtain rfl : _ = res := hk
      exact sw_iret (by decide +kernel)
def fX10_rule (σ : sw_M) (a1 : Int32) (a2 : Int32) : Option (Int32) :=
  if (fX10_isRule σ a1) = 0 then
    some ((-1))
  else
    if (fX10_isIn a2 0 3) = 0 then
      some ((-1))
    else
      sw_gd (sw_in ((4 * a1) + a2) 24) <|
      some (σ.1 64 ((4 * a1) + a2).toNatClampNeg)
set_option maxRecDepth 20000 in
theorem sX10_rule {l : Launch} {E : sw_E} {K : Nat} (hK : 2 ≤ K) (σ : sw_M) (a1 : Int32) (a2 : Int32) {res : Int32} (h : fX10_rule σ a1 a2 = some res) : sw_Ct l E K yX10_rule cX10_rule 3 (some .int) [.ref 49, .int a1, .int a2] σ (some (.int res)) σ := by
  obtain ⟨t, hk, h⟩ : ∃ t, t = res ∧ fX10_rule σ a1 a2 = some t := ⟨res, rfl, h⟩
  unfold fX10_rule at h
  refine sw_enter2 (own := RX10) (lv := [(0, .ref 49), (1, .int a1), (2, .int a2)]) (by decide +kernel) (Nat.le_of_ble_eq_true rfl) rfl rfl ?_
  refine sw_aload_n (k0 := 0) 0 rfl (by decide +kernel) rfl ?_
  refine sw_iload_n (k0 := 1) 1 rfl (by decide +kernel) rfl ?_
  refine sw_callVi (ci := 10) (i := 49) [.int a1] (sX10_isRule (K := K - 1) (by omega) σ a1 rfl) rfl (by omega) rfl gs_X10_442 hy_X10_isRule (by decide) (by decide) rfl rfl (Nat.le_of_ble_eq_true rfl) (by decide +kernel) ?_
  refine sw_if_eq (off := 25) 30 (by decide +kernel) (by decide) (fun c1 => ?_) (fun c1 => ?_)
  · rw [if_pos c1] at h
    refine sw_iconst (n := (-1)) (v := (-1)) (by decide +kernel) (by decide) ?_
    cases h
    obtain rfl : _ = res := hk
    exact sw_iret (by decide +kernel)
  · rw [if_neg c1] at h
    refine sw_iload_n (k0 := 2) 2 rfl (by decide +kernel) rfl ?_
    refine sw_iconst (n := 0) (v := 0) (by decide +kernel) (by decide) ?_
    refine sw_iconst (n := 3) (v := 3) (by decide +kernel) (by decide) ?_
    refine sw_callSi [.int a2, .int 0, .int 3] (sX10_isIn (K := K - 1) (by omega) σ a2 0 3 rfl) rfl (by omega) gs_X10_411 hy_X10_isIn (by decide) rfl (Nat.le_of_ble_eq_true rfl) (by decide +kernel) ?_
    refine sw_if_eq (off := 16) 30 (by decide +kernel) (by decide) (fun c2 => ?_) (fun c2 => ?_)
    · rw [if_pos c2] at h
      refine sw_iconst (n := (-1)) (v := (-1)) (by decide +kernel) (by decide) ?_
      cases h
      obtain rfl : _ = res := hk
      exact sw_iret (by decide +kernel)
    · rw [if_neg c2] at h
      refine sw_aload_n (k0 := 0) 0 rfl (by decide +kernel) rfl ?_
      refine gf_X10_57 (i := 49) (by decide) rfl (by decide +kernel) ?_
      refine sw_refj 64 rfl ?_
      refine sw_iconst (n := 4) (v := 4) (by decide +kernel) (by decide) ?_
      refine sw_iload_n (k0 := 1) 1 rfl (by decide +kernel) rfl ?_
      refine sw_imul (by decide +kernel) ?_
      refine sw_iload_n (k0 := 2) 2 rfl (by decide +kernel) rfl ?_
      refine sw_iadd (by decide +kernel) ?_
      obtain ⟨g3, h⟩ := sw_gd_e h
      refine sw_iaload (a := 64) (by decide) rfl (sw_in_e g3) (by decide +kernel) ?_
      refine sw_goto (off := 4) 31 (by decide +kernel) (by decide) ?_
      cases h
      obtain rfl : _ = res := hk
      exact sw_iret (by decide +kernel)
def fX10_act_L51 (σ : sw_M) (a1 : Int32) : Option ((Int32 × sw_M) ⊕ (sw_M)) :=
  if 10 ≤ a1 then
    sw_let (sw_w σ 49 52 ((σ.1 49 52) + 1)) fun m2 =>
    sw_let (sw_w m2 49 53 0) fun m4 =>
    sw_b1 (fX10_fill m4) fun m6 =>
    some (.inr (m6))
  else
    sw_gd (sw_in a1 10) <|
    sw_gd (sw_in ((10 * (σ.1 49 52)) + a1) 400) <|
    sw_let (sw_w σ 67 ((10 * (σ.1 49 52)) + a1).toNatClampNeg (σ.1 65 a1.toNatClampNeg)) fun m10 =>
    sw_let (a1 + 1) fun v12 =>
    some (.inl (v12, m10))
def fX10_act_L49 (σ : sw_M) : Option ((sw_M)) :=
  sw_wh sw_F (fun s => fX10_act_L51 s.2 s.1) (0, σ)
def fX10_act_L11 (σ : sw_M) (a1 : Int32) : Option ((Int32 × sw_M) ⊕ (sw_M)) :=
  if 390 ≤ a1 then
    sw_let (sw_w σ 49 52 ((σ.1 49 52) - 1)) fun m2 =>
    sw_up (fX10_act_L49 m2)
  else
    sw_gd (sw_in (10 + a1) 400) <|
    sw_gd (sw_in a1 400) <|
    sw_let (sw_w σ 67 a1.toNatClampNeg (σ.1 67 (10 + a1).toNatClampNeg)) fun m7 =>
    sw_let (a1 + 1) fun v9 =>
    some (.inl (v9, m7))
def fX10_act (σ : sw_M) : Option (sw_M) :=
  if (σ.1 49 52) = 40 then
    sw_wh sw_F (fun s => fX10_act_L11 s.2 s.1) (0, σ)
  else
    fX10_act_L49 σ
set_option maxRecDepth 20000 in
theorem sX10_act_L51 {l : Launch} {E : sw_E} {K : Nat} (hK : 1 ≤ K) (σ : sw_M) (a1 : Int32) {res : sw_M} {t : (Int32 × sw_M) ⊕ (sw_M)} (h : fX10_act_L51 σ a1 = some t) (hk : (Sum.elim (fun s : Int32 × sw_M => sw_Go l E K RX10 cX10_act 2 none 51 [(0, .ref 49), (1, .int s.1)] [] s.2 none res) (fun q => q = res)) t) : sw_Go l E K RX10 cX10_act 2 none 51 [(0, .ref 49), (1, .int a1)] [] σ none res := by
  unfold fX10_act_L51 at h
  refine sw_iload_n (k0 := 1) 1 rfl (by decide +kernel) rfl ?_
  refine sw_bipush (n := 10) (v := 10) (by decide +kernel) (by decide) ?_
  refine sw_icmp_ge (off := 29) 83 (by decide +kernel) (by decide) (fun c1 => ?_) (fun c1 => ?_)
  · rw [if_pos c1] at h
    refine sw_aload_n (k0 := 0) 0 rfl (by decide +kernel) rfl ?_
    refine sw_dup (by decide +kernel) rfl ?_
    refine gf_X10_399 (i := 49) (by decide) rfl (by decide +kernel) ?_
    refine sw_iconst (n := 1) (v := 1) (by decide +kernel) (by decide) ?_
    refine sw_iadd (by decide +kernel) ?_
    obtain ⟨m2, e3, h⟩ := sw_let_e h
    refine pf_X10_399 (by decide) rfl (by decide +kernel) ?_
    refine sw_mem e3 ?_
    refine sw_aload_n (k0 := 0) 0 rfl (by decide +kernel) rfl ?_
    refine sw_iconst (n := 0) (v := 0) (by decide +kernel) (by decide) ?_
    obtain ⟨m4, e5, h⟩ := sw_let_e h
    refine pf_X10_402 (by decide) rfl (by decide +kernel) ?_
    refine sw_mem e5 ?_
    refine sw_aload_n (k0 := 0) 0 rfl (by decide +kernel) rfl ?_
    obtain ⟨m6, w7, h⟩ := sw_b1_e h
    refine sw_callVv (ci := 10) (i := 49) [] (sX10_fill (K := K - 1) (by omega) m4 w7) rfl (by omega) rfl gs_X10_445 hy_X10_fill (by decide) (by decide) rfl rfl (Nat.le_of_ble_eq_true rfl) (by decide +kernel) ?_
    cases h
    obtain rfl : _ = res := hk
    exact sw_vret (by decide +kernel)
  · rw [if_neg c1] at h
    refine sw_aload_n (k0 := 0) 0 rfl (by decide +kernel) rfl ?_
    refine gf_X10_66 (i := 49) (by decide) rfl (by decide +kernel) ?_
    refine sw_refj 67 rfl ?_
    refine sw_bipush (n := 10) (v := 10) (by decide +kernel) (by decide) ?_
    refine sw_aload_n (k0 := 0) 0 rfl (by decide +kernel) rfl ?_
    refine gf_X10_399 (i := 49) (by decide) rfl (by decide +kernel) ?_
    refine sw_imul (by decide +kernel) ?_
    refine sw_iload_n (k0 := 1) 1 rfl (by decide +kernel) rfl ?_
    refine sw_iadd (by decide +kernel) ?_
    refine sw_aload_n (k0 := 0) 0 rfl (by decide +kernel) rfl ?_
    refine gf_X10_60 (i := 49) (by decide) rfl (by decide +kernel) ?_
    refine sw_refj 65 rfl ?_
    refine sw_iload_n (k0 := 1) 1 rfl (by decide +kernel) rfl ?_
    obtain ⟨g8, h⟩ := sw_gd_e h
    refine sw_iaload (a := 65) (by decide) rfl (sw_in_e g8) (by decide +kernel) ?_
    obtain ⟨g9, h⟩ := sw_gd_e h
    obtain ⟨m10, e11, h⟩ := sw_let_e h
    refine sw_iastore (a := 67) (by decide) rfl (sw_in_e g9) (by decide +kernel) ?_
    refine sw_mem e11 ?_
    obtain ⟨v12, e13, h⟩ := sw_let_e h
    refine sw_iincv (i := 1) (n := 1) (lv' := [(1, .int v12), (0, .ref 49)]) 1 rfl e13 (by decide +kernel) (by decide) (by decide) rfl ?_
    refine sw_goto (off := (-29)) 51 (by decide +kernel) (by decide) ?_
    cases h
    refine sw_lv [1, 0] rfl ?_
    exact hk
set_option maxRecDepth 20000 in
theorem sX10_act_L49 {l : Launch} {E : sw_E} {K : Nat} (hK : 1 ≤ K) (σ : sw_M) {res : sw_M} {t : (sw_M)} (h : fX10_act_L49 σ = some t) (hk : (fun q => q = res) t) : sw_Go l E K RX10 cX10_act 2 none 49 [(0, .ref 49)] [] σ none res := by
  unfold fX10_act_L49 at h
  refine sw_iconst (n := 0) (v := 0) (by decide +kernel) (by decide) ?_
  refine sw_istore_n (k0 := 1) (lv' := [(1, .int 0), (0, .ref 49)]) (by decide +kernel) rfl (by decide) rfl ?_
  refine sw_lv [1, 0] rfl ?_
  exact sw_wh_e (fun s : Int32 × sw_M => sw_Go l E K RX10 cX10_act 2 none 51 [(0, .ref 49), (1, .int s.1)] [] s.2 none res) (fun q => q = res) (fun s => fX10_act_L51 s.2 s.1) (fun s t hb hk => sX10_act_L51 hK s.2 s.1 hb hk) _ _ _ h hk
set_option maxRecDepth 20000 in
theorem sX10_act_L11 {l : Launch} {E : sw_E} {K : Nat} (hK : 1 ≤ K) (σ : sw_M) (a1 : Int32) {res : sw_M} {t : (Int32 × sw_M) ⊕ (sw_M)} (h : fX10_act_L11 σ a1 = some t) (hk : (Sum.elim (fun s : Int32 × sw_M => sw_Go l E K RX10 cX10_act 2 none 11 [(0, .ref 49), (1, .int s.1)] [] s.2 none res) (fun q => q = res)) t) : sw_Go l E K RX10 cX10_act 2 none 11 [(0, .ref 49), (1, .int a1)] [] σ none res := by
  unfold fX10_act_L11 at h
  refine sw_iload_n (k0 := 1) 1 rfl (by decide +kernel) rfl ?_
  refine sw_sipush (n := 390) (v := 390) (by decide +kernel) (by decide) ?_
  refine sw_icmp_ge (off := 24) 39 (by decide +kernel) (by decide) (fun c1 => ?_) (fun c1 => ?_)
  · rw [if_pos c1] at h
    refine sw_aload_n (k0 := 0) 0 rfl (by decide +kernel) rfl ?_
    refine sw_dup (by decide +kernel) rfl ?_
    refine gf_X10_399 (i := 49) (by decide) rfl (by decide +kernel) ?_
    refine sw_iconst (n := 1) (v := 1) (by decide +kernel) (by decide) ?_
    refine sw_isub (by decide +kernel) ?_
    obtain ⟨m2, e3, h⟩ := sw_let_e h
    refine pf_X10_399 (by decide) rfl (by decide +kernel) ?_
    refine sw_mem e3 ?_
    obtain ⟨q3, h3, rfl⟩ := sw_up_e h
    replace h := h3
    refine sw_lv [0] rfl ?_
    exact sX10_act_L49 hK m2 h hk
  · rw [if_neg c1] at h
    refine sw_aload_n (k0 := 0) 0 rfl (by decide +kernel) rfl ?_
    refine gf_X10_66 (i := 49) (by decide) rfl (by decide +kernel) ?_
    refine sw_refj 67 rfl ?_
    refine sw_iload_n (k0 := 1) 1 rfl (by decide +kernel) rfl ?_
    refine sw_aload_n (k0 := 0) 0 rfl (by decide +kernel) rfl ?_
    refine gf_X10_66 (i := 49) (by decide) rfl (by decide +kernel) ?_
    refine sw_refj 67 rfl ?_
    refine sw_bipush (n := 10) (v := 10) (by decide +kernel) (by decide) ?_
    refine sw_iload_n (k0 := 1) 1 rfl (by decide +kernel) rfl ?_
    refine sw_iadd (by decide +kernel) ?_
    obtain ⟨g5, h⟩ := sw_gd_e h
    refine sw_iaload (a := 67) (by decide) rfl (sw_in_e g5) (by decide +kernel) ?_
    obtain ⟨g6, h⟩ := sw_gd_e h
    obtain ⟨m7, e8, h⟩ := sw_let_e h
    refine sw_iastore (a := 67) (by decide) rfl (sw_in_e g6) (by decide +kernel) ?_
    refine sw_mem e8 ?_
    obtain ⟨v9, e10, h⟩ := sw_let_e h
    refine sw_iincv (i := 1) (n := 1) (lv' := [(1, .int v9), (0, .ref 49)]) 1 rfl e10 (by decide +kernel) (by decide) (by decide) rfl ?_
    refine sw_goto (off := (-25)) 11 (by decide +kernel) (by decide) ?_
    cases h
    refine sw_lv [1, 0] rfl ?_
    exact hk
set_option maxRecDepth 20000 in
theorem sX10_act {l : Launch} {E : sw_E} {K : Nat} (hK : 1 ≤ K) (σ : sw_M) {res : sw_M} (h : fX10_act σ = some res) : sw_Ct l E K yX10_act cX10_act 2 none [.ref 49] σ none res := by
  obtain ⟨t, hk, h⟩ : ∃ t, t = res ∧ fX10_act σ = some t := ⟨res, rfl, h⟩
  unfold fX10_act at h
  refine sw_enter2 (own := RX10) (lv := [(0, .ref 49)]) (by decide +kernel) (Nat.le_of_ble_eq_true rfl) rfl rfl ?_
  refine sw_aload_n (k0 := 0) 0 rfl (by decide +kernel) rfl ?_
  refine gf_X10_399 (i := 49) (by decide) rfl (by decide +kernel) ?_
  refine sw_bipush (n := 40) (v := 40) (by decide +kernel) (by decide) ?_
  refine sw_icmp_ne (off := 43) 49 (by decide +kernel) (by decide) (fun c1 => ?_) (fun c1 => ?_)
  · rw [if_neg c1] at h
    exact sX10_act_L49 hK σ h hk
  · rw [if_pos c1] at h
    refine sw_iconst (n := 0) (v := 0) (by decide +kernel) (by decide) ?_
    refine sw_istore_n (k0 := 1) (lv' := [(1, .int 0), (0, .ref 49)]) (by decide +kernel) rfl (by decide) rfl ?_
    refine sw_lv [1, 0] rfl ?_
    exact sw_wh_e (fun s : Int32 × sw_M => sw_Go l E K RX10 cX10_act 2 none 11 [(0, .ref 49), (1, .int s.1)] [] s.2 none res) (fun q => q = res) (fun s => fX10_act_L11 s.2 s.1) (fun s t hb hk => sX10_act_L11 hK s.2 s.1 hb hk) _ _ _ h hk
def fX10_exchange_L2 (σ : sw_M) (a1 : Int32) (a2 : Int32) : Option ((Int32 × sw_M) ⊕ (sw_M)) :=
  if 10 ≤ a2 then
    some (.inr (σ))
  else
    sw_gd (sw_in (a1 + a2) 400) <|
    sw_let (σ.1 67 (a1 + a2).toNatClampNeg) fun v3 =>
    sw_gd (sw_in a2 10) <|
    sw_gd (sw_in (a1 + a2) 400) <|
    sw_let (sw_w σ 67 (a1 + a2).toNatClampNeg (σ.1 65 a2.toNatClampNeg)) fun m7 =>
    sw_gd (sw_in a2 10) <|
    sw_let (sw_w m7 65 a2.toNatClampNeg v3) fun m10 =>
    sw_let (a2 + 1) fun v12 =>
    some (.inl (v12, m10))
def fX10_exchange (σ : sw_M) (a1 : Int32) : Option (sw_M) :=
  sw_wh sw_F (fun s => fX10_exchange_L2 s.2 a1 s.1) (0, σ)
set_option maxRecDepth 20000 in
theorem sX10_exchange_L2 {l : Launch} {E : sw_E} {K : Nat} (hK : 0 ≤ K) (σ : sw_M) (a1 : Int32) (a2 : Int32) {res : sw_M} {t : (Int32 × sw_M) ⊕ (sw_M)} (h : fX10_exchange_L2 σ a1 a2 = some t) (hk : (Sum.elim (fun s : Int32 × sw_M => sw_Go l E K RX10 cX10_exchange 4 none 2 [(0, .ref 49), (1, .int a1), (2, .int s.1)] [] s.2 none res) (fun q => q = res)) t) : sw_Go l E K RX10 cX10_exchange 4 none 2 [(0, .ref 49), (1, .int a1), (2, .int a2)] [] σ none res := by
  unfold fX10_exchange_L2 at h
  refine sw_iload_n (k0 := 2) 2 rfl (by decide +kernel) rfl ?_
  refine sw_bipush (n := 10) (v := 10) (by decide +kernel) (by decide) ?_
  refine sw_icmp_ge (off := 39) 44 (by decide +kernel) (by decide) (fun c1 => ?_) (fun c1 => ?_)
  · rw [if_pos c1] at h
    cases h
    obtain rfl : _ = res := hk
    exact sw_vret (by decide +kernel)
  · rw [if_neg c1] at h
    refine sw_aload_n (k0 := 0) 0 rfl (by decide +kernel) rfl ?_
    refine gf_X10_66 (i := 49) (by decide) rfl (by decide +kernel) ?_
    refine sw_refj 67 rfl ?_
    refine sw_iload_n (k0 := 1) 1 rfl (by decide +kernel) rfl ?_
    refine sw_iload_n (k0 := 2) 2 rfl (by decide +kernel) rfl ?_
    refine sw_iadd (by decide +kernel) ?_
    obtain ⟨g2, h⟩ := sw_gd_e h
    refine sw_iaload (a := 67) (by decide) rfl (sw_in_e g2) (by decide +kernel) ?_
    obtain ⟨v3, e4, h⟩ := sw_let_e h
    refine sw_topi e4 ?_
    refine sw_istore_n (k0 := 3) (lv' := [(3, .int v3), (0, .ref 49), (1, .int a1), (2, .int a2)]) (by decide +kernel) rfl (by decide) rfl ?_
    refine sw_aload_n (k0 := 0) 1 rfl (by decide +kernel) rfl ?_
    refine gf_X10_66 (i := 49) (by decide) rfl (by decide +kernel) ?_
    refine sw_refj 67 rfl ?_
    refine sw_iload_n (k0 := 1) 2 rfl (by decide +kernel) rfl ?_
    refine sw_iload_n (k0 := 2) 3 rfl (by decide +kernel) rfl ?_
    refine sw_iadd (by decide +kernel) ?_
    refine sw_aload_n (k0 := 0) 1 rfl (by decide +kernel) rfl ?_
    refine gf_X10_60 (i := 49) (by decide) rfl (by decide +kernel) ?_
    refine sw_refj 65 rfl ?_
    refine sw_iload_n (k0 := 2) 3 rfl (by decide +kernel) rfl ?_
    obtain ⟨g5, h⟩ := sw_gd_e h
    refine sw_iaload (a := 65) (by decide) rfl (sw_in_e g5) (by decide +kernel) ?_
    obtain ⟨g6, h⟩ := sw_gd_e h
    obtain ⟨m7, e8, h⟩ := sw_let_e h
    refine sw_iastore (a := 67) (by decide) rfl (sw_in_e g6) (by decide +kernel) ?_
    refine sw_mem e8 ?_
    refine sw_aload_n (k0 := 0) 1 rfl (by decide +kernel) rfl ?_
    refine gf_X10_60 (i := 49) (by decide) rfl (by decide +kernel) ?_
    refine sw_refj 65 rfl ?_
    refine sw_iload_n (k0 := 2) 3 rfl (by decide +kernel) rfl ?_
    refine sw_iload_n (k0 := 3) 0 rfl (by decide +kernel) rfl ?_
    obtain ⟨g9, h⟩ := sw_gd_e h
    obtain ⟨m10, e11, h⟩ := sw_let_e h
    refine sw_iastore (a := 65) (by decide) rfl (sw_in_e g9) (by decide +kernel) ?_
    refine sw_mem e11 ?_
    obtain ⟨v12, e13, h⟩ := sw_let_e h
    refine sw_iincv (i := 2) (n := 1) (lv' := [(2, .int v12), (3, .int v3), (0, .ref 49), (1, .int a1)]) 3 rfl e13 (by decide +kernel) (by decide) (by decide) rfl ?_
    refine sw_goto (off := (-39)) 2 (by decide +kernel) (by decide) ?_
    cases h
    refine sw_lv [2, 3, 0] rfl ?_
    exact hk
set_option maxRecDepth 20000 in
theorem sX10_exchange {l : Launch} {E : sw_E} {K : Nat} (hK : 0 ≤ K) (σ : sw_M) (a1 : Int32) {res : sw_M} (h : fX10_exchange σ a1 = some res) : sw_Ct l E K yX10_exchange cX10_exchange 4 none [.ref 49, .int a1] σ none res := by
  obtain ⟨t, hk, h⟩ : ∃ t, t = res ∧ fX10_exchange σ a1 = some t := ⟨res, rfl, h⟩
  unfold fX10_exchange at h
  refine sw_enter2 (own := RX10) (lv := [(0, .ref 49), (1, .int a1)]) (by decide +kernel) (Nat.le_of_ble_eq_true rfl) rfl rfl ?_
  refine sw_iconst (n := 0) (v := 0) (by decide +kernel) (by decide) ?_
  refine sw_istore_n (k0 := 2) (lv' := [(2, .int 0), (0, .ref 49), (1, .int a1)]) (by decide +kernel) rfl (by decide) rfl ?_
  refine sw_lv [1, 2, 0] rfl ?_
  exact sw_wh_e (fun s : Int32 × sw_M => sw_Go l E K RX10 cX10_exchange 4 none 2 [(0, .ref 49), (1, .int a1), (2, .int s.1)] [] s.2 none res) (fun q => q = res) (fun s => fX10_exchange_L2 s.2 a1 s.1) (fun s t hb hk => sX10_exchange_L2 hK s.2 a1 s.1 hb hk) _ _ _ h hk
def fX10_confess (σ : sw_M) (a1 : Int32) : Option (Int32 × sw_M) :=
  if (fX10_isPerson σ a1) = 0 then
    some (((-1), σ))
  else
    if (fX10_hasTold σ a1) = 0 then
      sw_b1 (fX10_act σ) fun m3 =>
      sw_b1 (fX10_tells m3 a1) fun m5 =>
      sw_b1 (fX10_keepAir m5) fun m7 =>
      sw_b1 (fX10_allOf m7) fun r9 =>
      some ((r9, m7))
    else
      some (((-1), σ))
set_option maxRecDepth 20000 in
theorem sX10_confess {l : Launch} {E : sw_E} {K : Nat} (hK : 2 ≤ K) (σ : sw_M) (a1 : Int32) {res : Int32 × sw_M} (h : fX10_confess σ a1 = some res) : sw_Ct l E K yX10_confess cX10_confess 2 (some .int) [.ref 49, .int a1] σ (some (.int res.1)) res.2 := by
  obtain ⟨t, hk, h⟩ : ∃ t, t = res ∧ fX10_confess σ a1 = some t := ⟨res, rfl, h⟩
  unfold fX10_confess at h
  refine sw_enter2 (own := RX10) (lv := [(0, .ref 49), (1, .int a1)]) (by decide +kernel) (Nat.le_of_ble_eq_true rfl) rfl rfl ?_
  refine sw_aload_n (k0 := 0) 0 rfl (by decide +kernel) rfl ?_
  refine sw_iload_n (k0 := 1) 1 rfl (by decide +kernel) rfl ?_
  refine sw_callVi (ci := 10) (i := 49) [.int a1] (sX10_isPerson (K := K - 1) (by omega) σ a1 rfl) rfl (by omega) rfl gs_X10_436 hy_X10_isPerson (by decide) (by decide) rfl rfl (Nat.le_of_ble_eq_true rfl) (by decide +kernel) ?_
  refine sw_if_eq (off := 11) 16 (by decide +kernel) (by decide) (fun c1 => ?_) (fun c1 => ?_)
  · rw [if_pos c1] at h
    refine sw_iconst (n := (-1)) (v := (-1)) (by decide +kernel) (by decide) ?_
    cases h
    obtain rfl : _ = res := hk
    exact sw_iret (by decide +kernel)
  · rw [if_neg c1] at h
    refine sw_aload_n (k0 := 0) 0 rfl (by decide +kernel) rfl ?_
    refine sw_iload_n (k0 := 1) 1 rfl (by decide +kernel) rfl ?_
    refine sw_callVi (ci := 10) (i := 49) [.int a1] (sX10_hasTold (K := K - 1) (by omega) σ a1 rfl) rfl (by omega) rfl gs_X10_448 hy_X10_hasTold (by decide) (by decide) rfl rfl (Nat.le_of_ble_eq_true rfl) (by decide +kernel) ?_
    refine sw_if_eq (off := 5) 18 (by decide +kernel) (by decide) (fun c2 => ?_) (fun c2 => ?_)
    · rw [if_pos c2] at h
      refine sw_aload_n (k0 := 0) 0 rfl (by decide +kernel) rfl ?_
      obtain ⟨m3, w4, h⟩ := sw_b1_e h
      refine sw_callVv (ci := 10) (i := 49) [] (sX10_act (K := K - 1) (by omega) σ w4) rfl (by omega) rfl gs_X10_451 hy_X10_act (by decide) (by decide) rfl rfl (Nat.le_of_ble_eq_true rfl) (by decide +kernel) ?_
      refine sw_aload_n (k0 := 0) 0 rfl (by decide +kernel) rfl ?_
      refine sw_iload_n (k0 := 1) 1 rfl (by decide +kernel) rfl ?_
      obtain ⟨m5, w6, h⟩ := sw_b1_e h
      refine sw_callVv (ci := 10) (i := 49) [.int a1] (sX10_tells (K := K - 1) (by omega) m3 a1 w6) rfl (by omega) rfl gs_X10_415 hy_X10_tells (by decide) (by decide) rfl rfl (Nat.le_of_ble_eq_true rfl) (by decide +kernel) ?_
      refine sw_aload_n (k0 := 0) 0 rfl (by decide +kernel) rfl ?_
      obtain ⟨m7, w8, h⟩ := sw_b1_e h
      refine sw_callVv (ci := 10) (i := 49) [] (sX10_keepAir (K := K - 1) (by omega) m5 w8) rfl (by omega) rfl gs_X10_454 hy_X10_keepAir (by decide) (by decide) rfl rfl (Nat.le_of_ble_eq_true rfl) (by decide +kernel) ?_
      refine sw_aload_n (k0 := 0) 0 rfl (by decide +kernel) rfl ?_
      obtain ⟨r9, w10, h⟩ := sw_b1_e h
      refine sw_callVi (ci := 10) (i := 49) [] (sX10_allOf (K := K - 1) (by omega) m7 w10) rfl (by omega) rfl gs_X10_294 hy_X10_allOf (by decide) (by decide) rfl rfl (Nat.le_of_ble_eq_true rfl) (by decide +kernel) ?_
      cases h
      obtain rfl : _ = res := hk
      exact sw_iret (by decide +kernel)
    · rw [if_neg c2] at h
      refine sw_iconst (n := (-1)) (v := (-1)) (by decide +kernel) (by decide) ?_
      cases h
      obtain rfl : _ = res := hk
      exact sw_iret (by decide +kernel)
def fX10_boil (σ : sw_M) : Option (Int32 × sw_M) :=
  if (σ.1 65 8) = 999 then
    some (((-1), σ))
  else
    sw_b1 (fX10_act σ) fun m2 =>
    sw_b2 (fX10_goBoiling m2 1) fun r4 m5 =>
    sw_b1 (fX10_keepAir m5) fun m7 =>
    some ((fX10_truth r4, m7))
set_option maxRecDepth 20000 in
theorem sX10_boil {l : Launch} {E : sw_E} {K : Nat} (hK : 5 ≤ K) (σ : sw_M) {res : Int32 × sw_M} (h : fX10_boil σ = some res) : sw_Ct l E K yX10_boil cX10_boil 2 (some .int) [.ref 49] σ (some (.int res.1)) res.2 := by
  obtain ⟨t, hk, h⟩ : ∃ t, t = res ∧ fX10_boil σ = some t := ⟨res, rfl, h⟩
  unfold fX10_boil at h
  refine sw_enter2 (own := RX10) (lv := [(0, .ref 49)]) (by decide +kernel) (Nat.le_of_ble_eq_true rfl) rfl rfl ?_
  refine sw_aload_n (k0 := 0) 0 rfl (by decide +kernel) rfl ?_
  refine gf_X10_60 (i := 49) (by decide) rfl (by decide +kernel) ?_
  refine sw_refj 65 rfl ?_
  refine sw_bipush (n := 8) (v := 8) (by decide +kernel) (by decide) ?_
  refine sw_iaload (a := 65) (by decide) rfl (sw_in_e (by decide)) (by decide +kernel) ?_
  refine sw_topi (x := σ.1 65 8) rfl ?_
  refine sw_sipush (n := 999) (v := 999) (by decide +kernel) (by decide) ?_
  refine sw_icmp_ne (off := 5) 15 (by decide +kernel) (by decide) (fun c1 => ?_) (fun c1 => ?_)
  · rw [if_neg c1] at h
    refine sw_aload_n (k0 := 0) 0 rfl (by decide +kernel) rfl ?_
    obtain ⟨m2, w3, h⟩ := sw_b1_e h
    refine sw_callVv (ci := 10) (i := 49) [] (sX10_act (K := K - 1) (by omega) σ w3) rfl (by omega) rfl gs_X10_451 hy_X10_act (by decide) (by decide) rfl rfl (Nat.le_of_ble_eq_true rfl) (by decide +kernel) ?_
    refine sw_aload_n (k0 := 0) 0 rfl (by decide +kernel) rfl ?_
    refine sw_iconst (n := 1) (v := 1) (by decide +kernel) (by decide) ?_
    obtain ⟨r4, m5, w6, h⟩ := sw_b2_e h
    refine sw_callVi (ci := 10) (i := 49) [.int 1] (sX10_goBoiling (K := K - 1) (by omega) m2 1 w6) rfl (by omega) rfl gs_X10_457 hy_X10_goBoiling (by decide) (by decide) rfl rfl (Nat.le_of_ble_eq_true rfl) (by decide +kernel) ?_
    refine sw_istore_n (k0 := 1) (lv' := [(1, .int r4), (0, .ref 49)]) (by decide +kernel) rfl (by decide) rfl ?_
    refine sw_aload_n (k0 := 0) 1 rfl (by decide +kernel) rfl ?_
    obtain ⟨m7, w8, h⟩ := sw_b1_e h
    refine sw_callVv (ci := 10) (i := 49) [] (sX10_keepAir (K := K - 1) (by omega) m5 w8) rfl (by omega) rfl gs_X10_454 hy_X10_keepAir (by decide) (by decide) rfl rfl (Nat.le_of_ble_eq_true rfl) (by decide +kernel) ?_
    refine sw_iload_n (k0 := 1) 0 rfl (by decide +kernel) rfl ?_
    refine sw_callSi [.int r4] (sX10_truth (K := K - 1) (by omega) m7 r4 rfl) rfl (by omega) gs_X10_287 hy_X10_truth (by decide) rfl (Nat.le_of_ble_eq_true rfl) (by decide +kernel) ?_
    cases h
    obtain rfl : _ = res := hk
    exact sw_iret (by decide +kernel)
  · rw [if_pos c1] at h
    refine sw_iconst (n := (-1)) (v := (-1)) (by decide +kernel) (by decide) ?_
    cases h
    obtain rfl : _ = res := hk
    exact sw_iret (by decide +kernel)
def fX10_holds_L40 (σ : sw_M) (a1 : Int32) (a3 : Int32) (b0 : Int32) : Option ((Int32 × Int32) ⊕ (Int32)) :=
  sw_let (a3 + 1) fun v1 =>
  some (.inl (b0, v1))
def fX10_holds_L39 (σ : sw_M) (a1 : Int32) (a3 : Int32) : Option ((Int32 × Int32) ⊕ (Int32)) :=
  fX10_holds_L40 σ a1 a3 0
def fX10_holds_L4 (σ : sw_M) (a1 : Int32) (a2 : Int32) (a3 : Int32) : Option ((Int32 × Int32) ⊕ (Int32)) :=
  if (σ.1 49 40) ≤ a3 then
    sw_gd (sw_bo a2) <|
    some (.inr (a2))
  else
    if a2 = 0 then
      fX10_holds_L39 σ a1 a3
    else
      sw_gd (sw_in a3 10) <|
      sw_gd (sw_in ((5 * a1) + a3) 20) <|
      if (σ.1 66 a3.toNatClampNeg) < (σ.1 63 ((5 * a1) + a3).toNatClampNeg) then
        fX10_holds_L39 σ a1 a3
      else
        fX10_holds_L40 σ a1 a3 1
def fX10_holds (σ : sw_M) (a1 : Int32) : Option (Int32) :=
  sw_wh sw_F (fun s => fX10_holds_L4 σ a1 s.1 s.2) (1, 0)
set_option maxRecDepth 20000 in
theorem sX10_holds_L40 {l : Launch} {E : sw_E} {K : Nat} (hK : 0 ≤ K) (σ : sw_M) (a1 : Int32) (a3 : Int32) (b0 : Int32) {res : Int32} {t : (Int32 × Int32) ⊕ (Int32)} (h : fX10_holds_L40 σ a1 a3 b0 = some t) (hk : (Sum.elim (fun s : Int32 × Int32 => sw_Go l E K RX10 cX10_holds 4 (some .boolean) 4 [(0, .ref 49), (1, .int a1), (2, .int s.1), (3, .int s.2)] [] σ (some (.int res)) σ) (fun q => q = res)) t) : sw_Go l E K RX10 cX10_holds 4 (some .boolean) 40 [(0, .ref 49), (1, .int a1), (3, .int a3)] [.int b0] σ (some (.int res)) σ := by
  unfold fX10_holds_L40 at h
  refine sw_istore_n (k0 := 2) (lv' := [(2, .int b0), (0, .ref 49), (1, .int a1), (3, .int a3)]) (by decide +kernel) rfl (by decide) rfl ?_
  obtain ⟨v1, e2, h⟩ := sw_let_e h
  refine sw_iincv (i := 3) (n := 1) (lv' := [(3, .int v1), (2, .int b0), (0, .ref 49), (1, .int a1)]) 3 rfl e2 (by decide +kernel) (by decide) (by decide) rfl ?_
  refine sw_goto (off := (-40)) 4 (by decide +kernel) (by decide) ?_
  cases h
  refine sw_lv [2, 3, 1, 0] rfl ?_
  exact hk
set_option maxRecDepth 20000 in
theorem sX10_holds_L39 {l : Launch} {E : sw_E} {K : Nat} (hK : 0 ≤ K) (σ : sw_M) (a1 : Int32) (a3 : Int32) {res : Int32} {t : (Int32 × Int32) ⊕ (Int32)} (h : fX10_holds_L39 σ a1 a3 = some t) (hk : (Sum.elim (fun s : Int32 × Int32 => sw_Go l E K RX10 cX10_holds 4 (some .boolean) 4 [(0, .ref 49), (1, .int a1), (2, .int s.1), (3, .int s.2)] [] σ (some (.int res)) σ) (fun q => q = res)) t) : sw_Go l E K RX10 cX10_holds 4 (some .boolean) 39 [(0, .ref 49), (1, .int a1), (3, .int a3)] [] σ (some (.int res)) σ := by
  unfold fX10_holds_L39 at h
  refine sw_iconst (n := 0) (v := 0) (by decide +kernel) (by decide) ?_
  exact sX10_holds_L40 hK σ a1 a3 0 h hk
set_option maxRecDepth 20000 in
theorem sX10_holds_L4 {l : Launch} {E : sw_E} {K : Nat} (hK : 0 ≤ K) (σ : sw_M) (a1 : Int32) (a2 : Int32) (a3 : Int32) {res : Int32} {t : (Int32 × Int32) ⊕ (Int32)} (h : fX10_holds_L4 σ a1 a2 a3 = some t) (hk : (Sum.elim (fun s : Int32 × Int32 => sw_Go l E K RX10 cX10_holds 4 (some .boolean) 4 [(0, .ref 49), (1, .int a1), (2, .int s.1), (3, .int s.2)] [] σ (some (.int res)) σ) (fun q => q = res)) t) : sw_Go l E K RX10 cX10_holds 4 (some .boolean) 4 [(0, .ref 49), (1, .int a1), (2, .int a2), (3, .int a3)] [] σ (some (.int res)) σ := by
  unfold fX10_holds_L4 at h
  refine sw_iload_n (k0 := 3) 3 rfl (by decide +kernel) rfl ?_
  refine sw_aload_n (k0 := 0) 0 rfl (by decide +kernel) rfl ?_
  refine gf_X10_291 (i := 49) (by decide) rfl (by decide +kernel) ?_
  refine sw_icmp_ge (off := 38) 47 (by decide +kernel) (by decide) (fun c1 => ?_) (fun c1 => ?_)
  · rw [if_pos c1] at h
    refine sw_iload_n (k0 := 2) 2 rfl (by decide +kernel) rfl ?_
    obtain ⟨g2, h⟩ := sw_gd_e h
    cases h
    obtain rfl : _ = res := hk
    exact sw_zret (sw_bo_n (sw_bo_e g2)) (by decide +kernel)
  · rw [if_neg c1] at h
    refine sw_iload_n (k0 := 2) 2 rfl (by decide +kernel) rfl ?_
    refine sw_if_eq (off := 26) 39 (by decide +kernel) (by decide) (fun c3 => ?_) (fun c3 => ?_)
    · rw [if_pos c3] at h
      refine sw_lv [0, 1, 3] rfl ?_
      exact sX10_holds_L39 hK σ a1 a3 h hk
    · rw [if_neg c3] at h
      refine sw_aload_n (k0 := 0) 0 rfl (by decide +kernel) rfl ?_
      refine gf_X10_63 (i := 49) (by decide) rfl (by decide +kernel) ?_
      refine sw_refj 66 rfl ?_
      refine sw_iload_n (k0 := 3) 3 rfl (by decide +kernel) rfl ?_
      obtain ⟨g4, h⟩ := sw_gd_e h
      refine sw_iaload (a := 66) (by decide) rfl (sw_in_e g4) (by decide +kernel) ?_
      refine sw_aload_n (k0 := 0) 0 rfl (by decide +kernel) rfl ?_
      refine gf_X10_54 (i := 49) (by decide) rfl (by decide +kernel) ?_
      refine sw_refj 63 rfl ?_
      refine sw_iconst (n := 5) (v := 5) (by decide +kernel) (by decide) ?_
      refine sw_iload_n (k0 := 1) 1 rfl (by decide +kernel) rfl ?_
      refine sw_imul (by decide +kernel) ?_
      refine sw_iload_n (k0 := 3) 3 rfl (by decide +kernel) rfl ?_
      refine sw_iadd (by decide +kernel) ?_
      obtain ⟨g5, h⟩ := sw_gd_e h
      refine sw_iaload (a := 63) (by decide) rfl (sw_in_e g5) (by decide +kernel) ?_
      refine sw_icmp_lt (off := 7) 39 (by decide +kernel) (by decide) (fun c6 => ?_) (fun c6 => ?_)
      · rw [if_pos c6] at h
        refine sw_lv [0, 1, 3] rfl ?_
        exact sX10_holds_L39 hK σ a1 a3 h hk
      · rw [if_neg c6] at h
        refine sw_iconst (n := 1) (v := 1) (by decide +kernel) (by decide) ?_
        refine sw_goto (off := 4) 40 (by decide +kernel) (by decide) ?_
        refine sw_lv [0, 1, 3] rfl ?_
        exact sX10_holds_L40 hK σ a1 a3 1 h hk
set_option maxRecDepth 20000 in
theorem sX10_holds {l : Launch} {E : sw_E} {K : Nat} (hK : 0 ≤ K) (σ : sw_M) (a1 : Int32) {res : Int32} (h : fX10_holds σ a1 = some res) : sw_Ct l E K yX10_holds cX10_holds 4 (some .boolean) [.ref 49, .int a1] σ (some (.int res)) σ := by
  obtain ⟨t, hk, h⟩ : ∃ t, t = res ∧ fX10_holds σ a1 = some t := ⟨res, rfl, h⟩
  unfold fX10_holds at h
  refine sw_enter2 (own := RX10) (lv := [(0, .ref 49), (1, .int a1)]) (by decide +kernel) (Nat.le_of_ble_eq_true rfl) rfl rfl ?_
  refine sw_iconst (n := 1) (v := 1) (by decide +kernel) (by decide) ?_
  refine sw_istore_n (k0 := 2) (lv' := [(2, .int 1), (0, .ref 49), (1, .int a1)]) (by decide +kernel) rfl (by decide) rfl ?_
  refine sw_iconst (n := 0) (v := 0) (by decide +kernel) (by decide) ?_
  refine sw_istore_n (k0 := 3) (lv' := [(3, .int 0), (2, .int 1), (0, .ref 49), (1, .int a1)]) (by decide +kernel) rfl (by decide) rfl ?_
  refine sw_lv [2, 3, 1, 0] rfl ?_
  exact sw_wh_e (fun s : Int32 × Int32 => sw_Go l E K RX10 cX10_holds 4 (some .boolean) 4 [(0, .ref 49), (1, .int a1), (2, .int s.1), (3, .int s.2)] [] σ (some (.int res)) σ) (fun q => q = res) (fun s => fX10_holds_L4 σ a1 s.1 s.2) (fun s t hb hk => sX10_holds_L4 hK σ a1 s.1 s.2 hb hk) _ _ _ h hk
def fX10_wash_L36 (σ : sw_M) (a1 : Int32) (a2 : Int32) : Option ((Int32 × sw_M) ⊕ (Int32 × sw_M)) :=
  if (σ.1 49 40) ≤ a2 then
    sw_let (sw_w σ 66 6 ((σ.1 66 6) ||| (1 <<< (a1 &&& 31)))) fun m2 =>
    sw_b1 (fX10_keepAir m2) fun m4 =>
    sw_b1 (fX10_allOf m4) fun r6 =>
    some (.inr ((r6, m4)))
  else
    sw_gd (sw_in a2 10) <|
    sw_gd (sw_in ((5 * a1) + a2) 20) <|
    sw_gd (sw_in a2 10) <|
    sw_let (sw_w σ 66 a2.toNatClampNeg ((σ.1 66 a2.toNatClampNeg) - (σ.1 63 ((5 * a1) + a2).toNatClampNeg))) fun m11 =>
    sw_let (a2 + 1) fun v13 =>
    some (.inl (v13, m11))
def fX10_wash (σ : sw_M) (a1 : Int32) : Option (Int32 × sw_M) :=
  sw_b1 (fX10_fill σ) fun m1 =>
  if (fX10_isBasin m1 a1) = 0 then
    some (((-1), m1))
  else
    if (fX10_isEased m1 a1) = 0 then
      sw_b1 (fX10_holds m1 a1) fun r5 =>
      if r5 = 0 then
        some (((-1), m1))
      else
        sw_b1 (fX10_act m1) fun m8 =>
        sw_wh sw_F (fun s => fX10_wash_L36 s.2 a1 s.1) (0, m8)
    else
      some (((-1), m1))
set_option maxRecDepth 20000 in
theorem sX10_wash_L36 {l : Launch} {E : sw_E} {K : Nat} (hK : 2 ≤ K) (σ : sw_M) (a1 : Int32) (a2 : Int32) {res : Int32 × sw_M} {t : (Int32 × sw_M) ⊕ (Int32 × sw_M)} (h : fX10_wash_L36 σ a1 a2 = some t) (hk : (Sum.elim (fun s : Int32 × sw_M => sw_Go l E K RX10 cX10_wash 3 (some .int) 36 [(0, .ref 49), (1, .int a1), (2, .int s.1)] [] s.2 (some (.int res.1)) res.2) (fun q => q = res)) t) : sw_Go l E K RX10 cX10_wash 3 (some .int) 36 [(0, .ref 49), (1, .int a1), (2, .int a2)] [] σ (some (.int res.1)) res.2 := by
  unfold fX10_wash_L36 at h
  refine sw_iload_n (k0 := 2) 2 rfl (by decide +kernel) rfl ?_
  refine sw_aload_n (k0 := 0) 0 rfl (by decide +kernel) rfl ?_
  refine gf_X10_291 (i := 49) (by decide) rfl (by decide +kernel) ?_
  refine sw_icmp_ge (off := 28) 69 (by decide +kernel) (by decide) (fun c1 => ?_) (fun c1 => ?_)
  · rw [if_pos c1] at h
    refine sw_aload_n (k0 := 0) 0 rfl (by decide +kernel) rfl ?_
    refine gf_X10_63 (i := 49) (by decide) rfl (by decide +kernel) ?_
    refine sw_refj 66 rfl ?_
    refine sw_bipush (n := 6) (v := 6) (by decide +kernel) (by decide) ?_
    refine sw_dup2 (by decide +kernel) rfl rfl ?_
    refine sw_iaload (a := 66) (by decide) rfl (sw_in_e (by decide)) (by decide +kernel) ?_
    refine sw_topi (x := σ.1 66 6) rfl ?_
    refine sw_iconst (n := 1) (v := 1) (by decide +kernel) (by decide) ?_
    refine sw_iload_n (k0 := 1) 1 rfl (by decide +kernel) rfl ?_
    refine sw_ishl (by decide +kernel) ?_
    refine sw_ior (by decide +kernel) ?_
    obtain ⟨m2, e3, h⟩ := sw_let_e h
    refine sw_iastore (a := 66) (by decide) rfl (sw_in_e (by decide)) (by decide +kernel) ?_
    refine sw_mem (e3.trans (show sw_w σ 66 6 ((σ.1 66 6) ||| (1 <<< (a1 &&& 31))) = sw_w σ 66 (6 : Int32).toNatClampNeg ((σ.1 66 6) ||| (1 <<< (a1 &&& 31))) from rfl)) ?_
    refine sw_aload_n (k0 := 0) 0 rfl (by decide +kernel) rfl ?_
    obtain ⟨m4, w5, h⟩ := sw_b1_e h
    refine sw_callVv (ci := 10) (i := 49) [] (sX10_keepAir (K := K - 1) (by omega) m2 w5) rfl (by omega) rfl gs_X10_454 hy_X10_keepAir (by decide) (by decide) rfl rfl (Nat.le_of_ble_eq_true rfl) (by decide +kernel) ?_
    refine sw_aload_n (k0 := 0) 0 rfl (by decide +kernel) rfl ?_
    obtain ⟨r6, w7, h⟩ := sw_b1_e h
    refine sw_callVi (ci := 10) (i := 49) [] (sX10_allOf (K := K - 1) (by omega) m4 w7) rfl (by omega) rfl gs_X10_294 hy_X10_allOf (by decide) (by decide) rfl rfl (Nat.le_of_ble_eq_true rfl) (by decide +kernel) ?_
    cases h
    obtain rfl : _ = res := hk
    exact sw_iret (by decide +kernel)
  · rw [if_neg c1] at h
    refine sw_aload_n (k0 := 0) 0 rfl (by decide +kernel) rfl ?_
    refine gf_X10_63 (i := 49) (by decide) rfl (by decide +kernel) ?_
    refine sw_refj 66 rfl ?_
    refine sw_iload_n (k0 := 2) 2 rfl (by decide +kernel) rfl ?_
    refine sw_dup2 (by decide +kernel) rfl rfl ?_
    obtain ⟨g8, h⟩ := sw_gd_e h
    refine sw_iaload (a := 66) (by decide) rfl (sw_in_e g8) (by decide +kernel) ?_
    refine sw_aload_n (k0 := 0) 0 rfl (by decide +kernel) rfl ?_
    refine gf_X10_54 (i := 49) (by decide) rfl (by decide +kernel) ?_
    refine sw_refj 63 rfl ?_
    refine sw_iconst (n := 5) (v := 5) (by decide +kernel) (by decide) ?_
    refine sw_iload_n (k0 := 1) 1 rfl (by decide +kernel) rfl ?_
    refine sw_imul (by decide +kernel) ?_
    refine sw_iload_n (k0 := 2) 2 rfl (by decide +kernel) rfl ?_
    refine sw_iadd (by decide +kernel) ?_
    obtain ⟨g9, h⟩ := sw_gd_e h
    refine sw_iaload (a := 63) (by decide) rfl (sw_in_e g9) (by decide +kernel) ?_
    refine sw_isub (by decide +kernel) ?_
    obtain ⟨g10, h⟩ := sw_gd_e h
    obtain ⟨m11, e12, h⟩ := sw_let_e h
    refine sw_iastore (a := 66) (by decide) rfl (sw_in_e g10) (by decide +kernel) ?_
    refine sw_mem e12 ?_
    obtain ⟨v13, e14, h⟩ := sw_let_e h
    refine sw_iincv (i := 2) (n := 1) (lv' := [(2, .int v13), (0, .ref 49), (1, .int a1)]) 2 rfl e14 (by decide +kernel) (by decide) (by decide) rfl ?_
    refine sw_goto (off := (-30)) 36 (by decide +kernel) (by decide) ?_
    cases h
    refine sw_lv [1, 2, 0] rfl ?_
    exact hk
set_option maxRecDepth 20000 in
theorem sX10_wash {l : Launch} {E : sw_E} {K : Nat} (hK : 2 ≤ K) (σ : sw_M) (a1 : Int32) {res : Int32 × sw_M} (h : fX10_wash σ a1 = some res) : sw_Ct l E K yX10_wash cX10_wash 3 (some .int) [.ref 49, .int a1] σ (some (.int res.1)) res.2 := by
  obtain ⟨t, hk, h⟩ : ∃ t, t = res ∧ fX10_wash σ a1 = some t := ⟨res, rfl, h⟩
  unfold fX10_wash at h
  refine sw_enter2 (own := RX10) (lv := [(0, .ref 49), (1, .int a1)]) (by decide +kernel) (Nat.le_of_ble_eq_true rfl) rfl rfl ?_
  refine sw_aload_n (k0 := 0) 0 rfl (by decide +kernel) rfl ?_
  obtain ⟨m1, w2, h⟩ := sw_b1_e h
  refine sw_callVv (ci := 10) (i := 49) [] (sX10_fill (K := K - 1) (by omega) σ w2) rfl (by omega) rfl gs_X10_445 hy_X10_fill (by decide) (by decide) rfl rfl (Nat.le_of_ble_eq_true rfl) (by decide +kernel) ?_
  refine sw_aload_n (k0 := 0) 0 rfl (by decide +kernel) rfl ?_
  refine sw_iload_n (k0 := 1) 1 rfl (by decide +kernel) rfl ?_
  refine sw_callVi (ci := 10) (i := 49) [.int a1] (sX10_isBasin (K := K - 1) (by omega) m1 a1 rfl) rfl (by omega) rfl gs_X10_439 hy_X10_isBasin (by decide) (by decide) rfl rfl (Nat.le_of_ble_eq_true rfl) (by decide +kernel) ?_
  refine sw_if_eq (off := 19) 28 (by decide +kernel) (by decide) (fun c3 => ?_) (fun c3 => ?_)
  · rw [if_pos c3] at h
    refine sw_iconst (n := (-1)) (v := (-1)) (by decide +kernel) (by decide) ?_
    cases h
    obtain rfl : _ = res := hk
    exact sw_iret (by decide +kernel)
  · rw [if_neg c3] at h
    refine sw_aload_n (k0 := 0) 0 rfl (by decide +kernel) rfl ?_
    refine sw_iload_n (k0 := 1) 1 rfl (by decide +kernel) rfl ?_
    refine sw_callVi (ci := 10) (i := 49) [.int a1] (sX10_isEased (K := K - 1) (by omega) m1 a1 rfl) rfl (by omega) rfl gs_X10_461 hy_X10_isEased (by decide) (by decide) rfl rfl (Nat.le_of_ble_eq_true rfl) (by decide +kernel) ?_
    refine sw_if_ne (off := 11) 28 (by decide +kernel) (by decide) (fun c4 => ?_) (fun c4 => ?_)
    · rw [if_neg c4] at h
      refine sw_iconst (n := (-1)) (v := (-1)) (by decide +kernel) (by decide) ?_
      cases h
      obtain rfl : _ = res := hk
      exact sw_iret (by decide +kernel)
    · rw [if_pos c4] at h
      refine sw_aload_n (k0 := 0) 0 rfl (by decide +kernel) rfl ?_
      refine sw_iload_n (k0 := 1) 1 rfl (by decide +kernel) rfl ?_
      obtain ⟨r5, w6, h⟩ := sw_b1_e h
      refine sw_callVi (ci := 10) (i := 49) [.int a1] (sX10_holds (K := K - 1) (by omega) m1 a1 w6) rfl (by omega) rfl gs_X10_464 hy_X10_holds (by decide) (by decide) rfl rfl (Nat.le_of_ble_eq_true rfl) (by decide +kernel) ?_
      refine sw_if_ne (off := 5) 30 (by decide +kernel) (by decide) (fun c7 => ?_) (fun c7 => ?_)
      · rw [if_neg c7] at h
        refine sw_aload_n (k0 := 0) 0 rfl (by decide +kernel) rfl ?_
        obtain ⟨m8, w9, h⟩ := sw_b1_e h
        refine sw_callVv (ci := 10) (i := 49) [] (sX10_act (K := K - 1) (by omega) m1 w9) rfl (by omega) rfl gs_X10_451 hy_X10_act (by decide) (by decide) rfl rfl (Nat.le_of_ble_eq_true rfl) (by decide +kernel) ?_
        refine sw_iconst (n := 0) (v := 0) (by decide +kernel) (by decide) ?_
        refine sw_istore_n (k0 := 2) (lv' := [(2, .int 0), (0, .ref 49), (1, .int a1)]) (by decide +kernel) rfl (by decide) rfl ?_
        refine sw_lv [1, 2, 0] rfl ?_
        exact sw_wh_e (fun s : Int32 × sw_M => sw_Go l E K RX10 cX10_wash 3 (some .int) 36 [(0, .ref 49), (1, .int a1), (2, .int s.1)] [] s.2 (some (.int res.1)) res.2) (fun q => q = res) (fun s => fX10_wash_L36 s.2 a1 s.1) (fun s t hb hk => sX10_wash_L36 hK s.2 a1 s.1 hb hk) _ _ _ h hk
      · rw [if_pos c7] at h
        refine sw_iconst (n := (-1)) (v := (-1)) (by decide +kernel) (by decide) ?_
        cases h
        obtain rfl : _ = res := hk
        exact sw_iret (by decide +kernel)
def fX10_sweep (σ : sw_M) (a1 : Int32) : Option (Int32 × sw_M) :=
  if (fX10_isKind σ a1) = 0 then
    some (((-1), σ))
  else
    sw_gd (sw_in a1 10) <|
    if (σ.1 65 a1.toNatClampNeg) = 0 then
      some (((-1), σ))
    else
      sw_b1 (fX10_act σ) fun m4 =>
      sw_gd (sw_in a1 10) <|
      sw_let (m4.1 65 a1.toNatClampNeg) fun v7 =>
      sw_gd (sw_in a1 10) <|
      sw_let (sw_w m4 65 a1.toNatClampNeg 0) fun m10 =>
      some ((v7, m10))
set_option maxRecDepth 20000 in
theorem sX10_sweep {l : Launch} {E : sw_E} {K : Nat} (hK : 2 ≤ K) (σ : sw_M) (a1 : Int32) {res : Int32 × sw_M} (h : fX10_sweep σ a1 = some res) : sw_Ct l E K yX10_sweep cX10_sweep 3 (some .int) [.ref 49, .int a1] σ (some (.int res.1)) res.2 := by
  obtain ⟨t, hk, h⟩ : ∃ t, t = res ∧ fX10_sweep σ a1 = some t := ⟨res, rfl, h⟩
  unfold fX10_sweep at h
  refine sw_enter2 (own := RX10) (lv := [(0, .ref 49), (1, .int a1)]) (by decide +kernel) (Nat.le_of_ble_eq_true rfl) rfl rfl ?_
  refine sw_aload_n (k0 := 0) 0 rfl (by decide +kernel) rfl ?_
  refine sw_iload_n (k0 := 1) 1 rfl (by decide +kernel) rfl ?_
  refine sw_callVi (ci := 10) (i := 49) [.int a1] (sX10_isKind (K := K - 1) (by omega) σ a1 rfl) rfl (by omega) rfl gs_X10_433 hy_X10_isKind (by decide) (by decide) rfl rfl (Nat.le_of_ble_eq_true rfl) (by decide +kernel) ?_
  refine sw_if_eq (off := 12) 17 (by decide +kernel) (by decide) (fun c1 => ?_) (fun c1 => ?_)
  · rw [if_pos c1] at h
    refine sw_iconst (n := (-1)) (v := (-1)) (by decide +kernel) (by decide) ?_
    cases h
    obtain rfl : _ = res := hk
    exact sw_iret (by decide +kernel)
  · rw [if_neg c1] at h
    refine sw_aload_n (k0 := 0) 0 rfl (by decide +kernel) rfl ?_
    refine gf_X10_60 (i := 49) (by decide) rfl (by decide +kernel) ?_
    refine sw_refj 65 rfl ?_
    refine sw_iload_n (k0 := 1) 1 rfl (by decide +kernel) rfl ?_
    obtain ⟨g2, h⟩ := sw_gd_e h
    refine sw_iaload (a := 65) (by decide) rfl (sw_in_e g2) (by decide +kernel) ?_
    refine sw_if_ne (off := 5) 19 (by decide +kernel) (by decide) (fun c3 => ?_) (fun c3 => ?_)
    · rw [if_neg c3] at h
      refine sw_aload_n (k0 := 0) 0 rfl (by decide +kernel) rfl ?_
      obtain ⟨m4, w5, h⟩ := sw_b1_e h
      refine sw_callVv (ci := 10) (i := 49) [] (sX10_act (K := K - 1) (by omega) σ w5) rfl (by omega) rfl gs_X10_451 hy_X10_act (by decide) (by decide) rfl rfl (Nat.le_of_ble_eq_true rfl) (by decide +kernel) ?_
      refine sw_aload_n (k0 := 0) 0 rfl (by decide +kernel) rfl ?_
      refine gf_X10_60 (i := 49) (by decide) rfl (by decide +kernel) ?_
      refine sw_refj 65 rfl ?_
      refine sw_iload_n (k0 := 1) 1 rfl (by decide +kernel) rfl ?_
      obtain ⟨g6, h⟩ := sw_gd_e h
      refine sw_iaload (a := 65) (by decide) rfl (sw_in_e g6) (by decide +kernel) ?_
      obtain ⟨v7, e8, h⟩ := sw_let_e h
      refine sw_topi e8 ?_
      refine sw_istore_n (k0 := 2) (lv' := [(2, .int v7), (0, .ref 49), (1, .int a1)]) (by decide +kernel) rfl (by decide) rfl ?_
      refine sw_aload_n (k0 := 0) 1 rfl (by decide +kernel) rfl ?_
      refine gf_X10_60 (i := 49) (by decide) rfl (by decide +kernel) ?_
      refine sw_refj 65 rfl ?_
      refine sw_iload_n (k0 := 1) 2 rfl (by decide +kernel) rfl ?_
      refine sw_iconst (n := 0) (v := 0) (by decide +kernel) (by decide) ?_
      obtain ⟨g9, h⟩ := sw_gd_e h
      obtain ⟨m10, e11, h⟩ := sw_let_e h
      refine sw_iastore (a := 65) (by decide) rfl (sw_in_e g9) (by decide +kernel) ?_
      refine sw_mem e11 ?_
      refine sw_iload_n (k0 := 2) 0 rfl (by decide +kernel) rfl ?_
      cases h
      obtain rfl : _ = res := hk
      exact sw_iret (by decide +kernel)
    · rw [if_pos c3] at h
      refine sw_iconst (n := (-1)) (v := (-1)) (by decide +kernel) (by decide) ?_
      cases h
      obtain rfl : _ = res := hk
      exact sw_iret (by decide +kernel)
def fX10_undo (σ : sw_M) : Option (Int32 × sw_M) :=
  if (σ.1 49 52) = 0 then
    some ((0, σ))
  else
    sw_let (sw_w σ 49 52 ((σ.1 49 52) - 1)) fun m2 =>
    sw_let (sw_w m2 49 53 ((m2.1 49 53) + 1)) fun m4 =>
    sw_b1 (fX10_exchange m4 (10 * (m4.1 49 52))) fun m6 =>
    some ((1, m6))
set_option maxRecDepth 20000 in
theorem sX10_undo {l : Launch} {E : sw_E} {K : Nat} (hK : 1 ≤ K) (σ : sw_M) {res : Int32 × sw_M} (h : fX10_undo σ = some res) : sw_Ct l E K yX10_undo cX10_undo 1 (some .boolean) [.ref 49] σ (some (.int res.1)) res.2 := by
  obtain ⟨t, hk, h⟩ : ∃ t, t = res ∧ fX10_undo σ = some t := ⟨res, rfl, h⟩
  unfold fX10_undo at h
  refine sw_enter2 (own := RX10) (lv := [(0, .ref 49)]) (by decide +kernel) (Nat.le_of_ble_eq_true rfl) rfl rfl ?_
  refine sw_aload_n (k0 := 0) 0 rfl (by decide +kernel) rfl ?_
  refine gf_X10_399 (i := 49) (by decide) rfl (by decide +kernel) ?_
  refine sw_if_ne (off := 5) 9 (by decide +kernel) (by decide) (fun c1 => ?_) (fun c1 => ?_)
  · rw [if_neg c1] at h
    refine sw_aload_n (k0 := 0) 0 rfl (by decide +kernel) rfl ?_
    refine sw_dup (by decide +kernel) rfl ?_
    refine gf_X10_399 (i := 49) (by decide) rfl (by decide +kernel) ?_
    refine sw_iconst (n := 1) (v := 1) (by decide +kernel) (by decide) ?_
    refine sw_isub (by decide +kernel) ?_
    obtain ⟨m2, e3, h⟩ := sw_let_e h
    refine pf_X10_399 (by decide) rfl (by decide +kernel) ?_
    refine sw_mem e3 ?_
    refine sw_aload_n (k0 := 0) 0 rfl (by decide +kernel) rfl ?_
    refine sw_dup (by decide +kernel) rfl ?_
    refine gf_X10_402 (i := 49) (by decide) rfl (by decide +kernel) ?_
    refine sw_iconst (n := 1) (v := 1) (by decide +kernel) (by decide) ?_
    refine sw_iadd (by decide +kernel) ?_
    obtain ⟨m4, e5, h⟩ := sw_let_e h
    refine pf_X10_402 (by decide) rfl (by decide +kernel) ?_
    refine sw_mem e5 ?_
    refine sw_aload_n (k0 := 0) 0 rfl (by decide +kernel) rfl ?_
    refine sw_bipush (n := 10) (v := 10) (by decide +kernel) (by decide) ?_
    refine sw_aload_n (k0 := 0) 0 rfl (by decide +kernel) rfl ?_
    refine gf_X10_399 (i := 49) (by decide) rfl (by decide +kernel) ?_
    refine sw_imul (by decide +kernel) ?_
    obtain ⟨m6, w7, h⟩ := sw_b1_e h
    refine sw_callVv (ci := 10) (i := 49) [.int (10 * (m4.1 49 52))] (sX10_exchange (K := K - 1) (by omega) m4 (10 * (m4.1 49 52)) w7) rfl (by omega) rfl gs_X10_467 hy_X10_exchange (by decide) (by decide) rfl rfl (Nat.le_of_ble_eq_true rfl) (by decide +kernel) ?_
    refine sw_iconst (n := 1) (v := 1) (by decide +kernel) (by decide) ?_
    cases h
    obtain rfl : _ = res := hk
    exact sw_zret rfl (by decide +kernel)
  · rw [if_pos c1] at h
    refine sw_iconst (n := 0) (v := 0) (by decide +kernel) (by decide) ?_
    cases h
    obtain rfl : _ = res := hk
    exact sw_zret rfl (by decide +kernel)
def fX10_redo (σ : sw_M) : Option (Int32 × sw_M) :=
  if (σ.1 49 53) = 0 then
    some ((0, σ))
  else
    sw_b1 (fX10_exchange σ (10 * (σ.1 49 52))) fun m2 =>
    sw_let (sw_w m2 49 52 ((m2.1 49 52) + 1)) fun m4 =>
    sw_let (sw_w m4 49 53 ((m4.1 49 53) - 1)) fun m6 =>
    some ((1, m6))
set_option maxRecDepth 20000 in
theorem sX10_redo {l : Launch} {E : sw_E} {K : Nat} (hK : 1 ≤ K) (σ : sw_M) {res : Int32 × sw_M} (h : fX10_redo σ = some res) : sw_Ct l E K yX10_redo cX10_redo 1 (some .boolean) [.ref 49] σ (some (.int res.1)) res.2 := by
  obtain ⟨t, hk, h⟩ : ∃ t, t = res ∧ fX10_redo σ = some t := ⟨res, rfl, h⟩
  unfold fX10_redo at h
  refine sw_enter2 (own := RX10) (lv := [(0, .ref 49)]) (by decide +kernel) (Nat.le_of_ble_eq_true rfl) rfl rfl ?_
  refine sw_aload_n (k0 := 0) 0 rfl (by decide +kernel) rfl ?_
  refine gf_X10_402 (i := 49) (by decide) rfl (by decide +kernel) ?_
  refine sw_if_ne (off := 5) 9 (by decide +kernel) (by decide) (fun c1 => ?_) (fun c1 => ?_)
  · rw [if_neg c1] at h
    refine sw_aload_n (k0 := 0) 0 rfl (by decide +kernel) rfl ?_
    refine sw_bipush (n := 10) (v := 10) (by decide +kernel) (by decide) ?_
    refine sw_aload_n (k0 := 0) 0 rfl (by decide +kernel) rfl ?_
    refine gf_X10_399 (i := 49) (by decide) rfl (by decide +kernel) ?_
    refine sw_imul (by decide +kernel) ?_
    obtain ⟨m2, w3, h⟩ := sw_b1_e h
    refine sw_callVv (ci := 10) (i := 49) [.int (10 * (σ.1 49 52))] (sX10_exchange (K := K - 1) (by omega) σ (10 * (σ.1 49 52)) w3) rfl (by omega) rfl gs_X10_467 hy_X10_exchange (by decide) (by decide) rfl rfl (Nat.le_of_ble_eq_true rfl) (by decide +kernel) ?_
    refine sw_aload_n (k0 := 0) 0 rfl (by decide +kernel) rfl ?_
    refine sw_dup (by decide +kernel) rfl ?_
    refine gf_X10_399 (i := 49) (by decide) rfl (by decide +kernel) ?_
    refine sw_iconst (n := 1) (v := 1) (by decide +kernel) (by decide) ?_
    refine sw_iadd (by decide +kernel) ?_
    obtain ⟨m4, e5, h⟩ := sw_let_e h
    refine pf_X10_399 (by decide) rfl (by decide +kernel) ?_
    refine sw_mem e5 ?_
    refine sw_aload_n (k0 := 0) 0 rfl (by decide +kernel) rfl ?_
    refine sw_dup (by decide +kernel) rfl ?_
    refine gf_X10_402 (i := 49) (by decide) rfl (by decide +kernel) ?_
    refine sw_iconst (n := 1) (v := 1) (by decide +kernel) (by decide) ?_
    refine sw_isub (by decide +kernel) ?_
    obtain ⟨m6, e7, h⟩ := sw_let_e h
    refine pf_X10_402 (by decide) rfl (by decide +kernel) ?_
    refine sw_mem e7 ?_
    refine sw_iconst (n := 1) (v := 1) (by decide +kernel) (by decide) ?_
    cases h
    obtain rfl : _ = res := hk
    exact sw_zret rfl (by decide +kernel)
  · rw [if_pos c1] at h
    refine sw_iconst (n := 0) (v := 0) (by decide +kernel) (by decide) ?_
    cases h
    obtain rfl : _ = res := hk
    exact sw_zret rfl (by decide +kernel)
def fX10_will_L53 (σ : sw_M) (a1 : Int32) (a2 : Int32) (a3 : Int32) (a4 : Int32) (b0 : Int32) : Option ((Int32 × sw_M) ⊕ (Int32 × sw_M)) :=
  sw_b2 (fX10_goBoiling σ b0) fun r1 m2 =>
  sw_let (a4 + 1) fun v4 =>
  some (.inl (v4, m2))
def fX10_will_L36 (σ : sw_M) (a1 : Int32) (a2 : Int32) (a3 : Int32) (a4 : Int32) : Option ((Int32 × sw_M) ⊕ (Int32 × sw_M)) :=
  if a2 ≤ a4 then
    sw_gd (sw_in a1 10) <|
    some (.inr ((σ.1 66 a1.toNatClampNeg, σ)))
  else
    if a3 = 1 then
      fX10_will_L53 σ a1 a2 a3 a4 1
    else
      fX10_will_L53 σ a1 a2 a3 a4 0
def fX10_will (σ : sw_M) (a1 : Int32) (a2 : Int32) (a3 : Int32) : Option (Int32 × sw_M) :=
  if (fX10_isKind σ a1) = 0 then
    some (((-1), σ))
  else
    if (fX10_isIn a2 0 60) = 0 then
      some (((-1), σ))
    else
      if (fX10_isIn a3 0 1) = 0 then
        some (((-1), σ))
      else
        sw_b1 (fX10_fill σ) fun m4 =>
        sw_wh sw_F (fun s => fX10_will_L36 s.2 a1 a2 a3 s.1) (0, m4)
set_option maxRecDepth 20000 in
theorem sX10_will_L53 {l : Launch} {E : sw_E} {K : Nat} (hK : 5 ≤ K) (σ : sw_M) (a1 : Int32) (a2 : Int32) (a3 : Int32) (a4 : Int32) (b0 : Int32) {res : Int32 × sw_M} {t : (Int32 × sw_M) ⊕ (Int32 × sw_M)} (h : fX10_will_L53 σ a1 a2 a3 a4 b0 = some t) (hk : (Sum.elim (fun s : Int32 × sw_M => sw_Go l E K RX10 cX10_will 5 (some .int) 36 [(0, .ref 49), (1, .int a1), (2, .int a2), (3, .int a3), (4, .int s.1)] [] s.2 (some (.int res.1)) res.2) (fun q => q = res)) t) : sw_Go l E K RX10 cX10_will 5 (some .int) 53 [(0, .ref 49), (1, .int a1), (2, .int a2), (3, .int a3), (4, .int a4)] [.int b0, .ref 49] σ (some (.int res.1)) res.2 := by
  unfold fX10_will_L53 at h
  obtain ⟨r1, m2, w3, h⟩ := sw_b2_e h
  refine sw_callVi (ci := 10) (i := 49) [.int b0] (sX10_goBoiling (K := K - 1) (by omega) σ b0 w3) rfl (by omega) rfl gs_X10_457 hy_X10_goBoiling (by decide) (by decide) rfl rfl (Nat.le_of_ble_eq_true rfl) (by decide +kernel) ?_
  refine sw_pop (by decide +kernel) rfl ?_
  obtain ⟨v4, e5, h⟩ := sw_let_e h
  refine sw_iincv (i := 4) (n := 1) (lv' := [(4, .int v4), (0, .ref 49), (1, .int a1), (2, .int a2), (3, .int a3)]) 4 rfl e5 (by decide +kernel) (by decide) (by decide) rfl ?_
  refine sw_goto (off := (-24)) 36 (by decide +kernel) (by decide) ?_
  cases h
  refine sw_lv [1, 2, 3, 4, 0] rfl ?_
  exact hk
set_option maxRecDepth 20000 in
theorem sX10_will_L36 {l : Launch} {E : sw_E} {K : Nat} (hK : 5 ≤ K) (σ : sw_M) (a1 : Int32) (a2 : Int32) (a3 : Int32) (a4 : Int32) {res : Int32 × sw_M} {t : (Int32 × sw_M) ⊕ (Int32 × sw_M)} (h : fX10_will_L36 σ a1 a2 a3 a4 = some t) (hk : (Sum.elim (fun s : Int32 × sw_M => sw_Go l E K RX10 cX10_will 5 (some .int) 36 [(0, .ref 49), (1, .int a1), (2, .int a2), (3, .int a3), (4, .int s.1)] [] s.2 (some (.int res.1)) res.2) (fun q => q = res)) t) : sw_Go l E K RX10 cX10_will 5 (some .int) 36 [(0, .ref 49), (1, .int a1), (2, .int a2), (3, .int a3), (4, .int a4)] [] σ (some (.int res.1)) res.2 := by
  unfold fX10_will_L36 at h
  refine sw_iload 4 rfl (by decide +kernel) ?_
  refine sw_iload_n (k0 := 2) 2 rfl (by decide +kernel) rfl ?_
  refine sw_icmp_ge (off := 24) 63 (by decide +kernel) (by decide) (fun c1 => ?_) (fun c1 => ?_)
  · rw [if_pos c1] at h
    refine sw_aload_n (k0 := 0) 0 rfl (by decide +kernel) rfl ?_
    refine gf_X10_63 (i := 49) (by decide) rfl (by decide +kernel) ?_
    refine sw_refj 66 rfl ?_
    refine sw_iload_n (k0 := 1) 1 rfl (by decide +kernel) rfl ?_
    obtain ⟨g2, h⟩ := sw_gd_e h
    refine sw_iaload (a := 66) (by decide) rfl (sw_in_e g2) (by decide +kernel) ?_
    cases h
    obtain rfl : _ = res := hk
    exact sw_iret (by decide +kernel)
  · rw [if_neg c1] at h
    refine sw_aload_n (k0 := 0) 0 rfl (by decide +kernel) rfl ?_
    refine sw_iload_n (k0 := 3) 3 rfl (by decide +kernel) rfl ?_
    refine sw_iconst (n := 1) (v := 1) (by decide +kernel) (by decide) ?_
    refine sw_icmp_ne (off := 7) 52 (by decide +kernel) (by decide) (fun c3 => ?_) (fun c3 => ?_)
    · rw [if_neg c3] at h
      refine sw_iconst (n := 0) (v := 0) (by decide +kernel) (by decide) ?_
      exact sX10_will_L53 hK σ a1 a2 a3 a4 0 h hk
    · rw [if_pos c3] at h
      refine sw_iconst (n := 1) (v := 1) (by decide +kernel) (by decide) ?_
      refine sw_goto (off := 4) 53 (by decide +kernel) (by decide) ?_
      exact sX10_will_L53 hK σ a1 a2 a3 a4 1 h hk
set_option maxRecDepth 20000 in
theorem sX10_will {l : Launch} {E : sw_E} {K : Nat} (hK : 5 ≤ K) (σ : sw_M) (a1 : Int32) (a2 : Int32) (a3 : Int32) {res : Int32 × sw_M} (h : fX10_will σ a1 a2 a3 = some res) : sw_Ct l E K yX10_will cX10_will 5 (some .int) [.ref 49, .int a1, .int a2, .int a3] σ (some (.int res.1)) res.2 := by
  obtain ⟨t, hk, h⟩ : ∃ t, t = res ∧ fX10_will σ a1 a2 a3 = some t := ⟨res, rfl, h⟩
  unfold fX10_will at h
  refine sw_enter2 (own := RX10) (lv := [(0, .ref 49), (1, .int a1), (2, .int a2), (3, .int a3)]) (by decide +kernel) (Nat.le_of_ble_eq_true rfl) rfl rfl ?_
  refine sw_aload_n (k0 := 0) 0 rfl (by decide +kernel) rfl ?_
  refine sw_iload_n (k0 := 1) 1 rfl (by decide +kernel) rfl ?_
  refine sw_callVi (ci := 10) (i := 49) [.int a1] (sX10_isKind (K := K - 1) (by omega) σ a1 rfl) rfl (by omega) rfl gs_X10_433 hy_X10_isKind (by decide) (by decide) rfl rfl (Nat.le_of_ble_eq_true rfl) (by decide +kernel) ?_
  refine sw_if_eq (off := 22) 27 (by decide +kernel) (by decide) (fun c1 => ?_) (fun c1 => ?_)
  · rw [if_pos c1] at h
    refine sw_iconst (n := (-1)) (v := (-1)) (by decide +kernel) (by decide) ?_
    cases h
    obtain rfl : _ = res := hk
    exact sw_iret (by decide +kernel)
  · rw [if_neg c1] at h
    refine sw_iload_n (k0 := 2) 2 rfl (by decide +kernel) rfl ?_
    refine sw_iconst (n := 0) (v := 0) (by decide +kernel) (by decide) ?_
    refine sw_bipush (n := 60) (v := 60) (by decide +kernel) (by decide) ?_
    refine sw_callSi [.int a2, .int 0, .int 60] (sX10_isIn (K := K - 1) (by omega) σ a2 0 60 rfl) rfl (by omega) gs_X10_411 hy_X10_isIn (by decide) rfl (Nat.le_of_ble_eq_true rfl) (by decide +kernel) ?_
    refine sw_if_eq (off := 12) 27 (by decide +kernel) (by decide) (fun c2 => ?_) (fun c2 => ?_)
    · rw [if_pos c2] at h
      refine sw_iconst (n := (-1)) (v := (-1)) (by decide +kernel) (by decide) ?_
      cases h
      obtain rfl : _ = res := hk
      exact sw_iret (by decide +kernel)
    · rw [if_neg c2] at h
      refine sw_iload_n (k0 := 3) 3 rfl (by decide +kernel) rfl ?_
      refine sw_iconst (n := 0) (v := 0) (by decide +kernel) (by decide) ?_
      refine sw_iconst (n := 1) (v := 1) (by decide +kernel) (by decide) ?_
      refine sw_callSi [.int a3, .int 0, .int 1] (sX10_isIn (K := K - 1) (by omega) σ a3 0 1 rfl) rfl (by omega) gs_X10_411 hy_X10_isIn (by decide) rfl (Nat.le_of_ble_eq_true rfl) (by decide +kernel) ?_
      refine sw_if_ne (off := 5) 29 (by decide +kernel) (by decide) (fun c3 => ?_) (fun c3 => ?_)
      · rw [if_neg c3] at h
        refine sw_aload_n (k0 := 0) 0 rfl (by decide +kernel) rfl ?_
        obtain ⟨m4, w5, h⟩ := sw_b1_e h
        refine sw_callVv (ci := 10) (i := 49) [] (sX10_fill (K := K - 1) (by omega) σ w5) rfl (by omega) rfl gs_X10_445 hy_X10_fill (by decide) (by decide) rfl rfl (Nat.le_of_ble_eq_true rfl) (by decide +kernel) ?_
        refine sw_iconst (n := 0) (v := 0) (by decide +kernel) (by decide) ?_
        refine sw_istore (i := 4) (lv' := [(4, .int 0), (0, .ref 49), (1, .int a1), (2, .int a2), (3, .int a3)]) (by decide +kernel) (by decide) rfl ?_
        refine sw_lv [1, 2, 3, 4, 0] rfl ?_
        exact sw_wh_e (fun s : Int32 × sw_M => sw_Go l E K RX10 cX10_will 5 (some .int) 36 [(0, .ref 49), (1, .int a1), (2, .int a2), (3, .int a3), (4, .int s.1)] [] s.2 (some (.int res.1)) res.2) (fun q => q = res) (fun s => fX10_will_L36 s.2 a1 a2 a3 s.1) (fun s t hb hk => sX10_will_L36 hK s.2 a1 a2 a3 s.1 hb hk) _ _ _ h hk
      · rw [if_pos c3] at h
        refine sw_iconst (n := (-1)) (v := (-1)) (by decide +kernel) (by decide) ?_
        cases h
        obtain rfl : _ = res := hk
        exact sw_iret (by decide +kernel)
def fX10_risesIn_L2 (σ : sw_M) (a1 : Int32) (a2 : Int32) : Option ((Int32 × sw_M) ⊕ (Int32 × sw_M)) :=
  if a1 < a2 then
    some (.inr (((-1), σ)))
  else
    sw_b2 (fX10_goBoiling σ 0) fun r2 m3 =>
    if r2 = 0 then
      sw_let (a2 + 1) fun v6 =>
      some (.inl (v6, m3))
    else
      some (.inr ((a2, m3)))
def fX10_risesIn (σ : sw_M) (a1 : Int32) : Option (Int32 × sw_M) :=
  sw_wh sw_F (fun s => fX10_risesIn_L2 s.2 a1 s.1) (1, σ)
set_option maxRecDepth 20000 in
theorem sX10_risesIn_L2 {l : Launch} {E : sw_E} {K : Nat} (hK : 5 ≤ K) (σ : sw_M) (a1 : Int32) (a2 : Int32) {res : Int32 × sw_M} {t : (Int32 × sw_M) ⊕ (Int32 × sw_M)} (h : fX10_risesIn_L2 σ a1 a2 = some t) (hk : (Sum.elim (fun s : Int32 × sw_M => sw_Go l E K RX10 cX10_risesIn 3 (some .int) 2 [(0, .ref 49), (1, .int a1), (2, .int s.1)] [] s.2 (some (.int res.1)) res.2) (fun q => q = res)) t) : sw_Go l E K RX10 cX10_risesIn 3 (some .int) 2 [(0, .ref 49), (1, .int a1), (2, .int a2)] [] σ (some (.int res.1)) res.2 := by
  unfold fX10_risesIn_L2 at h
  refine sw_iload_n (k0 := 2) 2 rfl (by decide +kernel) rfl ?_
  refine sw_iload_n (k0 := 1) 1 rfl (by decide +kernel) rfl ?_
  refine sw_icmp_gt (off := 19) 23 (by decide +kernel) (by decide) (fun c1 => ?_) (fun c1 => ?_)
  · rw [if_pos c1] at h
    refine sw_iconst (n := (-1)) (v := (-1)) (by decide +kernel) (by decide) ?_
    cases h
    obtain rfl : _ = res := hk
    exact sw_iret (by decide +kernel)
  · rw [if_neg c1] at h
    refine sw_aload_n (k0 := 0) 0 rfl (by decide +kernel) rfl ?_
    refine sw_iconst (n := 0) (v := 0) (by decide +kernel) (by decide) ?_
    obtain ⟨r2, m3, w4, h⟩ := sw_b2_e h
    refine sw_callVi (ci := 10) (i := 49) [.int 0] (sX10_goBoiling (K := K - 1) (by omega) σ 0 w4) rfl (by omega) rfl gs_X10_457 hy_X10_goBoiling (by decide) (by decide) rfl rfl (Nat.le_of_ble_eq_true rfl) (by decide +kernel) ?_
    refine sw_if_eq (off := 5) 17 (by decide +kernel) (by decide) (fun c5 => ?_) (fun c5 => ?_)
    · rw [if_pos c5] at h
      obtain ⟨v6, e7, h⟩ := sw_let_e h
      refine sw_iincv (i := 2) (n := 1) (lv' := [(2, .int v6), (0, .ref 49), (1, .int a1)]) 2 rfl e7 (by decide +kernel) (by decide) (by decide) rfl ?_
      refine sw_goto (off := (-18)) 2 (by decide +kernel) (by decide) ?_
      cases h
      refine sw_lv [1, 2, 0] rfl ?_
      exact hk
    · rw [if_neg c5] at h
      refine sw_iload_n (k0 := 2) 2 rfl (by decide +kernel) rfl ?_
      cases h
      obtain rfl : _ = res := hk
      exact sw_iret (by decide +kernel)
set_option maxRecDepth 20000 in
theorem sX10_risesIn {l : Launch} {E : sw_E} {K : Nat} (hK : 5 ≤ K) (σ : sw_M) (a1 : Int32) {res : Int32 × sw_M} (h : fX10_risesIn σ a1 = some res) : sw_Ct l E K yX10_risesIn cX10_risesIn 3 (some .int) [.ref 49, .int a1] σ (some (.int res.1)) res.2 := by
  obtain ⟨t, hk, h⟩ : ∃ t, t = res ∧ fX10_risesIn σ a1 = some t := ⟨res, rfl, h⟩
  unfold fX10_risesIn at h
  refine sw_enter2 (own := RX10) (lv := [(0, .ref 49), (1, .int a1)]) (by decide +kernel) (Nat.le_of_ble_eq_true rfl) rfl rfl ?_
  refine sw_iconst (n := 1) (v := 1) (by decide +kernel) (by decide) ?_
  refine sw_istore_n (k0 := 2) (lv' := [(2, .int 1), (0, .ref 49), (1, .int a1)]) (by decide +kernel) rfl (by decide) rfl ?_
  refine sw_lv [1, 2, 0] rfl ?_
  exact sw_wh_e (fun s : Int32 × sw_M => sw_Go l E K RX10 cX10_risesIn 3 (some .int) 2 [(0, .ref 49), (1, .int a1), (2, .int s.1)] [] s.2 (some (.int res.1)) res.2) (fun q => q = res) (fun s => fX10_risesIn_L2 s.2 a1 s.1) (fun s t hb hk => sX10_risesIn_L2 hK s.2 a1 s.1 hb hk) _ _ _ h hk
def fX10_rise (σ : sw_M) : Option (Int32 × sw_M) :=
  sw_b1 (fX10_fill σ) fun m1 =>
  sw_b2 (fX10_risesIn m1 60) fun r3 m4 =>
  some ((r3, m4))
set_option maxRecDepth 20000 in
theorem sX10_rise {l : Launch} {E : sw_E} {K : Nat} (hK : 6 ≤ K) (σ : sw_M) {res : Int32 × sw_M} (h : fX10_rise σ = some res) : sw_Ct l E K yX10_rise cX10_rise 1 (some .int) [.ref 49] σ (some (.int res.1)) res.2 := by
  obtain ⟨t, hk, h⟩ : ∃ t, t = res ∧ fX10_rise σ = some t := ⟨res, rfl, h⟩
  unfold fX10_rise at h
  refine sw_enter2 (own := RX10) (lv := [(0, .ref 49)]) (by decide +kernel) (Nat.le_of_ble_eq_true rfl) rfl rfl ?_
  refine sw_aload_n (k0 := 0) 0 rfl (by decide +kernel) rfl ?_
  obtain ⟨m1, w2, h⟩ := sw_b1_e h
  refine sw_callVv (ci := 10) (i := 49) [] (sX10_fill (K := K - 1) (by omega) σ w2) rfl (by omega) rfl gs_X10_445 hy_X10_fill (by decide) (by decide) rfl rfl (Nat.le_of_ble_eq_true rfl) (by decide +kernel) ?_
  refine sw_aload_n (k0 := 0) 0 rfl (by decide +kernel) rfl ?_
  refine sw_bipush (n := 60) (v := 60) (by decide +kernel) (by decide) ?_
  obtain ⟨r3, m4, w5, h⟩ := sw_b2_e h
  refine sw_callVi (ci := 10) (i := 49) [.int 60] (sX10_risesIn (K := K - 1) (by omega) m1 60 w5) rfl (by omega) rfl gs_X10_470 hy_X10_risesIn (by decide) (by decide) rfl rfl (Nat.le_of_ble_eq_true rfl) (by decide +kernel) ?_
  cases h
  obtain rfl : _ = res := hk
  exact sw_iret (by decide +kernel)
