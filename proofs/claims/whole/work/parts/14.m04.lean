def fX5_readNewName_L16 (P1 : Nat) (σ : sw_M) : Option ((Int32 × sw_M)) :=
  sw_b2 (fX5_refuse σ 2) fun r1 m2 =>
  sw_gd (sw_bo r1) <|
  some ((r1, m2))
def fX5_readNewName (P1 : Nat) (σ : sw_M) (a2 : Int32) : Option (Int32 × sw_M) :=
  if (fX7_isName σ) = 0 then
    fX5_readNewName_L16 P1 σ
  else
    if a2 < (Int32.ofNat (sw_s P1).2) then
      sw_b1 (fX7_find P1 σ a2 (σ.2.1 2 6)) fun r3 =>
      if r3 = (-1) then
        sw_gd (sw_in a2 (sw_s P1).2) <|
        sw_let (sw_wL σ P1 a2.toNatClampNeg (σ.2.1 2 6)) fun m7 =>
        sw_b1 (fX7_readNext m7) fun m9 =>
        some ((1, m9))
      else
        sw_b2 (fX5_refuse σ 3) fun r11 m12 =>
        sw_gd (sw_bo r11) <|
        some ((r11, m12))
    else
      fX5_readNewName_L16 P1 σ
set_option maxRecDepth 20000 in
theorem sX5_readNewName_L16 {l : Launch} {E : sw_E} {K : Nat} (hE : sw_RS l E) (hK : 10 ≤ K) (P1 : Nat) (hP1 : sw_isA 4 P1) (σ : sw_M) {res : Int32 × sw_M} {t : (Int32 × sw_M)} (h : fX5_readNewName_L16 P1 σ = some t) (hk : (fun q => q = res) t) : sw_Go l E K RX5 cX5_readNewName 3 (some .boolean) 16 [(0, .ref 1)] [] σ (some (.int res.1)) res.2 := by
  unfold fX5_readNewName_L16 at h
  refine sw_aload_n (k0 := 0) 0 rfl (by decide +kernel) rfl ?_
  refine sw_iconst (n := 2) (v := 2) (by decide +kernel) (by decide) ?_
  obtain ⟨r1, m2, w3, h⟩ := sw_b2_e h
  refine sw_callVi (ci := 5) (i := 1) [.int 2] (sX5_refuse (K := K - 1) (by omega) σ 2 w3) rfl (by omega) rfl gs_X5_66 hy_X5_refuse (by decide) (by decide) rfl rfl (Nat.le_of_ble_eq_true rfl) (by decide +kernel) ?_
  obtain ⟨g4, h⟩ := sw_gd_e h
  cases h
  obtain rfl : _ = res := hk
  exact sw_zret (sw_bo_n (sw_bo_e g4)) (by decide +kernel)
set_option maxRecDepth 20000 in
theorem sX5_readNewName {l : Launch} {E : sw_E} {K : Nat} (hE : sw_RS l E) (hK : 10 ≤ K) (P1 : Nat) (hP1 : sw_isA 4 P1) (σ : sw_M) (a2 : Int32) {res : Int32 × sw_M} (h : fX5_readNewName P1 σ a2 = some res) : sw_Ct l E K yX5_readNewName cX5_readNewName 3 (some .boolean) [.ref 1, .ref P1, .int a2] σ (some (.int res.1)) res.2 := by
  obtain ⟨t, hk, h⟩ : ∃ t, t = res ∧ fX5_readNewName P1 σ a2 = some t := ⟨res, rfl, h⟩
  unfold fX5_readNewName at h
  refine sw_enter2 (own := RX5) (lv := [(0, .ref 1), (1, .ref P1), (2, .int a2)]) (by decide +kernel) (Nat.le_of_ble_eq_true rfl) rfl rfl ?_
  refine sw_aload_n (k0 := 0) 0 rfl (by decide +kernel) rfl ?_
  refine gf_X5_12 (i := 1) (by decide) rfl (by decide +kernel) ?_
  refine sw_refj 2 rfl ?_
  refine sw_callVi (ci := 7) (i := 2) [] (sX7_isName (K := K - 1) (by omega) σ rfl) rfl (by omega) rfl gs_X5_169 hy_X7_isName (by decide) (by decide) rfl rfl (Nat.le_of_ble_eq_true rfl) (by decide +kernel) ?_
  refine sw_if_eq (off := 9) 16 (by decide +kernel) (by decide) (fun c1 => ?_) (fun c1 => ?_)
  · rw [if_pos c1] at h
    refine sw_lv [0] rfl ?_
    exact sX5_readNewName_L16 hE hK P1 hP1 σ h hk
  · rw [if_neg c1] at h
    refine sw_iload_n (k0 := 2) 2 rfl (by decide +kernel) rfl ?_
    refine sw_aload_n (k0 := 1) 1 rfl (by decide +kernel) rfl ?_
    refine sw_alen (a := P1) (v := Int32.ofNat (sw_s P1).2) hP1.1 hP1.s (by decide) rfl (by decide +kernel) ?_
    refine sw_icmp_lt (off := 9) 22 (by decide +kernel) (by decide) (fun c2 => ?_) (fun c2 => ?_)
    · rw [if_pos c2] at h
      refine sw_aload_n (k0 := 1) 1 rfl (by decide +kernel) rfl ?_
      refine sw_iload_n (k0 := 2) 2 rfl (by decide +kernel) rfl ?_
      refine sw_aload_n (k0 := 0) 0 rfl (by decide +kernel) rfl ?_
      refine gf_X5_12 (i := 1) (by decide) rfl (by decide +kernel) ?_
      refine sw_refj 2 rfl ?_
      refine gf_X5_172 (i := 2) (by decide) rfl (by decide +kernel) ?_
      obtain ⟨r3, w4, h⟩ := sw_b1_e h
      refine sw_callSi [.ref P1, .int a2, .long (σ.2.1 2 6)] (sX7_find (K := K - 1) (by omega) P1 hP1 σ a2 (σ.2.1 2 6) w4) rfl (by omega) gs_X5_176 hy_X7_find (by decide) rfl (Nat.le_of_ble_eq_true rfl) (by decide +kernel) ?_
      refine sw_iconst (n := (-1)) (v := (-1)) (by decide +kernel) (by decide) ?_
      refine sw_icmp_eq (off := 9) 44 (by decide +kernel) (by decide) (fun c5 => ?_) (fun c5 => ?_)
      · rw [if_pos c5] at h
        refine sw_aload_n (k0 := 1) 1 rfl (by decide +kernel) rfl ?_
        refine sw_iload_n (k0 := 2) 2 rfl (by decide +kernel) rfl ?_
        refine sw_aload_n (k0 := 0) 0 rfl (by decide +kernel) rfl ?_
        refine gf_X5_12 (i := 1) (by decide) rfl (by decide +kernel) ?_
        refine sw_refj 2 rfl ?_
        refine gf_X5_172 (i := 2) (by decide) rfl (by decide +kernel) ?_
        obtain ⟨g6, h⟩ := sw_gd_e h
        obtain ⟨m7, e8, h⟩ := sw_let_e h
        refine sw_lastore (a := P1) hP1.1 hP1.s (sw_in_e g6) (by decide +kernel) ?_
        refine sw_mem e8 ?_
        refine sw_aload_n (k0 := 0) 0 rfl (by decide +kernel) rfl ?_
        refine gf_X5_12 (i := 1) (by decide) rfl (by decide +kernel) ?_
        refine sw_refj 2 rfl ?_
        obtain ⟨m9, w10, h⟩ := sw_b1_e h
        refine sw_callVv (ci := 7) (i := 2) [] (sX7_readNext (K := K - 1) hE (by omega) m7 w10) rfl (by omega) rfl gs_X5_76 hy_X7_readNext (by decide) (by decide) rfl rfl (Nat.le_of_ble_eq_true rfl) (by decide +kernel) ?_
        refine sw_iconst (n := 1) (v := 1) (by decide +kernel) (by decide) ?_
        cases h
        obtain rfl : _ = res := hk
        exact sw_zret rfl (by decide +kernel)
      · rw [if_neg c5] at h
        refine sw_aload_n (k0 := 0) 0 rfl (by decide +kernel) rfl ?_
        refine sw_iconst (n := 3) (v := 3) (by decide +kernel) (by decide) ?_
        obtain ⟨r11, m12, w13, h⟩ := sw_b2_e h
        refine sw_callVi (ci := 5) (i := 1) [.int 3] (sX5_refuse (K := K - 1) (by omega) σ 3 w13) rfl (by omega) rfl gs_X5_66 hy_X5_refuse (by decide) (by decide) rfl rfl (Nat.le_of_ble_eq_true rfl) (by decide +kernel) ?_
        obtain ⟨g14, h⟩ := sw_gd_e h
        cases h
        obtain rfl : _ = res := hk
        exact sw_zret (sw_bo_n (sw_bo_e g14)) (by decide +kernel)
    · rw [if_neg c2] at h
      refine sw_lv [0] rfl ?_
      exact sX5_readNewName_L16 hE hK P1 hP1 σ h hk
def fX5_readSign (σ : sw_M) (a1 : Int32) : Option (Int32 × sw_M) :=
  if (σ.1 2 9) = a1 then
    sw_b1 (fX7_readNext σ) fun m2 =>
    some ((1, m2))
  else
    sw_b2 (fX5_refuse σ 2) fun r4 m5 =>
    sw_gd (sw_bo r4) <|
    some ((r4, m5))
set_option maxRecDepth 20000 in
theorem sX5_readSign {l : Launch} {E : sw_E} {K : Nat} (hE : sw_RS l E) (hK : 10 ≤ K) (σ : sw_M) (a1 : Int32) {res : Int32 × sw_M} (h : fX5_readSign σ a1 = some res) : sw_Ct l E K yX5_readSign cX5_readSign 2 (some .boolean) [.ref 1, .int a1] σ (some (.int res.1)) res.2 := by
  obtain ⟨t, hk, h⟩ : ∃ t, t = res ∧ fX5_readSign σ a1 = some t := ⟨res, rfl, h⟩
  unfold fX5_readSign at h
  refine sw_enter2 (own := RX5) (lv := [(0, .ref 1), (1, .int a1)]) (by decide +kernel) (Nat.le_of_ble_eq_true rfl) rfl rfl ?_
  refine sw_aload_n (k0 := 0) 0 rfl (by decide +kernel) rfl ?_
  refine gf_X5_12 (i := 1) (by decide) rfl (by decide +kernel) ?_
  refine sw_refj 2 rfl ?_
  refine gf_X5_163 (i := 2) (by decide) rfl (by decide +kernel) ?_
  refine sw_iload_n (k0 := 1) 1 rfl (by decide +kernel) rfl ?_
  refine sw_icmp_eq (off := 9) 17 (by decide +kernel) (by decide) (fun c1 => ?_) (fun c1 => ?_)
  · rw [if_pos c1] at h
    refine sw_aload_n (k0 := 0) 0 rfl (by decide +kernel) rfl ?_
    refine gf_X5_12 (i := 1) (by decide) rfl (by decide +kernel) ?_
    refine sw_refj 2 rfl ?_
    obtain ⟨m2, w3, h⟩ := sw_b1_e h
    refine sw_callVv (ci := 7) (i := 2) [] (sX7_readNext (K := K - 1) hE (by omega) σ w3) rfl (by omega) rfl gs_X5_76 hy_X7_readNext (by decide) (by decide) rfl rfl (Nat.le_of_ble_eq_true rfl) (by decide +kernel) ?_
    refine sw_iconst (n := 1) (v := 1) (by decide +kernel) (by decide) ?_
    cases h
    obtain rfl : _ = res := hk
    exact sw_zret rfl (by decide +kernel)
  · rw [if_neg c1] at h
    refine sw_aload_n (k0 := 0) 0 rfl (by decide +kernel) rfl ?_
    refine sw_iconst (n := 2) (v := 2) (by decide +kernel) (by decide) ?_
    obtain ⟨r4, m5, w6, h⟩ := sw_b2_e h
    refine sw_callVi (ci := 5) (i := 1) [.int 2] (sX5_refuse (K := K - 1) (by omega) σ 2 w6) rfl (by omega) rfl gs_X5_66 hy_X5_refuse (by decide) (by decide) rfl rfl (Nat.le_of_ble_eq_true rfl) (by decide +kernel) ?_
    obtain ⟨g7, h⟩ := sw_gd_e h
    cases h
    obtain rfl : _ = res := hk
    exact sw_zret (sw_bo_n (sw_bo_e g7)) (by decide +kernel)
def fX5_readKind (σ : sw_M) : Option (Int32 × sw_M) :=
  if (σ.1 (sw_pl (σ.2.2 1)) 0) < 5 then
    sw_b1 (fX7_readNext σ) fun m2 =>
    sw_b2 (fX5_readNewName ((sw_pl (m2.2.2 1)) + 1) m2 (m2.1 (sw_pl (m2.2.2 1)) 0)) fun r4 m5 =>
    if r4 = 0 then
      some ((0, m5))
    else
      sw_let (sw_w m5 (sw_pl (m5.2.2 1)) 0 ((m5.1 (sw_pl (m5.2.2 1)) 0) + 1)) fun m8 =>
      sw_b2 (fX5_readSign m8 59) fun r10 m11 =>
      sw_gd (sw_bo r10) <|
      some ((r10, m11))
  else
    sw_b2 (fX5_refuse σ 2) fun r14 m15 =>
    sw_gd (sw_bo r14) <|
    some ((r14, m15))
set_option maxRecDepth 20000 in
theorem sX5_readKind {l : Launch} {E : sw_E} {K : Nat} (hE : sw_RS l E) (hK : 11 ≤ K) (σ : sw_M) {res : Int32 × sw_M} (h : fX5_readKind σ = some res) : sw_Ct l E K yX5_readKind cX5_readKind 1 (some .boolean) [.ref 1] σ (some (.int res.1)) res.2 := by
  obtain ⟨t, hk, h⟩ : ∃ t, t = res ∧ fX5_readKind σ = some t := ⟨res, rfl, h⟩
  unfold fX5_readKind at h
  refine sw_enter2 (own := RX5) (lv := [(0, .ref 1)]) (by decide +kernel) (Nat.le_of_ble_eq_true rfl) rfl rfl ?_
  refine sw_aload_n (k0 := 0) 0 rfl (by decide +kernel) rfl ?_
  refine gf_X5_21 (i := 1) (by decide) rfl (by decide +kernel) ?_
  refine gf_X5_73 (i := (sw_pl (σ.2.2 1))) (sw_pl_P _).o.1 (sw_pl_P _).o.2 (by decide +kernel) ?_
  refine sw_iconst (n := 5) (v := 5) (by decide +kernel) (by decide) ?_
  refine sw_icmp_lt (off := 9) 17 (by decide +kernel) (by decide) (fun c1 => ?_) (fun c1 => ?_)
  · rw [if_pos c1] at h
    refine sw_aload_n (k0 := 0) 0 rfl (by decide +kernel) rfl ?_
    refine gf_X5_12 (i := 1) (by decide) rfl (by decide +kernel) ?_
    refine sw_refj 2 rfl ?_
    obtain ⟨m2, w3, h⟩ := sw_b1_e h
    refine sw_callVv (ci := 7) (i := 2) [] (sX7_readNext (K := K - 1) hE (by omega) σ w3) rfl (by omega) rfl gs_X5_76 hy_X7_readNext (by decide) (by decide) rfl rfl (Nat.le_of_ble_eq_true rfl) (by decide +kernel) ?_
    refine sw_aload_n (k0 := 0) 0 rfl (by decide +kernel) rfl ?_
    refine sw_aload_n (k0 := 0) 0 rfl (by decide +kernel) rfl ?_
    refine gf_X5_21 (i := 1) (by decide) rfl (by decide +kernel) ?_
    refine gf_X5_79 (i := (sw_pl (m2.2.2 1))) (sw_pl_P _).o.1 (sw_pl_P _).o.2 (by decide +kernel) ?_
    refine sw_aload_n (k0 := 0) 0 rfl (by decide +kernel) rfl ?_
    refine gf_X5_21 (i := 1) (by decide) rfl (by decide +kernel) ?_
    refine gf_X5_73 (i := (sw_pl (m2.2.2 1))) (sw_pl_P _).o.1 (sw_pl_P _).o.2 (by decide +kernel) ?_
    obtain ⟨r4, m5, w6, h⟩ := sw_b2_e h
    refine sw_callVi (ci := 5) (i := 1) [.ref ((sw_pl (m2.2.2 1)) + 1), .int (m2.1 (sw_pl (m2.2.2 1)) 0)] (sX5_readNewName (K := K - 1) hE (by omega) ((sw_pl (m2.2.2 1)) + 1) (sw_A_of (sw_pl_P _).p1.1 (sw_pl_P _).p1.2) m2 (m2.1 (sw_pl (m2.2.2 1)) 0) w6) rfl (by omega) rfl gs_X5_83 hy_X5_readNewName (by decide) (by decide) rfl rfl (Nat.le_of_ble_eq_true rfl) (by decide +kernel) ?_
    refine sw_if_ne (off := 5) 47 (by decide +kernel) (by decide) (fun c7 => ?_) (fun c7 => ?_)
    · rw [if_neg c7] at h
      refine sw_aload_n (k0 := 0) 0 rfl (by decide +kernel) rfl ?_
      refine gf_X5_21 (i := 1) (by decide) rfl (by decide +kernel) ?_
      refine sw_dup (by decide +kernel) rfl ?_
      refine gf_X5_73 (i := (sw_pl (m5.2.2 1))) (sw_pl_P _).o.1 (sw_pl_P _).o.2 (by decide +kernel) ?_
      refine sw_iconst (n := 1) (v := 1) (by decide +kernel) (by decide) ?_
      refine sw_iadd (by decide +kernel) ?_
      obtain ⟨m8, e9, h⟩ := sw_let_e h
      refine pf_X5_73 (sw_pl_P _).o.1 (sw_pl_P _).o.2 (by decide +kernel) ?_
      refine sw_mem e9 ?_
      refine sw_aload_n (k0 := 0) 0 rfl (by decide +kernel) rfl ?_
      refine sw_bipush (n := 59) (v := 59) (by decide +kernel) (by decide) ?_
      obtain ⟨r10, m11, w12, h⟩ := sw_b2_e h
      refine sw_callVi (ci := 5) (i := 1) [.int 59] (sX5_readSign (K := K - 1) hE (by omega) m8 59 w12) rfl (by omega) rfl gs_X5_87 hy_X5_readSign (by decide) (by decide) rfl rfl (Nat.le_of_ble_eq_true rfl) (by decide +kernel) ?_
      obtain ⟨g13, h⟩ := sw_gd_e h
      cases h
      obtain rfl : _ = res := hk
      exact sw_zret (sw_bo_n (sw_bo_e g13)) (by decide +kernel)
    · rw [if_pos c7] at h
      refine sw_iconst (n := 0) (v := 0) (by decide +kernel) (by decide) ?_
      cases h
      obtain rfl : _ = res := hk
      exact sw_zret rfl (by decide +kernel)
  · rw [if_neg c1] at h
    refine sw_aload_n (k0 := 0) 0 rfl (by decide +kernel) rfl ?_
    refine sw_iconst (n := 2) (v := 2) (by decide +kernel) (by decide) ?_
    obtain ⟨r14, m15, w16, h⟩ := sw_b2_e h
    refine sw_callVi (ci := 5) (i := 1) [.int 2] (sX5_refuse (K := K - 1) (by omega) σ 2 w16) rfl (by omega) rfl gs_X5_66 hy_X5_refuse (by decide) (by decide) rfl rfl (Nat.le_of_ble_eq_true rfl) (by decide +kernel) ?_
    obtain ⟨g17, h⟩ := sw_gd_e h
    cases h
    obtain rfl : _ = res := hk
    exact sw_zret (sw_bo_n (sw_bo_e g17)) (by decide +kernel)
def fX5_readKey (σ : sw_M) (a1 : Int32) : Option (Int32 × sw_M) :=
  if (σ.1 2 7) = a1 then
    sw_b1 (fX7_readNext σ) fun m2 =>
    some ((1, m2))
  else
    sw_b2 (fX5_refuse σ 2) fun r4 m5 =>
    sw_gd (sw_bo r4) <|
    some ((r4, m5))
set_option maxRecDepth 20000 in
theorem sX5_readKey {l : Launch} {E : sw_E} {K : Nat} (hE : sw_RS l E) (hK : 10 ≤ K) (σ : sw_M) (a1 : Int32) {res : Int32 × sw_M} (h : fX5_readKey σ a1 = some res) : sw_Ct l E K yX5_readKey cX5_readKey 2 (some .boolean) [.ref 1, .int a1] σ (some (.int res.1)) res.2 := by
  obtain ⟨t, hk, h⟩ : ∃ t, t = res ∧ fX5_readKey σ a1 = some t := ⟨res, rfl, h⟩
  unfold fX5_readKey at h
  refine sw_enter2 (own := RX5) (lv := [(0, .ref 1), (1, .int a1)]) (by decide +kernel) (Nat.le_of_ble_eq_true rfl) rfl rfl ?_
  refine sw_aload_n (k0 := 0) 0 rfl (by decide +kernel) rfl ?_
  refine gf_X5_12 (i := 1) (by decide) rfl (by decide +kernel) ?_
  refine sw_refj 2 rfl ?_
  refine gf_X5_41 (i := 2) (by decide) rfl (by decide +kernel) ?_
  refine sw_iload_n (k0 := 1) 1 rfl (by decide +kernel) rfl ?_
  refine sw_icmp_eq (off := 9) 17 (by decide +kernel) (by decide) (fun c1 => ?_) (fun c1 => ?_)
  · rw [if_pos c1] at h
    refine sw_aload_n (k0 := 0) 0 rfl (by decide +kernel) rfl ?_
    refine gf_X5_12 (i := 1) (by decide) rfl (by decide +kernel) ?_
    refine sw_refj 2 rfl ?_
    obtain ⟨m2, w3, h⟩ := sw_b1_e h
    refine sw_callVv (ci := 7) (i := 2) [] (sX7_readNext (K := K - 1) hE (by omega) σ w3) rfl (by omega) rfl gs_X5_76 hy_X7_readNext (by decide) (by decide) rfl rfl (Nat.le_of_ble_eq_true rfl) (by decide +kernel) ?_
    refine sw_iconst (n := 1) (v := 1) (by decide +kernel) (by decide) ?_
    cases h
    obtain rfl : _ = res := hk
    exact sw_zret rfl (by decide +kernel)
  · rw [if_neg c1] at h
    refine sw_aload_n (k0 := 0) 0 rfl (by decide +kernel) rfl ?_
    refine sw_iconst (n := 2) (v := 2) (by decide +kernel) (by decide) ?_
    obtain ⟨r4, m5, w6, h⟩ := sw_b2_e h
    refine sw_callVi (ci := 5) (i := 1) [.int 2] (sX5_refuse (K := K - 1) (by omega) σ 2 w6) rfl (by omega) rfl gs_X5_66 hy_X5_refuse (by decide) (by decide) rfl rfl (Nat.le_of_ble_eq_true rfl) (by decide +kernel) ?_
    obtain ⟨g7, h⟩ := sw_gd_e h
    cases h
    obtain rfl : _ = res := hk
    exact sw_zret (sw_bo_n (sw_bo_e g7)) (by decide +kernel)
def fX5_knownKind (σ : sw_M) : Option (Int32 × sw_M) :=
  if (fX7_isName σ) = 0 then
    sw_b2 (fX5_refuse σ 2) fun r8 m9 =>
    some (((-1), m9))
  else
    sw_b1 (fX7_find ((sw_pl (σ.2.2 1)) + 1) σ (σ.1 (sw_pl (σ.2.2 1)) 0) (σ.2.1 2 6)) fun r2 =>
    if r2 = (-1) then
      sw_b2 (fX5_refuse σ 5) fun r5 m6 =>
      some ((r2, m6))
    else
      some ((r2, σ))
set_option maxRecDepth 20000 in
theorem sX5_knownKind {l : Launch} {E : sw_E} {K : Nat} (hK : 1 ≤ K) (σ : sw_M) {res : Int32 × sw_M} (h : fX5_knownKind σ = some res) : sw_Ct l E K yX5_knownKind cX5_knownKind 2 (some .int) [.ref 1] σ (some (.int res.1)) res.2 := by
  obtain ⟨t, hk, h⟩ : ∃ t, t = res ∧ fX5_knownKind σ = some t := ⟨res, rfl, h⟩
  unfold fX5_knownKind at h
  refine sw_enter2 (own := RX5) (lv := [(0, .ref 1)]) (by decide +kernel) (Nat.le_of_ble_eq_true rfl) rfl rfl ?_
  refine sw_aload_n (k0 := 0) 0 rfl (by decide +kernel) rfl ?_
  refine gf_X5_12 (i := 1) (by decide) rfl (by decide +kernel) ?_
  refine sw_refj 2 rfl ?_
  refine sw_callVi (ci := 7) (i := 2) [] (sX7_isName (K := K - 1) (by omega) σ rfl) rfl (by omega) rfl gs_X5_169 hy_X7_isName (by decide) (by decide) rfl rfl (Nat.le_of_ble_eq_true rfl) (by decide +kernel) ?_
  refine sw_if_ne (off := 11) 18 (by decide +kernel) (by decide) (fun c1 => ?_) (fun c1 => ?_)
  · rw [if_neg c1] at h
    refine sw_aload_n (k0 := 0) 0 rfl (by decide +kernel) rfl ?_
    refine gf_X5_21 (i := 1) (by decide) rfl (by decide +kernel) ?_
    refine gf_X5_79 (i := (sw_pl (σ.2.2 1))) (sw_pl_P _).o.1 (sw_pl_P _).o.2 (by decide +kernel) ?_
    refine sw_aload_n (k0 := 0) 0 rfl (by decide +kernel) rfl ?_
    refine gf_X5_21 (i := 1) (by decide) rfl (by decide +kernel) ?_
    refine gf_X5_73 (i := (sw_pl (σ.2.2 1))) (sw_pl_P _).o.1 (sw_pl_P _).o.2 (by decide +kernel) ?_
    refine sw_aload_n (k0 := 0) 0 rfl (by decide +kernel) rfl ?_
    refine gf_X5_12 (i := 1) (by decide) rfl (by decide +kernel) ?_
    refine sw_refj 2 rfl ?_
    refine gf_X5_172 (i := 2) (by decide) rfl (by decide +kernel) ?_
    obtain ⟨r2, w3, h⟩ := sw_b1_e h
    refine sw_callSi [.ref ((sw_pl (σ.2.2 1)) + 1), .int (σ.1 (sw_pl (σ.2.2 1)) 0), .long (σ.2.1 2 6)] (sX7_find (K := K - 1) (by omega) ((sw_pl (σ.2.2 1)) + 1) (sw_A_of (sw_pl_P _).p1.1 (sw_pl_P _).p1.2) σ (σ.1 (sw_pl (σ.2.2 1)) 0) (σ.2.1 2 6) w3) rfl (by omega) gs_X5_176 hy_X7_find (by decide) rfl (Nat.le_of_ble_eq_true rfl) (by decide +kernel) ?_
    refine sw_istore_n (k0 := 1) (lv' := [(1, .int r2), (0, .ref 1)]) (by decide +kernel) rfl (by decide) rfl ?_
    refine sw_iload_n (k0 := 1) 0 rfl (by decide +kernel) rfl ?_
    refine sw_iconst (n := (-1)) (v := (-1)) (by decide +kernel) (by decide) ?_
    refine sw_icmp_ne (off := 9) 54 (by decide +kernel) (by decide) (fun c4 => ?_) (fun c4 => ?_)
    · rw [if_neg c4] at h
      refine sw_iload_n (k0 := 1) 0 rfl (by decide +kernel) rfl ?_
      cases h
      obtain rfl : _ = res := hk
      exact sw_iret (by decide +kernel)
    · rw [if_pos c4] at h
      refine sw_aload_n (k0 := 0) 1 rfl (by decide +kernel) rfl ?_
      refine sw_iconst (n := 5) (v := 5) (by decide +kernel) (by decide) ?_
      obtain ⟨r5, m6, w7, h⟩ := sw_b2_e h
      refine sw_callVi (ci := 5) (i := 1) [.int 5] (sX5_refuse (K := K - 1) (by omega) σ 5 w7) rfl (by omega) rfl gs_X5_66 hy_X5_refuse (by decide) (by decide) rfl rfl (Nat.le_of_ble_eq_true rfl) (by decide +kernel) ?_
      refine sw_pop (by decide +kernel) rfl ?_
      refine sw_iload_n (k0 := 1) 0 rfl (by decide +kernel) rfl ?_
      cases h
      obtain rfl : _ = res := hk
      exact sw_iret (by decide +kernel)
  · rw [if_pos c1] at h
    refine sw_aload_n (k0 := 0) 0 rfl (by decide +kernel) rfl ?_
    refine sw_iconst (n := 2) (v := 2) (by decide +kernel) (by decide) ?_
    obtain ⟨r8, m9, w10, h⟩ := sw_b2_e h
    refine sw_callVi (ci := 5) (i := 1) [.int 2] (sX5_refuse (K := K - 1) (by omega) σ 2 w10) rfl (by omega) rfl gs_X5_66 hy_X5_refuse (by decide) (by decide) rfl rfl (Nat.le_of_ble_eq_true rfl) (by decide +kernel) ?_
    refine sw_pop (by decide +kernel) rfl ?_
    refine sw_iconst (n := (-1)) (v := (-1)) (by decide +kernel) (by decide) ?_
    cases h
    obtain rfl : _ = res := hk
    exact sw_iret (by decide +kernel)
def fX5_readNumber_L37 (σ : sw_M) : Option ((Int32 × sw_M)) :=
  sw_b2 (fX5_refuse σ 4) fun r1 m2 =>
  some (((-1), m2))
def fX5_readNumber (σ : sw_M) (a1 : Int32) (a2 : Int32) : Option (Int32 × sw_M) :=
  if (σ.1 2 4) = 3 then
    sw_let (σ.1 2 8) fun v2 =>
    if v2 < a1 then
      fX5_readNumber_L37 σ
    else
      if v2 ≤ a2 then
        sw_b1 (fX7_readNext σ) fun m6 =>
        some ((v2, m6))
      else
        fX5_readNumber_L37 σ
  else
    sw_b2 (fX5_refuse σ 2) fun r8 m9 =>
    some (((-1), m9))
set_option maxRecDepth 20000 in
theorem sX5_readNumber_L37 {l : Launch} {E : sw_E} {K : Nat} (hE : sw_RS l E) (hK : 10 ≤ K) (σ : sw_M) {res : Int32 × sw_M} {t : (Int32 × sw_M)} (h : fX5_readNumber_L37 σ = some t) (hk : (fun q => q = res) t) : sw_Go l E K RX5 cX5_readNumber 4 (some .int) 37 [(0, .ref 1)] [] σ (some (.int res.1)) res.2 := by
  unfold fX5_readNumber_L37 at h
  refine sw_aload_n (k0 := 0) 0 rfl (by decide +kernel) rfl ?_
  refine sw_iconst (n := 4) (v := 4) (by decide +kernel) (by decide) ?_
  obtain ⟨r1, m2, w3, h⟩ := sw_b2_e h
  refine sw_callVi (ci := 5) (i := 1) [.int 4] (sX5_refuse (K := K - 1) (by omega) σ 4 w3) rfl (by omega) rfl gs_X5_66 hy_X5_refuse (by decide) (by decide) rfl rfl (Nat.le_of_ble_eq_true rfl) (by decide +kernel) ?_
  refine sw_pop (by decide +kernel) rfl ?_
  refine sw_iconst (n := (-1)) (v := (-1)) (by decide +kernel) (by decide) ?_
  cases h
  obtain rfl : _ = res := hk
  exact sw_iret (by decide +kernel)
set_option maxRecDepth 20000 in
theorem sX5_readNumber {l : Launch} {E : sw_E} {K : Nat} (hE : sw_RS l E) (hK : 10 ≤ K) (σ : sw_M) (a1 : Int32) (a2 : Int32) {res : Int32 × sw_M} (h : fX5_readNumber σ a1 a2 = some res) : sw_Ct l E K yX5_readNumber cX5_readNumber 4 (some .int) [.ref 1, .int a1, .int a2] σ (some (.int res.1)) res.2 := by
  obtain ⟨t, hk, h⟩ : ∃ t, t = res ∧ fX5_readNumber σ a1 a2 = some t := ⟨res, rfl, h⟩
  unfold fX5_readNumber at h
  refine sw_enter2 (own := RX5) (lv := [(0, .ref 1), (1, .int a1), (2, .int a2)]) (by decide +kernel) (Nat.le_of_ble_eq_true rfl) rfl rfl ?_
  refine sw_aload_n (k0 := 0) 0 rfl (by decide +kernel) rfl ?_
  refine gf_X5_12 (i := 1) (by decide) rfl (by decide +kernel) ?_
  refine sw_refj 2 rfl ?_
  refine gf_X5_38 (i := 2) (by decide) rfl (by decide +kernel) ?_
  refine sw_iconst (n := 3) (v := 3) (by decide +kernel) (by decide) ?_
  refine sw_icmp_eq (off := 11) 19 (by decide +kernel) (by decide) (fun c1 => ?_) (fun c1 => ?_)
  · rw [if_pos c1] at h
    refine sw_aload_n (k0 := 0) 0 rfl (by decide +kernel) rfl ?_
    refine gf_X5_12 (i := 1) (by decide) rfl (by decide +kernel) ?_
    refine sw_refj 2 rfl ?_
    refine gf_X5_180 (i := 2) (by decide) rfl (by decide +kernel) ?_
    obtain ⟨v2, e3, h⟩ := sw_let_e h
    refine sw_topi e3 ?_
    refine sw_istore_n (k0 := 3) (lv' := [(3, .int v2), (0, .ref 1), (1, .int a1), (2, .int a2)]) (by decide +kernel) rfl (by decide) rfl ?_
    refine sw_iload_n (k0 := 3) 0 rfl (by decide +kernel) rfl ?_
    refine sw_iload_n (k0 := 1) 2 rfl (by decide +kernel) rfl ?_
    refine sw_icmp_lt (off := 8) 37 (by decide +kernel) (by decide) (fun c4 => ?_) (fun c4 => ?_)
    · rw [if_pos c4] at h
      refine sw_lv [1] rfl ?_
      exact sX5_readNumber_L37 hE hK σ h hk
    · rw [if_neg c4] at h
      refine sw_iload_n (k0 := 3) 0 rfl (by decide +kernel) rfl ?_
      refine sw_iload_n (k0 := 2) 3 rfl (by decide +kernel) rfl ?_
      refine sw_icmp_le (off := 11) 45 (by decide +kernel) (by decide) (fun c5 => ?_) (fun c5 => ?_)
      · rw [if_pos c5] at h
        refine sw_aload_n (k0 := 0) 1 rfl (by decide +kernel) rfl ?_
        refine gf_X5_12 (i := 1) (by decide) rfl (by decide +kernel) ?_
        refine sw_refj 2 rfl ?_
        obtain ⟨m6, w7, h⟩ := sw_b1_e h
        refine sw_callVv (ci := 7) (i := 2) [] (sX7_readNext (K := K - 1) hE (by omega) σ w7) rfl (by omega) rfl gs_X5_76 hy_X7_readNext (by decide) (by decide) rfl rfl (Nat.le_of_ble_eq_true rfl) (by decide +kernel) ?_
        refine sw_iload_n (k0 := 3) 0 rfl (by decide +kernel) rfl ?_
        cases h
        obtain rfl : _ = res := hk
        exact sw_iret (by decide +kernel)
      · rw [if_neg c5] at h
        refine sw_lv [1] rfl ?_
        exact sX5_readNumber_L37 hE hK σ h hk
  · rw [if_neg c1] at h
    refine sw_aload_n (k0 := 0) 0 rfl (by decide +kernel) rfl ?_
    refine sw_iconst (n := 2) (v := 2) (by decide +kernel) (by decide) ?_
    obtain ⟨r8, m9, w10, h⟩ := sw_b2_e h
    refine sw_callVi (ci := 5) (i := 1) [.int 2] (sX5_refuse (K := K - 1) (by omega) σ 2 w10) rfl (by omega) rfl gs_X5_66 hy_X5_refuse (by decide) (by decide) rfl rfl (Nat.le_of_ble_eq_true rfl) (by decide +kernel) ?_
    refine sw_pop (by decide +kernel) rfl ?_
    refine sw_iconst (n := (-1)) (v := (-1)) (by decide +kernel) (by decide) ?_
    cases h
    obtain rfl : _ = res := hk
    exact sw_iret (by decide +kernel)
def fX5_readPortions_L30 (P1 : Nat) (σ : sw_M) (a2 : Int32) (a3 : Int32) : Option ((Int32 × sw_M) ⊕ (Int32 × sw_M)) :=
  sw_b2 (fX5_knownKind σ) fun r1 m2 =>
  if r1 = (-1) then
    some (.inr ((0, m2)))
  else
    sw_let ((a2 * 5) + r1) fun v5 =>
    if v5 < (Int32.ofNat (sw_s P1).2) then
      sw_gd (sw_in v5 (sw_s P1).2) <|
      if (m2.1 P1 v5.toNatClampNeg) ≤ 0 then
        sw_b1 (fX7_readNext m2) fun m10 =>
        sw_b2 (fX5_readNumber m10 1 20) fun r12 m13 =>
        if r12 = (-1) then
          some (.inr ((0, m13)))
        else
          sw_gd (sw_in v5 (sw_s P1).2) <|
          sw_let (sw_w m13 P1 v5.toNatClampNeg r12) fun m17 =>
          sw_let (sw_w m17 1 4 r1) fun m19 =>
          sw_let (a3 + 1) fun v21 =>
          some (.inl (v21, m19))
      else
        sw_b2 (fX5_refuse m2 3) fun r23 m24 =>
        sw_gd (sw_bo r23) <|
        some (.inr ((r23, m24)))
    else
      sw_b2 (fX5_refuse m2 2) fun r27 m28 =>
      sw_gd (sw_bo r27) <|
      some (.inr ((r27, m28)))
def fX5_readPortions_L2 (P1 : Nat) (σ : sw_M) (a2 : Int32) (a3 : Int32) : Option ((Int32 × sw_M) ⊕ (Int32 × sw_M)) :=
  if 5 < a3 then
    sw_b2 (fX5_refuse σ 2) fun r2 m3 =>
    sw_gd (sw_bo r2) <|
    some (.inr ((r2, m3)))
  else
    if a3 ≤ 0 then
      fX5_readPortions_L30 P1 σ a2 a3
    else
      if (σ.1 2 9) = 59 then
        sw_b2 (fX5_readSign σ 59) fun r8 m9 =>
        sw_gd (sw_bo r8) <|
        some (.inr ((r8, m9)))
      else
        fX5_readPortions_L30 P1 σ a2 a3
def fX5_readPortions (P1 : Nat) (σ : sw_M) (a2 : Int32) : Option (Int32 × sw_M) :=
  sw_wh sw_F (fun s => fX5_readPortions_L2 P1 s.2 a2 s.1) (0, σ)
set_option maxRecDepth 20000 in
theorem sX5_readPortions_L30 {l : Launch} {E : sw_E} {K : Nat} (hE : sw_RS l E) (hK : 11 ≤ K) (P1 : Nat) (hP1 : sw_isA 1 P1) (σ : sw_M) (a2 : Int32) (a3 : Int32) {res : Int32 × sw_M} {t : (Int32 × sw_M) ⊕ (Int32 × sw_M)} (h : fX5_readPortions_L30 P1 σ a2 a3 = some t) (hk : (Sum.elim (fun s : Int32 × sw_M => sw_Go l E K RX5 cX5_readPortions 7 (some .boolean) 2 [(0, .ref 1), (1, .ref P1), (2, .int a2), (3, .int s.1)] [] s.2 (some (.int res.1)) res.2) (fun q => q = res)) t) : sw_Go l E K RX5 cX5_readPortions 7 (some .boolean) 30 [(0, .ref 1), (1, .ref P1), (2, .int a2), (3, .int a3)] [] σ (some (.int res.1)) res.2 := by
  unfold fX5_readPortions_L30 at h
  refine sw_aload_n (k0 := 0) 0 rfl (by decide +kernel) rfl ?_
  obtain ⟨r1, m2, w3, h⟩ := sw_b2_e h
  refine sw_callVi (ci := 5) (i := 1) [] (sX5_knownKind (K := K - 1) (by omega) σ w3) rfl (by omega) rfl gs_X5_166 hy_X5_knownKind (by decide) (by decide) rfl rfl (Nat.le_of_ble_eq_true rfl) (by decide +kernel) ?_
  refine sw_istore (i := 4) (lv' := [(4, .int r1), (0, .ref 1), (1, .ref P1), (2, .int a2), (3, .int a3)]) (by decide +kernel) (by decide) rfl ?_
  refine sw_iload 0 rfl (by decide +kernel) ?_
  refine sw_iconst (n := (-1)) (v := (-1)) (by decide +kernel) (by decide) ?_
  refine sw_icmp_ne (off := 5) 44 (by decide +kernel) (by decide) (fun c4 => ?_) (fun c4 => ?_)
  · rw [if_neg c4] at h
    refine sw_iload_n (k0 := 2) 3 rfl (by decide +kernel) rfl ?_
    refine sw_iconst (n := 5) (v := 5) (by decide +kernel) (by decide) ?_
    refine sw_imul (by decide +kernel) ?_
    refine sw_iload 0 rfl (by decide +kernel) ?_
    refine sw_iadd (by decide +kernel) ?_
    obtain ⟨v5, e6, h⟩ := sw_let_e h
    refine sw_topi e6 ?_
    refine sw_istore (i := 5) (lv' := [(5, .int v5), (4, .int r1), (0, .ref 1), (1, .ref P1), (2, .int a2), (3, .int a3)]) (by decide +kernel) (by decide) rfl ?_
    refine sw_iload 0 rfl (by decide +kernel) ?_
    refine sw_aload_n (k0 := 1) 3 rfl (by decide +kernel) rfl ?_
    refine sw_alen (a := P1) (v := Int32.ofNat (sw_s P1).2) hP1.1 hP1.s (by decide) rfl (by decide +kernel) ?_
    refine sw_icmp_lt (off := 9) 65 (by decide +kernel) (by decide) (fun c7 => ?_) (fun c7 => ?_)
    · rw [if_pos c7] at h
      refine sw_aload_n (k0 := 1) 3 rfl (by decide +kernel) rfl ?_
      refine sw_iload 0 rfl (by decide +kernel) ?_
      obtain ⟨g8, h⟩ := sw_gd_e h
      refine sw_iaload (a := P1) hP1.1 hP1.s (sw_in_e g8) (by decide +kernel) ?_
      refine sw_if_le (off := 9) 78 (by decide +kernel) (by decide) (fun c9 => ?_) (fun c9 => ?_)
      · rw [if_pos c9] at h
        refine sw_aload_n (k0 := 0) 2 rfl (by decide +kernel) rfl ?_
        refine gf_X5_12 (i := 1) (by decide) rfl (by decide +kernel) ?_
        refine sw_refj 2 rfl ?_
        obtain ⟨m10, w11, h⟩ := sw_b1_e h
        refine sw_callVv (ci := 7) (i := 2) [] (sX7_readNext (K := K - 1) hE (by omega) m2 w11) rfl (by omega) rfl gs_X5_76 hy_X7_readNext (by decide) (by decide) rfl rfl (Nat.le_of_ble_eq_true rfl) (by decide +kernel) ?_
        refine sw_aload_n (k0 := 0) 2 rfl (by decide +kernel) rfl ?_
        refine sw_iconst (n := 1) (v := 1) (by decide +kernel) (by decide) ?_
        refine sw_bipush (n := 20) (v := 20) (by decide +kernel) (by decide) ?_
        obtain ⟨r12, m13, w14, h⟩ := sw_b2_e h
        refine sw_callVi (ci := 5) (i := 1) [.int 1, .int 20] (sX5_readNumber (K := K - 1) hE (by omega) m10 1 20 w14) rfl (by omega) rfl gs_X5_129 hy_X5_readNumber (by decide) (by decide) rfl rfl (Nat.le_of_ble_eq_true rfl) (by decide +kernel) ?_
        refine sw_istore (i := 6) (lv' := [(6, .int r12), (5, .int v5), (4, .int r1), (0, .ref 1), (1, .ref P1), (2, .int a2), (3, .int a3)]) (by decide +kernel) (by decide) rfl ?_
        refine sw_iload 0 rfl (by decide +kernel) ?_
        refine sw_iconst (n := (-1)) (v := (-1)) (by decide +kernel) (by decide) ?_
        refine sw_icmp_ne (off := 5) 102 (by decide +kernel) (by decide) (fun c15 => ?_) (fun c15 => ?_)
        · rw [if_neg c15] at h
          refine sw_aload_n (k0 := 1) 4 rfl (by decide +kernel) rfl ?_
          refine sw_iload 1 rfl (by decide +kernel) ?_
          refine sw_iload 0 rfl (by decide +kernel) ?_
          obtain ⟨g16, h⟩ := sw_gd_e h
          obtain ⟨m17, e18, h⟩ := sw_let_e h
          refine sw_iastore (a := P1) hP1.1 hP1.s (sw_in_e g16) (by decide +kernel) ?_
          refine sw_mem e18 ?_
          refine sw_aload_n (k0 := 0) 3 rfl (by decide +kernel) rfl ?_
          refine sw_iload 2 rfl (by decide +kernel) ?_
          obtain ⟨m19, e20, h⟩ := sw_let_e h
          refine pf_X5_107 (by decide) rfl (by decide +kernel) ?_
          refine sw_mem e20 ?_
          obtain ⟨v21, e22, h⟩ := sw_let_e h
          refine sw_iincv (i := 3) (n := 1) (lv' := [(3, .int v21), (6, .int r12), (5, .int v5), (4, .int r1), (0, .ref 1), (1, .ref P1), (2, .int a2)]) 6 rfl e22 (by decide +kernel) (by decide) (by decide) rfl ?_
          refine sw_goto (off := (-115)) 2 (by decide +kernel) (by decide) ?_
          cases h
          refine sw_lv [4, 5, 6, 0] rfl ?_
          exact hk
        · rw [if_pos c15] at h
          refine sw_iconst (n := 0) (v := 0) (by decide +kernel) (by decide) ?_
          cases h
          obtain rfl : _ = res := hk
          exact sw_zret rfl (by decide +kernel)
      · rw [if_neg c9] at h
        refine sw_aload_n (k0 := 0) 2 rfl (by decide +kernel) rfl ?_
        refine sw_iconst (n := 3) (v := 3) (by decide +kernel) (by decide) ?_
        obtain ⟨r23, m24, w25, h⟩ := sw_b2_e h
        refine sw_callVi (ci := 5) (i := 1) [.int 3] (sX5_refuse (K := K - 1) (by omega) m2 3 w25) rfl (by omega) rfl gs_X5_66 hy_X5_refuse (by decide) (by decide) rfl rfl (Nat.le_of_ble_eq_true rfl) (by decide +kernel) ?_
        obtain ⟨g26, h⟩ := sw_gd_e h
        cases h
        obtain rfl : _ = res := hk
        exact sw_zret (sw_bo_n (sw_bo_e g26)) (by decide +kernel)
    · rw [if_neg c7] at h
      refine sw_aload_n (k0 := 0) 2 rfl (by decide +kernel) rfl ?_
      refine sw_iconst (n := 2) (v := 2) (by decide +kernel) (by decide) ?_
      obtain ⟨r27, m28, w29, h⟩ := sw_b2_e h
      refine sw_callVi (ci := 5) (i := 1) [.int 2] (sX5_refuse (K := K - 1) (by omega) m2 2 w29) rfl (by omega) rfl gs_X5_66 hy_X5_refuse (by decide) (by decide) rfl rfl (Nat.le_of_ble_eq_true rfl) (by decide +kernel) ?_
      obtain ⟨g30, h⟩ := sw_gd_e h
      cases h
      obtain rfl : _ = res := hk
      exact sw_zret (sw_bo_n (sw_bo_e g30)) (by decide +kernel)
  · rw [if_pos c4] at h
    refine sw_iconst (n := 0) (v := 0) (by decide +kernel) (by decide) ?_
    cases h
    obtain rfl : _ = res := hk
    exact sw_zret rfl (by decide +kernel)
set_option maxRecDepth 20000 in
theorem sX5_readPortions_L2 {l : Launch} {E : sw_E} {K : Nat} (hE : sw_RS l E) (hK : 11 ≤ K) (P1 : Nat) (hP1 : sw_isA 1 P1) (σ : sw_M) (a2 : Int32) (a3 : Int32) {res : Int32 × sw_M} {t : (Int32 × sw_M) ⊕ (Int32 × sw_M)} (h : fX5_readPortions_L2 P1 σ a2 a3 = some t) (hk : (Sum.elim (fun s : Int32 × sw_M => sw_Go l E K RX5 cX5_readPortions 7 (some .boolean) 2 [(0, .ref 1), (1, .ref P1), (2, .int a2), (3, .int s.1)] [] s.2 (some (.int res.1)) res.2) (fun q => q = res)) t) : sw_Go l E K RX5 cX5_readPortions 7 (some .boolean) 2 [(0, .ref 1), (1, .ref P1), (2, .int a2), (3, .int a3)] [] σ (some (.int res.1)) res.2 := by
  unfold fX5_readPortions_L2 at h
  refine sw_iload_n (k0 := 3) 3 rfl (by decide +kernel) rfl ?_
  refine sw_iconst (n := 5) (v := 5) (by decide +kernel) (by decide) ?_
  refine sw_icmp_gt (off := 116) 120 (by decide +kernel) (by decide) (fun c1 => ?_) (fun c1 => ?_)
  · rw [if_pos c1] at h
    refine sw_aload_n (k0 := 0) 0 rfl (by decide +kernel) rfl ?_
    refine sw_iconst (n := 2) (v := 2) (by decide +kernel) (by decide) ?_
    obtain ⟨r2, m3, w4, h⟩ := sw_b2_e h
    refine sw_callVi (ci := 5) (i := 1) [.int 2] (sX5_refuse (K := K - 1) (by omega) σ 2 w4) rfl (by omega) rfl gs_X5_66 hy_X5_refuse (by decide) (by decide) rfl rfl (Nat.le_of_ble_eq_true rfl) (by decide +kernel) ?_
    obtain ⟨g5, h⟩ := sw_gd_e h
    cases h
    obtain rfl : _ = res := hk
    exact sw_zret (sw_bo_n (sw_bo_e g5)) (by decide +kernel)
  · rw [if_neg c1] at h
    refine sw_iload_n (k0 := 3) 3 rfl (by decide +kernel) rfl ?_
    refine sw_if_le (off := 22) 30 (by decide +kernel) (by decide) (fun c6 => ?_) (fun c6 => ?_)
    · rw [if_pos c6] at h
      exact sX5_readPortions_L30 hE hK P1 hP1 σ a2 a3 h hk
    · rw [if_neg c6] at h
      refine sw_aload_n (k0 := 0) 0 rfl (by decide +kernel) rfl ?_
      refine gf_X5_12 (i := 1) (by decide) rfl (by decide +kernel) ?_
      refine sw_refj 2 rfl ?_
      refine gf_X5_163 (i := 2) (by decide) rfl (by decide +kernel) ?_
      refine sw_bipush (n := 59) (v := 59) (by decide +kernel) (by decide) ?_
      refine sw_icmp_ne (off := 10) 30 (by decide +kernel) (by decide) (fun c7 => ?_) (fun c7 => ?_)
      · rw [if_neg c7] at h
        exact sX5_readPortions_L30 hE hK P1 hP1 σ a2 a3 h hk
      · rw [if_pos c7] at h
        refine sw_aload_n (k0 := 0) 0 rfl (by decide +kernel) rfl ?_
        refine sw_bipush (n := 59) (v := 59) (by decide +kernel) (by decide) ?_
        obtain ⟨r8, m9, w10, h⟩ := sw_b2_e h
        refine sw_callVi (ci := 5) (i := 1) [.int 59] (sX5_readSign (K := K - 1) hE (by omega) σ 59 w10) rfl (by omega) rfl gs_X5_87 hy_X5_readSign (by decide) (by decide) rfl rfl (Nat.le_of_ble_eq_true rfl) (by decide +kernel) ?_
        obtain ⟨g11, h⟩ := sw_gd_e h
        cases h
        obtain rfl : _ = res := hk
        exact sw_zret (sw_bo_n (sw_bo_e g11)) (by decide +kernel)
set_option maxRecDepth 20000 in
theorem sX5_readPortions {l : Launch} {E : sw_E} {K : Nat} (hE : sw_RS l E) (hK : 11 ≤ K) (P1 : Nat) (hP1 : sw_isA 1 P1) (σ : sw_M) (a2 : Int32) {res : Int32 × sw_M} (h : fX5_readPortions P1 σ a2 = some res) : sw_Ct l E K yX5_readPortions cX5_readPortions 7 (some .boolean) [.ref 1, .ref P1, .int a2] σ (some (.int res.1)) res.2 := by
  obtain ⟨t, hk, h⟩ : ∃ t, t = res ∧ fX5_readPortions P1 σ a2 = some t := ⟨res, rfl, h⟩
  unfold fX5_readPortions at h
  refine sw_enter2 (own := RX5) (lv := [(0, .ref 1), (1, .ref P1), (2, .int a2)]) (by decide +kernel) (Nat.le_of_ble_eq_true rfl) rfl rfl ?_
  refine sw_iconst (n := 0) (v := 0) (by decide +kernel) (by decide) ?_
  refine sw_istore_n (k0 := 3) (lv' := [(3, .int 0), (0, .ref 1), (1, .ref P1), (2, .int a2)]) (by decide +kernel) rfl (by decide) rfl ?_
  refine sw_lv [1, 2, 3, 0] rfl ?_
  exact sw_wh_e (fun s : Int32 × sw_M => sw_Go l E K RX5 cX5_readPortions 7 (some .boolean) 2 [(0, .ref 1), (1, .ref P1), (2, .int a2), (3, .int s.1)] [] s.2 (some (.int res.1)) res.2) (fun q => q = res) (fun s => fX5_readPortions_L2 P1 s.2 a2 s.1) (fun s t hb hk => sX5_readPortions_L2 hE hK P1 hP1 s.2 a2 s.1 hb hk) _ _ _ h hk
def fX5_readPerson (σ : sw_M) : Option (Int32 × sw_M) :=
  if (σ.1 (sw_pl (σ.2.2 1)) 1) < 7 then
    sw_b1 (fX7_readNext σ) fun m2 =>
    sw_b2 (fX5_readNewName ((sw_pl (m2.2.2 1)) + 2) m2 (m2.1 (sw_pl (m2.2.2 1)) 1)) fun r4 m5 =>
    if r4 = 0 then
      some ((0, m5))
    else
      sw_b2 (fX5_readKey m5 7) fun r8 m9 =>
      if r8 = 0 then
        some ((0, m9))
      else
        sw_b2 (fX5_readPortions ((sw_pl (m9.2.2 1)) + 4) m9 (m9.1 (sw_pl (m9.2.2 1)) 1)) fun r12 m13 =>
        if r12 = 0 then
          some ((0, m13))
        else
          sw_let (sw_w m13 (sw_pl (m13.2.2 1)) 1 ((m13.1 (sw_pl (m13.2.2 1)) 1) + 1)) fun m16 =>
          sw_let (sw_w m16 (sw_pl (m16.2.2 1)) 8 (m16.1 1 4)) fun m18 =>
          some ((1, m18))
  else
    sw_b2 (fX5_refuse σ 2) fun r20 m21 =>
    sw_gd (sw_bo r20) <|
    some ((r20, m21))
set_option maxRecDepth 20000 in
theorem sX5_readPerson {l : Launch} {E : sw_E} {K : Nat} (hE : sw_RS l E) (hK : 12 ≤ K) (σ : sw_M) {res : Int32 × sw_M} (h : fX5_readPerson σ = some res) : sw_Ct l E K yX5_readPerson cX5_readPerson 1 (some .boolean) [.ref 1] σ (some (.int res.1)) res.2 := by
  obtain ⟨t, hk, h⟩ : ∃ t, t = res ∧ fX5_readPerson σ = some t := ⟨res, rfl, h⟩
  unfold fX5_readPerson at h
  refine sw_enter2 (own := RX5) (lv := [(0, .ref 1)]) (by decide +kernel) (Nat.le_of_ble_eq_true rfl) rfl rfl ?_
  refine sw_aload_n (k0 := 0) 0 rfl (by decide +kernel) rfl ?_
  refine gf_X5_21 (i := 1) (by decide) rfl (by decide +kernel) ?_
  refine gf_X5_90 (i := (sw_pl (σ.2.2 1))) (sw_pl_P _).o.1 (sw_pl_P _).o.2 (by decide +kernel) ?_
  refine sw_bipush (n := 7) (v := 7) (by decide +kernel) (by decide) ?_
  refine sw_icmp_lt (off := 9) 18 (by decide +kernel) (by decide) (fun c1 => ?_) (fun c1 => ?_)
  · rw [if_pos c1] at h
    refine sw_aload_n (k0 := 0) 0 rfl (by decide +kernel) rfl ?_
    refine gf_X5_12 (i := 1) (by decide) rfl (by decide +kernel) ?_
    refine sw_refj 2 rfl ?_
    obtain ⟨m2, w3, h⟩ := sw_b1_e h
    refine sw_callVv (ci := 7) (i := 2) [] (sX7_readNext (K := K - 1) hE (by omega) σ w3) rfl (by omega) rfl gs_X5_76 hy_X7_readNext (by decide) (by decide) rfl rfl (Nat.le_of_ble_eq_true rfl) (by decide +kernel) ?_
    refine sw_aload_n (k0 := 0) 0 rfl (by decide +kernel) rfl ?_
    refine sw_aload_n (k0 := 0) 0 rfl (by decide +kernel) rfl ?_
    refine gf_X5_21 (i := 1) (by decide) rfl (by decide +kernel) ?_
    refine gf_X5_93 (i := (sw_pl (m2.2.2 1))) (sw_pl_P _).o.1 (sw_pl_P _).o.2 (by decide +kernel) ?_
    refine sw_aload_n (k0 := 0) 0 rfl (by decide +kernel) rfl ?_
    refine gf_X5_21 (i := 1) (by decide) rfl (by decide +kernel) ?_
    refine gf_X5_90 (i := (sw_pl (m2.2.2 1))) (sw_pl_P _).o.1 (sw_pl_P _).o.2 (by decide +kernel) ?_
    obtain ⟨r4, m5, w6, h⟩ := sw_b2_e h
    refine sw_callVi (ci := 5) (i := 1) [.ref ((sw_pl (m2.2.2 1)) + 2), .int (m2.1 (sw_pl (m2.2.2 1)) 1)] (sX5_readNewName (K := K - 1) hE (by omega) ((sw_pl (m2.2.2 1)) + 2) (sw_A_of (sw_pl_P _).p2.1 (sw_pl_P _).p2.2) m2 (m2.1 (sw_pl (m2.2.2 1)) 1) w6) rfl (by omega) rfl gs_X5_83 hy_X5_readNewName (by decide) (by decide) rfl rfl (Nat.le_of_ble_eq_true rfl) (by decide +kernel) ?_
    refine sw_if_eq (off := 12) 55 (by decide +kernel) (by decide) (fun c7 => ?_) (fun c7 => ?_)
    · rw [if_pos c7] at h
      refine sw_iconst (n := 0) (v := 0) (by decide +kernel) (by decide) ?_
      cases h
      obtain rfl : _ = res := hk
      exact sw_zret rfl (by decide +kernel)
    · rw [if_neg c7] at h
      refine sw_aload_n (k0 := 0) 0 rfl (by decide +kernel) rfl ?_
      refine sw_bipush (n := 7) (v := 7) (by decide +kernel) (by decide) ?_
      obtain ⟨r8, m9, w10, h⟩ := sw_b2_e h
      refine sw_callVi (ci := 5) (i := 1) [.int 7] (sX5_readKey (K := K - 1) hE (by omega) m5 7 w10) rfl (by omega) rfl gs_X5_96 hy_X5_readKey (by decide) (by decide) rfl rfl (Nat.le_of_ble_eq_true rfl) (by decide +kernel) ?_
      refine sw_if_ne (off := 5) 57 (by decide +kernel) (by decide) (fun c11 => ?_) (fun c11 => ?_)
      · rw [if_neg c11] at h
        refine sw_aload_n (k0 := 0) 0 rfl (by decide +kernel) rfl ?_
        refine sw_aload_n (k0 := 0) 0 rfl (by decide +kernel) rfl ?_
        refine gf_X5_21 (i := 1) (by decide) rfl (by decide +kernel) ?_
        refine gf_X5_99 (i := (sw_pl (m9.2.2 1))) (sw_pl_P _).o.1 (sw_pl_P _).o.2 (by decide +kernel) ?_
        refine sw_aload_n (k0 := 0) 0 rfl (by decide +kernel) rfl ?_
        refine gf_X5_21 (i := 1) (by decide) rfl (by decide +kernel) ?_
        refine gf_X5_90 (i := (sw_pl (m9.2.2 1))) (sw_pl_P _).o.1 (sw_pl_P _).o.2 (by decide +kernel) ?_
        obtain ⟨r12, m13, w14, h⟩ := sw_b2_e h
        refine sw_callVi (ci := 5) (i := 1) [.ref ((sw_pl (m9.2.2 1)) + 4), .int (m9.1 (sw_pl (m9.2.2 1)) 1)] (sX5_readPortions (K := K - 1) hE (by omega) ((sw_pl (m9.2.2 1)) + 4) (sw_A_of (sw_pl_P _).p4.1 (sw_pl_P _).p4.2) m9 (m9.1 (sw_pl (m9.2.2 1)) 1) w14) rfl (by omega) rfl gs_X5_103 hy_X5_readPortions (by decide) (by decide) rfl rfl (Nat.le_of_ble_eq_true rfl) (by decide +kernel) ?_
        refine sw_if_ne (off := 5) 80 (by decide +kernel) (by decide) (fun c15 => ?_) (fun c15 => ?_)
        · rw [if_neg c15] at h
          refine sw_aload_n (k0 := 0) 0 rfl (by decide +kernel) rfl ?_
          refine gf_X5_21 (i := 1) (by decide) rfl (by decide +kernel) ?_
          refine sw_dup (by decide +kernel) rfl ?_
          refine gf_X5_90 (i := (sw_pl (m13.2.2 1))) (sw_pl_P _).o.1 (sw_pl_P _).o.2 (by decide +kernel) ?_
          refine sw_iconst (n := 1) (v := 1) (by decide +kernel) (by decide) ?_
          refine sw_iadd (by decide +kernel) ?_
          obtain ⟨m16, e17, h⟩ := sw_let_e h
          refine pf_X5_90 (sw_pl_P _).o.1 (sw_pl_P _).o.2 (by decide +kernel) ?_
          refine sw_mem e17 ?_
          refine sw_aload_n (k0 := 0) 0 rfl (by decide +kernel) rfl ?_
          refine gf_X5_21 (i := 1) (by decide) rfl (by decide +kernel) ?_
          refine sw_aload_n (k0 := 0) 0 rfl (by decide +kernel) rfl ?_
          refine gf_X5_107 (i := 1) (by decide) rfl (by decide +kernel) ?_
          obtain ⟨m18, e19, h⟩ := sw_let_e h
          refine pf_X5_110 (sw_pl_P _).o.1 (sw_pl_P _).o.2 (by decide +kernel) ?_
          refine sw_mem e19 ?_
          refine sw_iconst (n := 1) (v := 1) (by decide +kernel) (by decide) ?_
          cases h
          obtain rfl : _ = res := hk
          exact sw_zret rfl (by decide +kernel)
        · rw [if_pos c15] at h
          refine sw_iconst (n := 0) (v := 0) (by decide +kernel) (by decide) ?_
          cases h
          obtain rfl : _ = res := hk
          exact sw_zret rfl (by decide +kernel)
      · rw [if_pos c11] at h
        refine sw_iconst (n := 0) (v := 0) (by decide +kernel) (by decide) ?_
        cases h
        obtain rfl : _ = res := hk
        exact sw_zret rfl (by decide +kernel)
  · rw [if_neg c1] at h
    refine sw_aload_n (k0 := 0) 0 rfl (by decide +kernel) rfl ?_
    refine sw_iconst (n := 2) (v := 2) (by decide +kernel) (by decide) ?_
    obtain ⟨r20, m21, w22, h⟩ := sw_b2_e h
    refine sw_callVi (ci := 5) (i := 1) [.int 2] (sX5_refuse (K := K - 1) (by omega) σ 2 w22) rfl (by omega) rfl gs_X5_66 hy_X5_refuse (by decide) (by decide) rfl rfl (Nat.le_of_ble_eq_true rfl) (by decide +kernel) ?_
    obtain ⟨g23, h⟩ := sw_gd_e h
    cases h
    obtain rfl : _ = res := hk
    exact sw_zret (sw_bo_n (sw_bo_e g23)) (by decide +kernel)
def fX5_readKnownKind (σ : sw_M) : Option (Int32 × sw_M) :=
  sw_b2 (fX5_knownKind σ) fun r1 m2 =>
  if r1 = (-1) then
    some ((r1, m2))
  else
    sw_b1 (fX7_readNext m2) fun m5 =>
    some ((r1, m5))
set_option maxRecDepth 20000 in
theorem sX5_readKnownKind {l : Launch} {E : sw_E} {K : Nat} (hE : sw_RS l E) (hK : 10 ≤ K) (σ : sw_M) {res : Int32 × sw_M} (h : fX5_readKnownKind σ = some res) : sw_Ct l E K yX5_readKnownKind cX5_readKnownKind 2 (some .int) [.ref 1] σ (some (.int res.1)) res.2 := by
  obtain ⟨t, hk, h⟩ : ∃ t, t = res ∧ fX5_readKnownKind σ = some t := ⟨res, rfl, h⟩
  unfold fX5_readKnownKind at h
  refine sw_enter2 (own := RX5) (lv := [(0, .ref 1)]) (by decide +kernel) (Nat.le_of_ble_eq_true rfl) rfl rfl ?_
  refine sw_aload_n (k0 := 0) 0 rfl (by decide +kernel) rfl ?_
  obtain ⟨r1, m2, w3, h⟩ := sw_b2_e h
  refine sw_callVi (ci := 5) (i := 1) [] (sX5_knownKind (K := K - 1) (by omega) σ w3) rfl (by omega) rfl gs_X5_166 hy_X5_knownKind (by decide) (by decide) rfl rfl (Nat.le_of_ble_eq_true rfl) (by decide +kernel) ?_
  refine sw_istore_n (k0 := 1) (lv' := [(1, .int r1), (0, .ref 1)]) (by decide +kernel) rfl (by decide) rfl ?_
  refine sw_iload_n (k0 := 1) 0 rfl (by decide +kernel) rfl ?_
  refine sw_iconst (n := (-1)) (v := (-1)) (by decide +kernel) (by decide) ?_
  refine sw_icmp_eq (off := 10) 17 (by decide +kernel) (by decide) (fun c4 => ?_) (fun c4 => ?_)
  · rw [if_pos c4] at h
    refine sw_iload_n (k0 := 1) 0 rfl (by decide +kernel) rfl ?_
    cases h
    obtain rfl : _ = res := hk
    exact sw_iret (by decide +kernel)
  · rw [if_neg c4] at h
    refine sw_aload_n (k0 := 0) 1 rfl (by decide +kernel) rfl ?_
    refine gf_X5_12 (i := 1) (by decide) rfl (by decide +kernel) ?_
    refine sw_refj 2 rfl ?_
    obtain ⟨m5, w6, h⟩ := sw_b1_e h
    refine sw_callVv (ci := 7) (i := 2) [] (sX7_readNext (K := K - 1) hE (by omega) m2 w6) rfl (by omega) rfl gs_X5_76 hy_X7_readNext (by decide) (by decide) rfl rfl (Nat.le_of_ble_eq_true rfl) (by decide +kernel) ?_
    refine sw_iload_n (k0 := 1) 0 rfl (by decide +kernel) rfl ?_
    cases h
    obtain rfl : _ = res := hk
    exact sw_iret (by decide +kernel)
def fX5_readRule (σ : sw_M) : Option (Int32 × sw_M) :=
  if (σ.1 (sw_pl (σ.2.2 1)) 2) < 6 then
    sw_b1 (fX7_readNext σ) fun m2 =>
    sw_b2 (fX5_readKnownKind m2) fun r4 m5 =>
    if r4 = (-1) then
      some ((0, m5))
    else
      sw_b2 (fX5_readKnownKind m5) fun r8 m9 =>
      if r8 = (-1) then
        some ((0, m9))
      else
        sw_b2 (fX5_readKey m9 8) fun r12 m13 =>
        if r12 = 0 then
          some ((0, m13))
        else
          sw_b2 (fX5_readKnownKind m13) fun r16 m17 =>
          if r16 = (-1) then
            some ((0, m17))
          else
            sw_b2 (fX5_readNumber m17 1 9) fun r20 m21 =>
            if r20 = (-1) then
              some ((0, m21))
            else
              sw_b1 (fX4_addRule (sw_pl (m21.2.2 1)) m21 r4 r8 r16 r20) fun m24 =>
              sw_b2 (fX5_readSign m24 59) fun r26 m27 =>
              sw_gd (sw_bo r26) <|
              some ((r26, m27))
  else
    sw_b2 (fX5_refuse σ 2) fun r30 m31 =>
    sw_gd (sw_bo r30) <|
    some ((r30, m31))
set_option maxRecDepth 20000 in
theorem sX5_readRule {l : Launch} {E : sw_E} {K : Nat} (hE : sw_RS l E) (hK : 11 ≤ K) (σ : sw_M) {res : Int32 × sw_M} (h : fX5_readRule σ = some res) : sw_Ct l E K yX5_readRule cX5_readRule 5 (some .boolean) [.ref 1] σ (some (.int res.1)) res.2 := by
  obtain ⟨t, hk, h⟩ : ∃ t, t = res ∧ fX5_readRule σ = some t := ⟨res, rfl, h⟩
  unfold fX5_readRule at h
  refine sw_enter2 (own := RX5) (lv := [(0, .ref 1)]) (by decide +kernel) (Nat.le_of_ble_eq_true rfl) rfl rfl ?_
  refine sw_aload_n (k0 := 0) 0 rfl (by decide +kernel) rfl ?_
  refine gf_X5_21 (i := 1) (by decide) rfl (by decide +kernel) ?_
  refine gf_X5_122 (i := (sw_pl (σ.2.2 1))) (sw_pl_P _).o.1 (sw_pl_P _).o.2 (by decide +kernel) ?_
  refine sw_bipush (n := 6) (v := 6) (by decide +kernel) (by decide) ?_
  refine sw_icmp_lt (off := 9) 18 (by decide +kernel) (by decide) (fun c1 => ?_) (fun c1 => ?_)
  · rw [if_pos c1] at h
    refine sw_aload_n (k0 := 0) 0 rfl (by decide +kernel) rfl ?_
    refine gf_X5_12 (i := 1) (by decide) rfl (by decide +kernel) ?_
    refine sw_refj 2 rfl ?_
    obtain ⟨m2, w3, h⟩ := sw_b1_e h
    refine sw_callVv (ci := 7) (i := 2) [] (sX7_readNext (K := K - 1) hE (by omega) σ w3) rfl (by omega) rfl gs_X5_76 hy_X7_readNext (by decide) (by decide) rfl rfl (Nat.le_of_ble_eq_true rfl) (by decide +kernel) ?_
    refine sw_aload_n (k0 := 0) 0 rfl (by decide +kernel) rfl ?_
    obtain ⟨r4, m5, w6, h⟩ := sw_b2_e h
    refine sw_callVi (ci := 5) (i := 1) [] (sX5_readKnownKind (K := K - 1) hE (by omega) m2 w6) rfl (by omega) rfl gs_X5_125 hy_X5_readKnownKind (by decide) (by decide) rfl rfl (Nat.le_of_ble_eq_true rfl) (by decide +kernel) ?_
    refine sw_istore_n (k0 := 1) (lv' := [(1, .int r4), (0, .ref 1)]) (by decide +kernel) rfl (by decide) rfl ?_
    refine sw_iload_n (k0 := 1) 0 rfl (by decide +kernel) rfl ?_
    refine sw_iconst (n := (-1)) (v := (-1)) (by decide +kernel) (by decide) ?_
    refine sw_icmp_ne (off := 5) 37 (by decide +kernel) (by decide) (fun c7 => ?_) (fun c7 => ?_)
    · rw [if_neg c7] at h
      refine sw_aload_n (k0 := 0) 1 rfl (by decide +kernel) rfl ?_
      obtain ⟨r8, m9, w10, h⟩ := sw_b2_e h
      refine sw_callVi (ci := 5) (i := 1) [] (sX5_readKnownKind (K := K - 1) hE (by omega) m5 w10) rfl (by omega) rfl gs_X5_125 hy_X5_readKnownKind (by decide) (by decide) rfl rfl (Nat.le_of_ble_eq_true rfl) (by decide +kernel) ?_
      refine sw_istore_n (k0 := 2) (lv' := [(2, .int r8), (1, .int r4), (0, .ref 1)]) (by decide +kernel) rfl (by decide) rfl ?_
      refine sw_iload_n (k0 := 2) 0 rfl (by decide +kernel) rfl ?_
      refine sw_iconst (n := (-1)) (v := (-1)) (by decide +kernel) (by decide) ?_
      refine sw_icmp_eq (off := 12) 56 (by decide +kernel) (by decide) (fun c11 => ?_) (fun c11 => ?_)
      · rw [if_pos c11] at h
        refine sw_iconst (n := 0) (v := 0) (by decide +kernel) (by decide) ?_
        cases h
        obtain rfl : _ = res := hk
        exact sw_zret rfl (by decide +kernel)
      · rw [if_neg c11] at h
        refine sw_aload_n (k0 := 0) 2 rfl (by decide +kernel) rfl ?_
        refine sw_bipush (n := 8) (v := 8) (by decide +kernel) (by decide) ?_
        obtain ⟨r12, m13, w14, h⟩ := sw_b2_e h
        refine sw_callVi (ci := 5) (i := 1) [.int 8] (sX5_readKey (K := K - 1) hE (by omega) m9 8 w14) rfl (by omega) rfl gs_X5_96 hy_X5_readKey (by decide) (by decide) rfl rfl (Nat.le_of_ble_eq_true rfl) (by decide +kernel) ?_
        refine sw_if_ne (off := 5) 58 (by decide +kernel) (by decide) (fun c15 => ?_) (fun c15 => ?_)
        · rw [if_neg c15] at h
          refine sw_aload_n (k0 := 0) 2 rfl (by decide +kernel) rfl ?_
          obtain ⟨r16, m17, w18, h⟩ := sw_b2_e h
          refine sw_callVi (ci := 5) (i := 1) [] (sX5_readKnownKind (K := K - 1) hE (by omega) m13 w18) rfl (by omega) rfl gs_X5_125 hy_X5_readKnownKind (by decide) (by decide) rfl rfl (Nat.le_of_ble_eq_true rfl) (by decide +kernel) ?_
          refine sw_istore_n (k0 := 3) (lv' := [(3, .int r16), (2, .int r8), (1, .int r4), (0, .ref 1)]) (by decide +kernel) rfl (by decide) rfl ?_
          refine sw_iload_n (k0 := 3) 0 rfl (by decide +kernel) rfl ?_
          refine sw_iconst (n := (-1)) (v := (-1)) (by decide +kernel) (by decide) ?_
          refine sw_icmp_ne (off := 5) 70 (by decide +kernel) (by decide) (fun c19 => ?_) (fun c19 => ?_)
          · rw [if_neg c19] at h
            refine sw_aload_n (k0 := 0) 3 rfl (by decide +kernel) rfl ?_
            refine sw_iconst (n := 1) (v := 1) (by decide +kernel) (by decide) ?_
            refine sw_bipush (n := 9) (v := 9) (by decide +kernel) (by decide) ?_
            obtain ⟨r20, m21, w22, h⟩ := sw_b2_e h
            refine sw_callVi (ci := 5) (i := 1) [.int 1, .int 9] (sX5_readNumber (K := K - 1) hE (by omega) m17 1 9 w22) rfl (by omega) rfl gs_X5_129 hy_X5_readNumber (by decide) (by decide) rfl rfl (Nat.le_of_ble_eq_true rfl) (by decide +kernel) ?_
            refine sw_istore (i := 4) (lv' := [(4, .int r20), (3, .int r16), (2, .int r8), (1, .int r4), (0, .ref 1)]) (by decide +kernel) (by decide) rfl ?_
            refine sw_iload 0 rfl (by decide +kernel) ?_
            refine sw_iconst (n := (-1)) (v := (-1)) (by decide +kernel) (by decide) ?_
            refine sw_icmp_ne (off := 5) 87 (by decide +kernel) (by decide) (fun c23 => ?_) (fun c23 => ?_)
            · rw [if_neg c23] at h
              refine sw_aload_n (k0 := 0) 4 rfl (by decide +kernel) rfl ?_
              refine gf_X5_21 (i := 1) (by decide) rfl (by decide +kernel) ?_
              refine sw_iload_n (k0 := 1) 3 rfl (by decide +kernel) rfl ?_
              refine sw_iload_n (k0 := 2) 2 rfl (by decide +kernel) rfl ?_
              refine sw_iload_n (k0 := 3) 1 rfl (by decide +kernel) rfl ?_
              refine sw_iload 0 rfl (by decide +kernel) ?_
              obtain ⟨m24, w25, h⟩ := sw_b1_e h
              refine sw_callVv (ci := 4) (i := (sw_pl (m21.2.2 1))) [.int r4, .int r8, .int r16, .int r20] (sX4_addRule (K := K - 1) (by omega) (sw_pl (m21.2.2 1)) (sw_pl_P _) m21 r4 r8 r16 r20 w25) rfl (by omega) rfl gs_X5_133 hy_X4_addRule (by decide) (sw_pl_P _).o.1 (sw_pl_P _).o.2 rfl (Nat.le_of_ble_eq_true rfl) (by decide +kernel) ?_
              refine sw_aload_n (k0 := 0) 4 rfl (by decide +kernel) rfl ?_
              refine sw_bipush (n := 59) (v := 59) (by decide +kernel) (by decide) ?_
              obtain ⟨r26, m27, w28, h⟩ := sw_b2_e h
              refine sw_callVi (ci := 5) (i := 1) [.int 59] (sX5_readSign (K := K - 1) hE (by omega) m24 59 w28) rfl (by omega) rfl gs_X5_87 hy_X5_readSign (by decide) (by decide) rfl rfl (Nat.le_of_ble_eq_true rfl) (by decide +kernel) ?_
              obtain ⟨g29, h⟩ := sw_gd_e h
              cases h
              obtain rfl : _ = res := hk
              exact sw_zret (sw_bo_n (sw_bo_e g29)) (by decide +kernel)
            · rw [if_pos c23] at h
              refine sw_iconst (n := 0) (v := 0) (by decide +kernel) (by decide) ?_
              cases h
              obtain rfl : _ = res := hk
              exact sw_zret rfl (by decide +kernel)
          · rw [if_pos c19] at h
            refine sw_iconst (n := 0) (v := 0) (by decide +kernel) (by decide) ?_
            cases h
            obtain rfl : _ = res := hk
            exact sw_zret rfl (by decide +kernel)
        · rw [if_pos c15] at h
          refine sw_iconst (n := 0) (v := 0) (by decide +kernel) (by decide) ?_
          cases h
          obtain rfl : _ = res := hk
          exact sw_zret rfl (by decide +kernel)
    · rw [if_pos c7] at h
      refine sw_iconst (n := 0) (v := 0) (by decide +kernel) (by decide) ?_
      cases h
      obtain rfl : _ = res := hk
      exact sw_zret rfl (by decide +kernel)
  · rw [if_neg c1] at h
    refine sw_aload_n (k0 := 0) 0 rfl (by decide +kernel) rfl ?_
    refine sw_iconst (n := 2) (v := 2) (by decide +kernel) (by decide) ?_
    obtain ⟨r30, m31, w32, h⟩ := sw_b2_e h
    refine sw_callVi (ci := 5) (i := 1) [.int 2] (sX5_refuse (K := K - 1) (by omega) σ 2 w32) rfl (by omega) rfl gs_X5_66 hy_X5_refuse (by decide) (by decide) rfl rfl (Nat.le_of_ble_eq_true rfl) (by decide +kernel) ?_
    obtain ⟨g33, h⟩ := sw_gd_e h
    cases h
    obtain rfl : _ = res := hk
    exact sw_zret (sw_bo_n (sw_bo_e g33)) (by decide +kernel)
def fX5_readBasin (σ : sw_M) : Option (Int32 × sw_M) :=
  if (σ.1 (sw_pl (σ.2.2 1)) 3) < 4 then
    sw_b1 (fX7_readNext σ) fun m2 =>
    sw_b2 (fX5_readNewName ((sw_pl (m2.2.2 1)) + 3) m2 (m2.1 (sw_pl (m2.2.2 1)) 3)) fun r4 m5 =>
    if r4 = 0 then
      some ((0, m5))
    else
      sw_b2 (fX5_readKey m5 9) fun r8 m9 =>
      if r8 = 0 then
        some ((0, m9))
      else
        sw_b2 (fX5_readPortions ((sw_pl (m9.2.2 1)) + 5) m9 (m9.1 (sw_pl (m9.2.2 1)) 3)) fun r12 m13 =>
        if r12 = 0 then
          some ((0, m13))
        else
          sw_let (sw_w m13 (sw_pl (m13.2.2 1)) 3 ((m13.1 (sw_pl (m13.2.2 1)) 3) + 1)) fun m16 =>
          some ((1, m16))
  else
    sw_b2 (fX5_refuse σ 2) fun r18 m19 =>
    sw_gd (sw_bo r18) <|
    some ((r18, m19))
set_option maxRecDepth 20000 in
theorem sX5_readBasin {l : Launch} {E : sw_E} {K : Nat} (hE : sw_RS l E) (hK : 12 ≤ K) (σ : sw_M) {res : Int32 × sw_M} (h : fX5_readBasin σ = some res) : sw_Ct l E K yX5_readBasin cX5_readBasin 1 (some .boolean) [.ref 1] σ (some (.int res.1)) res.2 := by
  obtain ⟨t, hk, h⟩ : ∃ t, t = res ∧ fX5_readBasin σ = some t := ⟨res, rfl, h⟩
  unfold fX5_readBasin at h
  refine sw_enter2 (own := RX5) (lv := [(0, .ref 1)]) (by decide +kernel) (Nat.le_of_ble_eq_true rfl) rfl rfl ?_
  refine sw_aload_n (k0 := 0) 0 rfl (by decide +kernel) rfl ?_
  refine gf_X5_21 (i := 1) (by decide) rfl (by decide +kernel) ?_
  refine gf_X5_113 (i := (sw_pl (σ.2.2 1))) (sw_pl_P _).o.1 (sw_pl_P _).o.2 (by decide +kernel) ?_
  refine sw_iconst (n := 4) (v := 4) (by decide +kernel) (by decide) ?_
  refine sw_icmp_lt (off := 9) 17 (by decide +kernel) (by decide) (fun c1 => ?_) (fun c1 => ?_)
  · rw [if_pos c1] at h
    refine sw_aload_n (k0 := 0) 0 rfl (by decide +kernel) rfl ?_
    refine gf_X5_12 (i := 1) (by decide) rfl (by decide +kernel) ?_
    refine sw_refj 2 rfl ?_
    obtain ⟨m2, w3, h⟩ := sw_b1_e h
    refine sw_callVv (ci := 7) (i := 2) [] (sX7_readNext (K := K - 1) hE (by omega) σ w3) rfl (by omega) rfl gs_X5_76 hy_X7_readNext (by decide) (by decide) rfl rfl (Nat.le_of_ble_eq_true rfl) (by decide +kernel) ?_
    refine sw_aload_n (k0 := 0) 0 rfl (by decide +kernel) rfl ?_
    refine sw_aload_n (k0 := 0) 0 rfl (by decide +kernel) rfl ?_
    refine gf_X5_21 (i := 1) (by decide) rfl (by decide +kernel) ?_
    refine gf_X5_116 (i := (sw_pl (m2.2.2 1))) (sw_pl_P _).o.1 (sw_pl_P _).o.2 (by decide +kernel) ?_
    refine sw_aload_n (k0 := 0) 0 rfl (by decide +kernel) rfl ?_
    refine gf_X5_21 (i := 1) (by decide) rfl (by decide +kernel) ?_
    refine gf_X5_113 (i := (sw_pl (m2.2.2 1))) (sw_pl_P _).o.1 (sw_pl_P _).o.2 (by decide +kernel) ?_
    obtain ⟨r4, m5, w6, h⟩ := sw_b2_e h
    refine sw_callVi (ci := 5) (i := 1) [.ref ((sw_pl (m2.2.2 1)) + 3), .int (m2.1 (sw_pl (m2.2.2 1)) 3)] (sX5_readNewName (K := K - 1) hE (by omega) ((sw_pl (m2.2.2 1)) + 3) (sw_A_of (sw_pl_P _).p3.1 (sw_pl_P _).p3.2) m2 (m2.1 (sw_pl (m2.2.2 1)) 3) w6) rfl (by omega) rfl gs_X5_83 hy_X5_readNewName (by decide) (by decide) rfl rfl (Nat.le_of_ble_eq_true rfl) (by decide +kernel) ?_
    refine sw_if_eq (off := 12) 54 (by decide +kernel) (by decide) (fun c7 => ?_) (fun c7 => ?_)
    · rw [if_pos c7] at h
      refine sw_iconst (n := 0) (v := 0) (by decide +kernel) (by decide) ?_
      cases h
      obtain rfl : _ = res := hk
      exact sw_zret rfl (by decide +kernel)
    · rw [if_neg c7] at h
      refine sw_aload_n (k0 := 0) 0 rfl (by decide +kernel) rfl ?_
      refine sw_bipush (n := 9) (v := 9) (by decide +kernel) (by decide) ?_
      obtain ⟨r8, m9, w10, h⟩ := sw_b2_e h
      refine sw_callVi (ci := 5) (i := 1) [.int 9] (sX5_readKey (K := K - 1) hE (by omega) m5 9 w10) rfl (by omega) rfl gs_X5_96 hy_X5_readKey (by decide) (by decide) rfl rfl (Nat.le_of_ble_eq_true rfl) (by decide +kernel) ?_
      refine sw_if_ne (off := 5) 56 (by decide +kernel) (by decide) (fun c11 => ?_) (fun c11 => ?_)
      · rw [if_neg c11] at h
        refine sw_aload_n (k0 := 0) 0 rfl (by decide +kernel) rfl ?_
        refine sw_aload_n (k0 := 0) 0 rfl (by decide +kernel) rfl ?_
        refine gf_X5_21 (i := 1) (by decide) rfl (by decide +kernel) ?_
        refine gf_X5_119 (i := (sw_pl (m9.2.2 1))) (sw_pl_P _).o.1 (sw_pl_P _).o.2 (by decide +kernel) ?_
        refine sw_aload_n (k0 := 0) 0 rfl (by decide +kernel) rfl ?_
        refine gf_X5_21 (i := 1) (by decide) rfl (by decide +kernel) ?_
        refine gf_X5_113 (i := (sw_pl (m9.2.2 1))) (sw_pl_P _).o.1 (sw_pl_P _).o.2 (by decide +kernel) ?_
        obtain ⟨r12, m13, w14, h⟩ := sw_b2_e h
        refine sw_callVi (ci := 5) (i := 1) [.ref ((sw_pl (m9.2.2 1)) + 5), .int (m9.1 (sw_pl (m9.2.2 1)) 3)] (sX5_readPortions (K := K - 1) hE (by omega) ((sw_pl (m9.2.2 1)) + 5) (sw_A_of (sw_pl_P _).p5.1 (sw_pl_P _).p5.2) m9 (m9.1 (sw_pl (m9.2.2 1)) 3) w14) rfl (by omega) rfl gs_X5_103 hy_X5_readPortions (by decide) (by decide) rfl rfl (Nat.le_of_ble_eq_true rfl) (by decide +kernel) ?_
        refine sw_if_ne (off := 5) 79 (by decide +kernel) (by decide) (fun c15 => ?_) (fun c15 => ?_)
        · rw [if_neg c15] at h
          refine sw_aload_n (k0 := 0) 0 rfl (by decide +kernel) rfl ?_
          refine gf_X5_21 (i := 1) (by decide) rfl (by decide +kernel) ?_
          refine sw_dup (by decide +kernel) rfl ?_
          refine gf_X5_113 (i := (sw_pl (m13.2.2 1))) (sw_pl_P _).o.1 (sw_pl_P _).o.2 (by decide +kernel) ?_
          refine sw_iconst (n := 1) (v := 1) (by decide +kernel) (by decide) ?_
          refine sw_iadd (by decide +kernel) ?_
          obtain ⟨m16, e17, h⟩ := sw_let_e h
          refine pf_X5_113 (sw_pl_P _).o.1 (sw_pl_P _).o.2 (by decide +kernel) ?_
          refine sw_mem e17 ?_
          refine sw_iconst (n := 1) (v := 1) (by decide +kernel) (by decide) ?_
          cases h
          obtain rfl : _ = res := hk
          exact sw_zret rfl (by decide +kernel)
        · rw [if_pos c15] at h
          refine sw_iconst (n := 0) (v := 0) (by decide +kernel) (by decide) ?_
          cases h
          obtain rfl : _ = res := hk
          exact sw_zret rfl (by decide +kernel)
      · rw [if_pos c11] at h
        refine sw_iconst (n := 0) (v := 0) (by decide +kernel) (by decide) ?_
        cases h
        obtain rfl : _ = res := hk
        exact sw_zret rfl (by decide +kernel)
  · rw [if_neg c1] at h
    refine sw_aload_n (k0 := 0) 0 rfl (by decide +kernel) rfl ?_
    refine sw_iconst (n := 2) (v := 2) (by decide +kernel) (by decide) ?_
    obtain ⟨r18, m19, w20, h⟩ := sw_b2_e h
    refine sw_callVi (ci := 5) (i := 1) [.int 2] (sX5_refuse (K := K - 1) (by omega) σ 2 w20) rfl (by omega) rfl gs_X5_66 hy_X5_refuse (by decide) (by decide) rfl rfl (Nat.le_of_ble_eq_true rfl) (by decide +kernel) ?_
    obtain ⟨g21, h⟩ := sw_gd_e h
    cases h
    obtain rfl : _ = res := hk
    exact sw_zret (sw_bo_n (sw_bo_e g21)) (by decide +kernel)
def fX5_signOfLevel (σ : sw_M) (a1 : Int32) : Int32 :=
  sw_let (σ.1 2 9) fun v1 =>
  if a1 = 0 then
    if (σ.1 2 7) = 10 then
      124
    else
      0
  else
    if a1 = 1 then
      if (σ.1 2 7) = 11 then
        38
      else
        0
    else
      if a1 = 2 then
        if v1 = 60 then
          v1
        else
          if v1 = 62 then
            v1
          else
            if v1 = 61 then
              v1
            else
              0
      else
        if a1 = 3 then
          if v1 = 43 then
            v1
          else
            if v1 = 45 then
              v1
            else
              0
        else
          if a1 = 4 then
            if v1 = 42 then
              v1
            else
              if v1 = 47 then
                v1
              else
                if v1 = 37 then
                  v1
                else
                  0
          else
            0
set_option maxRecDepth 20000 in
theorem sX5_signOfLevel {l : Launch} {E : sw_E} {K : Nat} (hK : 0 ≤ K) (σ : sw_M) (a1 : Int32) {res : Int32} (h : fX5_signOfLevel σ a1 = res) : sw_Ct l E K yX5_signOfLevel cX5_signOfLevel 3 (some .int) [.ref 1, .int a1] σ (some (.int res)) σ := by
  obtain ⟨t, hk, h⟩ : ∃ t, t = res ∧ fX5_signOfLevel σ a1 = t := ⟨res, rfl, h⟩
  unfold fX5_signOfLevel at h
  refine sw_enter2 (own := RX5) (lv := [(0, .ref 1), (1, .int a1)]) (by decide +kernel) (Nat.le_of_ble_eq_true rfl) rfl rfl ?_
  refine sw_aload_n (k0 := 0) 0 rfl (by decide +kernel) rfl ?_
  refine gf_X5_12 (i := 1) (by decide) rfl (by decide +kernel) ?_
  refine sw_refj 2 rfl ?_
  refine gf_X5_163 (i := 2) (by decide) rfl (by decide +kernel) ?_
  obtain ⟨v1, e2, h⟩ := sw_let_e h
  refine sw_topi e2 ?_
  refine sw_istore_n (k0 := 2) (lv' := [(2, .int v1), (0, .ref 1), (1, .int a1)]) (by decide +kernel) rfl (by decide) rfl ?_
  refine sw_iload_n (k0 := 1) 2 rfl (by decide +kernel) rfl ?_
  by_cases c3 : a1 = 0
  · rw [if_pos c3] at h
    refine sw_tabIn (dflt := 139) (lo := 0) (hi := 4) (offs := #[35, 54, 73, 97, 115]) (len := 35) (off := 35) 44 (by decide +kernel) (by rw [c3]; decide) (by rw [c3]; decide) (by rw [c3]; decide) (by decide) ?_
    refine sw_aload_n (k0 := 0) 1 rfl (by decide +kernel) rfl ?_
    refine gf_X5_12 (i := 1) (by decide) rfl (by decide +kernel) ?_
    refine sw_refj 2 rfl ?_
    refine gf_X5_41 (i := 2) (by decide) rfl (by decide +kernel) ?_
    refine sw_bipush (n := 10) (v := 10) (by decide +kernel) (by decide) ?_
    refine sw_icmp_ne (off := 8) 61 (by decide +kernel) (by decide) (fun c4 => ?_) (fun c4 => ?_)
    · rw [if_neg c4] at h
      refine sw_iconst (n := 0) (v := 0) (by decide +kernel) (by decide) ?_
      subst h
      obtain rfl : _ = res := hk
      exact sw_iret (by decide +kernel)
    · rw [if_pos c4] at h
      refine sw_bipush (n := 124) (v := 124) (by decide +kernel) (by decide) ?_
      refine sw_goto (off := 4) 62 (by decide +kernel) (by decide) ?_
      subst h
      obtain rfl : _ = res := hk
      exact sw_iret (by decide +kernel)
  · rw [if_neg c3] at h
    by_cases c5 : a1 = 1
    · rw [if_pos c5] at h
      refine sw_tabIn (dflt := 139) (lo := 0) (hi := 4) (offs := #[35, 54, 73, 97, 115]) (len := 35) (off := 54) 63 (by decide +kernel) (by rw [c5]; decide) (by rw [c5]; decide) (by rw [c5]; decide) (by decide) ?_
      refine sw_aload_n (k0 := 0) 1 rfl (by decide +kernel) rfl ?_
      refine gf_X5_12 (i := 1) (by decide) rfl (by decide +kernel) ?_
      refine sw_refj 2 rfl ?_
      refine gf_X5_41 (i := 2) (by decide) rfl (by decide +kernel) ?_
      refine sw_bipush (n := 11) (v := 11) (by decide +kernel) (by decide) ?_
      refine sw_icmp_ne (off := 8) 80 (by decide +kernel) (by decide) (fun c6 => ?_) (fun c6 => ?_)
      · rw [if_neg c6] at h
        refine sw_iconst (n := 0) (v := 0) (by decide +kernel) (by decide) ?_
        subst h
        obtain rfl : _ = res := hk
        exact sw_iret (by decide +kernel)
      · rw [if_pos c6] at h
        refine sw_bipush (n := 38) (v := 38) (by decide +kernel) (by decide) ?_
        refine sw_goto (off := 4) 81 (by decide +kernel) (by decide) ?_
        subst h
        obtain rfl : _ = res := hk
        exact sw_iret (by decide +kernel)
    · rw [if_neg c5] at h
      by_cases c7 : a1 = 2
      · rw [if_pos c7] at h
        refine sw_tabIn (dflt := 139) (lo := 0) (hi := 4) (offs := #[35, 54, 73, 97, 115]) (len := 35) (off := 73) 82 (by decide +kernel) (by rw [c7]; decide) (by rw [c7]; decide) (by rw [c7]; decide) (by decide) ?_
        refine sw_iload_n (k0 := 2) 0 rfl (by decide +kernel) rfl ?_
        refine sw_bipush (n := 60) (v := 60) (by decide +kernel) (by decide) ?_
        refine sw_icmp_eq (off := 15) 100 (by decide +kernel) (by decide) (fun c8 => ?_) (fun c8 => ?_)
        · rw [if_pos c8] at h
          refine sw_iload_n (k0 := 2) 0 rfl (by decide +kernel) rfl ?_
          refine sw_goto (off := 4) 105 (by decide +kernel) (by decide) ?_
          subst h
          obtain rfl : _ = res := hk
          exact sw_iret (by decide +kernel)
        · rw [if_neg c8] at h
          refine sw_iload_n (k0 := 2) 0 rfl (by decide +kernel) rfl ?_
          refine sw_bipush (n := 62) (v := 62) (by decide +kernel) (by decide) ?_
          refine sw_icmp_eq (off := 9) 100 (by decide +kernel) (by decide) (fun c9 => ?_) (fun c9 => ?_)
          · rw [if_pos c9] at h
            refine sw_iload_n (k0 := 2) 0 rfl (by decide +kernel) rfl ?_
            refine sw_goto (off := 4) 105 (by decide +kernel) (by decide) ?_
            subst h
            obtain rfl : _ = res := hk
            exact sw_iret (by decide +kernel)
          · rw [if_neg c9] at h
            refine sw_iload_n (k0 := 2) 0 rfl (by decide +kernel) rfl ?_
            refine sw_bipush (n := 61) (v := 61) (by decide +kernel) (by decide) ?_
            refine sw_icmp_ne (off := 7) 104 (by decide +kernel) (by decide) (fun c10 => ?_) (fun c10 => ?_)
            · rw [if_neg c10] at h
              refine sw_iconst (n := 0) (v := 0) (by decide +kernel) (by decide) ?_
              subst h
              obtain rfl : _ = res := hk
              exact sw_iret (by decide +kernel)
            · rw [if_pos c10] at h
              refine sw_iload_n (k0 := 2) 0 rfl (by decide +kernel) rfl ?_
              refine sw_goto (off := 4) 105 (by decide +kernel) (by decide) ?_
              subst h
              obtain rfl : _ = res := hk
              exact sw_iret (by decide +kernel)
      · rw [if_neg c7] at h
        by_cases c11 : a1 = 3
        · rw [if_pos c11] at h
          refine sw_tabIn (dflt := 139) (lo := 0) (hi := 4) (offs := #[35, 54, 73, 97, 115]) (len := 35) (off := 97) 106 (by decide +kernel) (by rw [c11]; decide) (by rw [c11]; decide) (by rw [c11]; decide) (by decide) ?_
          refine sw_iload_n (k0 := 2) 0 rfl (by decide +kernel) rfl ?_
          refine sw_bipush (n := 43) (v := 43) (by decide +kernel) (by decide) ?_
          refine sw_icmp_eq (off := 9) 118 (by decide +kernel) (by decide) (fun c12 => ?_) (fun c12 => ?_)
          · rw [if_pos c12] at h
            refine sw_iload_n (k0 := 2) 0 rfl (by decide +kernel) rfl ?_
            refine sw_goto (off := 4) 123 (by decide +kernel) (by decide) ?_
            subst h
            obtain rfl : _ = res := hk
            exact sw_iret (by decide +kernel)
          · rw [if_neg c12] at h
            refine sw_iload_n (k0 := 2) 0 rfl (by decide +kernel) rfl ?_
            refine sw_bipush (n := 45) (v := 45) (by decide +kernel) (by decide) ?_
            refine sw_icmp_ne (off := 7) 122 (by decide +kernel) (by decide) (fun c13 => ?_) (fun c13 => ?_)
            · rw [if_neg c13] at h
              refine sw_iconst (n := 0) (v := 0) (by decide +kernel) (by decide) ?_
              subst h
              obtain rfl : _ = res := hk
              exact sw_iret (by decide +kernel)
            · rw [if_pos c13] at h
              refine sw_iload_n (k0 := 2) 0 rfl (by decide +kernel) rfl ?_
              refine sw_goto (off := 4) 123 (by decide +kernel) (by decide) ?_
              subst h
              obtain rfl : _ = res := hk
              exact sw_iret (by decide +kernel)
        · rw [if_neg c11] at h
          by_cases c14 : a1 = 4
          · rw [if_pos c14] at h
            refine sw_tabIn (dflt := 139) (lo := 0) (hi := 4) (offs := #[35, 54, 73, 97, 115]) (len := 35) (off := 115) 124 (by decide +kernel) (by rw [c14]; decide) (by rw [c14]; decide) (by rw [c14]; decide) (by decide) ?_
            refine sw_iload_n (k0 := 2) 0 rfl (by decide +kernel) rfl ?_
            refine sw_bipush (n := 42) (v := 42) (by decide +kernel) (by decide) ?_
            refine sw_icmp_eq (off := 15) 142 (by decide +kernel) (by decide) (fun c15 => ?_) (fun c15 => ?_)
            · rw [if_pos c15] at h
              refine sw_iload_n (k0 := 2) 0 rfl (by decide +kernel) rfl ?_
              refine sw_goto (off := 4) 147 (by decide +kernel) (by decide) ?_
              subst h
              obtain rfl : _ = res := hk
              exact sw_iret (by decide +kernel)
            · rw [if_neg c15] at h
              refine sw_iload_n (k0 := 2) 0 rfl (by decide +kernel) rfl ?_
              refine sw_bipush (n := 47) (v := 47) (by decide +kernel) (by decide) ?_
              refine sw_icmp_eq (off := 9) 142 (by decide +kernel) (by decide) (fun c16 => ?_) (fun c16 => ?_)
              · rw [if_pos c16] at h
                refine sw_iload_n (k0 := 2) 0 rfl (by decide +kernel) rfl ?_
                refine sw_goto (off := 4) 147 (by decide +kernel) (by decide) ?_
                subst h
                obtain rfl : _ = res := hk
                exact sw_iret (by decide +kernel)
              · rw [if_neg c16] at h
                refine sw_iload_n (k0 := 2) 0 rfl (by decide +kernel) rfl ?_
                refine sw_bipush (n := 37) (v := 37) (by decide +kernel) (by decide) ?_
                refine sw_icmp_ne (off := 7) 146 (by decide +kernel) (by decide) (fun c17 => ?_) (fun c17 => ?_)
                · rw [if_neg c17] at h
                  refine sw_iconst (n := 0) (v := 0) (by decide +kernel) (by decide) ?_
                  subst h
                  obtain rfl : _ = res := hk
                  exact sw_iret (by decide +kernel)
                · rw [if_pos c17] at h
                  refine sw_iload_n (k0 := 2) 0 rfl (by decide +kernel) rfl ?_
                  refine sw_goto (off := 4) 147 (by decide +kernel) (by decide) ?_
                  subst h
                  obtain rfl : _ = res := hk
                  exact sw_iret (by decide +kernel)
          · rw [if_neg c14] at h
            have n0 := lv_neT (a := 0) c3 (by decide)
            have n1 := lv_neT (a := 1) c5 (by decide)
            have n2 := lv_neT (a := 2) c7 (by decide)
            have n3 := lv_neT (a := 3) c11 (by decide)
            have n4 := lv_neT (a := 4) c14 (by decide)
            refine sw_tabOut (dflt := 139) (lo := 0) (hi := 4) (offs := #[35, 54, 73, 97, 115]) (len := 35) 148 (by decide +kernel) (by omega) (by decide) ?_
            refine sw_iconst (n := 0) (v := 0) (by decide +kernel) (by decide) ?_
            subst h
            obtain rfl : _ = res := hk
            exact sw_iret (by decide +kernel)
