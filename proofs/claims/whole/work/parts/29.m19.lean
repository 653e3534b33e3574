def fX10_fitsMuch_L111 (σ : sw_M) (a1 : Int32) (a2 : Int32) (a3 : Int32) (a4 : Int32) : Option ((Int32 × Int32) ⊕ (Int32)) :=
  sw_let (a4 + 1) fun v1 =>
  some (.inl (a3, v1))
def fX10_fitsMuch_L110 (σ : sw_M) (a1 : Int32) (a2 : Int32) (a4 : Int32) (b0 : Int32) : Option ((Int32 × Int32) ⊕ (Int32)) :=
  fX10_fitsMuch_L111 σ a1 a2 b0 a4
def fX10_fitsMuch_L95 (σ : sw_M) (a1 : Int32) (a2 : Int32) (a4 : Int32) (b0 : Int32) : Option ((Int32 × Int32) ⊕ (Int32)) :=
  sw_gd (sw_in a4 30) <|
  if b0 = (σ.1 78 a4.toNatClampNeg) then
    fX10_fitsMuch_L110 σ a1 a2 a4 1
  else
    fX10_fitsMuch_L110 σ a1 a2 a4 0
def fX10_fitsMuch_L53 (σ : sw_M) (a1 : Int32) (a2 : Int32) (a4 : Int32) : Option ((Int32 × Int32) ⊕ (Int32)) :=
  sw_gd (sw_in a4 30) <|
  sw_gd (sw_in a4 30) <|
  sw_gd (sw_in (((65 * a1) + (5 * (σ.1 73 a4.toNatClampNeg))) + (σ.1 74 a4.toNatClampNeg)) 2015) <|
  sw_gd (sw_in a4 30) <|
  if (σ.1 79 (((65 * a1) + (5 * (σ.1 73 a4.toNatClampNeg))) + (σ.1 74 a4.toNatClampNeg)).toNatClampNeg) < (σ.1 75 a4.toNatClampNeg) then
    fX10_fitsMuch_L95 σ a1 a2 a4 0
  else
    fX10_fitsMuch_L95 σ a1 a2 a4 1
def fX10_fitsMuch_L5 (σ : sw_M) (a1 : Int32) (a2 : Int32) (a3 : Int32) (a4 : Int32) : Option ((Int32 × Int32) ⊕ (Int32)) :=
  if (σ.1 49 66) ≤ a4 then
    sw_gd (sw_bo a3) <|
    some (.inr (a3))
  else
    if a3 = 0 then
      sw_gd (sw_bo a3) <|
      some (.inr (a3))
    else
      sw_gd (sw_in a4 30) <|
      if a2 < (σ.1 76 a4.toNatClampNeg) then
        fX10_fitsMuch_L111 σ a1 a2 a3 a4
      else
        sw_gd (sw_in a4 30) <|
        if (σ.1 77 a4.toNatClampNeg) < 0 then
          fX10_fitsMuch_L53 σ a1 a2 a4
        else
          sw_gd (sw_in a4 30) <|
          if a2 < (σ.1 77 a4.toNatClampNeg) then
            fX10_fitsMuch_L53 σ a1 a2 a4
          else
            fX10_fitsMuch_L111 σ a1 a2 a3 a4
def fX10_fitsMuch (σ : sw_M) (a1 : Int32) (a2 : Int32) : Option (Int32) :=
  sw_wh sw_F (fun s => fX10_fitsMuch_L5 σ a1 a2 s.1 s.2) (1, 0)
set_option maxRecDepth 20000 in
theorem sX10_fitsMuch_L111 {l : Launch} {E : sw_E} {K : Nat} (hK : 0 ≤ K) (σ : sw_M) (a1 : Int32) (a2 : Int32) (a3 : Int32) (a4 : Int32) {res : Int32} {t : (Int32 × Int32) ⊕ (Int32)} (h : fX10_fitsMuch_L111 σ a1 a2 a3 a4 = some t) (hk : (Sum.elim (fun s : Int32 × Int32 => sw_Go l E K RX10 cX10_fitsMuch 5 (some .boolean) 5 [(0, .ref 49), (1, .int a1), (2, .int a2), (3, .int s.1), (4, .int s.2)] [] σ (some (.int res)) σ) (fun q => q = res)) t) : sw_Go l E K RX10 cX10_fitsMuch 5 (some .boolean) 111 [(0, .ref 49), (1, .int a1), (2, .int a2), (3, .int a3), (4, .int a4)] [] σ (some (.int res)) σ := by
  unfold fX10_fitsMuch_L111 at h
  obtain ⟨v1, e2, h⟩ := sw_let_e h
  refine sw_iincv (i := 4) (n := 1) (lv' := [(4, .int v1), (0, .ref 49), (1, .int a1), (2, .int a2), (3, .int a3)]) 4 rfl e2 (by decide +kernel) (by decide) (by decide) rfl ?_
  refine sw_goto (off := (-109)) 5 (by decide +kernel) (by decide) ?_
  cases h
  refine sw_lv [1, 2, 3, 4, 0] rfl ?_
  exact hk
set_option maxRecDepth 20000 in
theorem sX10_fitsMuch_L110 {l : Launch} {E : sw_E} {K : Nat} (hK : 0 ≤ K) (σ : sw_M) (a1 : Int32) (a2 : Int32) (a4 : Int32) (b0 : Int32) {res : Int32} {t : (Int32 × Int32) ⊕ (Int32)} (h : fX10_fitsMuch_L110 σ a1 a2 a4 b0 = some t) (hk : (Sum.elim (fun s : Int32 × Int32 => sw_Go l E K RX10 cX10_fitsMuch 5 (some .boolean) 5 [(0, .ref 49), (1, .int a1), (2, .int a2), (3, .int s.1), (4, .int s.2)] [] σ (some (.int res)) σ) (fun q => q = res)) t) : sw_Go l E K RX10 cX10_fitsMuch 5 (some .boolean) 110 [(0, .ref 49), (1, .int a1), (2, .int a2), (4, .int a4)] [.int b0] σ (some (.int res)) σ := by
  unfold fX10_fitsMuch_L110 at h
  refine sw_istore_n (k0 := 3) (lv' := [(3, .int b0), (0, .ref 49), (1, .int a1), (2, .int a2), (4, .int a4)]) (by decide +kernel) rfl (by decide) rfl ?_
  refine sw_lv [1, 2, 3, 0, 4] rfl ?_
  exact sX10_fitsMuch_L111 hK σ a1 a2 b0 a4 h hk
set_option maxRecDepth 20000 in
theorem sX10_fitsMuch_L95 {l : Launch} {E : sw_E} {K : Nat} (hK : 0 ≤ K) (σ : sw_M) (a1 : Int32) (a2 : Int32) (a4 : Int32) (b0 : Int32) {res : Int32} {t : (Int32 × Int32) ⊕ (Int32)} (h : fX10_fitsMuch_L95 σ a1 a2 a4 b0 = some t) (hk : (Sum.elim (fun s : Int32 × Int32 => sw_Go l E K RX10 cX10_fitsMuch 5 (some .boolean) 5 [(0, .ref 49), (1, .int a1), (2, .int a2), (3, .int s.1), (4, .int s.2)] [] σ (some (.int res)) σ) (fun q => q = res)) t) : sw_Go l E K RX10 cX10_fitsMuch 5 (some .boolean) 95 [(0, .ref 49), (1, .int a1), (2, .int a2), (4, .int a4)] [.int b0] σ (some (.int res)) σ := by
  unfold fX10_fitsMuch_L95 at h
  refine sw_aload_n (k0 := 0) 0 rfl (by decide +kernel) rfl ?_
  refine gf_X10_99 (i := 49) (by decide) rfl (by decide +kernel) ?_
  refine sw_refj 78 rfl ?_
  refine sw_iload 3 rfl (by decide +kernel) ?_
  obtain ⟨g1, h⟩ := sw_gd_e h
  refine sw_zaload (a := 78) (by decide) rfl (sw_in_e g1) (by decide +kernel) ?_
  refine sw_icmp_ne (off := 7) 109 (by decide +kernel) (by decide) (fun c2 => ?_) (fun c2 => ?_)
  · rw [if_neg c2] at h
    refine sw_iconst (n := 0) (v := 0) (by decide +kernel) (by decide) ?_
    exact sX10_fitsMuch_L110 hK σ a1 a2 a4 0 h hk
  · rw [if_pos c2] at h
    refine sw_iconst (n := 1) (v := 1) (by decide +kernel) (by decide) ?_
    refine sw_goto (off := 4) 110 (by decide +kernel) (by decide) ?_
    exact sX10_fitsMuch_L110 hK σ a1 a2 a4 1 h hk
set_option maxRecDepth 20000 in
theorem sX10_fitsMuch_L53 {l : Launch} {E : sw_E} {K : Nat} (hK : 0 ≤ K) (σ : sw_M) (a1 : Int32) (a2 : Int32) (a4 : Int32) {res : Int32} {t : (Int32 × Int32) ⊕ (Int32)} (h : fX10_fitsMuch_L53 σ a1 a2 a4 = some t) (hk : (Sum.elim (fun s : Int32 × Int32 => sw_Go l E K RX10 cX10_fitsMuch 5 (some .boolean) 5 [(0, .ref 49), (1, .int a1), (2, .int a2), (3, .int s.1), (4, .int s.2)] [] σ (some (.int res)) σ) (fun q => q = res)) t) : sw_Go l E K RX10 cX10_fitsMuch 5 (some .boolean) 53 [(0, .ref 49), (1, .int a1), (2, .int a2), (4, .int a4)] [] σ (some (.int res)) σ := by
  unfold fX10_fitsMuch_L53 at h
  refine sw_aload_n (k0 := 0) 0 rfl (by decide +kernel) rfl ?_
  refine gf_X10_103 (i := 49) (by decide) rfl (by decide +kernel) ?_
  refine sw_refj 79 rfl ?_
  refine sw_bipush (n := 65) (v := 65) (by decide +kernel) (by decide) ?_
  refine sw_iload_n (k0 := 1) 1 rfl (by decide +kernel) rfl ?_
  refine sw_imul (by decide +kernel) ?_
  refine sw_iconst (n := 5) (v := 5) (by decide +kernel) (by decide) ?_
  refine sw_aload_n (k0 := 0) 0 rfl (by decide +kernel) rfl ?_
  refine gf_X10_84 (i := 49) (by decide) rfl (by decide +kernel) ?_
  refine sw_refj 73 rfl ?_
  refine sw_iload 3 rfl (by decide +kernel) ?_
  obtain ⟨g1, h⟩ := sw_gd_e h
  refine sw_iaload (a := 73) (by decide) rfl (sw_in_e g1) (by decide +kernel) ?_
  refine sw_imul (by decide +kernel) ?_
  refine sw_iadd (by decide +kernel) ?_
  refine sw_aload_n (k0 := 0) 0 rfl (by decide +kernel) rfl ?_
  refine gf_X10_87 (i := 49) (by decide) rfl (by decide +kernel) ?_
  refine sw_refj 74 rfl ?_
  refine sw_iload 3 rfl (by decide +kernel) ?_
  obtain ⟨g2, h⟩ := sw_gd_e h
  refine sw_iaload (a := 74) (by decide) rfl (sw_in_e g2) (by decide +kernel) ?_
  refine sw_iadd (by decide +kernel) ?_
  obtain ⟨g3, h⟩ := sw_gd_e h
  refine sw_iaload (a := 79) (by decide) rfl (sw_in_e g3) (by decide +kernel) ?_
  refine sw_aload_n (k0 := 0) 0 rfl (by decide +kernel) rfl ?_
  refine gf_X10_90 (i := 49) (by decide) rfl (by decide +kernel) ?_
  refine sw_refj 75 rfl ?_
  refine sw_iload 3 rfl (by decide +kernel) ?_
  obtain ⟨g4, h⟩ := sw_gd_e h
  refine sw_iaload (a := 75) (by decide) rfl (sw_in_e g4) (by decide +kernel) ?_
  refine sw_icmp_lt (off := 7) 94 (by decide +kernel) (by decide) (fun c5 => ?_) (fun c5 => ?_)
  · rw [if_pos c5] at h
    refine sw_iconst (n := 0) (v := 0) (by decide +kernel) (by decide) ?_
    exact sX10_fitsMuch_L95 hK σ a1 a2 a4 0 h hk
  · rw [if_neg c5] at h
    refine sw_iconst (n := 1) (v := 1) (by decide +kernel) (by decide) ?_
    refine sw_goto (off := 4) 95 (by decide +kernel) (by decide) ?_
    exact sX10_fitsMuch_L95 hK σ a1 a2 a4 1 h hk
set_option maxRecDepth 20000 in
theorem sX10_fitsMuch_L5 {l : Launch} {E : sw_E} {K : Nat} (hK : 0 ≤ K) (σ : sw_M) (a1 : Int32) (a2 : Int32) (a3 : Int32) (a4 : Int32) {res : Int32} {t : (Int32 × Int32) ⊕ (Int32)} (h : fX10_fitsMuch_L5 σ a1 a2 a3 a4 = some t) (hk : (Sum.elim (fun s : Int32 × Int32 => sw_Go l E K RX10 cX10_fitsMuch 5 (some .boolean) 5 [(0, .ref 49), (1, .int a1), (2, .int a2), (3, .int s.1), (4, .int s.2)] [] σ (some (.int res)) σ) (fun q => q = res)) t) : sw_Go l E K RX10 cX10_fitsMuch 5 (some .boolean) 5 [(0, .ref 49), (1, .int a1), (2, .int a2), (3, .int a3), (4, .int a4)] [] σ (some (.int res)) σ := by
  unfold fX10_fitsMuch_L5 at h
  refine sw_iload 4 rfl (by decide +kernel) ?_
  refine sw_aload_n (k0 := 0) 0 rfl (by decide +kernel) rfl ?_
  refine gf_X10_405 (i := 49) (by decide) rfl (by decide +kernel) ?_
  refine sw_icmp_ge (off := 106) 117 (by decide +kernel) (by decide) (fun c1 => ?_) (fun c1 => ?_)
  · rw [if_pos c1] at h
    refine sw_iload_n (k0 := 3) 3 rfl (by decide +kernel) rfl ?_
    obtain ⟨g2, h⟩ := sw_gd_e h
    cases h
    obtain rfl : _ = res := hk
    exact sw_zret (sw_bo_n (sw_bo_e g2)) (by decide +kernel)
  · rw [if_neg c1] at h
    refine sw_iload_n (k0 := 3) 3 rfl (by decide +kernel) rfl ?_
    refine sw_if_eq (off := 102) 117 (by decide +kernel) (by decide) (fun c3 => ?_) (fun c3 => ?_)
    · rw [if_pos c3] at h
      refine sw_iload_n (k0 := 3) 3 rfl (by decide +kernel) rfl ?_
      obtain ⟨g4, h⟩ := sw_gd_e h
      cases h
      obtain rfl : _ = res := hk
      exact sw_zret (sw_bo_n (sw_bo_e g4)) (by decide +kernel)
    · rw [if_neg c3] at h
      refine sw_aload_n (k0 := 0) 0 rfl (by decide +kernel) rfl ?_
      refine gf_X10_93 (i := 49) (by decide) rfl (by decide +kernel) ?_
      refine sw_refj 76 rfl ?_
      refine sw_iload 4 rfl (by decide +kernel) ?_
      obtain ⟨g5, h⟩ := sw_gd_e h
      refine sw_iaload (a := 76) (by decide) rfl (sw_in_e g5) (by decide +kernel) ?_
      refine sw_iload_n (k0 := 2) 2 rfl (by decide +kernel) rfl ?_
      refine sw_icmp_gt (off := 85) 111 (by decide +kernel) (by decide) (fun c6 => ?_) (fun c6 => ?_)
      · rw [if_pos c6] at h
        exact sX10_fitsMuch_L111 hK σ a1 a2 a3 a4 h hk
      · rw [if_neg c6] at h
        refine sw_aload_n (k0 := 0) 0 rfl (by decide +kernel) rfl ?_
        refine gf_X10_96 (i := 49) (by decide) rfl (by decide +kernel) ?_
        refine sw_refj 77 rfl ?_
        refine sw_iload 4 rfl (by decide +kernel) ?_
        obtain ⟨g7, h⟩ := sw_gd_e h
        refine sw_iaload (a := 77) (by decide) rfl (sw_in_e g7) (by decide +kernel) ?_
        refine sw_if_lt (off := 17) 53 (by decide +kernel) (by decide) (fun c8 => ?_) (fun c8 => ?_)
        · rw [if_pos c8] at h
          refine sw_lv [0, 1, 2, 4] rfl ?_
          exact sX10_fitsMuch_L53 hK σ a1 a2 a4 h hk
        · rw [if_neg c8] at h
          refine sw_aload_n (k0 := 0) 0 rfl (by decide +kernel) rfl ?_
          refine gf_X10_96 (i := 49) (by decide) rfl (by decide +kernel) ?_
          refine sw_refj 77 rfl ?_
          refine sw_iload 4 rfl (by decide +kernel) ?_
          obtain ⟨g9, h⟩ := sw_gd_e h
          refine sw_iaload (a := 77) (by decide) rfl (sw_in_e g9) (by decide +kernel) ?_
          refine sw_iload_n (k0 := 2) 2 rfl (by decide +kernel) rfl ?_
          refine sw_icmp_gt (off := 6) 53 (by decide +kernel) (by decide) (fun c10 => ?_) (fun c10 => ?_)
          · rw [if_pos c10] at h
            refine sw_lv [0, 1, 2, 4] rfl ?_
            exact sX10_fitsMuch_L53 hK σ a1 a2 a4 h hk
          · rw [if_neg c10] at h
            refine sw_goto (off := 61) 111 (by decide +kernel) (by decide) ?_
            exact sX10_fitsMuch_L111 hK σ a1 a2 a3 a4 h hk
set_option maxRecDepth 20000 in
theorem sX10_fitsMuch {l : Launch} {E : sw_E} {K : Nat} (hK : 0 ≤ K) (σ : sw_M) (a1 : Int32) (a2 : Int32) {res : Int32} (h : fX10_fitsMuch σ a1 a2 = some res) : sw_Ct l E K yX10_fitsMuch cX10_fitsMuch 5 (some .boolean) [.ref 49, .int a1, .int a2] σ (some (.int res)) σ := by
  obtain ⟨t, hk, h⟩ : ∃ t, t = res ∧ fX10_fitsMuch σ a1 a2 = some t := ⟨res, rfl, h⟩
  unfold fX10_fitsMuch at h
  refine sw_enter2 (own := RX10) (lv := [(0, .ref 49), (1, .int a1), (2, .int a2)]) (by decide +kernel) (Nat.le_of_ble_eq_true rfl) rfl rfl ?_
  refine sw_iconst (n := 1) (v := 1) (by decide +kernel) (by decide) ?_
  refine sw_istore_n (k0 := 3) (lv' := [(3, .int 1), (0, .ref 49), (1, .int a1), (2, .int a2)]) (by decide +kernel) rfl (by decide) rfl ?_
  refine sw_iconst (n := 0) (v := 0) (by decide +kernel) (by decide) ?_
  refine sw_istore (i := 4) (lv' := [(4, .int 0), (3, .int 1), (0, .ref 49), (1, .int a1), (2, .int a2)]) (by decide +kernel) (by decide) rfl ?_
  refine sw_lv [2, 3, 4, 1, 0] rfl ?_
  exact sw_wh_e (fun s : Int32 × Int32 => sw_Go l E K RX10 cX10_fitsMuch 5 (some .boolean) 5 [(0, .ref 49), (1, .int a1), (2, .int a2), (3, .int s.1), (4, .int s.2)] [] σ (some (.int res)) σ) (fun q => q = res) (fun s => fX10_fitsMuch_L5 σ a1 a2 s.1 s.2) (fun s t hb hk => sX10_fitsMuch_L5 hK σ a1 a2 s.1 s.2 hb hk) _ _ _ h hk
def fX10_layFits_L98 (σ : sw_M) (a1 : Int32) (a2 : Int32) (a3 : Int32) (a4 : Int32) (a5 : Int32) : Option ((Int32 × sw_M) ⊕ ((Int32 × sw_M) ⊕ ((Int32 × Int32 × sw_M) ⊕ (Int32 × sw_M)))) :=
  if (σ.1 49 40) ≤ a5 then
    sw_b1 (fX10_boilAll σ) fun m2 =>
    sw_let (a4 + 1) fun v4 =>
    some (.inr (.inl (v4, m2)))
  else
    sw_gd (sw_in a5 10) <|
    sw_gd (sw_in (((65 * a3) + (5 * a4)) + a5) 2015) <|
    sw_let (sw_w σ 79 (((65 * a3) + (5 * a4)) + a5).toNatClampNeg (σ.1 66 a5.toNatClampNeg)) fun m8 =>
    sw_let (a5 + 1) fun v10 =>
    some (.inl (v10, m8))
def fX10_layFits_L88 (σ : sw_M) (a1 : Int32) (a2 : Int32) (a3 : Int32) (a4 : Int32) : Option ((Int32 × sw_M) ⊕ ((Int32 × Int32 × sw_M) ⊕ (Int32 × sw_M))) :=
  if 12 < a4 then
    sw_b1 (fX10_fitsMuch σ a3 a1) fun r2 =>
    sw_gd (sw_in a3 31) <|
    sw_let (sw_w σ 81 a3.toNatClampNeg (vp_nar .boolean r2)) fun m5 =>
    sw_gd (sw_in a3 31) <|
    sw_let (a2 + (fX10_truth (m5.1 81 a3.toNatClampNeg))) fun v8 =>
    sw_let (a3 + 1) fun v10 =>
    some (.inr (.inl (v8, v10, m5)))
  else
    sw_wh sw_F (fun s => fX10_layFits_L98 s.2 a1 a2 a3 a4 s.1) (0, σ)
def fX10_layFits_L20 (σ : sw_M) (a1 : Int32) (a2 : Int32) (a3 : Int32) (a4 : Int32) : Option ((Int32 × sw_M) ⊕ ((Int32 × Int32 × sw_M) ⊕ (Int32 × sw_M))) :=
  if 10 ≤ a4 then
    sw_b1 (fX10_tellAll σ ((1 <<< ((σ.1 49 41) &&& 31)) - 1)) fun m2 =>
    sw_let (m2.1 49 44) fun v4 =>
    sw_gd (sw_in v4 10) <|
    sw_gd (sw_in ((5 * ((m2.1 49 41) - 1)) + (m2.1 49 44)) 35) <|
    sw_gd (sw_in v4 10) <|
    sw_let (sw_w m2 66 v4.toNatClampNeg ((m2.1 66 v4.toNatClampNeg) + (a3 - (m2.1 62 ((5 * ((m2.1 49 41) - 1)) + (m2.1 49 44)).toNatClampNeg)))) fun m9 =>
    sw_up (sw_wh sw_F (fun s => fX10_layFits_L88 s.2 a1 a2 a3 s.1) (0, m9))
  else
    sw_gd (sw_in a4 10) <|
    sw_let (sw_w σ 66 a4.toNatClampNeg 0) fun m13 =>
    sw_let (a4 + 1) fun v15 =>
    some (.inl (v15, m13))
def fX10_layFits_L4 (σ : sw_M) (a1 : Int32) (a2 : Int32) (a3 : Int32) : Option ((Int32 × Int32 × sw_M) ⊕ (Int32 × sw_M)) :=
  if 30 < a3 then
    some (.inr ((a2, σ)))
  else
    if (σ.1 49 41) ≤ 0 then
      some (.inr ((a2, σ)))
    else
      sw_wh sw_F (fun s => fX10_layFits_L20 s.2 a1 a2 a3 s.1) (0, σ)
def fX10_layFits (σ : sw_M) (a1 : Int32) : Option (Int32 × sw_M) :=
  sw_wh sw_F (fun s => fX10_layFits_L4 s.2.2 a1 s.1 s.2.1) (0, 0, σ)
set_option maxRecDepth 20000 in
theorem sX10_layFits_L98 {l : Launch} {E : sw_E} {K : Nat} (hK : 4 ≤ K) (σ : sw_M) (a1 : Int32) (a2 : Int32) (a3 : Int32) (a4 : Int32) (a5 : Int32) {res : Int32 × sw_M} {t : (Int32 × sw_M) ⊕ ((Int32 × sw_M) ⊕ ((Int32 × Int32 × sw_M) ⊕ (Int32 × sw_M)))} (h : fX10_layFits_L98 σ a1 a2 a3 a4 a5 = some t) (hk : (Sum.elim (fun s : Int32 × sw_M => sw_Go l E K RX10 cX10_layFits 6 (some .int) 98 [(0, .ref 49), (1, .int a1), (2, .int a2), (3, .int a3), (4, .int a4), (5, .int s.1)] [] s.2 (some (.int res.1)) res.2) (Sum.elim (fun s : Int32 × sw_M => sw_Go l E K RX10 cX10_layFits 6 (some .int) 88 [(0, .ref 49), (1, .int a1), (2, .int a2), (3, .int a3), (4, .int s.1)] [] s.2 (some (.int res.1)) res.2) (Sum.elim (fun s : Int32 × Int32 × sw_M => sw_Go l E K RX10 cX10_layFits 6 (some .int) 4 [(0, .ref 49), (1, .int a1), (2, .int s.1), (3, .int s.2.1)] [] s.2.2 (some (.int res.1)) res.2) (fun q => q = res)))) t) : sw_Go l E K RX10 cX10_layFits 6 (some .int) 98 [(0, .ref 49), (1, .int a1), (2, .int a2), (3, .int a3), (4, .int a4), (5, .int a5)] [] σ (some (.int res.1)) res.2 := by
  unfold fX10_layFits_L98 at h
  refine sw_iload 5 rfl (by decide +kernel) ?_
  refine sw_aload_n (k0 := 0) 0 rfl (by decide +kernel) rfl ?_
  refine gf_X10_291 (i := 49) (by decide) rfl (by decide +kernel) ?_
  refine sw_icmp_ge (off := 33) 137 (by decide +kernel) (by decide) (fun c1 => ?_) (fun c1 => ?_)
  · rw [if_pos c1] at h
    refine sw_aload_n (k0 := 0) 0 rfl (by decide +kernel) rfl ?_
    obtain ⟨m2, w3, h⟩ := sw_b1_e h
    refine sw_callVv (ci := 10) (i := 49) [] (sX10_boilAll (K := K - 1) (by omega) σ w3) rfl (by omega) rfl gs_X10_424 hy_X10_boilAll (by decide) (by decide) rfl rfl (Nat.le_of_ble_eq_true rfl) (by decide +kernel) ?_
    obtain ⟨v4, e5, h⟩ := sw_let_e h
    refine sw_iincv (i := 4) (n := 1) (lv' := [(4, .int v4), (0, .ref 49), (1, .int a1), (2, .int a2), (3, .int a3), (5, .int a5)]) 4 rfl e5 (by decide +kernel) (by decide) (by decide) rfl ?_
    refine sw_goto (off := (-56)) 88 (by decide +kernel) (by decide) ?_
    cases h
    refine sw_lv [1, 2, 3, 4, 0] rfl ?_
    exact hk
  · rw [if_neg c1] at h
    refine sw_aload_n (k0 := 0) 0 rfl (by decide +kernel) rfl ?_
    refine gf_X10_103 (i := 49) (by decide) rfl (by decide +kernel) ?_
    refine sw_refj 79 rfl ?_
    refine sw_bipush (n := 65) (v := 65) (by decide +kernel) (by decide) ?_
    refine sw_iload_n (k0 := 3) 3 rfl (by decide +kernel) rfl ?_
    refine sw_imul (by decide +kernel) ?_
    refine sw_iconst (n := 5) (v := 5) (by decide +kernel) (by decide) ?_
    refine sw_iload 4 rfl (by decide +kernel) ?_
    refine sw_imul (by decide +kernel) ?_
    refine sw_iadd (by decide +kernel) ?_
    refine sw_iload 5 rfl (by decide +kernel) ?_
    refine sw_iadd (by decide +kernel) ?_
    refine sw_aload_n (k0 := 0) 0 rfl (by decide +kernel) rfl ?_
    refine gf_X10_63 (i := 49) (by decide) rfl (by decide +kernel) ?_
    refine sw_refj 66 rfl ?_
    refine sw_iload 5 rfl (by decide +kernel) ?_
    obtain ⟨g6, h⟩ := sw_gd_e h
    refine sw_iaload (a := 66) (by decide) rfl (sw_in_e g6) (by decide +kernel) ?_
    obtain ⟨g7, h⟩ := sw_gd_e h
    obtain ⟨m8, e9, h⟩ := sw_let_e h
    refine sw_iastore (a := 79) (by decide) rfl (sw_in_e g7) (by decide +kernel) ?_
    refine sw_mem e9 ?_
    obtain ⟨v10, e11, h⟩ := sw_let_e h
    refine sw_iincv (i := 5) (n := 1) (lv' := [(5, .int v10), (0, .ref 49), (1, .int a1), (2, .int a2), (3, .int a3), (4, .int a4)]) 5 rfl e11 (by decide +kernel) (by decide) (by decide) rfl ?_
    refine sw_goto (off := (-36)) 98 (by decide +kernel) (by decide) ?_
    cases h
    refine sw_lv [1, 2, 3, 4, 5, 0] rfl ?_
    exact hk
set_option maxRecDepth 20000 in
theorem sX10_layFits_L88 {l : Launch} {E : sw_E} {K : Nat} (hK : 4 ≤ K) (σ : sw_M) (a1 : Int32) (a2 : Int32) (a3 : Int32) (a4 : Int32) {res : Int32 × sw_M} {t : (Int32 × sw_M) ⊕ ((Int32 × Int32 × sw_M) ⊕ (Int32 × sw_M))} (h : fX10_layFits_L88 σ a1 a2 a3 a4 = some t) (hk : (Sum.elim (fun s : Int32 × sw_M => sw_Go l E K RX10 cX10_layFits 6 (some .int) 88 [(0, .ref 49), (1, .int a1), (2, .int a2), (3, .int a3), (4, .int s.1)] [] s.2 (some (.int res.1)) res.2) (Sum.elim (fun s : Int32 × Int32 × sw_M => sw_Go l E K RX10 cX10_layFits 6 (some .int) 4 [(0, .ref 49), (1, .int a1), (2, .int s.1), (3, .int s.2.1)] [] s.2.2 (some (.int res.1)) res.2) (fun q => q = res))) t) : sw_Go l E K RX10 cX10_layFits 6 (some .int) 88 [(0, .ref 49), (1, .int a1), (2, .int a2), (3, .int a3), (4, .int a4)] [] σ (some (.int res.1)) res.2 := by
  unfold fX10_layFits_L88 at h
  refine sw_iload 4 rfl (by decide +kernel) ?_
  refine sw_bipush (n := 12) (v := 12) (by decide +kernel) (by decide) ?_
  refine sw_icmp_gt (off := 55) 147 (by decide +kernel) (by decide) (fun c1 => ?_) (fun c1 => ?_)
  · rw [if_pos c1] at h
    refine sw_aload_n (k0 := 0) 0 rfl (by decide +kernel) rfl ?_
    refine gf_X10_109 (i := 49) (by decide) rfl (by decide +kernel) ?_
    refine sw_refj 81 rfl ?_
    refine sw_iload_n (k0 := 3) 3 rfl (by decide +kernel) rfl ?_
    refine sw_aload_n (k0 := 0) 0 rfl (by decide +kernel) rfl ?_
    refine sw_iload_n (k0 := 3) 3 rfl (by decide +kernel) rfl ?_
    refine sw_iload_n (k0 := 1) 1 rfl (by decide +kernel) rfl ?_
    obtain ⟨r2, w3, h⟩ := sw_b1_e h
    refine sw_callVi (ci := 10) (i := 49) [.int a3, .int a1] (sX10_fitsMuch (K := K - 1) (by omega) σ a3 a1 w3) rfl (by omega) rfl gs_X10_507 hy_X10_fitsMuch (by decide) (by decide) rfl rfl (Nat.le_of_ble_eq_true rfl) (by decide +kernel) ?_
    obtain ⟨g4, h⟩ := sw_gd_e h
    obtain ⟨m5, e6, h⟩ := sw_let_e h
    refine sw_zastore (a := 81) (by decide) rfl (sw_in_e g4) (by decide +kernel) ?_
    refine sw_mem e6 ?_
    refine sw_iload_n (k0 := 2) 2 rfl (by decide +kernel) rfl ?_
    refine sw_aload_n (k0 := 0) 0 rfl (by decide +kernel) rfl ?_
    refine gf_X10_109 (i := 49) (by decide) rfl (by decide +kernel) ?_
    refine sw_refj 81 rfl ?_
    refine sw_iload_n (k0 := 3) 3 rfl (by decide +kernel) rfl ?_
    obtain ⟨g7, h⟩ := sw_gd_e h
    refine sw_zaload (a := 81) (by decide) rfl (sw_in_e g7) (by decide +kernel) ?_
    refine sw_callSi [.int (m5.1 81 a3.toNatClampNeg)] (sX10_truth (K := K - 1) (by omega) m5 (m5.1 81 a3.toNatClampNeg) rfl) rfl (by omega) gs_X10_287 hy_X10_truth (by decide) rfl (Nat.le_of_ble_eq_true rfl) (by decide +kernel) ?_
    refine sw_iadd (by decide +kernel) ?_
    obtain ⟨v8, e9, h⟩ := sw_let_e h
    refine sw_topi e9 ?_
    refine sw_istore_n (k0 := 2) (lv' := [(2, .int v8), (0, .ref 49), (1, .int a1), (3, .int a3), (4, .int a4)]) (by decide +kernel) rfl (by decide) rfl ?_
    obtain ⟨v10, e11, h⟩ := sw_let_e h
    refine sw_iincv (i := 3) (n := 1) (lv' := [(3, .int v10), (2, .int v8), (0, .ref 49), (1, .int a1), (4, .int a4)]) 3 rfl e11 (by decide +kernel) (by decide) (by decide) rfl ?_
    refine sw_goto (off := (-170)) 4 (by decide +kernel) (by decide) ?_
    cases h
    refine sw_lv [2, 3, 1, 0] rfl ?_
    exact hk
  · rw [if_neg c1] at h
    refine sw_iconst (n := 0) (v := 0) (by decide +kernel) (by decide) ?_
    refine sw_istore (i := 5) (lv' := [(5, .int 0), (0, .ref 49), (1, .int a1), (2, .int a2), (3, .int a3), (4, .int a4)]) (by decide +kernel) (by decide) rfl ?_
    refine sw_lv [1, 2, 3, 4, 5, 0] rfl ?_
    exact sw_wh_e (fun s : Int32 × sw_M => sw_Go l E K RX10 cX10_layFits 6 (some .int) 98 [(0, .ref 49), (1, .int a1), (2, .int a2), (3, .int a3), (4, .int a4), (5, .int s.1)] [] s.2 (some (.int res.1)) res.2) (Sum.elim (fun s : Int32 × sw_M => sw_Go l E K RX10 cX10_layFits 6 (some .int) 88 [(0, .ref 49), (1, .int a1), (2, .int a2), (3, .int a3), (4, .int s.1)] [] s.2 (some (.int res.1)) res.2) (Sum.elim (fun s : Int32 × Int32 × sw_M => sw_Go l E K RX10 cX10_layFits 6 (some .int) 4 [(0, .ref 49), (1, .int a1), (2, .int s.1), (3, .int s.2.1)] [] s.2.2 (some (.int res.1)) res.2) (fun q => q = res))) (fun s => fX10_layFits_L98 s.2 a1 a2 a3 a4 s.1) (fun s t hb hk => sX10_layFits_L98 hK s.2 a1 a2 a3 a4 s.1 hb hk) _ _ _ h hk
set_option maxRecDepth 20000 in
theorem sX10_layFits_L20 {l : Launch} {E : sw_E} {K : Nat} (hK : 4 ≤ K) (σ : sw_M) (a1 : Int32) (a2 : Int32) (a3 : Int32) (a4 : Int32) {res : Int32 × sw_M} {t : (Int32 × sw_M) ⊕ ((Int32 × Int32 × sw_M) ⊕ (Int32 × sw_M))} (h : fX10_layFits_L20 σ a1 a2 a3 a4 = some t) (hk : (Sum.elim (fun s : Int32 × sw_M => sw_Go l E K RX10 cX10_layFits 6 (some .int) 20 [(0, .ref 49), (1, .int a1), (2, .int a2), (3, .int a3), (4, .int s.1)] [] s.2 (some (.int res.1)) res.2) (Sum.elim (fun s : Int32 × Int32 × sw_M => sw_Go l E K RX10 cX10_layFits 6 (some .int) 4 [(0, .ref 49), (1, .int a1), (2, .int s.1), (3, .int s.2.1)] [] s.2.2 (some (.int res.1)) res.2) (fun q => q = res))) t) : sw_Go l E K RX10 cX10_layFits 6 (some .int) 20 [(0, .ref 49), (1, .int a1), (2, .int a2), (3, .int a3), (4, .int a4)] [] σ (some (.int res.1)) res.2 := by
  unfold fX10_layFits_L20 at h
  refine sw_iload 4 rfl (by decide +kernel) ?_
  refine sw_bipush (n := 10) (v := 10) (by decide +kernel) (by decide) ?_
  refine sw_icmp_ge (off := 17) 41 (by decide +kernel) (by decide) (fun c1 => ?_) (fun c1 => ?_)
  · rw [if_pos c1] at h
    refine sw_aload_n (k0 := 0) 0 rfl (by decide +kernel) rfl ?_
    refine sw_iconst (n := 1) (v := 1) (by decide +kernel) (by decide) ?_
    refine sw_aload_n (k0 := 0) 0 rfl (by decide +kernel) rfl ?_
    refine gf_X10_381 (i := 49) (by decide) rfl (by decide +kernel) ?_
    refine sw_ishl (by decide +kernel) ?_
    refine sw_iconst (n := 1) (v := 1) (by decide +kernel) (by decide) ?_
    refine sw_isub (by decide +kernel) ?_
    obtain ⟨m2, w3, h⟩ := sw_b1_e h
    refine sw_callVv (ci := 10) (i := 49) [.int ((1 <<< ((σ.1 49 41) &&& 31)) - 1)] (sX10_tellAll (K := K - 1) (by omega) σ ((1 <<< ((σ.1 49 41) &&& 31)) - 1) w3) rfl (by omega) rfl gs_X10_476 hy_X10_tellAll (by decide) (by decide) rfl rfl (Nat.le_of_ble_eq_true rfl) (by decide +kernel) ?_
    refine sw_aload_n (k0 := 0) 0 rfl (by decide +kernel) rfl ?_
    refine gf_X10_63 (i := 49) (by decide) rfl (by decide +kernel) ?_
    refine sw_refj 66 rfl ?_
    refine sw_aload_n (k0 := 0) 0 rfl (by decide +kernel) rfl ?_
    refine gf_X10_390 (i := 49) (by decide) rfl (by decide +kernel) ?_
    obtain ⟨v4, e5, h⟩ := sw_let_e h
    refine sw_topi e5 ?_
    refine sw_dup2 (by decide +kernel) rfl rfl ?_
    obtain ⟨g6, h⟩ := sw_gd_e h
    refine sw_iaload (a := 66) (by decide) rfl (sw_in_e g6) (by decide +kernel) ?_
    refine sw_iload_n (k0 := 3) 3 rfl (by decide +kernel) rfl ?_
    refine sw_aload_n (k0 := 0) 0 rfl (by decide +kernel) rfl ?_
    refine gf_X10_51 (i := 49) (by decide) rfl (by decide +kernel) ?_
    refine sw_refj 62 rfl ?_
    refine sw_iconst (n := 5) (v := 5) (by decide +kernel) (by decide) ?_
    refine sw_aload_n (k0 := 0) 0 rfl (by decide +kernel) rfl ?_
    refine gf_X10_381 (i := 49) (by decide) rfl (by decide +kernel) ?_
    refine sw_iconst (n := 1) (v := 1) (by decide +kernel) (by decide) ?_
    refine sw_isub (by decide +kernel) ?_
    refine sw_imul (by decide +kernel) ?_
    refine sw_aload_n (k0 := 0) 0 rfl (by decide +kernel) rfl ?_
    refine gf_X10_390 (i := 49) (by decide) rfl (by decide +kernel) ?_
    refine sw_iadd (by decide +kernel) ?_
    obtain ⟨g7, h⟩ := sw_gd_e h
    refine sw_iaload (a := 62) (by decide) rfl (sw_in_e g7) (by decide +kernel) ?_
    refine sw_isub (by decide +kernel) ?_
    refine sw_iadd (by decide +kernel) ?_
    obtain ⟨g8, h⟩ := sw_gd_e h
    obtain ⟨m9, e10, h⟩ := sw_let_e h
    refine sw_iastore (a := 66) (by decide) rfl (sw_in_e g8) (by decide +kernel) ?_
    refine sw_mem e10 ?_
    refine sw_iconst (n := 0) (v := 0) (by decide +kernel) (by decide) ?_
    refine sw_istore (i := 4) (lv' := [(4, .int 0), (0, .ref 49), (1, .int a1), (2, .int a2), (3, .int a3)]) (by decide +kernel) (by decide) rfl ?_
    obtain ⟨q10, h10, rfl⟩ := sw_up_e h
    replace h := h10
    refine sw_lv [1, 2, 3, 4, 0] rfl ?_
    exact sw_wh_e (fun s : Int32 × sw_M => sw_Go l E K RX10 cX10_layFits 6 (some .int) 88 [(0, .ref 49), (1, .int a1), (2, .int a2), (3, .int a3), (4, .int s.1)] [] s.2 (some (.int res.1)) res.2) (Sum.elim (fun s : Int32 × Int32 × sw_M => sw_Go l E K RX10 cX10_layFits 6 (some .int) 4 [(0, .ref 49), (1, .int a1), (2, .int s.1), (3, .int s.2.1)] [] s.2.2 (some (.int res.1)) res.2) (fun q => q = res)) (fun s => fX10_layFits_L88 s.2 a1 a2 a3 s.1) (fun s t hb hk => sX10_layFits_L88 hK s.2 a1 a2 a3 s.1 hb hk) _ _ _ h hk
  · rw [if_neg c1] at h
    refine sw_aload_n (k0 := 0) 0 rfl (by decide +kernel) rfl ?_
    refine gf_X10_63 (i := 49) (by decide) rfl (by decide +kernel) ?_
    refine sw_refj 66 rfl ?_
    refine sw_iload 4 rfl (by decide +kernel) ?_
    refine sw_iconst (n := 0) (v := 0) (by decide +kernel) (by decide) ?_
    obtain ⟨g12, h⟩ := sw_gd_e h
    obtain ⟨m13, e14, h⟩ := sw_let_e h
    refine sw_iastore (a := 66) (by decide) rfl (sw_in_e g12) (by decide +kernel) ?_
    refine sw_mem e14 ?_
    obtain ⟨v15, e16, h⟩ := sw_let_e h
    refine sw_iincv (i := 4) (n := 1) (lv' := [(4, .int v15), (0, .ref 49), (1, .int a1), (2, .int a2), (3, .int a3)]) 4 rfl e16 (by decide +kernel) (by decide) (by decide) rfl ?_
    refine sw_goto (off := (-18)) 20 (by decide +kernel) (by decide) ?_
    cases h
    refine sw_lv [1, 2, 3, 4, 0] rfl ?_
    exact hk
set_option maxRecDepth 20000 in
theorem sX10_layFits_L4 {l : Launch} {E : sw_E} {K : Nat} (hK : 4 ≤ K) (σ : sw_M) (a1 : Int32) (a2 : Int32) (a3 : Int32) {res : Int32 × sw_M} {t : (Int32 × Int32 × sw_M) ⊕ (Int32 × sw_M)} (h : fX10_layFits_L4 σ a1 a2 a3 = some t) (hk : (Sum.elim (fun s : Int32 × Int32 × sw_M => sw_Go l E K RX10 cX10_layFits 6 (some .int) 4 [(0, .ref 49), (1, .int a1), (2, .int s.1), (3, .int s.2.1)] [] s.2.2 (some (.int res.1)) res.2) (fun q => q = res)) t) : sw_Go l E K RX10 cX10_layFits 6 (some .int) 4 [(0, .ref 49), (1, .int a1), (2, .int a2), (3, .int a3)] [] σ (some (.int res.1)) res.2 := by
  unfold fX10_layFits_L4 at h
  refine sw_iload_n (k0 := 3) 3 rfl (by decide +kernel) rfl ?_
  refine sw_bipush (n := 30) (v := 30) (by decide +kernel) (by decide) ?_
  refine sw_icmp_gt (off := 170) 177 (by decide +kernel) (by decide) (fun c1 => ?_) (fun c1 => ?_)
  · rw [if_pos c1] at h
    refine sw_iload_n (k0 := 2) 2 rfl (by decide +kernel) rfl ?_
    cases h
    obtain rfl : _ = res := hk
    exact sw_iret (by decide +kernel)
  · rw [if_neg c1] at h
    refine sw_aload_n (k0 := 0) 0 rfl (by decide +kernel) rfl ?_
    refine gf_X10_381 (i := 49) (by decide) rfl (by decide +kernel) ?_
    refine sw_if_le (off := 163) 177 (by decide +kernel) (by decide) (fun c2 => ?_) (fun c2 => ?_)
    · rw [if_pos c2] at h
      refine sw_iload_n (k0 := 2) 2 rfl (by decide +kernel) rfl ?_
      cases h
      obtain rfl : _ = res := hk
      exact sw_iret (by decide +kernel)
    · rw [if_neg c2] at h
      refine sw_iconst (n := 0) (v := 0) (by decide +kernel) (by decide) ?_
      refine sw_istore (i := 4) (lv' := [(4, .int 0), (0, .ref 49), (1, .int a1), (2, .int a2), (3, .int a3)]) (by decide +kernel) (by decide) rfl ?_
      refine sw_lv [1, 2, 3, 4, 0] rfl ?_
      exact sw_wh_e (fun s : Int32 × sw_M => sw_Go l E K RX10 cX10_layFits 6 (some .int) 20 [(0, .ref 49), (1, .int a1), (2, .int a2), (3, .int a3), (4, .int s.1)] [] s.2 (some (.int res.1)) res.2) (Sum.elim (fun s : Int32 × Int32 × sw_M => sw_Go l E K RX10 cX10_layFits 6 (some .int) 4 [(0, .ref 49), (1, .int a1), (2, .int s.1), (3, .int s.2.1)] [] s.2.2 (some (.int res.1)) res.2) (fun q => q = res)) (fun s => fX10_layFits_L20 s.2 a1 a2 a3 s.1) (fun s t hb hk => sX10_layFits_L20 hK s.2 a1 a2 a3 s.1 hb hk) _ _ _ h hk
set_option maxRecDepth 20000 in
theorem sX10_layFits {l : Launch} {E : sw_E} {K : Nat} (hK : 4 ≤ K) (σ : sw_M) (a1 : Int32) {res : Int32 × sw_M} (h : fX10_layFits σ a1 = some res) : sw_Ct l E K yX10_layFits cX10_layFits 6 (some .int) [.ref 49, .int a1] σ (some (.int res.1)) res.2 := by
  obtain ⟨t, hk, h⟩ : ∃ t, t = res ∧ fX10_layFits σ a1 = some t := ⟨res, rfl, h⟩
  unfold fX10_layFits at h
  refine sw_enter2 (own := RX10) (lv := [(0, .ref 49), (1, .int a1)]) (by decide +kernel) (Nat.le_of_ble_eq_true rfl) rfl rfl ?_
  refine sw_iconst (n := 0) (v := 0) (by decide +kernel) (by decide) ?_
  refine sw_istore_n (k0 := 2) (lv' := [(2, .int 0), (0, .ref 49), (1, .int a1)]) (by decide +kernel) rfl (by decide) rfl ?_
  refine sw_iconst (n := 0) (v := 0) (by decide +kernel) (by decide) ?_
  refine sw_istore_n (k0 := 3) (lv' := [(3, .int 0), (2, .int 0), (0, .ref 49), (1, .int a1)]) (by decide +kernel) rfl (by decide) rfl ?_
  refine sw_lv [2, 3, 1, 0] rfl ?_
  exact sw_wh_e (fun s : Int32 × Int32 × sw_M => sw_Go l E K RX10 cX10_layFits 6 (some .int) 4 [(0, .ref 49), (1, .int a1), (2, .int s.1), (3, .int s.2.1)] [] s.2.2 (some (.int res.1)) res.2) (fun q => q = res) (fun s => fX10_layFits_L4 s.2.2 a1 s.1 s.2.1) (fun s t hb hk => sX10_layFits_L4 hK s.2.2 a1 s.1 s.2.1 hb hk) _ _ _ h hk
def fX10_fits (σ : sw_M) (a1 : Int32) : Option (Int32 × sw_M) :=
  sw_b2 (fX10_layFits σ a1) fun r1 m2 =>
  some ((r1, m2))
set_option maxRecDepth 20000 in
theorem sX10_fits {l : Launch} {E : sw_E} {K : Nat} (hK : 5 ≤ K) (σ : sw_M) (a1 : Int32) {res : Int32 × sw_M} (h : fX10_fits σ a1 = some res) : sw_Ct l E K yX10_fits cX10_fits 2 (some .int) [.ref 49, .int a1] σ (some (.int res.1)) res.2 := by
  obtain ⟨t, hk, h⟩ : ∃ t, t = res ∧ fX10_fits σ a1 = some t := ⟨res, rfl, h⟩
  unfold fX10_fits at h
  refine sw_enter2 (own := RX10) (lv := [(0, .ref 49), (1, .int a1)]) (by decide +kernel) (Nat.le_of_ble_eq_true rfl) rfl rfl ?_
  refine sw_aload_n (k0 := 0) 0 rfl (by decide +kernel) rfl ?_
  refine sw_iload_n (k0 := 1) 1 rfl (by decide +kernel) rfl ?_
  obtain ⟨r1, m2, w3, h⟩ := sw_b2_e h
  refine sw_callVi (ci := 10) (i := 49) [.int a1] (sX10_layFits (K := K - 1) (by omega) σ a1 w3) rfl (by omega) rfl gs_X10_511 hy_X10_layFits (by decide) (by decide) rfl rfl (Nat.le_of_ble_eq_true rfl) (by decide +kernel) ?_
  cases h
  obtain rfl : _ = res := hk
  exact sw_iret (by decide +kernel)
def fX10_sure_L53 (σ : sw_M) (a1 : Int32) (a3 : Int32) (a4 : Int32) : Option ((Int32 × Int32) ⊕ (Int32 × sw_M)) :=
  sw_let (a4 + 1) fun v1 =>
  some (.inl (a3, v1))
def fX10_sure_L50 (σ : sw_M) (a1 : Int32) (a4 : Int32) : Option ((Int32 × Int32) ⊕ (Int32 × sw_M)) :=
  fX10_sure_L53 σ a1 a4 a4
def fX10_sure_L24 (σ : sw_M) (a1 : Int32) (a3 : Int32) (a4 : Int32) : Option ((Int32 × Int32) ⊕ (Int32 × sw_M)) :=
  if 30 < a4 then
    some (.inr ((a3, σ)))
  else
    sw_gd (sw_in a4 31) <|
    if (σ.1 81 a4.toNatClampNeg) = 0 then
      fX10_sure_L53 σ a1 a3 a4
    else
      if a3 < 0 then
        fX10_sure_L50 σ a1 a4
      else
        if a1 = 1 then
          fX10_sure_L50 σ a1 a4
        else
          fX10_sure_L53 σ a1 a3 a4
def fX10_sure (σ : sw_M) (a1 : Int32) (a2 : Int32) : Option (Int32 × sw_M) :=
  if (fX10_isIn a1 0 1) = 0 then
    some (((-1), σ))
  else
    sw_b2 (fX10_layFits σ a2) fun r2 m3 =>
    if r2 = 0 then
      some (((-1), m3))
    else
      sw_wh sw_F (fun s => fX10_sure_L24 m3 a1 s.1 s.2) ((-1), 0)
set_option maxRecDepth 20000 in
theorem sX10_sure_L53 {l : Launch} {E : sw_E} {K : Nat} (hK : 5 ≤ K) (σ : sw_M) (a1 : Int32) (a3 : Int32) (a4 : Int32) {res : Int32 × sw_M} {t : (Int32 × Int32) ⊕ (Int32 × sw_M)} (h : fX10_sure_L53 σ a1 a3 a4 = some t) (hk : (Sum.elim (fun s : Int32 × Int32 => sw_Go l E K RX10 cX10_sure 5 (some .int) 24 [(0, .ref 49), (1, .int a1), (3, .int s.1), (4, .int s.2)] [] σ (some (.int res.1)) res.2) (fun q => q = res)) t) : sw_Go l E K RX10 cX10_sure 5 (some .int) 53 [(0, .ref 49), (1, .int a1), (3, .int a3), (4, .int a4)] [] σ (some (.int res.1)) res.2 := by
  unfold fX10_sure_L53 at h
  obtain ⟨v1, e2, h⟩ := sw_let_e h
  refine sw_iincv (i := 4) (n := 1) (lv' := [(4, .int v1), (0, .ref 49), (1, .int a1), (3, .int a3)]) 3 rfl e2 (by decide +kernel) (by decide) (by decide) rfl ?_
  refine sw_goto (off := (-32)) 24 (by decide +kernel) (by decide) ?_
  cases h
  refine sw_lv [1, 2, 3, 0] rfl ?_
  exact hk
set_option maxRecDepth 20000 in
theorem sX10_sure_L50 {l : Launch} {E : sw_E} {K : Nat} (hK : 5 ≤ K) (σ : sw_M) (a1 : Int32) (a4 : Int32) {res : Int32 × sw_M} {t : (Int32 × Int32) ⊕ (Int32 × sw_M)} (h : fX10_sure_L50 σ a1 a4 = some t) (hk : (Sum.elim (fun s : Int32 × Int32 => sw_Go l E K RX10 cX10_sure 5 (some .int) 24 [(0, .ref 49), (1, .int a1), (3, .int s.1), (4, .int s.2)] [] σ (some (.int res.1)) res.2) (fun q => q = res)) t) : sw_Go l E K RX10 cX10_sure 5 (some .int) 50 [(0, .ref 49), (1, .int a1), (4, .int a4)] [] σ (some (.int res.1)) res.2 := by
  unfold fX10_sure_L50 at h
  refine sw_iload 2 rfl (by decide +kernel) ?_
  refine sw_istore_n (k0 := 3) (lv' := [(3, .int a4), (0, .ref 49), (1, .int a1), (4, .int a4)]) (by decide +kernel) rfl (by decide) rfl ?_
  refine sw_lv [1, 2, 0, 3] rfl ?_
  exact sX10_sure_L53 hK σ a1 a4 a4 h hk
set_option maxRecDepth 20000 in
theorem sX10_sure_L24 {l : Launch} {E : sw_E} {K : Nat} (hK : 5 ≤ K) (σ : sw_M) (a1 : Int32) (a3 : Int32) (a4 : Int32) {res : Int32 × sw_M} {t : (Int32 × Int32) ⊕ (Int32 × sw_M)} (h : fX10_sure_L24 σ a1 a3 a4 = some t) (hk : (Sum.elim (fun s : Int32 × Int32 => sw_Go l E K RX10 cX10_sure 5 (some .int) 24 [(0, .ref 49), (1, .int a1), (3, .int s.1), (4, .int s.2)] [] σ (some (.int res.1)) res.2) (fun q => q = res)) t) : sw_Go l E K RX10 cX10_sure 5 (some .int) 24 [(0, .ref 49), (1, .int a1), (3, .int a3), (4, .int a4)] [] σ (some (.int res.1)) res.2 := by
  unfold fX10_sure_L24 at h
  refine sw_iload 3 rfl (by decide +kernel) ?_
  refine sw_bipush (n := 30) (v := 30) (by decide +kernel) (by decide) ?_
  refine sw_icmp_gt (off := 31) 59 (by decide +kernel) (by decide) (fun c1 => ?_) (fun c1 => ?_)
  · rw [if_pos c1] at h
    refine sw_iload_n (k0 := 3) 2 rfl (by decide +kernel) rfl ?_
    cases h
    obtain rfl : _ = res := hk
    exact sw_iret (by decide +kernel)
  · rw [if_neg c1] at h
    refine sw_aload_n (k0 := 0) 0 rfl (by decide +kernel) rfl ?_
    refine gf_X10_109 (i := 49) (by decide) rfl (by decide +kernel) ?_
    refine sw_refj 81 rfl ?_
    refine sw_iload 3 rfl (by decide +kernel) ?_
    obtain ⟨g2, h⟩ := sw_gd_e h
    refine sw_zaload (a := 81) (by decide) rfl (sw_in_e g2) (by decide +kernel) ?_
    refine sw_if_eq (off := 15) 53 (by decide +kernel) (by decide) (fun c3 => ?_) (fun c3 => ?_)
    · rw [if_pos c3] at h
      exact sX10_sure_L53 hK σ a1 a3 a4 h hk
    · rw [if_neg c3] at h
      refine sw_iload_n (k0 := 3) 2 rfl (by decide +kernel) rfl ?_
      refine sw_if_lt (off := 8) 50 (by decide +kernel) (by decide) (fun c4 => ?_) (fun c4 => ?_)
      · rw [if_pos c4] at h
        refine sw_lv [0, 1, 3] rfl ?_
        exact sX10_sure_L50 hK σ a1 a4 h hk
      · rw [if_neg c4] at h
        refine sw_iload_n (k0 := 1) 1 rfl (by decide +kernel) rfl ?_
        refine sw_iconst (n := 1) (v := 1) (by decide +kernel) (by decide) ?_
        refine sw_icmp_ne (off := 6) 53 (by decide +kernel) (by decide) (fun c5 => ?_) (fun c5 => ?_)
        · rw [if_neg c5] at h
          exact sX10_sure_L53 hK σ a1 a3 a4 h hk
        · rw [if_pos c5] at h
          refine sw_lv [0, 1, 3] rfl ?_
          exact sX10_sure_L50 hK σ a1 a4 h hk
set_option maxRecDepth 20000 in
theorem sX10_sure {l : Launch} {E : sw_E} {K : Nat} (hK : 5 ≤ K) (σ : sw_M) (a1 : Int32) (a2 : Int32) {res : Int32 × sw_M} (h : fX10_sure σ a1 a2 = some res) : sw_Ct l E K yX10_sure cX10_sure 5 (some .int) [.ref 49, .int a1, .int a2] σ (some (.int res.1)) res.2 := by
  obtain ⟨t, hk, h⟩ : ∃ t, t = res ∧ fX10_sure σ a1 a2 = some t := ⟨res, rfl, h⟩
  unfold fX10_sure at h
  refine sw_enter2 (own := RX10) (lv := [(0, .ref 49), (1, .int a1), (2, .int a2)]) (by decide +kernel) (Nat.le_of_ble_eq_true rfl) rfl rfl ?_
  refine sw_iload_n (k0 := 1) 1 rfl (by decide +kernel) rfl ?_
  refine sw_iconst (n := 0) (v := 0) (by decide +kernel) (by decide) ?_
  refine sw_iconst (n := 1) (v := 1) (by decide +kernel) (by decide) ?_
  refine sw_callSi [.int a1, .int 0, .int 1] (sX10_isIn (K := K - 1) (by omega) σ a1 0 1 rfl) rfl (by omega) gs_X10_411 hy_X10_isIn (by decide) rfl (Nat.le_of_ble_eq_true rfl) (by decide +kernel) ?_
  refine sw_if_eq (off := 11) 17 (by decide +kernel) (by decide) (fun c1 => ?_) (fun c1 => ?_)
  · rw [if_pos c1] at h
    refine sw_iconst (n := (-1)) (v := (-1)) (by decide +kernel) (by decide) ?_
    cases h
    obtain rfl : _ = res := hk
    exact sw_iret (by decide +kernel)
  · rw [if_neg c1] at h
    refine sw_aload_n (k0 := 0) 0 rfl (by decide +kernel) rfl ?_
    refine sw_iload_n (k0 := 2) 2 rfl (by decide +kernel) rfl ?_
    obtain ⟨r2, m3, w4, h⟩ := sw_b2_e h
    refine sw_callVi (ci := 10) (i := 49) [.int a2] (sX10_layFits (K := K - 1) (by omega) σ a2 w4) rfl (by omega) rfl gs_X10_511 hy_X10_layFits (by decide) (by decide) rfl rfl (Nat.le_of_ble_eq_true rfl) (by decide +kernel) ?_
    refine sw_if_ne (off := 5) 19 (by decide +kernel) (by decide) (fun c5 => ?_) (fun c5 => ?_)
    · rw [if_neg c5] at h
      refine sw_iconst (n := (-1)) (v := (-1)) (by decide +kernel) (by decide) ?_
      refine sw_istore_n (k0 := 3) (lv' := [(3, .int (-1)), (0, .ref 49), (1, .int a1), (2, .int a2)]) (by decide +kernel) rfl (by decide) rfl ?_
      refine sw_iconst (n := 0) (v := 0) (by decide +kernel) (by decide) ?_
      refine sw_istore (i := 4) (lv' := [(4, .int 0), (3, .int (-1)), (0, .ref 49), (1, .int a1), (2, .int a2)]) (by decide +kernel) (by decide) rfl ?_
      refine sw_lv [2, 3, 1, 0] rfl ?_
      exact sw_wh_e (fun s : Int32 × Int32 => sw_Go l E K RX10 cX10_sure 5 (some .int) 24 [(0, .ref 49), (1, .int a1), (3, .int s.1), (4, .int s.2)] [] m3 (some (.int res.1)) res.2) (fun q => q = res) (fun s => fX10_sure_L24 m3 a1 s.1 s.2) (fun s t hb hk => sX10_sure_L24 hK m3 a1 s.1 s.2 hb hk) _ _ _ h hk
    · rw [if_pos c5] at h
      refine sw_iconst (n := (-1)) (v := (-1)) (by decide +kernel) (by decide) ?_
      cases h
      obtain rfl : _ = res := hk
      exact sw_iret (by decide +kernel)
def fX10_leftBy_L88 (σ : sw_M) (a1 : Int32) (a2 : Int32) (a3 : Int32) (a4 : Int32) : Option ((Int32 × Int32 × sw_M) ⊕ (Int32 × sw_M)) :=
  sw_let (a4 + 1) fun v1 =>
  some (.inl (a3, v1, σ))
def fX10_leftBy_L27 (σ : sw_M) (a1 : Int32) (a2 : Int32) (a3 : Int32) (a4 : Int32) : Option ((Int32 × Int32 × sw_M) ⊕ (Int32 × sw_M)) :=
  if 30 < a4 then
    some (.inr ((a3, σ)))
  else
    sw_gd (sw_in a4 31) <|
    if (σ.1 81 a4.toNatClampNeg) = 0 then
      fX10_leftBy_L88 σ a1 a2 a3 a4
    else
      sw_gd (sw_in (((65 * a4) + (5 * a1)) + a2) 2015) <|
      sw_let (σ.1 79 (((65 * a4) + (5 * a1)) + a2).toNatClampNeg) fun v5 =>
      sw_gd (sw_in v5 1000) <|
      sw_gd (sw_in v5 1000) <|
      sw_let (sw_w σ 80 v5.toNatClampNeg ((σ.1 80 v5.toNatClampNeg) + 1)) fun m9 =>
      sw_gd (sw_in v5 1000) <|
      sw_let (fX10_greater a3 (m9.1 80 v5.toNatClampNeg)) fun v12 =>
      fX10_leftBy_L88 m9 a1 a2 v12 a4
def fX10_leftBy_L2 (σ : sw_M) (a1 : Int32) (a2 : Int32) (a3 : Int32) : Option ((Int32 × sw_M) ⊕ (Int32 × sw_M)) :=
  if 999 < a3 then
    sw_up (sw_wh sw_F (fun s => fX10_leftBy_L27 s.2.2 a1 a2 s.1 s.2.1) (0, 0, σ))
  else
    sw_gd (sw_in a3 1000) <|
    sw_let (sw_w σ 80 a3.toNatClampNeg 0) fun m4 =>
    sw_let (a3 + 1) fun v6 =>
    some (.inl (v6, m4))
def fX10_leftBy (σ : sw_M) (a1 : Int32) (a2 : Int32) : Option (Int32 × sw_M) :=
  sw_wh sw_F (fun s => fX10_leftBy_L2 s.2 a1 a2 s.1) (0, σ)
set_option maxRecDepth 20000 in
theorem sX10_leftBy_L88 {l : Launch} {E : sw_E} {K : Nat} (hK : 1 ≤ K) (σ : sw_M) (a1 : Int32) (a2 : Int32) (a3 : Int32) (a4 : Int32) {res : Int32 × sw_M} {t : (Int32 × Int32 × sw_M) ⊕ (Int32 × sw_M)} (h : fX10_leftBy_L88 σ a1 a2 a3 a4 = some t) (hk : (Sum.elim (fun s : Int32 × Int32 × sw_M => sw_Go l E K RX10 cX10_leftBy 6 (some .int) 27 [(0, .ref 49), (1, .int a1), (2, .int a2), (3, .int s.1), (4, .int s.2.1)] [] s.2.2 (some (.int res.1)) res.2) (fun q => q = res)) t) : sw_Go l E K RX10 cX10_leftBy 6 (some .int) 88 [(0, .ref 49), (1, .int a1), (2, .int a2), (3, .int a3), (4, .int a4)] [] σ (some (.int res.1)) res.2 := by
  unfold fX10_leftBy_L88 at h
  obtain ⟨v1, e2, h⟩ := sw_let_e h
  refine sw_iincv (i := 4) (n := 1) (lv' := [(4, .int v1), (0, .ref 49), (1, .int a1), (2, .int a2), (3, .int a3)]) 4 rfl e2 (by decide +kernel) (by decide) (by decide) rfl ?_
  refine sw_goto (off := (-64)) 27 (by decide +kernel) (by decide) ?_
  cases h
  refine sw_lv [1, 2, 3, 4, 0] rfl ?_
  exact hk
set_option maxRecDepth 20000 in
theorem sX10_leftBy_L27 {l : Launch} {E : sw_E} {K : Nat} (hK : 1 ≤ K) (σ : sw_M) (a1 : Int32) (a2 : Int32) (a3 : Int32) (a4 : Int32) {res : Int32 × sw_M} {t : (Int32 × Int32 × sw_M) ⊕ (Int32 × sw_M)} (h : fX10_leftBy_L27 σ a1 a2 a3 a4 = some t) (hk : (Sum.elim (fun s : Int32 × Int32 × sw_M => sw_Go l E K RX10 cX10_leftBy 6 (some .int) 27 [(0, .ref 49), (1, .int a1), (2, .int a2), (3, .int s.1), (4, .int s.2.1)] [] s.2.2 (some (.int res.1)) res.2) (fun q => q = res)) t) : sw_Go l E K RX10 cX10_leftBy 6 (some .int) 27 [(0, .ref 49), (1, .int a1), (2, .int a2), (3, .int a3), (4, .int a4)] [] σ (some (.int res.1)) res.2 := by
  unfold fX10_leftBy_L27 at h
  refine sw_iload 4 rfl (by decide +kernel) ?_
  refine sw_bipush (n := 30) (v := 30) (by decide +kernel) (by decide) ?_
  refine sw_icmp_gt (off := 63) 94 (by decide +kernel) (by decide) (fun c1 => ?_) (fun c1 => ?_)
  · rw [if_pos c1] at h
    refine sw_iload_n (k0 := 3) 3 rfl (by decide +kernel) rfl ?_
    cases h
    obtain rfl : _ = res := hk
    exact sw_iret (by decide +kernel)
  · rw [if_neg c1] at h
    refine sw_aload_n (k0 := 0) 0 rfl (by decide +kernel) rfl ?_
    refine gf_X10_109 (i := 49) (by decide) rfl (by decide +kernel) ?_
    refine sw_refj 81 rfl ?_
    refine sw_iload 4 rfl (by decide +kernel) ?_
    obtain ⟨g2, h⟩ := sw_gd_e h
    refine sw_zaload (a := 81) (by decide) rfl (sw_in_e g2) (by decide +kernel) ?_
    refine sw_if_ne (off := 6) 47 (by decide +kernel) (by decide) (fun c3 => ?_) (fun c3 => ?_)
    · rw [if_neg c3] at h
      refine sw_aload_n (k0 := 0) 0 rfl (by decide +kernel) rfl ?_
      refine gf_X10_103 (i := 49) (by decide) rfl (by decide +kernel) ?_
      refine sw_refj 79 rfl ?_
      refine sw_bipush (n := 65) (v := 65) (by decide +kernel) (by decide) ?_
      refine sw_iload 4 rfl (by decide +kernel) ?_
      refine sw_imul (by decide +kernel) ?_
      refine sw_iconst (n := 5) (v := 5) (by decide +kernel) (by decide) ?_
      refine sw_iload_n (k0 := 1) 1 rfl (by decide +kernel) rfl ?_
      refine sw_imul (by decide +kernel) ?_
      refine sw_iadd (by decide +kernel) ?_
      refine sw_iload_n (k0 := 2) 2 rfl (by decide +kernel) rfl ?_
      refine sw_iadd (by decide +kernel) ?_
      obtain ⟨g4, h⟩ := sw_gd_e h
      refine sw_iaload (a := 79) (by decide) rfl (sw_in_e g4) (by decide +kernel) ?_
      obtain ⟨v5, e6, h⟩ := sw_let_e h
      refine sw_topi e6 ?_
      refine sw_istore (i := 5) (lv' := [(5, .int v5), (0, .ref 49), (1, .int a1), (2, .int a2), (3, .int a3), (4, .int a4)]) (by decide +kernel) (by decide) rfl ?_
      refine sw_aload_n (k0 := 0) 1 rfl (by decide +kernel) rfl ?_
      refine gf_X10_106 (i := 49) (by decide) rfl (by decide +kernel) ?_
      refine sw_refj 80 rfl ?_
      refine sw_iload 0 rfl (by decide +kernel) ?_
      refine sw_dup2 (by decide +kernel) rfl rfl ?_
      obtain ⟨g7, h⟩ := sw_gd_e h
      refine sw_iaload (a := 80) (by decide) rfl (sw_in_e g7) (by decide +kernel) ?_
      refine sw_iconst (n := 1) (v := 1) (by decide +kernel) (by decide) ?_
      refine sw_iadd (by decide +kernel) ?_
      obtain ⟨g8, h⟩ := sw_gd_e h
      obtain ⟨m9, e10, h⟩ := sw_let_e h
      refine sw_iastore (a := 80) (by decide) rfl (sw_in_e g8) (by decide +kernel) ?_
      refine sw_mem e10 ?_
      refine sw_iload_n (k0 := 3) 4 rfl (by decide +kernel) rfl ?_
      refine sw_aload_n (k0 := 0) 1 rfl (by decide +kernel) rfl ?_
      refine gf_X10_106 (i := 49) (by decide) rfl (by decide +kernel) ?_
      refine sw_refj 80 rfl ?_
      refine sw_iload 0 rfl (by decide +kernel) ?_
      obtain ⟨g11, h⟩ := sw_gd_e h
      refine sw_iaload (a := 80) (by decide) rfl (sw_in_e g11) (by decide +kernel) ?_
      refine sw_callSi [.int a3, .int (m9.1 80 v5.toNatClampNeg)] (sX10_greater (K := K - 1) (by omega) m9 a3 (m9.1 80 v5.toNatClampNeg) rfl) rfl (by omega) gs_X10_297 hy_X10_greater (by decide) rfl (Nat.le_of_ble_eq_true rfl) (by decide +kernel) ?_
      obtain ⟨v12, e13, h⟩ := sw_let_e h
      refine sw_topi e13 ?_
      refine sw_istore_n (k0 := 3) (lv' := [(3, .int v12), (5, .int v5), (0, .ref 49), (1, .int a1), (2, .int a2), (4, .int a4)]) (by decide +kernel) rfl (by decide) rfl ?_
      refine sw_lv [2, 3, 4, 0, 5] rfl ?_
      exact sX10_leftBy_L88 hK m9 a1 a2 v12 a4 h hk
    · rw [if_pos c3] at h
      refine sw_goto (off := 44) 88 (by decide +kernel) (by decide) ?_
      exact sX10_leftBy_L88 hK σ a1 a2 a3 a4 h hk
set_option maxRecDepth 20000 in
theorem sX10_leftBy_L2 {l : Launch} {E : sw_E} {K : Nat} (hK : 1 ≤ K) (σ : sw_M) (a1 : Int32) (a2 : Int32) (a3 : Int32) {res : Int32 × sw_M} {t : (Int32 × sw_M) ⊕ (Int32 × sw_M)} (h : fX10_leftBy_L2 σ a1 a2 a3 = some t) (hk : (Sum.elim (fun s : Int32 × sw_M => sw_Go l E K RX10 cX10_leftBy 6 (some .int) 2 [(0, .ref 49), (1, .int a1), (2, .int a2), (3, .int s.1)] [] s.2 (some (.int res.1)) res.2) (fun q => q = res)) t) : sw_Go l E K RX10 cX10_leftBy 6 (some .int) 2 [(0, .ref 49), (1, .int a1), (2, .int a2), (3, .int a3)] [] σ (some (.int res.1)) res.2 := by
  unfold fX10_leftBy_L2 at h
  refine sw_iload_n (k0 := 3) 3 rfl (by decide +kernel) rfl ?_
  refine sw_sipush (n := 999) (v := 999) (by decide +kernel) (by decide) ?_
  refine sw_icmp_gt (off := 16) 22 (by decide +kernel) (by decide) (fun c1 => ?_) (fun c1 => ?_)
  · rw [if_pos c1] at h
    refine sw_iconst (n := 0) (v := 0) (by decide +kernel) (by decide) ?_
    refine sw_istore_n (k0 := 3) (lv' := [(3, .int 0), (0, .ref 49), (1, .int a1), (2, .int a2)]) (by decide +kernel) rfl (by decide) rfl ?_
    refine sw_iconst (n := 0) (v := 0) (by decide +kernel) (by decide) ?_
    refine sw_istore (i := 4) (lv' := [(4, .int 0), (3, .int 0), (0, .ref 49), (1, .int a1), (2, .int a2)]) (by decide +kernel) (by decide) rfl ?_
    obtain ⟨q1, h1, rfl⟩ := sw_up_e h
    replace h := h1
    refine sw_lv [2, 3, 4, 1, 0] rfl ?_
    exact sw_wh_e (fun s : Int32 × Int32 × sw_M => sw_Go l E K RX10 cX10_leftBy 6 (some .int) 27 [(0, .ref 49), (1, .int a1), (2, .int a2), (3, .int s.1), (4, .int s.2.1)] [] s.2.2 (some (.int res.1)) res.2) (fun q => q = res) (fun s => fX10_leftBy_L27 s.2.2 a1 a2 s.1 s.2.1) (fun s t hb hk => sX10_leftBy_L27 hK s.2.2 a1 a2 s.1 s.2.1 hb hk) _ _ _ h hk
  · rw [if_neg c1] at h
    refine sw_aload_n (k0 := 0) 0 rfl (by decide +kernel) rfl ?_
    refine gf_X10_106 (i := 49) (by decide) rfl (by decide +kernel) ?_
    refine sw_refj 80 rfl ?_
    refine sw_iload_n (k0 := 3) 3 rfl (by decide +kernel) rfl ?_
    refine sw_iconst (n := 0) (v := 0) (by decide +kernel) (by decide) ?_
    obtain ⟨g3, h⟩ := sw_gd_e h
    obtain ⟨m4, e5, h⟩ := sw_let_e h
    refine sw_iastore (a := 80) (by decide) rfl (sw_in_e g3) (by decide +kernel) ?_
    refine sw_mem e5 ?_
    obtain ⟨v6, e7, h⟩ := sw_let_e h
    refine sw_iincv (i := 3) (n := 1) (lv' := [(3, .int v6), (0, .ref 49), (1, .int a1), (2, .int a2)]) 3 rfl e7 (by decide +kernel) (by decide) (by decide) rfl ?_
    refine sw_goto (off := (-17)) 2 (by decide +kernel) (by decide) ?_
    cases h
    refine sw_lv [1, 2, 3, 0] rfl ?_
    exact hk
set_option maxRecDepth 20000 in
theorem sX10_leftBy {l : Launch} {E : sw_E} {K : Nat} (hK : 1 ≤ K) (σ : sw_M) (a1 : Int32) (a2 : Int32) {res : Int32 × sw_M} (h : fX10_leftBy σ a1 a2 = some res) : sw_Ct l E K yX10_leftBy cX10_leftBy 6 (some .int) [.ref 49, .int a1, .int a2] σ (some (.int res.1)) res.2 := by
  obtain ⟨t, hk, h⟩ : ∃ t, t = res ∧ fX10_leftBy σ a1 a2 = some t := ⟨res, rfl, h⟩
  unfold fX10_leftBy at h
  refine sw_enter2 (own := RX10) (lv := [(0, .ref 49), (1, .int a1), (2, .int a2)]) (by decide +kernel) (Nat.le_of_ble_eq_true rfl) rfl rfl ?_
  refine sw_iconst (n := 0) (v := 0) (by decide +kernel) (by decide) ?_
  refine sw_istore_n (k0 := 3) (lv' := [(3, .int 0), (0, .ref 49), (1, .int a1), (2, .int a2)]) (by decide +kernel) rfl (by decide) rfl ?_
  refine sw_lv [1, 2, 3, 0] rfl ?_
  exact sw_wh_e (fun s : Int32 × sw_M => sw_Go l E K RX10 cX10_leftBy 6 (some .int) 2 [(0, .ref 49), (1, .int a1), (2, .int a2), (3, .int s.1)] [] s.2 (some (.int res.1)) res.2) (fun q => q = res) (fun s => fX10_leftBy_L2 s.2 a1 a2 s.1) (fun s t hb hk => sX10_leftBy_L2 hK s.2 a1 a2 s.1 hb hk) _ _ _ h hk
def fX10_ask_L68 (σ : sw_M) (a1 : Int32) (a2 : Int32) (a5 : Int32) (b0 : Int32) : Option ((Int32 × Int32 × sw_M) ⊕ (Int32 × sw_M)) :=
  sw_let (a5 + 1) fun v1 =>
  some (.inl (b0, v1, σ))
def fX10_ask_L35 (σ : sw_M) (a1 : Int32) (a2 : Int32) (a4 : Int32) (a5 : Int32) : Option ((Int32 × Int32 × sw_M) ⊕ (Int32 × sw_M)) :=
  if (σ.1 49 40) ≤ a5 then
    if a2 = 0 then
      some (.inr ((a4, σ)))
    else
      sw_b2 (fX10_leftBy σ a1 a4) fun r3 m4 =>
      some (.inr ((r3, m4)))
  else
    sw_b2 (fX10_leftBy σ a1 a5) fun r6 m7 =>
    sw_b2 (fX10_leftBy m7 a1 a4) fun r9 m10 =>
    if r9 ≤ r6 then
      fX10_ask_L68 m10 a1 a2 a5 a4
    else
      fX10_ask_L68 m10 a1 a2 a5 a5
def fX10_ask (σ : sw_M) (a1 : Int32) (a2 : Int32) (a3 : Int32) : Option (Int32 × sw_M) :=
  if (fX10_isIn a1 0 12) = 0 then
    some (((-1), σ))
  else
    if (fX10_isIn a2 0 1) = 0 then
      some (((-1), σ))
    else
      sw_b2 (fX10_layFits σ a3) fun r3 m4 =>
      if r3 = 0 then
        some (((-1), m4))
      else
        sw_wh sw_F (fun s => fX10_ask_L35 s.2.2 a1 a2 s.1 s.2.1) (0, 1, m4)
set_option maxRecDepth 20000 in
theorem sX10_ask_L68 {l : Launch} {E : sw_E} {K : Nat} (hK : 5 ≤ K) (σ : sw_M) (a1 : Int32) (a2 : Int32) (a5 : Int32) (b0 : Int32) {res : Int32 × sw_M} {t : (Int32 × Int32 × sw_M) ⊕ (Int32 × sw_M)} (h : fX10_ask_L68 σ a1 a2 a5 b0 = some t) (hk : (Sum.elim (fun s : Int32 × Int32 × sw_M => sw_Go l E K RX10 cX10_ask 6 (some .int) 35 [(0, .ref 49), (1, .int a1), (2, .int a2), (4, .int s.1), (5, .int s.2.1)] [] s.2.2 (some (.int res.1)) res.2) (fun q => q = res)) t) : sw_Go l E K RX10 cX10_ask 6 (some .int) 68 [(0, .ref 49), (1, .int a1), (2, .int a2), (5, .int a5)] [.int b0] σ (some (.int res.1)) res.2 := by
  unfold fX10_ask_L68 at h
  refine sw_istore (i := 4) (lv' := [(4, .int b0), (0, .ref 49), (1, .int a1), (2, .int a2), (5, .int a5)]) (by decide +kernel) (by decide) rfl ?_
  obtain ⟨v1, e2, h⟩ := sw_let_e h
  refine sw_iincv (i := 5) (n := 1) (lv' := [(5, .int v1), (4, .int b0), (0, .ref 49), (1, .int a1), (2, .int a2)]) 4 rfl e2 (by decide +kernel) (by decide) (by decide) rfl ?_
  refine sw_goto (off := (-38)) 35 (by decide +kernel) (by decide) ?_
  cases h
  refine sw_lv [2, 3, 4, 1, 0] rfl ?_
  exact hk
set_option maxRecDepth 20000 in
theorem sX10_ask_L35 {l : Launch} {E : sw_E} {K : Nat} (hK : 5 ≤ K) (σ : sw_M) (a1 : Int32) (a2 : Int32) (a4 : Int32) (a5 : Int32) {res : Int32 × sw_M} {t : (Int32 × Int32 × sw_M) ⊕ (Int32 × sw_M)} (h : fX10_ask_L35 σ a1 a2 a4 a5 = some t) (hk : (Sum.elim (fun s : Int32 × Int32 × sw_M => sw_Go l E K RX10 cX10_ask 6 (some .int) 35 [(0, .ref 49), (1, .int a1), (2, .int a2), (4, .int s.1), (5, .int s.2.1)] [] s.2.2 (some (.int res.1)) res.2) (fun q => q = res)) t) : sw_Go l E K RX10 cX10_ask 6 (some .int) 35 [(0, .ref 49), (1, .int a1), (2, .int a2), (4, .int a4), (5, .int a5)] [] σ (some (.int res.1)) res.2 := by
  unfold fX10_ask_L35 at h
  refine sw_iload 4 rfl (by decide +kernel) ?_
  refine sw_aload_n (k0 := 0) 0 rfl (by decide +kernel) rfl ?_
  refine gf_X10_291 (i := 49) (by decide) rfl (by decide +kernel) ?_
  refine sw_icmp_ge (off := 35) 76 (by decide +kernel) (by decide) (fun c1 => ?_) (fun c1 => ?_)
  · rw [if_pos c1] at h
    refine sw_iload_n (k0 := 2) 2 rfl (by decide +kernel) rfl ?_
    refine sw_if_ne (off := 8) 85 (by decide +kernel) (by decide) (fun c2 => ?_) (fun c2 => ?_)
    · rw [if_neg c2] at h
      refine sw_aload_n (k0 := 0) 0 rfl (by decide +kernel) rfl ?_
      refine sw_iload_n (k0 := 1) 1 rfl (by decide +kernel) rfl ?_
      refine sw_iload 3 rfl (by decide +kernel) ?_
      obtain ⟨r3, m4, w5, h⟩ := sw_b2_e h
      refine sw_callVi (ci := 10) (i := 49) [.int a1, .int a4] (sX10_leftBy (K := K - 1) (by omega) σ a1 a4 w5) rfl (by omega) rfl gs_X10_514 hy_X10_leftBy (by decide) (by decide) rfl rfl (Nat.le_of_ble_eq_true rfl) (by decide +kernel) ?_
      cases h
      obtain rfl : _ = res := hk
      exact sw_iret (by decide +kernel)
    · rw [if_pos c2] at h
      refine sw_iload 3 rfl (by decide +kernel) ?_
      refine sw_goto (off := 10) 92 (by decide +kernel) (by decide) ?_
      cases h
      obtain rfl : _ = res := hk
      exact sw_iret (by decide +kernel)
  · rw [if_neg c1] at h
    refine sw_aload_n (k0 := 0) 0 rfl (by decide +kernel) rfl ?_
    refine sw_iload_n (k0 := 1) 1 rfl (by decide +kernel) rfl ?_
    refine sw_iload 4 rfl (by decide +kernel) ?_
    obtain ⟨r6, m7, w8, h⟩ := sw_b2_e h
    refine sw_callVi (ci := 10) (i := 49) [.int a1, .int a5] (sX10_leftBy (K := K - 1) (by omega) σ a1 a5 w8) rfl (by omega) rfl gs_X10_514 hy_X10_leftBy (by decide) (by decide) rfl rfl (Nat.le_of_ble_eq_true rfl) (by decide +kernel) ?_
    refine sw_aload_n (k0 := 0) 0 rfl (by decide +kernel) rfl ?_
    refine sw_iload_n (k0 := 1) 1 rfl (by decide +kernel) rfl ?_
    refine sw_iload 3 rfl (by decide +kernel) ?_
    obtain ⟨r9, m10, w11, h⟩ := sw_b2_e h
    refine sw_callVi (ci := 10) (i := 49) [.int a1, .int a4] (sX10_leftBy (K := K - 1) (by omega) m7 a1 a4 w11) rfl (by omega) rfl gs_X10_514 hy_X10_leftBy (by decide) (by decide) rfl rfl (Nat.le_of_ble_eq_true rfl) (by decide +kernel) ?_
    refine sw_icmp_ge (off := 8) 66 (by decide +kernel) (by decide) (fun c12 => ?_) (fun c12 => ?_)
    · rw [if_pos c12] at h
      refine sw_iload 3 rfl (by decide +kernel) ?_
      refine sw_lv [0, 1, 2, 4] rfl ?_
      exact sX10_ask_L68 hK m10 a1 a2 a5 a4 h hk
    · rw [if_neg c12] at h
      refine sw_iload 4 rfl (by decide +kernel) ?_
      refine sw_goto (off := 5) 68 (by decide +kernel) (by decide) ?_
      refine sw_lv [0, 1, 2, 4] rfl ?_
      exact sX10_ask_L68 hK m10 a1 a2 a5 a5 h hk
set_option maxRecDepth 20000 in
theorem sX10_ask {l : Launch} {E : sw_E} {K : Nat} (hK : 5 ≤ K) (σ : sw_M) (a1 : Int32) (a2 : Int32) (a3 : Int32) {res : Int32 × sw_M} (h : fX10_ask σ a1 a2 a3 = some res) : sw_Ct l E K yX10_ask cX10_ask 6 (some .int) [.ref 49, .int a1, .int a2, .int a3] σ (some (.int res.1)) res.2 := by
  obtain ⟨t, hk, h⟩ : ∃ t, t = res ∧ fX10_ask σ a1 a2 a3 = some t := ⟨res, rfl, h⟩
  unfold fX10_ask at h
  refine sw_enter2 (own := RX10) (lv := [(0, .ref 49), (1, .int a1), (2, .int a2), (3, .int a3)]) (by decide +kernel) (Nat.le_of_ble_eq_true rfl) rfl rfl ?_
  refine sw_iload_n (k0 := 1) 1 rfl (by decide +kernel) rfl ?_
  refine sw_iconst (n := 0) (v := 0) (by decide +kernel) (by decide) ?_
  refine sw_bipush (n := 12) (v := 12) (by decide +kernel) (by decide) ?_
  refine sw_callSi [.int a1, .int 0, .int 12] (sX10_isIn (K := K - 1) (by omega) σ a1 0 12 rfl) rfl (by omega) gs_X10_411 hy_X10_isIn (by decide) rfl (Nat.le_of_ble_eq_true rfl) (by decide +kernel) ?_
  refine sw_if_eq (off := 20) 27 (by decide +kernel) (by decide) (fun c1 => ?_) (fun c1 => ?_)
  · rw [if_pos c1] at h
    refine sw_iconst (n := (-1)) (v := (-1)) (by decide +kernel) (by decide) ?_
    cases h
    obtain rfl : _ = res := hk
    exact sw_iret (by decide +kernel)
  · rw [if_neg c1] at h
    refine sw_iload_n (k0 := 2) 2 rfl (by decide +kernel) rfl ?_
    refine sw_iconst (n := 0) (v := 0) (by decide +kernel) (by decide) ?_
    refine sw_iconst (n := 1) (v := 1) (by decide +kernel) (by decide) ?_
    refine sw_callSi [.int a2, .int 0, .int 1] (sX10_isIn (K := K - 1) (by omega) σ a2 0 1 rfl) rfl (by omega) gs_X10_411 hy_X10_isIn (by decide) rfl (Nat.le_of_ble_eq_true rfl) (by decide +kernel) ?_
    refine sw_if_eq (off := 11) 27 (by decide +kernel) (by decide) (fun c2 => ?_) (fun c2 => ?_)
    · rw [if_pos c2] at h
      refine sw_iconst (n := (-1)) (v := (-1)) (by decide +kernel) (by decide) ?_
      cases h
      obtain rfl : _ = res := hk
      exact sw_iret (by decide +kernel)
    · rw [if_neg c2] at h
      refine sw_aload_n (k0 := 0) 0 rfl (by decide +kernel) rfl ?_
      refine sw_iload_n (k0 := 3) 3 rfl (by decide +kernel) rfl ?_
      obtain ⟨r3, m4, w5, h⟩ := sw_b2_e h
      refine sw_callVi (ci := 10) (i := 49) [.int a3] (sX10_layFits (K := K - 1) (by omega) σ a3 w5) rfl (by omega) rfl gs_X10_511 hy_X10_layFits (by decide) (by decide) rfl rfl (Nat.le_of_ble_eq_true rfl) (by decide +kernel) ?_
      refine sw_if_ne (off := 5) 29 (by decide +kernel) (by decide) (fun c6 => ?_) (fun c6 => ?_)
      · rw [if_neg c6] at h
        refine sw_iconst (n := 0) (v := 0) (by decide +kernel) (by decide) ?_
        refine sw_istore (i := 4) (lv' := [(4, .int 0), (0, .ref 49), (1, .int a1), (2, .int a2), (3, .int a3)]) (by decide +kernel) (by decide) rfl ?_
        refine sw_iconst (n := 1) (v := 1) (by decide +kernel) (by decide) ?_
        refine sw_istore (i := 5) (lv' := [(5, .int 1), (4, .int 0), (0, .ref 49), (1, .int a1), (2, .int a2), (3, .int a3)]) (by decide +kernel) (by decide) rfl ?_
        refine sw_lv [2, 3, 4, 1, 0] rfl ?_
        exact sw_wh_e (fun s : Int32 × Int32 × sw_M => sw_Go l E K RX10 cX10_ask 6 (some .int) 35 [(0, .ref 49), (1, .int a1), (2, .int a2), (4, .int s.1), (5, .int s.2.1)] [] s.2.2 (some (.int res.1)) res.2) (fun q => q = res) (fun s => fX10_ask_L35 s.2.2 a1 a2 s.1 s.2.1) (fun s t hb hk => sX10_ask_L35 hK s.2.2 a1 a2 s.1 s.2.1 hb hk) _ _ _ h hk
      · rw [if_pos c6] at h
        refine sw_iconst (n := (-1)) (v := (-1)) (by decide +kernel) (by decide) ?_
        cases h
        obtain rfl : _ = res := hk
        exact sw_iret (by decide +kernel)
def fX10_isBox (a0 : Int32) : Int32 :=
  if a0 < 0 then
    0
  else
    if 3 ≤ a0 then
      0
    else
      1
set_option maxRecDepth 20000 in
theorem sX10_isBox {l : Launch} {E : sw_E} {K : Nat} (hK : 0 ≤ K) (σ : sw_M) (a0 : Int32) {res : Int32} (h : fX10_isBox a0 = res) : sw_Ct l E K yX10_isBox cX10_isBox 1 (some .boolean) [.int a0] σ (some (.int res)) σ := by
  obtain ⟨t, hk, h⟩ : ∃ t, t = res ∧ fX10_isBox a0 = t := ⟨res, rfl, h⟩
  unfold fX10_isBox at h
  refine sw_enter2 (own := RX10) (lv := [(0, .int a0)]) (by decide +kernel) (Nat.le_of_ble_eq_true rfl) rfl rfl ?_
  refine sw_iload_n (k0 := 0) 0 rfl (by decide +kernel) rfl ?_
  refine sw_if_lt (off := 12) 13 (by decide +kernel) (by decide) (fun c1 => ?_) (fun c1 => ?_)
  · rw [if_pos c1] at h
    refine sw_iconst (n := 0) (v := 0) (by decide +kernel) (by decide) ?_
    subst h
    obtain rfl : _ = res := hk
    exact sw_zret rfl (by decide +kernel)
  · rw [if_neg c1] at h
    refine sw_iload_n (k0 := 0) 0 rfl (by decide +kernel) rfl ?_
    refine sw_iconst (n := 3) (v := 3) (by decide +kernel) (by decide) ?_
    refine sw_icmp_ge (off := 7) 13 (by decide +kernel) (by decide) (fun c2 => ?_) (fun c2 => ?_)
    · rw [if_pos c2] at h
      refine sw_iconst (n := 0) (v := 0) (by decide +kernel) (by decide) ?_
      subst h
      obtain rfl : _ = res := hk
      exact sw_zret rfl (by decide +kernel)
    · rw [if_neg c2] at h
      refine sw_iconst (n := 1) (v := 1) (by decide +kernel) (by decide) ?_
      refine sw_goto (off := 4) 14 (by decide +kernel) (by decide) ?_
      subst h
      obtain rfl : _ = res := hk
      exact sw_zret rfl (by decide +kernel)
theorem bX10_isBox (a0 : Int32) : fX10_isBox a0 = 0 ∨ fX10_isBox a0 = 1 := by
  simp only [fX10_isBox, sw_let]
  repeat' (first | exact Or.inl rfl | exact Or.inr rfl | refine sw_ite_bo ?_ ?_)
def fX10_image_L18 (σ : sw_M) (a1 : Int32) (a2 : Int32) : Option ((Int32 × sw_M) ⊕ (Int32 × sw_M)) :=
  if 10 ≤ a2 then
    some (.inr ((σ.1 65 8, σ)))
  else
    sw_gd (sw_in a2 10) <|
    sw_gd (sw_in ((10 * a1) + a2) 30) <|
    sw_let (sw_w σ 83 ((10 * a1) + a2).toNatClampNeg (σ.1 65 a2.toNatClampNeg)) fun m4 =>
    sw_let (a2 + 1) fun v6 =>
    some (.inl (v6, m4))
def fX10_image (σ : sw_M) (a1 : Int32) : Option (Int32 × sw_M) :=
  if (fX10_isBox a1) = 0 then
    some (((-1), σ))
  else
    sw_gd (sw_in a1 3) <|
    sw_let (sw_w σ 82 a1.toNatClampNeg (vp_nar .boolean 1)) fun m3 =>
    sw_wh sw_F (fun s => fX10_image_L18 s.2 a1 s.1) (0, m3)
set_option maxRecDepth 20000 in
theorem sX10_image_L18 {l : Launch} {E : sw_E} {K : Nat} (hK : 1 ≤ K) (σ : sw_M) (a1 : Int32) (a2 : Int32) {res : Int32 × sw_M} {t : (Int32 × sw_M) ⊕ (Int32 × sw_M)} (h : fX10_image_L18 σ a1 a2 = some t) (hk : (Sum.elim (fun s : Int32 × sw_M => sw_Go l E K RX10 cX10_image 3 (some .int) 18 [(0, .ref 49), (1, .int a1), (2, .int s.1)] [] s.2 (some (.int res.1)) res.2) (fun q => q = res)) t) : sw_Go l E K RX10 cX10_image 3 (some .int) 18 [(0, .ref 49), (1, .int a1), (2, .int a2)] [] σ (some (.int res.1)) res.2 := by
  unfold fX10_image_L18 at h
  refine sw_iload_n (k0 := 2) 2 rfl (by decide +kernel) rfl ?_
  refine sw_bipush (n := 10) (v := 10) (by decide +kernel) (by decide) ?_
  refine sw_icmp_ge (off := 26) 47 (by decide +kernel) (by decide) (fun c1 => ?_) (fun c1 => ?_)
  · rw [if_pos c1] at h
    refine sw_aload_n (k0 := 0) 0 rfl (by decide +kernel) rfl ?_
    refine gf_X10_60 (i := 49) (by decide) rfl (by decide +kernel) ?_
    refine sw_refj 65 rfl ?_
    refine sw_bipush (n := 8) (v := 8) (by decide +kernel) (by decide) ?_
    refine sw_iaload (a := 65) (by decide) rfl (sw_in_e (by decide)) (by decide +kernel) ?_
    refine sw_topi (x := σ.1 65 8) rfl ?_
    cases h
    obtain rfl : _ = res := hk
    exact sw_iret (by decide +kernel)
  · rw [if_neg c1] at h
    refine sw_aload_n (k0 := 0) 0 rfl (by decide +kernel) rfl ?_
    refine gf_X10_115 (i := 49) (by decide) rfl (by decide +kernel) ?_
    refine sw_refj 83 rfl ?_
    refine sw_bipush (n := 10) (v := 10) (by decide +kernel) (by decide) ?_
    refine sw_iload_n (k0 := 1) 1 rfl (by decide +kernel) rfl ?_
    refine sw_imul (by decide +kernel) ?_
    refine sw_iload_n (k0 := 2) 2 rfl (by decide +kernel) rfl ?_
    refine sw_iadd (by decide +kernel) ?_
    refine sw_aload_n (k0 := 0) 0 rfl (by decide +kernel) rfl ?_
    refine gf_X10_60 (i := 49) (by decide) rfl (by decide +kernel) ?_
    refine sw_refj 65 rfl ?_
    refine sw_iload_n (k0 := 2) 2 rfl (by decide +kernel) rfl ?_
    obtain ⟨g2, h⟩ := sw_gd_e h
    refine sw_iaload (a := 65) (by decide) rfl (sw_in_e g2) (by decide +kernel) ?_
    obtain ⟨g3, h⟩ := sw_gd_e h
    obtain ⟨m4, e5, h⟩ := sw_let_e h
    refine sw_iastore (a := 83) (by decide) rfl (sw_in_e g3) (by decide +kernel) ?_
    refine sw_mem e5 ?_
    obtain ⟨v6, e7, h⟩ := sw_let_e h
    refine sw_iincv (i := 2) (n := 1) (lv' := [(2, .int v6), (0, .ref 49), (1, .int a1)]) 2 rfl e7 (by decide +kernel) (by decide) (by decide) rfl ?_
    refine sw_goto (off := (-26)) 18 (by decide +kernel) (by decide) ?_
    cases h
    refine sw_lv [1, 2, 0] rfl ?_
    exact hk
set_option maxRecDepth 20000 in
theorem sX10_image {l : Launch} {E : sw_E} {K : Nat} (hK : 1 ≤ K) (σ : sw_M) (a1 : Int32) {res : Int32 × sw_M} (h : fX10_image σ a1 = some res) : sw_Ct l E K yX10_image cX10_image 3 (some .int) [.ref 49, .int a1] σ (some (.int res.1)) res.2 := by
  obtain ⟨t, hk, h⟩ : ∃ t, t = res ∧ fX10_image σ a1 = some t := ⟨res, rfl, h⟩
  unfold fX10_image at h
  refine sw_enter2 (own := RX10) (lv := [(0, .ref 49), (1, .int a1)]) (by decide +kernel) (Nat.le_of_ble_eq_true rfl) rfl rfl ?_
  refine sw_iload_n (k0 := 1) 1 rfl (by decide +kernel) rfl ?_
  refine sw_callSi [.int a1] (sX10_isBox (K := K - 1) (by omega) σ a1 rfl) rfl (by omega) gs_X10_517 hy_X10_isBox (by decide) rfl (Nat.le_of_ble_eq_true rfl) (by decide +kernel) ?_
  refine sw_if_ne (off := 5) 9 (by decide +kernel) (by decide) (fun c1 => ?_) (fun c1 => ?_)
  · rw [if_neg c1] at h
    refine sw_aload_n (k0 := 0) 0 rfl (by decide +kernel) rfl ?_
    refine gf_X10_112 (i := 49) (by decide) rfl (by decide +kernel) ?_
    refine sw_refj 82 rfl ?_
    refine sw_iload_n (k0 := 1) 1 rfl (by decide +kernel) rfl ?_
    refine sw_iconst (n := 1) (v := 1) (by decide +kernel) (by decide) ?_
    obtain ⟨g2, h⟩ := sw_gd_e h
    obtain ⟨m3, e4, h⟩ := sw_let_e h
    refine sw_zastore (a := 82) (by decide) rfl (sw_in_e g2) (by decide +kernel) ?_
    refine sw_mem e4 ?_
    refine sw_iconst (n := 0) (v := 0) (by decide +kernel) (by decide) ?_
    refine sw_istore_n (k0 := 2) (lv' := [(2, .int 0), (0, .ref 49), (1, .int a1)]) (by decide +kernel) rfl (by decide) rfl ?_
    refine sw_lv [1, 2, 0] rfl ?_
    exact sw_wh_e (fun s : Int32 × sw_M => sw_Go l E K RX10 cX10_image 3 (some .int) 18 [(0, .ref 49), (1, .int a1), (2, .int s.1)] [] s.2 (some (.int res.1)) res.2) (fun q => q = res) (fun s => fX10_image_L18 s.2 a1 s.1) (fun s t hb hk => sX10_image_L18 hK s.2 a1 s.1 hb hk) _ _ _ h hk
  · rw [if_pos c1] at h
    refine sw_iconst (n := (-1)) (v := (-1)) (by decide +kernel) (by decide) ?_
    cases h
    obtain rfl : _ = res := hk
    exact sw_iret (by decide +kernel)
def fX10_back_L20 (σ : sw_M) (a1 : Int32) (a2 : Int32) : Option ((Int32 × sw_M) ⊕ (Int32 × sw_M)) :=
  if 10 ≤ a2 then
    sw_let (sw_w σ 49 52 0) fun m2 =>
    sw_let (sw_w m2 49 53 0) fun m4 =>
    some (.inr ((m4.1 65 8, m4)))
  else
    sw_gd (sw_in ((10 * a1) + a2) 30) <|
    sw_gd (sw_in a2 10) <|
    sw_let (sw_w σ 65 a2.toNatClampNeg (σ.1 83 ((10 * a1) + a2).toNatClampNeg)) fun m8 =>
    sw_let (a2 + 1) fun v10 =>
    some (.inl (v10, m8))
def fX10_back (σ : sw_M) (a1 : Int32) : Option (Int32 × sw_M) :=
  if (fX10_isBox a1) = 0 then
    some (((-1), σ))
  else
    sw_gd (sw_in a1 3) <|
    if (σ.1 82 a1.toNatClampNeg) = 0 then
      some (((-1), σ))
    else
      sw_wh sw_F (fun s => fX10_back_L20 s.2 a1 s.1) (0, σ)
set_option maxRecDepth 20000 in
theorem sX10_back_L20 {l : Launch} {E : sw_E} {K : Nat} (hK : 1 ≤ K) (σ : sw_M) (a1 : Int32) (a2 : Int32) {res : Int32 × sw_M} {t : (Int32 × sw_M) ⊕ (Int32 × sw_M)} (h : fX10_back_L20 σ a1 a2 = some t) (hk : (Sum.elim (fun s : Int32 × sw_M => sw_Go l E K RX10 cX10_back 3 (some .int) 20 [(0, .ref 49), (1, .int a1), (2, .int s.1)] [] s.2 (some (.int res.1)) res.2) (fun q => q = res)) t) : sw_Go l E K RX10 cX10_back 3 (some .int) 20 [(0, .ref 49), (1, .int a1), (2, .int a2)] [] σ (some (.int res.1)) res.2 := by
  unfold fX10_back_L20 at h
  refine sw_iload_n (k0 := 2) 2 rfl (by decide +kernel) rfl ?_
  refine sw_bipush (n := 10) (v := 10) (by decide +kernel) (by decide) ?_
  refine sw_icmp_ge (off := 26) 49 (by decide +kernel) (by decide) (fun c1 => ?_) (fun c1 => ?_)
  · rw [if_pos c1] at h
    refine sw_aload_n (k0 := 0) 0 rfl (by decide +kernel) rfl ?_
    refine sw_iconst (n := 0) (v := 0) (by decide +kernel) (by decide) ?_
    obtain ⟨m2, e3, h⟩ := sw_let_e h
    refine pf_X10_399 (by decide) rfl (by decide +kernel) ?_
    refine sw_mem e3 ?_
    refine sw_aload_n (k0 := 0) 0 rfl (by decide +kernel) rfl ?_
    refine sw_iconst (n := 0) (v := 0) (by decide +kernel) (by decide) ?_
    obtain ⟨m4, e5, h⟩ := sw_let_e h
    refine pf_X10_402 (by decide) rfl (by decide +kernel) ?_
    refine sw_mem e5 ?_
    refine sw_aload_n (k0 := 0) 0 rfl (by decide +kernel) rfl ?_
    refine gf_X10_60 (i := 49) (by decide) rfl (by decide +kernel) ?_
    refine sw_refj 65 rfl ?_
    refine sw_bipush (n := 8) (v := 8) (by decide +kernel) (by decide) ?_
    refine sw_iaload (a := 65) (by decide) rfl (sw_in_e (by decide)) (by decide +kernel) ?_
    refine sw_topi (x := m4.1 65 8) rfl ?_
    cases h
    obtain rfl : _ = res := hk
    exact sw_iret (by decide +kernel)
  · rw [if_neg c1] at h
    refine sw_aload_n (k0 := 0) 0 rfl (by decide +kernel) rfl ?_
    refine gf_X10_60 (i := 49) (by decide) rfl (by decide +kernel) ?_
    refine sw_refj 65 rfl ?_
    refine sw_iload_n (k0 := 2) 2 rfl (by decide +kernel) rfl ?_
    refine sw_aload_n (k0 := 0) 0 rfl (by decide +kernel) rfl ?_
    refine gf_X10_115 (i := 49) (by decide) rfl (by decide +kernel) ?_
    refine sw_refj 83 rfl ?_
    refine sw_bipush (n := 10) (v := 10) (by decide +kernel) (by decide) ?_
    refine sw_iload_n (k0 := 1) 1 rfl (by decide +kernel) rfl ?_
    refine sw_imul (by decide +kernel) ?_
    refine sw_iload_n (k0 := 2) 2 rfl (by decide +kernel) rfl ?_
    refine sw_iadd (by decide +kernel) ?_
    obtain ⟨g6, h⟩ := sw_gd_e h
    refine sw_iaload (a := 83) (by decide) rfl (sw_in_e g6) (by decide +kernel) ?_
    obtain ⟨g7, h⟩ := sw_gd_e h
    obtain ⟨m8, e9, h⟩ := sw_let_e h
    refine sw_iastore (a := 65) (by decide) rfl (sw_in_e g7) (by decide +kernel) ?_
    refine sw_mem e9 ?_
    obtain ⟨v10, e11, h⟩ := sw_let_e h
    refine sw_iincv (i := 2) (n := 1) (lv' := [(2, .int v10), (0, .ref 49), (1, .int a1)]) 2 rfl e11 (by decide +kernel) (by decide) (by decide) rfl ?_
    refine sw_goto (off := (-26)) 20 (by decide +kernel) (by decide) ?_
    cases h
    refine sw_lv [1, 2, 0] rfl ?_
    exact hk
set_option maxRecDepth 20000 in
theorem sX10_back {l : Launch} {E : sw_E} {K : Nat} (hK : 1 ≤ K) (σ : sw_M) (a1 : Int32) {res : Int32 × sw_M} (h : fX10_back σ a1 = some res) : sw_Ct l E K yX10_back cX10_back 3 (some .int) [.ref 49, .int a1] σ (some (.int res.1)) res.2 := by
  obtain ⟨t, hk, h⟩ : ∃ t, t = res ∧ fX10_back σ a1 = some t := ⟨res, rfl, h⟩
  unfold fX10_back at h
  refine sw_enter2 (own := RX10) (lv := [(0, .ref 49), (1, .int a1)]) (by decide +kernel) (Nat.le_of_ble_eq_true rfl) rfl rfl ?_
  refine sw_iload_n (k0 := 1) 1 rfl (by decide +kernel) rfl ?_
  refine sw_callSi [.int a1] (sX10_isBox (K := K - 1) (by omega) σ a1 rfl) rfl (by omega) gs_X10_517 hy_X10_isBox (by decide) rfl (Nat.le_of_ble_eq_true rfl) (by decide +kernel) ?_
  refine sw_if_eq (off := 12) 16 (by decide +kernel) (by decide) (fun c1 => ?_) (fun c1 => ?_)
  · rw [if_pos c1] at h
    refine sw_iconst (n := (-1)) (v := (-1)) (by decide +kernel) (by decide) ?_
    cases h
    obtain rfl : _ = res := hk
    exact sw_iret (by decide +kernel)
  · rw [if_neg c1] at h
    refine sw_aload_n (k0 := 0) 0 rfl (by decide +kernel) rfl ?_
    refine gf_X10_112 (i := 49) (by decide) rfl (by decide +kernel) ?_
    refine sw_refj 82 rfl ?_
    refine sw_iload_n (k0 := 1) 1 rfl (by decide +kernel) rfl ?_
    obtain ⟨g2, h⟩ := sw_gd_e h
    refine sw_zaload (a := 82) (by decide) rfl (sw_in_e g2) (by decide +kernel) ?_
    refine sw_if_ne (off := 5) 18 (by decide +kernel) (by decide) (fun c3 => ?_) (fun c3 => ?_)
    · rw [if_neg c3] at h
      refine sw_iconst (n := 0) (v := 0) (by decide +kernel) (by decide) ?_
      refine sw_istore_n (k0 := 2) (lv' := [(2, .int 0), (0, .ref 49), (1, .int a1)]) (by decide +kernel) rfl (by decide) rfl ?_
      refine sw_lv [1, 2, 0] rfl ?_
      exact sw_wh_e (fun s : Int32 × sw_M => sw_Go l E K RX10 cX10_back 3 (some .int) 20 [(0, .ref 49), (1, .int a1), (2, .int s.1)] [] s.2 (some (.int res.1)) res.2) (fun q => q = res) (fun s => fX10_back_L20 s.2 a1 s.1) (fun s t hb hk => sX10_back_L20 hK s.2 a1 s.1 hb hk) _ _ _ h hk
    · rw [if_pos c3] at h
      refine sw_iconst (n := (-1)) (v := (-1)) (by decide +kernel) (by decide) ?_
      cases h
      obtain rfl : _ = res := hk
      exact sw_iret (by decide +kernel)
def fX10_about (σ : sw_M) (a1 : Int32) : Int32 :=
  if a1 = 0 then
    σ.1 49 41
  else
    if a1 = 1 then
      σ.1 49 40
    else
      if a1 = 2 then
        σ.1 49 43
      else
        if a1 = 3 then
          σ.1 49 42
        else
          if a1 = 4 then
            σ.1 65 5
          else
            if a1 = 5 then
              σ.1 65 6
            else
              if a1 = 6 then
                σ.1 65 7
              else
                if a1 = 7 then
                  σ.1 65 8
                else
                  if a1 = 8 then
                    σ.1 65 9
                  else
                    if a1 = 9 then
                      σ.1 49 52
                    else
                      if a1 = 10 then
                        σ.1 49 53
                      else
                        if a1 = 11 then
                          σ.1 49 66
                        else
                          if a1 = 12 then
                            σ.1 49 67
                          else
                            if a1 = 13 then
                              σ.1 49 1
                            else
                              if a1 = 14 then
                                σ.1 49 21
                              else
                                if a1 = 15 then
                                  σ.1 49 57
                                else
                                  if a1 = 16 then
                                    σ.1 49 45
                                  else
                                    (-1)
set_option maxRecDepth 20000 in
theorem sX10_about {l : Launch} {E : sw_E} {K : Nat} (hK : 0 ≤ K) (σ : sw_M) (a1 : Int32) {res : Int32} (h : fX10_about σ a1 = res) : sw_Ct l E K yX10_about cX10_about 2 (some .int) [.ref 49, .int a1] σ (some (.int res)) σ := by
  obtain ⟨t, hk, h⟩ : ∃ t, t = res ∧ fX10_about σ a1 = t := ⟨res, rfl, h⟩
  unfold fX10_about at h
  refine sw_enter2 (own := RX10) (lv := [(0, .ref 49), (1, .int a1)]) (by decide +kernel) (Nat.le_of_ble_eq_true rfl) rfl rfl ?_
  refine sw_iload_n (k0 := 1) 1 rfl (by decide +kernel) rfl ?_
  by_cases c1 : a1 = 0
  · rw [if_pos c1] at h
    refine sw_tabIn (dflt := 182) (lo := 0) (hi := 16) (offs := #[83, 88, 93, 98, 103, 110, 118, 126, 134, 142, 147, 152, 157, 162, 167, 172, 177]) (len := 83) (off := 83) 84 (by decide +kernel) (by rw [c1]; decide) (by rw [c1]; decide) (by rw [c1]; decide) (by decide) ?_
    refine sw_aload_n (k0 := 0) 0 rfl (by decide +kernel) rfl ?_
    refine gf_X10_381 (i := 49) (by decide) rfl (by decide +kernel) ?_
    subst h
    obtain rfl : _ = res := hk
    exact sw_iret (by decide +kernel)
  · rw [if_neg c1] at h
    by_cases c2 : a1 = 1
    · rw [if_pos c2] at h
      refine sw_tabIn (dflt := 182) (lo := 0) (hi := 16) (offs := #[83, 88, 93, 98, 103, 110, 118, 126, 134, 142, 147, 152, 157, 162, 167, 172, 177]) (len := 83) (off := 88) 89 (by decide +kernel) (by rw [c2]; decide) (by rw [c2]; decide) (by rw [c2]; decide) (by decide) ?_
      refine sw_aload_n (k0 := 0) 0 rfl (by decide +kernel) rfl ?_
      refine gf_X10_291 (i := 49) (by decide) rfl (by decide +kernel) ?_
      subst h
      obtain rfl : _ = res := hk
      exact sw_iret (by decide +kernel)
    · rw [if_neg c2] at h
      by_cases c3 : a1 = 2
      · rw [if_pos c3] at h
        refine sw_tabIn (dflt := 182) (lo := 0) (hi := 16) (offs := #[83, 88, 93, 98, 103, 110, 118, 126, 134, 142, 147, 152, 157, 162, 167, 172, 177]) (len := 83) (off := 93) 94 (by decide +kernel) (by rw [c3]; decide) (by rw [c3]; decide) (by rw [c3]; decide) (by decide) ?_
        refine sw_aload_n (k0 := 0) 0 rfl (by decide +kernel) rfl ?_
        refine gf_X10_387 (i := 49) (by decide) rfl (by decide +kernel) ?_
        subst h
        obtain rfl : _ = res := hk
        exact sw_iret (by decide +kernel)
      · rw [if_neg c3] at h
        by_cases c4 : a1 = 3
        · rw [if_pos c4] at h
          refine sw_tabIn (dflt := 182) (lo := 0) (hi := 16) (offs := #[83, 88, 93, 98, 103, 110, 118, 126, 134, 142, 147, 152, 157, 162, 167, 172, 177]) (len := 83) (off := 98) 99 (by decide +kernel) (by rw [c4]; decide) (by rw [c4]; decide) (by rw [c4]; decide) (by decide) ?_
          refine sw_aload_n (k0 := 0) 0 rfl (by decide +kernel) rfl ?_
          refine gf_X10_384 (i := 49) (by decide) rfl (by decide +kernel) ?_
          subst h
          obtain rfl : _ = res := hk
          exact sw_iret (by decide +kernel)
        · rw [if_neg c4] at h
          by_cases c5 : a1 = 4
          · rw [if_pos c5] at h
            refine sw_tabIn (dflt := 182) (lo := 0) (hi := 16) (offs := #[83, 88, 93, 98, 103, 110, 118, 126, 134, 142, 147, 152, 157, 162, 167, 172, 177]) (len := 83) (off := 103) 104 (by decide +kernel) (by rw [c5]; decide) (by rw [c5]; decide) (by rw [c5]; decide) (by decide) ?_
            refine sw_aload_n (k0 := 0) 0 rfl (by decide +kernel) rfl ?_
            refine gf_X10_60 (i := 49) (by decide) rfl (by decide +kernel) ?_
            refine sw_refj 65 rfl ?_
            refine sw_iconst (n := 5) (v := 5) (by decide +kernel) (by decide) ?_
            refine sw_iaload (a := 65) (by decide) rfl (sw_in_e (by decide)) (by decide +kernel) ?_
            refine sw_topi (x := σ.1 65 5) rfl ?_
            subst h
            obtain rfl : _ = res := hk
            exact sw_iret (by decide +kernel)
          · rw [if_neg c5] at h
            by_cases c6 : a1 = 5
            · rw [if_pos c6] at h
              refine sw_tabIn (dflt := 182) (lo := 0) (hi := 16) (offs := #[83, 88, 93, 98, 103, 110, 118, 126, 134, 142, 147, 152, 157, 162, 167, 172, 177]) (len := 83) (off := 110) 111 (by decide +kernel) (by rw [c6]; decide) (by rw [c6]; decide) (by rw [c6]; decide) (by decide) ?_
              refine sw_aload_n (k0 := 0) 0 rfl (by decide +kernel) rfl ?_
              refine gf_X10_60 (i := 49) (by decide) rfl (by decide +kernel) ?_
              refine sw_refj 65 rfl ?_
              refine sw_bipush (n := 6) (v := 6) (by decide +kernel) (by decide) ?_
              refine sw_iaload (a := 65) (by decide) rfl (sw_in_e (by decide)) (by decide +kernel) ?_
              refine sw_topi (x := σ.1 65 6) rfl ?_
              subst h
              obtain rfl : _ = res := hk
              exact sw_iret (by decide +kernel)
            · rw [if_neg c6] at h
              by_cases c7 : a1 = 6
              · rw [if_pos c7] at h
                refine sw_tabIn (dflt := 182) (lo := 0) (hi := 16) (offs := #[83, 88, 93, 98, 103, 110, 118, 126, 134, 142, 147, 152, 157, 162, 167, 172, 177]) (len := 83) (off := 118) 119 (by decide +kernel) (by rw [c7]; decide) (by rw [c7]; decide) (by rw [c7]; decide) (by decide) ?_
                refine sw_aload_n (k0 := 0) 0 rfl (by decide +kernel) rfl ?_
                refine gf_X10_60 (i := 49) (by decide) rfl (by decide +kernel) ?_
                refine sw_refj 65 rfl ?_
                refine sw_bipush (n := 7) (v := 7) (by decide +kernel) (by decide) ?_
                refine sw_iaload (a := 65) (by decide) rfl (sw_in_e (by decide)) (by decide +kernel) ?_
                refine sw_topi (x := σ.1 65 7) rfl ?_
                subst h
                obtain rfl : _ = res := hk
                exact sw_iret (by decide +kernel)
              · rw [if_neg c7] at h
                by_cases c8 : a1 = 7
                · rw [if_pos c8] at h
                  refine sw_tabIn (dflt := 182) (lo := 0) (hi := 16) (offs := #[83, 88, 93, 98, 103, 110, 118, 126, 134, 142, 147, 152, 157, 162, 167, 172, 177]) (len := 83) (off := 126) 127 (by decide +kernel) (by rw [c8]; decide) (by rw [c8]; decide) (by rw [c8]; decide) (by decide) ?_
                  refine sw_aload_n (k0 := 0) 0 rfl (by decide +kernel) rfl ?_
                  refine gf_X10_60 (i := 49) (by decide) rfl (by decide +kernel) ?_
                  refine sw_refj 65 rfl ?_
                  refine sw_bipush (n := 8) (v := 8) (by decide +kernel) (by decide) ?_
                  refine sw_iaload (a := 65) (by decide) rfl (sw_in_e (by decide)) (by decide +kernel) ?_
                  refine sw_topi (x := σ.1 65 8) rfl ?_
                  subst h
                  obtain rfl : _ = res := hk
                  exact sw_iret (by decide +kernel)
                · rw [if_neg c8] at h
                  by_cases c9 : a1 = 8
                  · rw [if_pos c9] at h
                    refine sw_tabIn (dflt := 182) (lo := 0) (hi := 16) (offs := #[83, 88, 93, 98, 103, 110, 118, 126, 134, 142, 147, 152, 157, 162, 167, 172, 177]) (len := 83) (off := 134) 135 (by decide +kernel) (by rw [c9]; decide) (by rw [c9]; decide) (by rw [c9]; decide) (by decide) ?_
                    refine sw_aload_n (k0 := 0) 0 rfl (by decide +kernel) rfl ?_
                    refine gf_X10_60 (i := 49) (by decide) rfl (by decide +kernel) ?_
                    refine sw_refj 65 rfl ?_
                    refine sw_bipush (n := 9) (v := 9) (by decide +kernel) (by decide) ?_
                    refine sw_iaload (a := 65) (by decide) rfl (sw_in_e (by decide)) (by decide +kernel) ?_
                    refine sw_topi (x := σ.1 65 9) rfl ?_
                    subst h
                    obtain rfl : _ = res := hk
                    exact sw_iret (by decide +kernel)
                  · rw [if_neg c9] at h
                    by_cases c10 : a1 = 9
                    · rw [if_pos c10] at h
                      refine sw_tabIn (dflt := 182) (lo := 0) (hi := 16) (offs := #[83, 88, 93, 98, 103, 110, 118, 126, 134, 142, 147, 152, 157, 162, 167, 172, 177]) (len := 83) (off := 142) 143 (by decide +kernel) (by rw [c10]; decide) (by rw [c10]; decide) (by rw [c10]; decide) (by decide) ?_
                      refine sw_aload_n (k0 := 0) 0 rfl (by decide +kernel) rfl ?_
                      refine gf_X10_399 (i := 49) (by decide) rfl (by decide +kernel) ?_
                      subst h
                      obtain rfl : _ = res := hk
                      exact sw_iret (by decide +kernel)
                    · rw [if_neg c10] at h
                      by_cases c11 : a1 = 10
                      · rw [if_pos c11] at h
                        refine sw_tabIn (dflt := 182) (lo := 0) (hi := 16) (offs := #[83, 88, 93, 98, 103, 110, 118, 126, 134, 142, 147, 152, 157, 162, 167, 172, 177]) (len := 83) (off := 147) 148 (by decide +kernel) (by rw [c11]; decide) (by rw [c11]; decide) (by rw [c11]; decide) (by decide) ?_
                        refine sw_aload_n (k0 := 0) 0 rfl (by decide +kernel) rfl ?_
                        refine gf_X10_402 (i := 49) (by decide) rfl (by decide +kernel) ?_
                        subst h
                        obtain rfl : _ = res := hk
                        exact sw_iret (by decide +kernel)
                      · rw [if_neg c11] at h
                        by_cases c12 : a1 = 11
                        · rw [if_pos c12] at h
                          refine sw_tabIn (dflt := 182) (lo := 0) (hi := 16) (offs := #[83, 88, 93, 98, 103, 110, 118, 126, 134, 142, 147, 152, 157, 162, 167, 172, 177]) (len := 83) (off := 152) 153 (by decide +kernel) (by rw [c12]; decide) (by rw [c12]; decide) (by rw [c12]; decide) (by decide) ?_
                          refine sw_aload_n (k0 := 0) 0 rfl (by decide +kernel) rfl ?_
                          refine gf_X10_405 (i := 49) (by decide) rfl (by decide +kernel) ?_
                          subst h
                          obtain rfl : _ = res := hk
                          exact sw_iret (by decide +kernel)
                        · rw [if_neg c12] at h
                          by_cases c13 : a1 = 12
                          · rw [if_pos c13] at h
                            refine sw_tabIn (dflt := 182) (lo := 0) (hi := 16) (offs := #[83, 88, 93, 98, 103, 110, 118, 126, 134, 142, 147, 152, 157, 162, 167, 172, 177]) (len := 83) (off := 157) 158 (by decide +kernel) (by rw [c13]; decide) (by rw [c13]; decide) (by rw [c13]; decide) (by decide) ?_
                            refine sw_aload_n (k0 := 0) 0 rfl (by decide +kernel) rfl ?_
                            refine gf_X10_503 (i := 49) (by decide) rfl (by decide +kernel) ?_
                            subst h
                            obtain rfl : _ = res := hk
                            exact sw_iret (by decide +kernel)
                          · rw [if_neg c13] at h
                            by_cases c14 : a1 = 13
                            · rw [if_pos c14] at h
                              refine sw_tabIn (dflt := 182) (lo := 0) (hi := 16) (offs := #[83, 88, 93, 98, 103, 110, 118, 126, 134, 142, 147, 152, 157, 162, 167, 172, 177]) (len := 83) (off := 162) 163 (by decide +kernel) (by rw [c14]; decide) (by rw [c14]; decide) (by rw [c14]; decide) (by decide) ?_
                              refine sw_aload_n (k0 := 0) 0 rfl (by decide +kernel) rfl ?_
                              refine gf_X10_118 (i := 49) (by decide) rfl (by decide +kernel) ?_
                              subst h
                              obtain rfl : _ = res := hk
                              exact sw_iret (by decide +kernel)
                            · rw [if_neg c14] at h
                              by_cases c15 : a1 = 14
                              · rw [if_pos c15] at h
                                refine sw_tabIn (dflt := 182) (lo := 0) (hi := 16) (offs := #[83, 88, 93, 98, 103, 110, 118, 126, 134, 142, 147, 152, 157, 162, 167, 172, 177]) (len := 83) (off := 167) 168 (by decide +kernel) (by rw [c15]; decide) (by rw [c15]; decide) (by rw [c15]; decide) (by decide) ?_
                                refine sw_aload_n (k0 := 0) 0 rfl (by decide +kernel) rfl ?_
                                refine gf_X10_396 (i := 49) (by decide) rfl (by decide +kernel) ?_
                                subst h
                                obtain rfl : _ = res := hk
                                exact sw_iret (by decide +kernel)
                              · rw [if_neg c15] at h
                                by_cases c16 : a1 = 15
                                · rw [if_pos c16] at h
                                  refine sw_tabIn (dflt := 182) (lo := 0) (hi := 16) (offs := #[83, 88, 93, 98, 103, 110, 118, 126, 134, 142, 147, 152, 157, 162, 167, 172, 177]) (len := 83) (off := 172) 173 (by decide +kernel) (by rw [c16]; decide) (by rw [c16]; decide) (by rw [c16]; decide) (by decide) ?_
                                  refine sw_aload_n (k0 := 0) 0 rfl (by decide +kernel) rfl ?_
                                  refine gf_X10_408 (i := 49) (by decide) rfl (by decide +kernel) ?_
                                  subst h
                                  obtain rfl : _ = res := hk
                                  exact sw_iret (by decide +kernel)
                                · rw [if_neg c16] at h
                                  by_cases c17 : a1 = 16
                                  · rw [if_pos c17] at h
                                    refine sw_tabIn (dflt := 182) (lo := 0) (hi := 16) (offs := #[83, 88, 93, 98, 103, 110, 118, 126, 134, 142, 147, 152, 157, 162, 167, 172, 177]) (len := 83) (off := 177) 178 (by decide +kernel) (by rw [c17]; decide) (by rw [c17]; decide) (by rw [c17]; decide) (by decide) ?_
                                    refine sw_aload_n (k0 := 0) 0 rfl (by decide +kernel) rfl ?_
                                    refine gf_X10_393 (i := 49) (by decide) rfl (by decide +kernel) ?_
                                    subst h
                                    obtain rfl : _ = res := hk
                                    exact sw_iret (by decide +kernel)
                                  · rw [if_neg c17] at h
                                    have n0 := lv_neT (a := 0) c1 (by decide)
                                    have n1 := lv_neT (a := 1) c2 (by decide)
                                    have n2 := lv_neT (a := 2) c3 (by decide)
                                    have n3 := lv_neT (a := 3) c4 (by decide)
                                    have n4 := lv_neT (a := 4) c5 (by decide)
                                    have n5 := lv_neT (a := 5) c6 (by decide)
                                    have n6 := lv_neT (a := 6) c7 (by decide)
                                    have n7 := lv_neT (a := 7) c8 (by decide)
                                    have n8 := lv_neT (a := 8) c9 (by decide)
                                    have n9 := lv_neT (a := 9) c10 (by decide)
                                    have n10 := lv_neT (a := 10) c11 (by decide)
                                    have n11 := lv_neT (a := 11) c12 (by decide)
                                    have n12 := lv_neT (a := 12) c13 (by decide)
                                    have n13 := lv_neT (a := 13) c14 (by decide)
                                    have n14 := lv_neT (a := 14) c15 (by decide)
                                    have n15 := lv_neT (a := 15) c16 (by decide)
                                    have n16 := lv_neT (a := 16) c17 (by decide)
                                    refine sw_tabOut (dflt := 182) (lo := 0) (hi := 16) (offs := #[83, 88, 93, 98, 103, 110, 118, 126, 134, 142, 147, 152, 157, 162, 167, 172, 177]) (len := 83) 183 (by decide +kernel) (by omega) (by decide) ?_
                                    refine sw_iconst (n := (-1)) (v := (-1)) (by decide +kernel) (by decide) ?_
                                    subst h
                                    obtain rfl : _ = res := hk
                                    exact sw_iret (by decide +kernel)
