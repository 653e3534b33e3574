def fX0_forget (σ : sw_M) : Option (sw_M) :=
  sw_let (sw_w σ 29 1 0) fun m1 =>
  sw_let (sw_w m1 29 2 0) fun m3 =>
  some (m3)
set_option maxRecDepth 20000 in
theorem sX0_forget {l : Launch} {E : sw_E} {K : Nat} (hK : 0 ≤ K) (σ : sw_M) {res : sw_M} (h : fX0_forget σ = some res) : sw_Ct l E K yX0_forget cX0_forget 1 none [.ref 29] σ none res := by
  obtain ⟨t, hk, h⟩ : ∃ t, t = res ∧ fX0_forget σ = some t := ⟨res, rfl, h⟩
  unfold fX0_forget at h
  refine sw_enter2 (own := RX0) (lv := [(0, .ref 29)]) (by decide +kernel) (Nat.le_of_ble_eq_true rfl) rfl rfl ?_
  refine sw_aload_n (k0 := 0) 0 rfl (by decide +kernel) rfl ?_
  refine sw_iconst (n := 0) (v := 0) (by decide +kernel) (by decide) ?_
  obtain ⟨m1, e2, h⟩ := sw_let_e h
  refine pf_X0_15 (by decide) rfl (by decide +kernel) ?_
  refine sw_mem e2 ?_
  refine sw_aload_n (k0 := 0) 0 rfl (by decide +kernel) rfl ?_
  refine sw_iconst (n := 0) (v := 0) (by decide +kernel) (by decide) ?_
  obtain ⟨m3, e4, h⟩ := sw_let_e h
  refine pf_X0_19 (by decide) rfl (by decide +kernel) ?_
  refine sw_mem e4 ?_
  cases h
  obtain rfl : _ = res := hk
  exact sw_vret (by decide +kernel)
def fX0_undoable (σ : sw_M) : Int32 :=
  σ.1 29 1
set_option maxRecDepth 20000 in
theorem sX0_undoable {l : Launch} {E : sw_E} {K : Nat} (hK : 0 ≤ K) (σ : sw_M) {res : Int32} (h : fX0_undoable σ = res) : sw_Ct l E K yX0_undoable cX0_undoable 1 (some .int) [.ref 29] σ (some (.int res)) σ := by
  obtain ⟨t, hk, h⟩ : ∃ t, t = res ∧ fX0_undoable σ = t := ⟨res, rfl, h⟩
  unfold fX0_undoable at h
  refine sw_enter2 (own := RX0) (lv := [(0, .ref 29)]) (by decide +kernel) (Nat.le_of_ble_eq_true rfl) rfl rfl ?_
  refine sw_aload_n (k0 := 0) 0 rfl (by decide +kernel) rfl ?_
  refine gf_X0_15 (i := 29) (by decide) rfl (by decide +kernel) ?_
  subst h
  obtain rfl : _ = res := hk
  exact sw_iret (by decide +kernel)
def fX0_redoable (σ : sw_M) : Int32 :=
  (σ.1 29 2) - (σ.1 29 1)
set_option maxRecDepth 20000 in
theorem sX0_redoable {l : Launch} {E : sw_E} {K : Nat} (hK : 0 ≤ K) (σ : sw_M) {res : Int32} (h : fX0_redoable σ = res) : sw_Ct l E K yX0_redoable cX0_redoable 1 (some .int) [.ref 29] σ (some (.int res)) σ := by
  obtain ⟨t, hk, h⟩ : ∃ t, t = res ∧ fX0_redoable σ = t := ⟨res, rfl, h⟩
  unfold fX0_redoable at h
  refine sw_enter2 (own := RX0) (lv := [(0, .ref 29)]) (by decide +kernel) (Nat.le_of_ble_eq_true rfl) rfl rfl ?_
  refine sw_aload_n (k0 := 0) 0 rfl (by decide +kernel) rfl ?_
  refine gf_X0_19 (i := 29) (by decide) rfl (by decide +kernel) ?_
  refine sw_aload_n (k0 := 0) 0 rfl (by decide +kernel) rfl ?_
  refine gf_X0_15 (i := 29) (by decide) rfl (by decide +kernel) ?_
  refine sw_isub (by decide +kernel) ?_
  subst h
  obtain rfl : _ = res := hk
  exact sw_iret (by decide +kernel)
def fX8_save (P0 : Nat) (P1 : Nat) (σ : sw_M) (a2 : Int32) : Option (sw_M) :=
  sw_let (a2 * 10) fun v1 =>
  if a2 < 0 then
    some (σ)
  else
    if (v1 + 10) ≤ (Int32.ofNat (sw_s P1).2) then
      sw_gd (sw_cg 0 v1 5 5 (sw_s P1).2) <|
      sw_let (sw_wA σ P1 (va_cpy (σ.1 (P0 + 1)) (σ.1 P1) (0 : Int32).toNatClampNeg v1.toNatClampNeg (5 : Int32).toNatClampNeg)) fun m6 =>
      sw_gd (sw_in (v1 + 5) (sw_s P1).2) <|
      sw_let (sw_w m6 P1 (v1 + 5).toNatClampNeg (m6.1 P0 1)) fun m9 =>
      sw_gd (sw_in ((v1 + 5) + 1) (sw_s P1).2) <|
      sw_let (sw_w m9 P1 ((v1 + 5) + 1).toNatClampNeg (m9.1 P0 2)) fun m12 =>
      sw_gd (sw_in ((v1 + 5) + 2) (sw_s P1).2) <|
      sw_let (sw_w m12 P1 ((v1 + 5) + 2).toNatClampNeg (m12.1 P0 3)) fun m15 =>
      sw_gd (sw_in ((v1 + 5) + 3) (sw_s P1).2) <|
      sw_let (sw_w m15 P1 ((v1 + 5) + 3).toNatClampNeg (m15.1 P0 4)) fun m18 =>
      sw_gd (sw_in ((v1 + 5) + 4) (sw_s P1).2) <|
      sw_let (sw_w m18 P1 ((v1 + 5) + 4).toNatClampNeg (m18.1 P0 5)) fun m21 =>
      some (m21)
    else
      some (σ)
set_option maxRecDepth 20000 in
theorem sX8_save {l : Launch} {E : sw_E} {K : Nat} (hK : 1 ≤ K) (P0 : Nat) (P1 : Nat) (hP0 : sw_isV P0) (hP1 : sw_isA 1 P1) (σ : sw_M) (a2 : Int32) {res : sw_M} (h : fX8_save P0 P1 σ a2 = some res) : sw_Ct l E K yX8_save cX8_save 4 none [.ref P0, .ref P1, .int a2] σ none res := by
  obtain ⟨t, hk, h⟩ : ∃ t, t = res ∧ fX8_save P0 P1 σ a2 = some t := ⟨res, rfl, h⟩
  unfold fX8_save at h
  refine sw_enter2 (own := RX8) (lv := [(0, .ref P0), (1, .ref P1), (2, .int a2)]) (by decide +kernel) (Nat.le_of_ble_eq_true rfl) rfl rfl ?_
  refine sw_iload_n (k0 := 2) 2 rfl (by decide +kernel) rfl ?_
  refine sw_bipush (n := 10) (v := 10) (by decide +kernel) (by decide) ?_
  refine sw_imul (by decide +kernel) ?_
  obtain ⟨v1, e2, h⟩ := sw_let_e h
  refine sw_topi e2 ?_
  refine sw_istore_n (k0 := 3) (lv' := [(3, .int v1), (0, .ref P0), (1, .ref P1), (2, .int a2)]) (by decide +kernel) rfl (by decide) rfl ?_
  refine sw_iload_n (k0 := 2) 3 rfl (by decide +kernel) rfl ?_
  refine sw_if_lt (off := 12) 18 (by decide +kernel) (by decide) (fun c3 => ?_) (fun c3 => ?_)
  · rw [if_pos c3] at h
    cases h
    obtain rfl : _ = res := hk
    exact sw_vret (by decide +kernel)
  · rw [if_neg c3] at h
    refine sw_iload_n (k0 := 3) 0 rfl (by decide +kernel) rfl ?_
    refine sw_bipush (n := 10) (v := 10) (by decide +kernel) (by decide) ?_
    refine sw_iadd (by decide +kernel) ?_
    refine sw_aload_n (k0 := 1) 2 rfl (by decide +kernel) rfl ?_
    refine sw_alen (a := P1) (v := Int32.ofNat (sw_s P1).2) hP1.1 hP1.s (by decide) rfl (by decide +kernel) ?_
    refine sw_icmp_le (off := 4) 19 (by decide +kernel) (by decide) (fun c4 => ?_) (fun c4 => ?_)
    · rw [if_pos c4] at h
      refine sw_aload_n (k0 := 0) 1 rfl (by decide +kernel) rfl ?_
      refine gf_X8_9 (i := P0) hP0.o.1 hP0.o.2 (by decide +kernel) ?_
      refine sw_iconst (n := 0) (v := 0) (by decide +kernel) (by decide) ?_
      refine sw_aload_n (k0 := 1) 2 rfl (by decide +kernel) rfl ?_
      refine sw_iload_n (k0 := 3) 0 rfl (by decide +kernel) rfl ?_
      refine sw_iconst (n := 5) (v := 5) (by decide +kernel) (by decide) ?_
      obtain ⟨g5, h⟩ := sw_gd_e h
      obtain ⟨m6, e7, h⟩ := sw_let_e h
      refine sw_acopy (a0 := (P0 + 1)) (a := P1) ac_X8_37 ac_nat ac_sta ac_ini hP0.p1.1 hP0.p1.2 hP1.1 hP1.s (sw_cg_e g5).1 (sw_cg_e g5).2.1 (sw_cg_e g5).2.2.1 (sw_cg_e g5).2.2.2.1 (sw_cg_e g5).2.2.2.2 (by omega) (by decide) (by decide +kernel) ?_
      refine sw_mem e7 ?_
      refine sw_aload_n (k0 := 1) 2 rfl (by decide +kernel) rfl ?_
      refine sw_iload_n (k0 := 3) 0 rfl (by decide +kernel) rfl ?_
      refine sw_iconst (n := 5) (v := 5) (by decide +kernel) (by decide) ?_
      refine sw_iadd (by decide +kernel) ?_
      refine sw_aload_n (k0 := 0) 1 rfl (by decide +kernel) rfl ?_
      refine gf_X8_21 (i := P0) hP0.o.1 hP0.o.2 (by decide +kernel) ?_
      obtain ⟨g8, h⟩ := sw_gd_e h
      obtain ⟨m9, e10, h⟩ := sw_let_e h
      refine sw_iastore (a := P1) hP1.1 hP1.s (sw_in_e g8) (by decide +kernel) ?_
      refine sw_mem e10 ?_
      refine sw_aload_n (k0 := 1) 2 rfl (by decide +kernel) rfl ?_
      refine sw_iload_n (k0 := 3) 0 rfl (by decide +kernel) rfl ?_
      refine sw_iconst (n := 5) (v := 5) (by decide +kernel) (by decide) ?_
      refine sw_iadd (by decide +kernel) ?_
      refine sw_iconst (n := 1) (v := 1) (by decide +kernel) (by decide) ?_
      refine sw_iadd (by decide +kernel) ?_
      refine sw_aload_n (k0 := 0) 1 rfl (by decide +kernel) rfl ?_
      refine gf_X8_25 (i := P0) hP0.o.1 hP0.o.2 (by decide +kernel) ?_
      obtain ⟨g11, h⟩ := sw_gd_e h
      obtain ⟨m12, e13, h⟩ := sw_let_e h
      refine sw_iastore (a := P1) hP1.1 hP1.s (sw_in_e g11) (by decide +kernel) ?_
      refine sw_mem e13 ?_
      refine sw_aload_n (k0 := 1) 2 rfl (by decide +kernel) rfl ?_
      refine sw_iload_n (k0 := 3) 0 rfl (by decide +kernel) rfl ?_
      refine sw_iconst (n := 5) (v := 5) (by decide +kernel) (by decide) ?_
      refine sw_iadd (by decide +kernel) ?_
      refine sw_iconst (n := 2) (v := 2) (by decide +kernel) (by decide) ?_
      refine sw_iadd (by decide +kernel) ?_
      refine sw_aload_n (k0 := 0) 1 rfl (by decide +kernel) rfl ?_
      refine gf_X8_28 (i := P0) hP0.o.1 hP0.o.2 (by decide +kernel) ?_
      obtain ⟨g14, h⟩ := sw_gd_e h
      obtain ⟨m15, e16, h⟩ := sw_let_e h
      refine sw_iastore (a := P1) hP1.1 hP1.s (sw_in_e g14) (by decide +kernel) ?_
      refine sw_mem e16 ?_
      refine sw_aload_n (k0 := 1) 2 rfl (by decide +kernel) rfl ?_
      refine sw_iload_n (k0 := 3) 0 rfl (by decide +kernel) rfl ?_
      refine sw_iconst (n := 5) (v := 5) (by decide +kernel) (by decide) ?_
      refine sw_iadd (by decide +kernel) ?_
      refine sw_iconst (n := 3) (v := 3) (by decide +kernel) (by decide) ?_
      refine sw_iadd (by decide +kernel) ?_
      refine sw_aload_n (k0 := 0) 1 rfl (by decide +kernel) rfl ?_
      refine gf_X8_31 (i := P0) hP0.o.1 hP0.o.2 (by decide +kernel) ?_
      obtain ⟨g17, h⟩ := sw_gd_e h
      obtain ⟨m18, e19, h⟩ := sw_let_e h
      refine sw_iastore (a := P1) hP1.1 hP1.s (sw_in_e g17) (by decide +kernel) ?_
      refine sw_mem e19 ?_
      refine sw_aload_n (k0 := 1) 2 rfl (by decide +kernel) rfl ?_
      refine sw_iload_n (k0 := 3) 0 rfl (by decide +kernel) rfl ?_
      refine sw_iconst (n := 5) (v := 5) (by decide +kernel) (by decide) ?_
      refine sw_iadd (by decide +kernel) ?_
      refine sw_iconst (n := 4) (v := 4) (by decide +kernel) (by decide) ?_
      refine sw_iadd (by decide +kernel) ?_
      refine sw_aload_n (k0 := 0) 1 rfl (by decide +kernel) rfl ?_
      refine gf_X8_34 (i := P0) hP0.o.1 hP0.o.2 (by decide +kernel) ?_
      obtain ⟨g20, h⟩ := sw_gd_e h
      obtain ⟨m21, e22, h⟩ := sw_let_e h
      refine sw_iastore (a := P1) hP1.1 hP1.s (sw_in_e g20) (by decide +kernel) ?_
      refine sw_mem e22 ?_
      cases h
      obtain rfl : _ = res := hk
      exact sw_vret (by decide +kernel)
    · rw [if_neg c4] at h
      cases h
      obtain rfl : _ = res := hk
      exact sw_vret (by decide +kernel)
def fX0_keep_L32 (P1 : Nat) (σ : sw_M) : Option ((sw_M)) :=
  sw_b1 (fX8_save P1 30 σ (σ.1 29 1)) fun m1 =>
  sw_let (sw_w m1 29 1 ((m1.1 29 1) + 1)) fun m3 =>
  sw_let (sw_w m3 29 2 (m3.1 29 1)) fun m5 =>
  some (m5)
def fX0_keep (P1 : Nat) (σ : sw_M) : Option (sw_M) :=
  if (σ.1 29 1) < 40 then
    fX0_keep_L32 P1 σ
  else
    sw_gd (sw_cg 10 0 400 410 410) <|
    sw_let (sw_wA σ 30 (va_cpy (σ.1 30) (σ.1 30) (10 : Int32).toNatClampNeg (0 : Int32).toNatClampNeg (400 : Int32).toNatClampNeg)) fun m3 =>
    sw_let (sw_w m3 29 1 39) fun m5 =>
    fX0_keep_L32 P1 m5
set_option maxRecDepth 20000 in
theorem sX0_keep_L32 {l : Launch} {E : sw_E} {K : Nat} (hK : 2 ≤ K) (P1 : Nat) (hP1 : sw_isV P1) (σ : sw_M) {res : sw_M} {t : (sw_M)} (h : fX0_keep_L32 P1 σ = some t) (hk : (fun q => q = res) t) : sw_Go l E K RX0 cX0_keep 2 none 32 [(0, .ref 29), (1, .ref P1)] [] σ none res := by
  unfold fX0_keep_L32 at h
  refine sw_aload_n (k0 := 1) 1 rfl (by decide +kernel) rfl ?_
  refine sw_aload_n (k0 := 0) 0 rfl (by decide +kernel) rfl ?_
  refine gf_X0_11 (i := 29) (by decide) rfl (by decide +kernel) ?_
  refine sw_refj 30 rfl ?_
  refine sw_aload_n (k0 := 0) 0 rfl (by decide +kernel) rfl ?_
  refine gf_X0_15 (i := 29) (by decide) rfl (by decide +kernel) ?_
  obtain ⟨m1, w2, h⟩ := sw_b1_e h
  refine sw_callVv (ci := 8) (i := P1) [.ref 30, .int (σ.1 29 1)] (sX8_save (K := K - 1) (by omega) P1 30 hP1 (sw_A_of (by decide) rfl) σ (σ.1 29 1) w2) rfl (by omega) rfl gs_X0_28 hy_X8_save (by decide) hP1.o.1 hP1.o.2 rfl (Nat.le_of_ble_eq_true rfl) (by decide +kernel) ?_
  refine sw_aload_n (k0 := 0) 0 rfl (by decide +kernel) rfl ?_
  refine sw_dup (by decide +kernel) rfl ?_
  refine gf_X0_15 (i := 29) (by decide) rfl (by decide +kernel) ?_
  refine sw_iconst (n := 1) (v := 1) (by decide +kernel) (by decide) ?_
  refine sw_iadd (by decide +kernel) ?_
  obtain ⟨m3, e4, h⟩ := sw_let_e h
  refine pf_X0_15 (by decide) rfl (by decide +kernel) ?_
  refine sw_mem e4 ?_
  refine sw_aload_n (k0 := 0) 0 rfl (by decide +kernel) rfl ?_
  refine sw_aload_n (k0 := 0) 0 rfl (by decide +kernel) rfl ?_
  refine gf_X0_15 (i := 29) (by decide) rfl (by decide +kernel) ?_
  obtain ⟨m5, e6, h⟩ := sw_let_e h
  refine pf_X0_19 (by decide) rfl (by decide +kernel) ?_
  refine sw_mem e6 ?_
  cases h
  obtain rfl : _ = res := hk
  exact sw_vret (by decide +kernel)
set_option maxRecDepth 20000 in
theorem sX0_keep {l : Launch} {E : sw_E} {K : Nat} (hK : 2 ≤ K) (P1 : Nat) (hP1 : sw_isV P1) (σ : sw_M) {res : sw_M} (h : fX0_keep P1 σ = some res) : sw_Ct l E K yX0_keep cX0_keep 2 none [.ref 29, .ref P1] σ none res := by
  obtain ⟨t, hk, h⟩ : ∃ t, t = res ∧ fX0_keep P1 σ = some t := ⟨res, rfl, h⟩
  unfold fX0_keep at h
  refine sw_enter2 (own := RX0) (lv := [(0, .ref 29), (1, .ref P1)]) (by decide +kernel) (Nat.le_of_ble_eq_true rfl) rfl rfl ?_
  refine sw_aload_n (k0 := 0) 0 rfl (by decide +kernel) rfl ?_
  refine gf_X0_15 (i := 29) (by decide) rfl (by decide +kernel) ?_
  refine sw_bipush (n := 40) (v := 40) (by decide +kernel) (by decide) ?_
  refine sw_icmp_lt (off := 26) 32 (by decide +kernel) (by decide) (fun c1 => ?_) (fun c1 => ?_)
  · rw [if_pos c1] at h
    exact sX0_keep_L32 hK P1 hP1 σ h hk
  · rw [if_neg c1] at h
    refine sw_aload_n (k0 := 0) 0 rfl (by decide +kernel) rfl ?_
    refine gf_X0_11 (i := 29) (by decide) rfl (by decide +kernel) ?_
    refine sw_refj 30 rfl ?_
    refine sw_bipush (n := 10) (v := 10) (by decide +kernel) (by decide) ?_
    refine sw_aload_n (k0 := 0) 0 rfl (by decide +kernel) rfl ?_
    refine gf_X0_11 (i := 29) (by decide) rfl (by decide +kernel) ?_
    refine sw_refj 30 rfl ?_
    refine sw_iconst (n := 0) (v := 0) (by decide +kernel) (by decide) ?_
    refine sw_sipush (n := 400) (v := 400) (by decide +kernel) (by decide) ?_
    obtain ⟨g2, h⟩ := sw_gd_e h
    obtain ⟨m3, e4, h⟩ := sw_let_e h
    refine sw_acopy (a0 := 30) (a := 30) ac_X0_22 ac_nat ac_sta ac_ini (by decide) rfl (by decide) rfl (sw_cg_e g2).1 (sw_cg_e g2).2.1 (sw_cg_e g2).2.2.1 (sw_cg_e g2).2.2.2.1 (sw_cg_e g2).2.2.2.2 (by omega) (by decide) (by decide +kernel) ?_
    refine sw_mem e4 ?_
    refine sw_aload_n (k0 := 0) 0 rfl (by decide +kernel) rfl ?_
    refine sw_bipush (n := 39) (v := 39) (by decide +kernel) (by decide) ?_
    obtain ⟨m5, e6, h⟩ := sw_let_e h
    refine pf_X0_15 (by decide) rfl (by decide +kernel) ?_
    refine sw_mem e6 ?_
    exact sX0_keep_L32 hK P1 hP1 m5 h hk
def fX8_load (P0 : Nat) (P1 : Nat) (σ : sw_M) (a2 : Int32) : Option (sw_M) :=
  sw_let (a2 * 10) fun v1 =>
  if a2 < 0 then
    some (σ)
  else
    if (v1 + 10) ≤ (Int32.ofNat (sw_s P1).2) then
      sw_gd (sw_cg v1 0 5 (sw_s P1).2 5) <|
      sw_let (sw_wA σ (P0 + 1) (va_cpy (σ.1 P1) (σ.1 (P0 + 1)) v1.toNatClampNeg (0 : Int32).toNatClampNeg (5 : Int32).toNatClampNeg)) fun m6 =>
      sw_gd (sw_in (v1 + 5) (sw_s P1).2) <|
      sw_let (sw_w m6 P0 1 (m6.1 P1 (v1 + 5).toNatClampNeg)) fun m9 =>
      sw_gd (sw_in ((v1 + 5) + 1) (sw_s P1).2) <|
      sw_let (sw_w m9 P0 2 (m9.1 P1 ((v1 + 5) + 1).toNatClampNeg)) fun m12 =>
      sw_gd (sw_in ((v1 + 5) + 2) (sw_s P1).2) <|
      sw_let (sw_w m12 P0 3 (m12.1 P1 ((v1 + 5) + 2).toNatClampNeg)) fun m15 =>
      sw_gd (sw_in ((v1 + 5) + 3) (sw_s P1).2) <|
      sw_let (sw_w m15 P0 4 (m15.1 P1 ((v1 + 5) + 3).toNatClampNeg)) fun m18 =>
      sw_gd (sw_in ((v1 + 5) + 4) (sw_s P1).2) <|
      sw_let (sw_w m18 P0 5 (m18.1 P1 ((v1 + 5) + 4).toNatClampNeg)) fun m21 =>
      some (m21)
    else
      some (σ)
set_option maxRecDepth 20000 in
theorem sX8_load {l : Launch} {E : sw_E} {K : Nat} (hK : 1 ≤ K) (P0 : Nat) (P1 : Nat) (hP0 : sw_isV P0) (hP1 : sw_isA 1 P1) (σ : sw_M) (a2 : Int32) {res : sw_M} (h : fX8_load P0 P1 σ a2 = some res) : sw_Ct l E K yX8_load cX8_load 4 none [.ref P0, .ref P1, .int a2] σ none res := by
  obtain ⟨t, hk, h⟩ : ∃ t, t = res ∧ fX8_load P0 P1 σ a2 = some t := ⟨res, rfl, h⟩
  unfold fX8_load at h
  refine sw_enter2 (own := RX8) (lv := [(0, .ref P0), (1, .ref P1), (2, .int a2)]) (by decide +kernel) (Nat.le_of_ble_eq_true rfl) rfl rfl ?_
  refine sw_iload_n (k0 := 2) 2 rfl (by decide +kernel) rfl ?_
  refine sw_bipush (n := 10) (v := 10) (by decide +kernel) (by decide) ?_
  refine sw_imul (by decide +kernel) ?_
  obtain ⟨v1, e2, h⟩ := sw_let_e h
  refine sw_topi e2 ?_
  refine sw_istore_n (k0 := 3) (lv' := [(3, .int v1), (0, .ref P0), (1, .ref P1), (2, .int a2)]) (by decide +kernel) rfl (by decide) rfl ?_
  refine sw_iload_n (k0 := 2) 3 rfl (by decide +kernel) rfl ?_
  refine sw_if_lt (off := 12) 18 (by decide +kernel) (by decide) (fun c3 => ?_) (fun c3 => ?_)
  · rw [if_pos c3] at h
    cases h
    obtain rfl : _ = res := hk
    exact sw_vret (by decide +kernel)
  · rw [if_neg c3] at h
    refine sw_iload_n (k0 := 3) 0 rfl (by decide +kernel) rfl ?_
    refine sw_bipush (n := 10) (v := 10) (by decide +kernel) (by decide) ?_
    refine sw_iadd (by decide +kernel) ?_
    refine sw_aload_n (k0 := 1) 2 rfl (by decide +kernel) rfl ?_
    refine sw_alen (a := P1) (v := Int32.ofNat (sw_s P1).2) hP1.1 hP1.s (by decide) rfl (by decide +kernel) ?_
    refine sw_icmp_le (off := 4) 19 (by decide +kernel) (by decide) (fun c4 => ?_) (fun c4 => ?_)
    · rw [if_pos c4] at h
      refine sw_aload_n (k0 := 1) 2 rfl (by decide +kernel) rfl ?_
      refine sw_iload_n (k0 := 3) 0 rfl (by decide +kernel) rfl ?_
      refine sw_aload_n (k0 := 0) 1 rfl (by decide +kernel) rfl ?_
      refine gf_X8_9 (i := P0) hP0.o.1 hP0.o.2 (by decide +kernel) ?_
      refine sw_iconst (n := 0) (v := 0) (by decide +kernel) (by decide) ?_
      refine sw_iconst (n := 5) (v := 5) (by decide +kernel) (by decide) ?_
      obtain ⟨g5, h⟩ := sw_gd_e h
      obtain ⟨m6, e7, h⟩ := sw_let_e h
      refine sw_acopy (a0 := P1) (a := (P0 + 1)) ac_X8_37 ac_nat ac_sta ac_ini hP1.1 hP1.s hP0.p1.1 hP0.p1.2 (sw_cg_e g5).1 (sw_cg_e g5).2.1 (sw_cg_e g5).2.2.1 (sw_cg_e g5).2.2.2.1 (sw_cg_e g5).2.2.2.2 (by omega) (by decide) (by decide +kernel) ?_
      refine sw_mem e7 ?_
      refine sw_aload_n (k0 := 0) 1 rfl (by decide +kernel) rfl ?_
      refine sw_aload_n (k0 := 1) 2 rfl (by decide +kernel) rfl ?_
      refine sw_iload_n (k0 := 3) 0 rfl (by decide +kernel) rfl ?_
      refine sw_iconst (n := 5) (v := 5) (by decide +kernel) (by decide) ?_
      refine sw_iadd (by decide +kernel) ?_
      obtain ⟨g8, h⟩ := sw_gd_e h
      refine sw_iaload (a := P1) hP1.1 hP1.s (sw_in_e g8) (by decide +kernel) ?_
      obtain ⟨m9, e10, h⟩ := sw_let_e h
      refine pf_X8_21 hP0.o.1 hP0.o.2 (by decide +kernel) ?_
      refine sw_mem e10 ?_
      refine sw_aload_n (k0 := 0) 1 rfl (by decide +kernel) rfl ?_
      refine sw_aload_n (k0 := 1) 2 rfl (by decide +kernel) rfl ?_
      refine sw_iload_n (k0 := 3) 0 rfl (by decide +kernel) rfl ?_
      refine sw_iconst (n := 5) (v := 5) (by decide +kernel) (by decide) ?_
      refine sw_iadd (by decide +kernel) ?_
      refine sw_iconst (n := 1) (v := 1) (by decide +kernel) (by decide) ?_
      refine sw_iadd (by decide +kernel) ?_
      obtain ⟨g11, h⟩ := sw_gd_e h
      refine sw_iaload (a := P1) hP1.1 hP1.s (sw_in_e g11) (by decide +kernel) ?_
      obtain ⟨m12, e13, h⟩ := sw_let_e h
      refine pf_X8_25 hP0.o.1 hP0.o.2 (by decide +kernel) ?_
      refine sw_mem e13 ?_
      refine sw_aload_n (k0 := 0) 1 rfl (by decide +kernel) rfl ?_
      refine sw_aload_n (k0 := 1) 2 rfl (by decide +kernel) rfl ?_
      refine sw_iload_n (k0 := 3) 0 rfl (by decide +kernel) rfl ?_
      refine sw_iconst (n := 5) (v := 5) (by decide +kernel) (by decide) ?_
      refine sw_iadd (by decide +kernel) ?_
      refine sw_iconst (n := 2) (v := 2) (by decide +kernel) (by decide) ?_
      refine sw_iadd (by decide +kernel) ?_
      obtain ⟨g14, h⟩ := sw_gd_e h
      refine sw_iaload (a := P1) hP1.1 hP1.s (sw_in_e g14) (by decide +kernel) ?_
      obtain ⟨m15, e16, h⟩ := sw_let_e h
      refine pf_X8_28 hP0.o.1 hP0.o.2 (by decide +kernel) ?_
      refine sw_mem e16 ?_
      refine sw_aload_n (k0 := 0) 1 rfl (by decide +kernel) rfl ?_
      refine sw_aload_n (k0 := 1) 2 rfl (by decide +kernel) rfl ?_
      refine sw_iload_n (k0 := 3) 0 rfl (by decide +kernel) rfl ?_
      refine sw_iconst (n := 5) (v := 5) (by decide +kernel) (by decide) ?_
      refine sw_iadd (by decide +kernel) ?_
      refine sw_iconst (n := 3) (v := 3) (by decide +kernel) (by decide) ?_
      refine sw_iadd (by decide +kernel) ?_
      obtain ⟨g17, h⟩ := sw_gd_e h
      refine sw_iaload (a := P1) hP1.1 hP1.s (sw_in_e g17) (by decide +kernel) ?_
      obtain ⟨m18, e19, h⟩ := sw_let_e h
      refine pf_X8_31 hP0.o.1 hP0.o.2 (by decide +kernel) ?_
      refine sw_mem e19 ?_
      refine sw_aload_n (k0 := 0) 1 rfl (by decide +kernel) rfl ?_
      refine sw_aload_n (k0 := 1) 2 rfl (by decide +kernel) rfl ?_
      refine sw_iload_n (k0 := 3) 0 rfl (by decide +kernel) rfl ?_
      refine sw_iconst (n := 5) (v := 5) (by decide +kernel) (by decide) ?_
      refine sw_iadd (by decide +kernel) ?_
      refine sw_iconst (n := 4) (v := 4) (by decide +kernel) (by decide) ?_
      refine sw_iadd (by decide +kernel) ?_
      obtain ⟨g20, h⟩ := sw_gd_e h
      refine sw_iaload (a := P1) hP1.1 hP1.s (sw_in_e g20) (by decide +kernel) ?_
      obtain ⟨m21, e22, h⟩ := sw_let_e h
      refine pf_X8_34 hP0.o.1 hP0.o.2 (by decide +kernel) ?_
      refine sw_mem e22 ?_
      cases h
      obtain rfl : _ = res := hk
      exact sw_vret (by decide +kernel)
    · rw [if_neg c4] at h
      cases h
      obtain rfl : _ = res := hk
      exact sw_vret (by decide +kernel)
def fX0_takeBack (P1 : Nat) (σ : sw_M) : Option (Int32 × sw_M) :=
  if (σ.1 29 1) = 0 then
    some ((0, σ))
  else
    sw_b1 (fX8_save P1 30 σ (σ.1 29 1)) fun m2 =>
    sw_let (sw_w m2 29 1 ((m2.1 29 1) - 1)) fun m4 =>
    sw_b1 (fX8_load P1 30 m4 (m4.1 29 1)) fun m6 =>
    some ((1, m6))
set_option maxRecDepth 20000 in
theorem sX0_takeBack {l : Launch} {E : sw_E} {K : Nat} (hK : 2 ≤ K) (P1 : Nat) (hP1 : sw_isV P1) (σ : sw_M) {res : Int32 × sw_M} (h : fX0_takeBack P1 σ = some res) : sw_Ct l E K yX0_takeBack cX0_takeBack 2 (some .boolean) [.ref 29, .ref P1] σ (some (.int res.1)) res.2 := by
  obtain ⟨t, hk, h⟩ : ∃ t, t = res ∧ fX0_takeBack P1 σ = some t := ⟨res, rfl, h⟩
  unfold fX0_takeBack at h
  refine sw_enter2 (own := RX0) (lv := [(0, .ref 29), (1, .ref P1)]) (by decide +kernel) (Nat.le_of_ble_eq_true rfl) rfl rfl ?_
  refine sw_aload_n (k0 := 0) 0 rfl (by decide +kernel) rfl ?_
  refine gf_X0_15 (i := 29) (by decide) rfl (by decide +kernel) ?_
  refine sw_if_ne (off := 5) 9 (by decide +kernel) (by decide) (fun c1 => ?_) (fun c1 => ?_)
  · rw [if_neg c1] at h
    refine sw_aload_n (k0 := 1) 1 rfl (by decide +kernel) rfl ?_
    refine sw_aload_n (k0 := 0) 0 rfl (by decide +kernel) rfl ?_
    refine gf_X0_11 (i := 29) (by decide) rfl (by decide +kernel) ?_
    refine sw_refj 30 rfl ?_
    refine sw_aload_n (k0 := 0) 0 rfl (by decide +kernel) rfl ?_
    refine gf_X0_15 (i := 29) (by decide) rfl (by decide +kernel) ?_
    obtain ⟨m2, w3, h⟩ := sw_b1_e h
    refine sw_callVv (ci := 8) (i := P1) [.ref 30, .int (σ.1 29 1)] (sX8_save (K := K - 1) (by omega) P1 30 hP1 (sw_A_of (by decide) rfl) σ (σ.1 29 1) w3) rfl (by omega) rfl gs_X0_28 hy_X8_save (by decide) hP1.o.1 hP1.o.2 rfl (Nat.le_of_ble_eq_true rfl) (by decide +kernel) ?_
    refine sw_aload_n (k0 := 0) 0 rfl (by decide +kernel) rfl ?_
    refine sw_dup (by decide +kernel) rfl ?_
    refine gf_X0_15 (i := 29) (by decide) rfl (by decide +kernel) ?_
    refine sw_iconst (n := 1) (v := 1) (by decide +kernel) (by decide) ?_
    refine sw_isub (by decide +kernel) ?_
    obtain ⟨m4, e5, h⟩ := sw_let_e h
    refine pf_X0_15 (by decide) rfl (by decide +kernel) ?_
    refine sw_mem e5 ?_
    refine sw_aload_n (k0 := 1) 1 rfl (by decide +kernel) rfl ?_
    refine sw_aload_n (k0 := 0) 0 rfl (by decide +kernel) rfl ?_
    refine gf_X0_11 (i := 29) (by decide) rfl (by decide +kernel) ?_
    refine sw_refj 30 rfl ?_
    refine sw_aload_n (k0 := 0) 0 rfl (by decide +kernel) rfl ?_
    refine gf_X0_15 (i := 29) (by decide) rfl (by decide +kernel) ?_
    obtain ⟨m6, w7, h⟩ := sw_b1_e h
    refine sw_callVv (ci := 8) (i := P1) [.ref 30, .int (m4.1 29 1)] (sX8_load (K := K - 1) (by omega) P1 30 hP1 (sw_A_of (by decide) rfl) m4 (m4.1 29 1) w7) rfl (by omega) rfl gs_X0_32 hy_X8_load (by decide) hP1.o.1 hP1.o.2 rfl (Nat.le_of_ble_eq_true rfl) (by decide +kernel) ?_
    refine sw_iconst (n := 1) (v := 1) (by decide +kernel) (by decide) ?_
    cases h
    obtain rfl : _ = res := hk
    exact sw_zret rfl (by decide +kernel)
  · rw [if_pos c1] at h
    refine sw_iconst (n := 0) (v := 0) (by decide +kernel) (by decide) ?_
    cases h
    obtain rfl : _ = res := hk
    exact sw_zret rfl (by decide +kernel)
def fX0_doAgain (P1 : Nat) (σ : sw_M) : Option (Int32 × sw_M) :=
  if (σ.1 29 1) = (σ.1 29 2) then
    some ((0, σ))
  else
    sw_let (sw_w σ 29 1 ((σ.1 29 1) + 1)) fun m2 =>
    sw_b1 (fX8_load P1 30 m2 (m2.1 29 1)) fun m4 =>
    some ((1, m4))
set_option maxRecDepth 20000 in
theorem sX0_doAgain {l : Launch} {E : sw_E} {K : Nat} (hK : 2 ≤ K) (P1 : Nat) (hP1 : sw_isV P1) (σ : sw_M) {res : Int32 × sw_M} (h : fX0_doAgain P1 σ = some res) : sw_Ct l E K yX0_doAgain cX0_doAgain 2 (some .boolean) [.ref 29, .ref P1] σ (some (.int res.1)) res.2 := by
  obtain ⟨t, hk, h⟩ : ∃ t, t = res ∧ fX0_doAgain P1 σ = some t := ⟨res, rfl, h⟩
  unfold fX0_doAgain at h
  refine sw_enter2 (own := RX0) (lv := [(0, .ref 29), (1, .ref P1)]) (by decide +kernel) (Nat.le_of_ble_eq_true rfl) rfl rfl ?_
  refine sw_aload_n (k0 := 0) 0 rfl (by decide +kernel) rfl ?_
  refine gf_X0_15 (i := 29) (by decide) rfl (by decide +kernel) ?_
  refine sw_aload_n (k0 := 0) 0 rfl (by decide +kernel) rfl ?_
  refine gf_X0_19 (i := 29) (by decide) rfl (by decide +kernel) ?_
  refine sw_icmp_ne (off := 5) 13 (by decide +kernel) (by decide) (fun c1 => ?_) (fun c1 => ?_)
  · rw [if_neg c1] at h
    refine sw_aload_n (k0 := 0) 0 rfl (by decide +kernel) rfl ?_
    refine sw_dup (by decide +kernel) rfl ?_
    refine gf_X0_15 (i := 29) (by decide) rfl (by decide +kernel) ?_
    refine sw_iconst (n := 1) (v := 1) (by decide +kernel) (by decide) ?_
    refine sw_iadd (by decide +kernel) ?_
    obtain ⟨m2, e3, h⟩ := sw_let_e h
    refine pf_X0_15 (by decide) rfl (by decide +kernel) ?_
    refine sw_mem e3 ?_
    refine sw_aload_n (k0 := 1) 1 rfl (by decide +kernel) rfl ?_
    refine sw_aload_n (k0 := 0) 0 rfl (by decide +kernel) rfl ?_
    refine gf_X0_11 (i := 29) (by decide) rfl (by decide +kernel) ?_
    refine sw_refj 30 rfl ?_
    refine sw_aload_n (k0 := 0) 0 rfl (by decide +kernel) rfl ?_
    refine gf_X0_15 (i := 29) (by decide) rfl (by decide +kernel) ?_
    obtain ⟨m4, w5, h⟩ := sw_b1_e h
    refine sw_callVv (ci := 8) (i := P1) [.ref 30, .int (m2.1 29 1)] (sX8_load (K := K - 1) (by omega) P1 30 hP1 (sw_A_of (by decide) rfl) m2 (m2.1 29 1) w5) rfl (by omega) rfl gs_X0_32 hy_X8_load (by decide) hP1.o.1 hP1.o.2 rfl (Nat.le_of_ble_eq_true rfl) (by decide +kernel) ?_
    refine sw_iconst (n := 1) (v := 1) (by decide +kernel) (by decide) ?_
    cases h
    obtain rfl : _ = res := hk
    exact sw_zret rfl (by decide +kernel)
  · rw [if_pos c1] at h
    refine sw_iconst (n := 0) (v := 0) (by decide +kernel) (by decide) ?_
    cases h
    obtain rfl : _ = res := hk
    exact sw_zret rfl (by decide +kernel)
def fX1_forget_L2 (σ : sw_M) (a1 : Int32) : Option ((Int32 × sw_M) ⊕ (sw_M)) :=
  if 3 ≤ a1 then
    some (.inr (σ))
  else
    sw_gd (sw_in a1 3) <|
    sw_let (sw_w σ 32 a1.toNatClampNeg (vp_nar .boolean 0)) fun m3 =>
    sw_let (a1 + 1) fun v5 =>
    some (.inl (v5, m3))
def fX1_forget (σ : sw_M) : Option (sw_M) :=
  sw_wh sw_F (fun s => fX1_forget_L2 s.2 s.1) (0, σ)
set_option maxRecDepth 20000 in
theorem sX1_forget_L2 {l : Launch} {E : sw_E} {K : Nat} (hK : 0 ≤ K) (σ : sw_M) (a1 : Int32) {res : sw_M} {t : (Int32 × sw_M) ⊕ (sw_M)} (h : fX1_forget_L2 σ a1 = some t) (hk : (Sum.elim (fun s : Int32 × sw_M => sw_Go l E K RX1 cX1_forget 2 none 2 [(0, .ref 31), (1, .int s.1)] [] s.2 none res) (fun q => q = res)) t) : sw_Go l E K RX1 cX1_forget 2 none 2 [(0, .ref 31), (1, .int a1)] [] σ none res := by
  unfold fX1_forget_L2 at h
  refine sw_iload_n (k0 := 1) 1 rfl (by decide +kernel) rfl ?_
  refine sw_iconst (n := 3) (v := 3) (by decide +kernel) (by decide) ?_
  refine sw_icmp_ge (off := 16) 20 (by decide +kernel) (by decide) (fun c1 => ?_) (fun c1 => ?_)
  · rw [if_pos c1] at h
    cases h
    obtain rfl : _ = res := hk
    exact sw_vret (by decide +kernel)
  · rw [if_neg c1] at h
    refine sw_aload_n (k0 := 0) 0 rfl (by decide +kernel) rfl ?_
    refine gf_X1_9 (i := 31) (by decide) rfl (by decide +kernel) ?_
    refine sw_refj 32 rfl ?_
    refine sw_iload_n (k0 := 1) 1 rfl (by decide +kernel) rfl ?_
    refine sw_iconst (n := 0) (v := 0) (by decide +kernel) (by decide) ?_
    obtain ⟨g2, h⟩ := sw_gd_e h
    obtain ⟨m3, e4, h⟩ := sw_let_e h
    refine sw_zastore (a := 32) (by decide) rfl (sw_in_e g2) (by decide +kernel) ?_
    refine sw_mem e4 ?_
    obtain ⟨v5, e6, h⟩ := sw_let_e h
    refine sw_iincv (i := 1) (n := 1) (lv' := [(1, .int v5), (0, .ref 31)]) 1 rfl e6 (by decide +kernel) (by decide) (by decide) rfl ?_
    refine sw_goto (off := (-15)) 2 (by decide +kernel) (by decide) ?_
    cases h
    refine sw_lv [1, 0] rfl ?_
    exact hk
set_option maxRecDepth 20000 in
theorem sX1_forget {l : Launch} {E : sw_E} {K : Nat} (hK : 0 ≤ K) (σ : sw_M) {res : sw_M} (h : fX1_forget σ = some res) : sw_Ct l E K yX1_forget cX1_forget 2 none [.ref 31] σ none res := by
  obtain ⟨t, hk, h⟩ : ∃ t, t = res ∧ fX1_forget σ = some t := ⟨res, rfl, h⟩
  unfold fX1_forget at h
  refine sw_enter2 (own := RX1) (lv := [(0, .ref 31)]) (by decide +kernel) (Nat.le_of_ble_eq_true rfl) rfl rfl ?_
  refine sw_iconst (n := 0) (v := 0) (by decide +kernel) (by decide) ?_
  refine sw_istore_n (k0 := 1) (lv' := [(1, .int 0), (0, .ref 31)]) (by decide +kernel) rfl (by decide) rfl ?_
  refine sw_lv [1, 0] rfl ?_
  exact sw_wh_e (fun s : Int32 × sw_M => sw_Go l E K RX1 cX1_forget 2 none 2 [(0, .ref 31), (1, .int s.1)] [] s.2 none res) (fun q => q = res) (fun s => fX1_forget_L2 s.2 s.1) (fun s t hb hk => sX1_forget_L2 hK s.2 s.1 hb hk) _ _ _ h hk
def fX1_isBox (a1 : Int32) : Int32 :=
  if a1 < 0 then
    0
  else
    if 3 ≤ a1 then
      0
    else
      1
set_option maxRecDepth 20000 in
theorem sX1_isBox {l : Launch} {E : sw_E} {K : Nat} (hK : 0 ≤ K) (σ : sw_M) (a1 : Int32) {res : Int32} (h : fX1_isBox a1 = res) : sw_Ct l E K yX1_isBox cX1_isBox 2 (some .boolean) [.ref 31, .int a1] σ (some (.int res)) σ := by
  obtain ⟨t, hk, h⟩ : ∃ t, t = res ∧ fX1_isBox a1 = t := ⟨res, rfl, h⟩
  unfold fX1_isBox at h
  refine sw_enter2 (own := RX1) (lv := [(0, .ref 31), (1, .int a1)]) (by decide +kernel) (Nat.le_of_ble_eq_true rfl) rfl rfl ?_
  refine sw_iload_n (k0 := 1) 1 rfl (by decide +kernel) rfl ?_
  refine sw_if_lt (off := 12) 13 (by decide +kernel) (by decide) (fun c1 => ?_) (fun c1 => ?_)
  · rw [if_pos c1] at h
    refine sw_iconst (n := 0) (v := 0) (by decide +kernel) (by decide) ?_
    subst h
    obtain rfl : _ = res := hk
    exact sw_zret rfl (by decide +kernel)
  · rw [if_neg c1] at h
    refine sw_iload_n (k0 := 1) 1 rfl (by decide +kernel) rfl ?_
    refine sw_iconst (n := 3) (v := 3) (by decide +kernel) (by decide) ?_
    refine sw_icmp_ge (off := 7) 13 (by decide +kernel) (by decide) (fun c2 => ?_) (fun c2 => ?_)
    · rw [if_pos c2] at h
      refine sw_iconst (n := 0) (v := 0) (by decide +kernel) (by decide) ?_
      subst h
      obtain rfl : _ = res := hk
      exact sw_zret rfl (by decide +kernel)
    · rw [if_neg c2] at h
      refine sw_iconst (n := 1) (v := 1) (by decide +kernel) (by decide) ?_
      refine sw_goto (off := 4) 14 (by decide +kernel) (by decide) ?_
      subst h
      obtain rfl : _ = res := hk
      exact sw_zret rfl (by decide +kernel)
theorem bX1_isBox (a1 : Int32) : fX1_isBox a1 = 0 ∨ fX1_isBox a1 = 1 := by
  simp only [fX1_isBox, sw_let]
  repeat' (first | exact Or.inl rfl | exact Or.inr rfl | refine sw_ite_bo ?_ ?_)
def fX1_put (P2 : Nat) (σ : sw_M) (a1 : Int32) : Option (sw_M) :=
  sw_b1 (fX8_save P2 33 σ a1) fun m1 =>
  sw_gd (sw_in a1 3) <|
  sw_let (sw_w m1 32 a1.toNatClampNeg (vp_nar .boolean 1)) fun m4 =>
  some (m4)
set_option maxRecDepth 20000 in
theorem sX1_put {l : Launch} {E : sw_E} {K : Nat} (hK : 2 ≤ K) (P2 : Nat) (hP2 : sw_isV P2) (σ : sw_M) (a1 : Int32) {res : sw_M} (h : fX1_put P2 σ a1 = some res) : sw_Ct l E K yX1_put cX1_put 3 none [.ref 31, .int a1, .ref P2] σ none res := by
  obtain ⟨t, hk, h⟩ : ∃ t, t = res ∧ fX1_put P2 σ a1 = some t := ⟨res, rfl, h⟩
  unfold fX1_put at h
  refine sw_enter2 (own := RX1) (lv := [(0, .ref 31), (1, .int a1), (2, .ref P2)]) (by decide +kernel) (Nat.le_of_ble_eq_true rfl) rfl rfl ?_
  refine sw_aload_n (k0 := 2) 2 rfl (by decide +kernel) rfl ?_
  refine sw_aload_n (k0 := 0) 0 rfl (by decide +kernel) rfl ?_
  refine gf_X1_15 (i := 31) (by decide) rfl (by decide +kernel) ?_
  refine sw_refj 33 rfl ?_
  refine sw_iload_n (k0 := 1) 1 rfl (by decide +kernel) rfl ?_
  obtain ⟨m1, w2, h⟩ := sw_b1_e h
  refine sw_callVv (ci := 8) (i := P2) [.ref 33, .int a1] (sX8_save (K := K - 1) (by omega) P2 33 hP2 (sw_A_of (by decide) rfl) σ a1 w2) rfl (by omega) rfl gs_X1_19 hy_X8_save (by decide) hP2.o.1 hP2.o.2 rfl (Nat.le_of_ble_eq_true rfl) (by decide +kernel) ?_
  refine sw_aload_n (k0 := 0) 0 rfl (by decide +kernel) rfl ?_
  refine gf_X1_9 (i := 31) (by decide) rfl (by decide +kernel) ?_
  refine sw_refj 32 rfl ?_
  refine sw_iload_n (k0 := 1) 1 rfl (by decide +kernel) rfl ?_
  refine sw_iconst (n := 1) (v := 1) (by decide +kernel) (by decide) ?_
  obtain ⟨g3, h⟩ := sw_gd_e h
  obtain ⟨m4, e5, h⟩ := sw_let_e h
  refine sw_zastore (a := 32) (by decide) rfl (sw_in_e g3) (by decide +kernel) ?_
  refine sw_mem e5 ?_
  cases h
  obtain rfl : _ = res := hk
  exact sw_vret (by decide +kernel)
def fX1_take (P2 : Nat) (σ : sw_M) (a1 : Int32) : Option (sw_M) :=
  sw_b1 (fX8_load P2 33 σ a1) fun m1 =>
  some (m1)
set_option maxRecDepth 20000 in
theorem sX1_take {l : Launch} {E : sw_E} {K : Nat} (hK : 2 ≤ K) (P2 : Nat) (hP2 : sw_isV P2) (σ : sw_M) (a1 : Int32) {res : sw_M} (h : fX1_take P2 σ a1 = some res) : sw_Ct l E K yX1_take cX1_take 3 none [.ref 31, .int a1, .ref P2] σ none res := by
  obtain ⟨t, hk, h⟩ : ∃ t, t = res ∧ fX1_take P2 σ a1 = some t := ⟨res, rfl, h⟩
  unfold fX1_take at h
  refine sw_enter2 (own := RX1) (lv := [(0, .ref 31), (1, .int a1), (2, .ref P2)]) (by decide +kernel) (Nat.le_of_ble_eq_true rfl) rfl rfl ?_
  refine sw_aload_n (k0 := 2) 2 rfl (by decide +kernel) rfl ?_
  refine sw_aload_n (k0 := 0) 0 rfl (by decide +kernel) rfl ?_
  refine gf_X1_15 (i := 31) (by decide) rfl (by decide +kernel) ?_
  refine sw_refj 33 rfl ?_
  refine sw_iload_n (k0 := 1) 1 rfl (by decide +kernel) rfl ?_
  obtain ⟨m1, w2, h⟩ := sw_b1_e h
  refine sw_callVv (ci := 8) (i := P2) [.ref 33, .int a1] (sX8_load (K := K - 1) (by omega) P2 33 hP2 (sw_A_of (by decide) rfl) σ a1 w2) rfl (by omega) rfl gs_X1_23 hy_X8_load (by decide) hP2.o.1 hP2.o.2 rfl (Nat.le_of_ble_eq_true rfl) (by decide +kernel) ?_
  cases h
  obtain rfl : _ = res := hk
  exact sw_vret (by decide +kernel)
def fX2_clear (P0 : Nat) (σ : sw_M) : Option (sw_M) :=
  sw_let (sw_w σ P0 0 0) fun m1 =>
  sw_let (sw_w m1 P0 2 0) fun m3 =>
  sw_let (sw_w m3 P0 1 0) fun m5 =>
  some (m5)
set_option maxRecDepth 20000 in
theorem sX2_clear {l : Launch} {E : sw_E} {K : Nat} (hK : 0 ≤ K) (P0 : Nat) (hP0 : sw_isF P0) (σ : sw_M) {res : sw_M} (h : fX2_clear P0 σ = some res) : sw_Ct l E K yX2_clear cX2_clear 1 none [.ref P0] σ none res := by
  obtain ⟨t, hk, h⟩ : ∃ t, t = res ∧ fX2_clear P0 σ = some t := ⟨res, rfl, h⟩
  unfold fX2_clear at h
  refine sw_enter2 (own := RX2) (lv := [(0, .ref P0)]) (by decide +kernel) (Nat.le_of_ble_eq_true rfl) rfl rfl ?_
  refine sw_aload_n (k0 := 0) 0 rfl (by decide +kernel) rfl ?_
  refine sw_iconst (n := 0) (v := 0) (by decide +kernel) (by decide) ?_
  obtain ⟨m1, e2, h⟩ := sw_let_e h
  refine pf_X2_21 hP0.o.1 hP0.o.2 (by decide +kernel) ?_
  refine sw_mem e2 ?_
  refine sw_aload_n (k0 := 0) 0 rfl (by decide +kernel) rfl ?_
  refine sw_iconst (n := 0) (v := 0) (by decide +kernel) (by decide) ?_
  obtain ⟨m3, e4, h⟩ := sw_let_e h
  refine pf_X2_25 hP0.o.1 hP0.o.2 (by decide +kernel) ?_
  refine sw_mem e4 ?_
  refine sw_aload_n (k0 := 0) 0 rfl (by decide +kernel) rfl ?_
  refine sw_iconst (n := 0) (v := 0) (by decide +kernel) (by decide) ?_
  obtain ⟨m5, e6, h⟩ := sw_let_e h
  refine pf_X2_28 (Or.inl rfl) hP0.o.1 hP0.o.2 (by decide +kernel) ?_
  refine sw_mem e6 ?_
  cases h
  obtain rfl : _ = res := hk
  exact sw_vret (by decide +kernel)
def fX2_add (P0 : Nat) (σ : sw_M) (a1 : Int32) : Option (sw_M) :=
  if (σ.1 P0 2) < 270 then
    sw_gd (sw_in (σ.1 P0 2) 270) <|
    sw_let (sw_w σ (P0 + 1) (σ.1 P0 2).toNatClampNeg a1) fun m3 =>
    sw_let (sw_w m3 P0 2 ((m3.1 P0 2) + 1)) fun m5 =>
    if a1 = (-6) then
      sw_let (sw_w m5 P0 1 1) fun m8 =>
      some (m8)
    else
      some (m5)
  else
    some (σ)
set_option maxRecDepth 20000 in
theorem sX2_add {l : Launch} {E : sw_E} {K : Nat} (hK : 0 ≤ K) (P0 : Nat) (hP0 : sw_isF P0) (σ : sw_M) (a1 : Int32) {res : sw_M} (h : fX2_add P0 σ a1 = some res) : sw_Ct l E K yX2_add cX2_add 2 none [.ref P0, .int a1] σ none res := by
  obtain ⟨t, hk, h⟩ : ∃ t, t = res ∧ fX2_add P0 σ a1 = some t := ⟨res, rfl, h⟩
  unfold fX2_add at h
  refine sw_enter2 (own := RX2) (lv := [(0, .ref P0), (1, .int a1)]) (by decide +kernel) (Nat.le_of_ble_eq_true rfl) rfl rfl ?_
  refine sw_aload_n (k0 := 0) 0 rfl (by decide +kernel) rfl ?_
  refine gf_X2_25 (i := P0) hP0.o.1 hP0.o.2 (by decide +kernel) ?_
  refine sw_aload_n (k0 := 0) 0 rfl (by decide +kernel) rfl ?_
  refine gf_X2_11 (i := P0) hP0.o.1 hP0.o.2 (by decide +kernel) ?_
  refine sw_alen (a := (P0 + 1)) (v := 270) hP0.p1.1 hP0.p1.2 (by decide) (by decide) (by decide +kernel) ?_
  refine sw_icmp_lt (off := 4) 13 (by decide +kernel) (by decide) (fun c1 => ?_) (fun c1 => ?_)
  · rw [if_pos c1] at h
    refine sw_aload_n (k0 := 0) 0 rfl (by decide +kernel) rfl ?_
    refine gf_X2_11 (i := P0) hP0.o.1 hP0.o.2 (by decide +kernel) ?_
    refine sw_aload_n (k0 := 0) 0 rfl (by decide +kernel) rfl ?_
    refine gf_X2_25 (i := P0) hP0.o.1 hP0.o.2 (by decide +kernel) ?_
    refine sw_iload_n (k0 := 1) 1 rfl (by decide +kernel) rfl ?_
    obtain ⟨g2, h⟩ := sw_gd_e h
    obtain ⟨m3, e4, h⟩ := sw_let_e h
    refine sw_iastore (a := (P0 + 1)) hP0.p1.1 hP0.p1.2 (sw_in_e g2) (by decide +kernel) ?_
    refine sw_mem e4 ?_
    refine sw_aload_n (k0 := 0) 0 rfl (by decide +kernel) rfl ?_
    refine sw_dup (by decide +kernel) rfl ?_
    refine gf_X2_25 (i := P0) hP0.o.1 hP0.o.2 (by decide +kernel) ?_
    refine sw_iconst (n := 1) (v := 1) (by decide +kernel) (by decide) ?_
    refine sw_iadd (by decide +kernel) ?_
    obtain ⟨m5, e6, h⟩ := sw_let_e h
    refine pf_X2_25 hP0.o.1 hP0.o.2 (by decide +kernel) ?_
    refine sw_mem e6 ?_
    refine sw_iload_n (k0 := 1) 1 rfl (by decide +kernel) rfl ?_
    refine sw_bipush (n := (-6)) (v := (-6)) (by decide +kernel) (by decide) ?_
    refine sw_icmp_ne (off := 8) 44 (by decide +kernel) (by decide) (fun c7 => ?_) (fun c7 => ?_)
    · rw [if_neg c7] at h
      cases h
      obtain rfl : _ = res := hk
      exact sw_vret (by decide +kernel)
    · rw [if_pos c7] at h
      refine sw_aload_n (k0 := 0) 0 rfl (by decide +kernel) rfl ?_
      refine sw_iconst (n := 1) (v := 1) (by decide +kernel) (by decide) ?_
      obtain ⟨m8, e9, h⟩ := sw_let_e h
      refine pf_X2_28 (Or.inr rfl) hP0.o.1 hP0.o.2 (by decide +kernel) ?_
      refine sw_mem e9 ?_
      cases h
      obtain rfl : _ = res := hk
      exact sw_vret (by decide +kernel)
  · rw [if_neg c1] at h
    cases h
    obtain rfl : _ = res := hk
    exact sw_vret (by decide +kernel)
def fJ6_bitCount_0f7a4 (a0 : Int32) : Int32 :=
  sw_let (a0 - (((a0.toUInt32 >>> ((1 : Int32).toUInt32 &&& Int32.toUInt32 31)).toInt32) &&& 1431655765)) fun v1 =>
  sw_let ((v1 &&& 858993459) + (((v1.toUInt32 >>> ((2 : Int32).toUInt32 &&& Int32.toUInt32 31)).toInt32) &&& 858993459)) fun v3 =>
  sw_let ((v3 + ((v3.toUInt32 >>> ((4 : Int32).toUInt32 &&& Int32.toUInt32 31)).toInt32)) &&& 252645135) fun v5 =>
  sw_let (v5 + ((v5.toUInt32 >>> ((8 : Int32).toUInt32 &&& Int32.toUInt32 31)).toInt32)) fun v7 =>
  sw_let (v7 + ((v7.toUInt32 >>> ((16 : Int32).toUInt32 &&& Int32.toUInt32 31)).toInt32)) fun v9 =>
  v9 &&& 63
set_option maxRecDepth 20000 in
theorem sJ6_bitCount_0f7a4 {l : Launch} {E : sw_E} {K : Nat} (hK : 0 ≤ K) (σ : sw_M) (a0 : Int32) {res : Int32} (h : fJ6_bitCount_0f7a4 a0 = res) : sw_Ct l E K yJ6_bitCount_0f7a4 cJ6_bitCount_0f7a4 1 (some .int) [.int a0] σ (some (.int res)) σ := by
  obtain ⟨t, hk, h⟩ : ∃ t, t = res ∧ fJ6_bitCount_0f7a4 a0 = t := ⟨res, rfl, h⟩
  unfold fJ6_bitCount_0f7a4 at h
  refine sw_enter2 (own := RJ6) (lv := [(0, .int a0)]) (by decide +kernel) (Nat.le_of_ble_eq_true rfl) rfl rfl ?_
  refine sw_iload_n (k0 := 0) 0 rfl (by decide +kernel) rfl ?_
  refine sw_iload_n (k0 := 0) 0 rfl (by decide +kernel) rfl ?_
  refine sw_iconst (n := 1) (v := 1) (by decide +kernel) (by decide) ?_
  refine sw_iushr (by decide +kernel) ?_
  refine sw_ldcw kn_J6_265 (by decide +kernel) ?_
  refine sw_iand (by decide +kernel) ?_
  refine sw_isub (by decide +kernel) ?_
  obtain ⟨v1, e2, h⟩ := sw_let_e h
  refine sw_topi e2 ?_
  refine sw_istore_n (k0 := 0) (lv' := [(0, .int v1)]) (by decide +kernel) rfl (by decide) rfl ?_
  refine sw_iload_n (k0 := 0) 0 rfl (by decide +kernel) rfl ?_
  refine sw_ldcw kn_J6_266 (by decide +kernel) ?_
  refine sw_iand (by decide +kernel) ?_
  refine sw_iload_n (k0 := 0) 0 rfl (by decide +kernel) rfl ?_
  refine sw_iconst (n := 2) (v := 2) (by decide +kernel) (by decide) ?_
  refine sw_iushr (by decide +kernel) ?_
  refine sw_ldcw kn_J6_266 (by decide +kernel) ?_
  refine sw_iand (by decide +kernel) ?_
  refine sw_iadd (by decide +kernel) ?_
  obtain ⟨v3, e4, h⟩ := sw_let_e h
  refine sw_topi e4 ?_
  refine sw_istore_n (k0 := 0) (lv' := [(0, .int v3)]) (by decide +kernel) rfl (by decide) rfl ?_
  refine sw_iload_n (k0 := 0) 0 rfl (by decide +kernel) rfl ?_
  refine sw_iload_n (k0 := 0) 0 rfl (by decide +kernel) rfl ?_
  refine sw_iconst (n := 4) (v := 4) (by decide +kernel) (by decide) ?_
  refine sw_iushr (by decide +kernel) ?_
  refine sw_iadd (by decide +kernel) ?_
  refine sw_ldcw kn_J6_267 (by decide +kernel) ?_
  refine sw_iand (by decide +kernel) ?_
  obtain ⟨v5, e6, h⟩ := sw_let_e h
  refine sw_topi e6 ?_
  refine sw_istore_n (k0 := 0) (lv' := [(0, .int v5)]) (by decide +kernel) rfl (by decide) rfl ?_
  refine sw_iload_n (k0 := 0) 0 rfl (by decide +kernel) rfl ?_
  refine sw_iload_n (k0 := 0) 0 rfl (by decide +kernel) rfl ?_
  refine sw_bipush (n := 8) (v := 8) (by decide +kernel) (by decide) ?_
  refine sw_iushr (by decide +kernel) ?_
  refine sw_iadd (by decide +kernel) ?_
  obtain ⟨v7, e8, h⟩ := sw_let_e h
  refine sw_topi e8 ?_
  refine sw_istore_n (k0 := 0) (lv' := [(0, .int v7)]) (by decide +kernel) rfl (by decide) rfl ?_
  refine sw_iload_n (k0 := 0) 0 rfl (by decide +kernel) rfl ?_
  refine sw_iload_n (k0 := 0) 0 rfl (by decide +kernel) rfl ?_
  refine sw_bipush (n := 16) (v := 16) (by decide +kernel) (by decide) ?_
  refine sw_iushr (by decide +kernel) ?_
  refine sw_iadd (by decide +kernel) ?_
  obtain ⟨v9, e10, h⟩ := sw_let_e h
  refine sw_topi e10 ?_
  refine sw_istore_n (k0 := 0) (lv' := [(0, .int v9)]) (by decide +kernel) rfl (by decide) rfl ?_
  refine sw_iload_n (k0 := 0) 0 rfl (by decide +kernel) rfl ?_
  refine sw_bipush (n := 63) (v := 63) (by decide +kernel) (by decide) ?_
  refine sw_iand (by decide +kernel) ?_
  subst h
  obtain rfl : _ = res := hk
  exact sw_iret (by decide +kernel)
def fX2_measure_L52 (P0 : Nat) (P1 : Nat) (σ : sw_M) (a2 : Int32) (a3 : Int32) (a4 : Int32) (a5 : Int32) (a6 : Int32) (a7 : Int32) (a8 : Int32) : Option ((Int32 × Int32 × Int32 × Int32 × Int32) ⊕ (sw_M)) :=
  sw_let (sw_max a5 a8) fun v1 =>
  sw_let (sw_min a6 a8) fun v3 =>
  sw_let (a7 + 1) fun v5 =>
  some (.inl (a3, a4, v1, v3, v5))
def fX2_measure_L24 (P0 : Nat) (P1 : Nat) (σ : sw_M) (a2 : Int32) (a3 : Int32) (a4 : Int32) (a5 : Int32) (a6 : Int32) (a7 : Int32) : Option ((Int32 × Int32 × Int32 × Int32 × Int32) ⊕ (sw_M)) :=
  if a2 ≤ a7 then
    sw_let (sw_w σ (P0 + 3) 0 a3) fun m2 =>
    sw_let (sw_w m2 (P0 + 3) 1 a4) fun m4 =>
    sw_let (sw_w m4 (P0 + 3) 2 a5) fun m6 =>
    sw_let (sw_w m6 (P0 + 3) 3 a6) fun m8 =>
    sw_let (sw_w m8 (P0 + 3) 4 (fJ6_bitCount_0f7a4 (m8.1 P1 1))) fun m10 =>
    sw_let (sw_w m10 (P0 + 3) 5 (m10.1 P1 4)) fun m12 =>
    some (.inr (m12))
  else
    sw_gd (sw_in a7 5) <|
    sw_let (σ.1 (P1 + 1) a7.toNatClampNeg) fun v15 =>
    sw_let (a3 + v15) fun v17 =>
    if v15 ≤ 0 then
      fX2_measure_L52 P0 P1 σ a2 v17 a4 a5 a6 a7 v15
    else
      sw_let (a4 + 1) fun v20 =>
      fX2_measure_L52 P0 P1 σ a2 v17 v20 a5 a6 a7 v15
def fX2_measure_L19 (P0 : Nat) (P1 : Nat) (σ : sw_M) (a2 : Int32) (a3 : Int32) (a4 : Int32) (a5 : Int32) (b0 : Int32) : Option ((sw_M)) :=
  sw_wh sw_F (fun s => fX2_measure_L24 P0 P1 σ a2 s.1 s.2.1 s.2.2.1 s.2.2.2.1 s.2.2.2.2) (a3, a4, a5, b0, 0)
def fX2_measure (P0 : Nat) (P1 : Nat) (σ : sw_M) (a2 : Int32) : Option (sw_M) :=
  if a2 = 0 then
    fX2_measure_L19 P0 P1 σ a2 0 0 0 0
  else
    fX2_measure_L19 P0 P1 σ a2 0 0 0 999
set_option maxRecDepth 20000 in
theorem sX2_measure_L52 {l : Launch} {E : sw_E} {K : Nat} (hK : 1 ≤ K) (P0 : Nat) (P1 : Nat) (hP0 : sw_isF P0) (hP1 : sw_isV P1) (σ : sw_M) (a2 : Int32) (a3 : Int32) (a4 : Int32) (a5 : Int32) (a6 : Int32) (a7 : Int32) (a8 : Int32) {res : sw_M} {t : (Int32 × Int32 × Int32 × Int32 × Int32) ⊕ (sw_M)} (h : fX2_measure_L52 P0 P1 σ a2 a3 a4 a5 a6 a7 a8 = some t) (hk : (Sum.elim (fun s : Int32 × Int32 × Int32 × Int32 × Int32 => sw_Go l E K RX2 cX2_measure 9 none 24 [(0, .ref P0), (1, .ref P1), (2, .int a2), (3, .int s.1), (4, .int s.2.1), (5, .int s.2.2.1), (6, .int s.2.2.2.1), (7, .int s.2.2.2.2)] [] σ none res) (fun q => q = res)) t) : sw_Go l E K RX2 cX2_measure 9 none 52 [(0, .ref P0), (1, .ref P1), (2, .int a2), (3, .int a3), (4, .int a4), (5, .int a5), (6, .int a6), (7, .int a7), (8, .int a8)] [] σ none res := by
  unfold fX2_measure_L52 at h
  refine sw_iload 5 rfl (by decide +kernel) ?_
  refine sw_iload 8 rfl (by decide +kernel) ?_
  refine sw_mmax mx_X2_45 mx_max_s mx_i mx_max_c (by omega) (Nat.le_of_ble_eq_true rfl) (by decide +kernel) ?_
  obtain ⟨v1, e2, h⟩ := sw_let_e h
  refine sw_topi e2 ?_
  refine sw_istore (i := 5) (lv' := [(5, .int v1), (0, .ref P0), (1, .ref P1), (2, .int a2), (3, .int a3), (4, .int a4), (6, .int a6), (7, .int a7), (8, .int a8)]) (by decide +kernel) (by decide) rfl ?_
  refine sw_iload 6 rfl (by decide +kernel) ?_
  refine sw_iload 8 rfl (by decide +kernel) ?_
  refine sw_mmin mx_X2_51 mx_min_s mx_i mx_min_c (by omega) (Nat.le_of_ble_eq_true rfl) (by decide +kernel) ?_
  obtain ⟨v3, e4, h⟩ := sw_let_e h
  refine sw_topi e4 ?_
  refine sw_istore (i := 6) (lv' := [(6, .int v3), (5, .int v1), (0, .ref P0), (1, .ref P1), (2, .int a2), (3, .int a3), (4, .int a4), (7, .int a7), (8, .int a8)]) (by decide +kernel) (by decide) rfl ?_
  obtain ⟨v5, e6, h⟩ := sw_let_e h
  refine sw_iincv (i := 7) (n := 1) (lv' := [(7, .int v5), (6, .int v3), (5, .int v1), (0, .ref P0), (1, .ref P1), (2, .int a2), (3, .int a3), (4, .int a4), (8, .int a8)]) 7 rfl e6 (by decide +kernel) (by decide) (by decide) rfl ?_
  refine sw_goto (off := (-49)) 24 (by decide +kernel) (by decide) ?_
  cases h
  refine sw_lv [3, 4, 5, 6, 7, 2, 1, 0] rfl ?_
  exact hk
set_option maxRecDepth 20000 in
theorem sX2_measure_L24 {l : Launch} {E : sw_E} {K : Nat} (hK : 1 ≤ K) (P0 : Nat) (P1 : Nat) (hP0 : sw_isF P0) (hP1 : sw_isV P1) (σ : sw_M) (a2 : Int32) (a3 : Int32) (a4 : Int32) (a5 : Int32) (a6 : Int32) (a7 : Int32) {res : sw_M} {t : (Int32 × Int32 × Int32 × Int32 × Int32) ⊕ (sw_M)} (h : fX2_measure_L24 P0 P1 σ a2 a3 a4 a5 a6 a7 = some t) (hk : (Sum.elim (fun s : Int32 × Int32 × Int32 × Int32 × Int32 => sw_Go l E K RX2 cX2_measure 9 none 24 [(0, .ref P0), (1, .ref P1), (2, .int a2), (3, .int s.1), (4, .int s.2.1), (5, .int s.2.2.1), (6, .int s.2.2.2.1), (7, .int s.2.2.2.2)] [] σ none res) (fun q => q = res)) t) : sw_Go l E K RX2 cX2_measure 9 none 24 [(0, .ref P0), (1, .ref P1), (2, .int a2), (3, .int a3), (4, .int a4), (5, .int a5), (6, .int a6), (7, .int a7)] [] σ none res := by
  unfold fX2_measure_L24 at h
  refine sw_iload 7 rfl (by decide +kernel) ?_
  refine sw_iload_n (k0 := 2) 2 rfl (by decide +kernel) rfl ?_
  refine sw_icmp_ge (off := 49) 76 (by decide +kernel) (by decide) (fun c1 => ?_) (fun c1 => ?_)
  · rw [if_pos c1] at h
    refine sw_aload_n (k0 := 0) 0 rfl (by decide +kernel) rfl ?_
    refine gf_X2_18 (i := P0) hP0.o.1 hP0.o.2 (by decide +kernel) ?_
    refine sw_iconst (n := 0) (v := 0) (by decide +kernel) (by decide) ?_
    refine sw_iload_n (k0 := 3) 3 rfl (by decide +kernel) rfl ?_
    obtain ⟨m2, e3, h⟩ := sw_let_e h
    refine sw_iastore (a := (P0 + 3)) hP0.p3.1 hP0.p3.2 (sw_in_e (by decide)) (by decide +kernel) ?_
    refine sw_mem (e3.trans (show sw_w σ (P0 + 3) 0 a3 = sw_w σ (P0 + 3) (0 : Int32).toNatClampNeg a3 from rfl)) ?_
    refine sw_aload_n (k0 := 0) 0 rfl (by decide +kernel) rfl ?_
    refine gf_X2_18 (i := P0) hP0.o.1 hP0.o.2 (by decide +kernel) ?_
    refine sw_iconst (n := 1) (v := 1) (by decide +kernel) (by decide) ?_
    refine sw_iload 4 rfl (by decide +kernel) ?_
    obtain ⟨m4, e5, h⟩ := sw_let_e h
    refine sw_iastore (a := (P0 + 3)) hP0.p3.1 hP0.p3.2 (sw_in_e (by decide)) (by decide +kernel) ?_
    refine sw_mem (e5.trans (show sw_w m2 (P0 + 3) 1 a4 = sw_w m2 (P0 + 3) (1 : Int32).toNatClampNeg a4 from rfl)) ?_
    refine sw_aload_n (k0 := 0) 0 rfl (by decide +kernel) rfl ?_
    refine gf_X2_18 (i := P0) hP0.o.1 hP0.o.2 (by decide +kernel) ?_
    refine sw_iconst (n := 2) (v := 2) (by decide +kernel) (by decide) ?_
    refine sw_iload 5 rfl (by decide +kernel) ?_
    obtain ⟨m6, e7, h⟩ := sw_let_e h
    refine sw_iastore (a := (P0 + 3)) hP0.p3.1 hP0.p3.2 (sw_in_e (by decide)) (by decide +kernel) ?_
    refine sw_mem (e7.trans (show sw_w m4 (P0 + 3) 2 a5 = sw_w m4 (P0 + 3) (2 : Int32).toNatClampNeg a5 from rfl)) ?_
    refine sw_aload_n (k0 := 0) 0 rfl (by decide +kernel) rfl ?_
    refine gf_X2_18 (i := P0) hP0.o.1 hP0.o.2 (by decide +kernel) ?_
    refine sw_iconst (n := 3) (v := 3) (by decide +kernel) (by decide) ?_
    refine sw_iload 6 rfl (by decide +kernel) ?_
    obtain ⟨m8, e9, h⟩ := sw_let_e h
    refine sw_iastore (a := (P0 + 3)) hP0.p3.1 hP0.p3.2 (sw_in_e (by decide)) (by decide +kernel) ?_
    refine sw_mem (e9.trans (show sw_w m6 (P0 + 3) 3 a6 = sw_w m6 (P0 + 3) (3 : Int32).toNatClampNeg a6 from rfl)) ?_
    refine sw_aload_n (k0 := 0) 0 rfl (by decide +kernel) rfl ?_
    refine gf_X2_18 (i := P0) hP0.o.1 hP0.o.2 (by decide +kernel) ?_
    refine sw_iconst (n := 4) (v := 4) (by decide +kernel) (by decide) ?_
    refine sw_aload_n (k0 := 1) 1 rfl (by decide +kernel) rfl ?_
    refine gf_X2_54 (i := P1) hP1.o.1 hP1.o.2 (by decide +kernel) ?_
    refine sw_callSi [.int (m8.1 P1 1)] (sJ6_bitCount_0f7a4 (K := K - 1) (by omega) m8 (m8.1 P1 1) rfl) rfl (by omega) gs_X2_57 hy_J6_bitCount_0f7a4 (by decide) rfl (Nat.le_of_ble_eq_true rfl) (by decide +kernel) ?_
    obtain ⟨m10, e11, h⟩ := sw_let_e h
    refine sw_iastore (a := (P0 + 3)) hP0.p3.1 hP0.p3.2 (sw_in_e (by decide)) (by decide +kernel) ?_
    refine sw_mem (e11.trans (show sw_w m8 (P0 + 3) 4 (fJ6_bitCount_0f7a4 (m8.1 P1 1)) = sw_w m8 (P0 + 3) (4 : Int32).toNatClampNeg (fJ6_bitCount_0f7a4 (m8.1 P1 1)) from rfl)) ?_
    refine sw_aload_n (k0 := 0) 0 rfl (by decide +kernel) rfl ?_
    refine gf_X2_18 (i := P0) hP0.o.1 hP0.o.2 (by decide +kernel) ?_
    refine sw_iconst (n := 5) (v := 5) (by decide +kernel) (by decide) ?_
    refine sw_aload_n (k0 := 1) 1 rfl (by decide +kernel) rfl ?_
    refine gf_X2_63 (i := P1) hP1.o.1 hP1.o.2 (by decide +kernel) ?_
    obtain ⟨m12, e13, h⟩ := sw_let_e h
    refine sw_iastore (a := (P0 + 3)) hP0.p3.1 hP0.p3.2 (sw_in_e (by decide)) (by decide +kernel) ?_
    refine sw_mem (e13.trans (show sw_w m10 (P0 + 3) 5 (m10.1 P1 4) = sw_w m10 (P0 + 3) (5 : Int32).toNatClampNeg (m10.1 P1 4) from rfl)) ?_
    cases h
    obtain rfl : _ = res := hk
    exact sw_vret (by decide +kernel)
  · rw [if_neg c1] at h
    refine sw_aload_n (k0 := 1) 1 rfl (by decide +kernel) rfl ?_
    refine gf_X2_40 (i := P1) hP1.o.1 hP1.o.2 (by decide +kernel) ?_
    refine sw_iload 7 rfl (by decide +kernel) ?_
    obtain ⟨g14, h⟩ := sw_gd_e h
    refine sw_iaload (a := (P1 + 1)) hP1.p1.1 hP1.p1.2 (sw_in_e g14) (by decide +kernel) ?_
    obtain ⟨v15, e16, h⟩ := sw_let_e h
    refine sw_topi e16 ?_
    refine sw_istore (i := 8) (lv' := [(8, .int v15), (0, .ref P0), (1, .ref P1), (2, .int a2), (3, .int a3), (4, .int a4), (5, .int a5), (6, .int a6), (7, .int a7)]) (by decide +kernel) (by decide) rfl ?_
    refine sw_iload_n (k0 := 3) 4 rfl (by decide +kernel) rfl ?_
    refine sw_iload 0 rfl (by decide +kernel) ?_
    refine sw_iadd (by decide +kernel) ?_
    obtain ⟨v17, e18, h⟩ := sw_let_e h
    refine sw_topi e18 ?_
    refine sw_istore_n (k0 := 3) (lv' := [(3, .int v17), (8, .int v15), (0, .ref P0), (1, .ref P1), (2, .int a2), (4, .int a4), (5, .int a5), (6, .int a6), (7, .int a7)]) (by decide +kernel) rfl (by decide) rfl ?_
    refine sw_iload 1 rfl (by decide +kernel) ?_
    refine sw_if_le (off := 6) 52 (by decide +kernel) (by decide) (fun c19 => ?_) (fun c19 => ?_)
    · rw [if_pos c19] at h
      refine sw_lv [2, 3, 4, 0, 5, 6, 7, 8, 1] rfl ?_
      exact sX2_measure_L52 hK P0 P1 hP0 hP1 σ a2 v17 a4 a5 a6 a7 v15 h hk
    · rw [if_neg c19] at h
      obtain ⟨v20, e21, h⟩ := sw_let_e h
      refine sw_iincv (i := 4) (n := 1) (lv' := [(4, .int v20), (3, .int v17), (8, .int v15), (0, .ref P0), (1, .ref P1), (2, .int a2), (5, .int a5), (6, .int a6), (7, .int a7)]) 5 rfl e21 (by decide +kernel) (by decide) (by decide) rfl ?_
      refine sw_lv [3, 4, 5, 1, 0, 6, 7, 8, 2] rfl ?_
      exact sX2_measure_L52 hK P0 P1 hP0 hP1 σ a2 v17 v20 a5 a6 a7 v15 h hk
set_option maxRecDepth 20000 in
theorem sX2_measure_L19 {l : Launch} {E : sw_E} {K : Nat} (hK : 1 ≤ K) (P0 : Nat) (P1 : Nat) (hP0 : sw_isF P0) (hP1 : sw_isV P1) (σ : sw_M) (a2 : Int32) (a3 : Int32) (a4 : Int32) (a5 : Int32) (b0 : Int32) {res : sw_M} {t : (sw_M)} (h : fX2_measure_L19 P0 P1 σ a2 a3 a4 a5 b0 = some t) (hk : (fun q => q = res) t) : sw_Go l E K RX2 cX2_measure 9 none 19 [(0, .ref P0), (1, .ref P1), (2, .int a2), (3, .int a3), (4, .int a4), (5, .int a5)] [.int b0] σ none res := by
  unfold fX2_measure_L19 at h
  refine sw_istore (i := 6) (lv' := [(6, .int b0), (0, .ref P0), (1, .ref P1), (2, .int a2), (3, .int a3), (4, .int a4), (5, .int a5)]) (by decide +kernel) (by decide) rfl ?_
  refine sw_iconst (n := 0) (v := 0) (by decide +kernel) (by decide) ?_
  refine sw_istore (i := 7) (lv' := [(7, .int 0), (6, .int b0), (0, .ref P0), (1, .ref P1), (2, .int a2), (3, .int a3), (4, .int a4), (5, .int a5)]) (by decide +kernel) (by decide) rfl ?_
  refine sw_lv [2, 3, 4, 5, 6, 7, 1, 0] rfl ?_
  exact sw_wh_e (fun s : Int32 × Int32 × Int32 × Int32 × Int32 => sw_Go l E K RX2 cX2_measure 9 none 24 [(0, .ref P0), (1, .ref P1), (2, .int a2), (3, .int s.1), (4, .int s.2.1), (5, .int s.2.2.1), (6, .int s.2.2.2.1), (7, .int s.2.2.2.2)] [] σ none res) (fun q => q = res) (fun s => fX2_measure_L24 P0 P1 σ a2 s.1 s.2.1 s.2.2.1 s.2.2.2.1 s.2.2.2.2) (fun s t hb hk => sX2_measure_L24 hK P0 P1 hP0 hP1 σ a2 s.1 s.2.1 s.2.2.1 s.2.2.2.1 s.2.2.2.2 hb hk) _ _ _ h hk
set_option maxRecDepth 20000 in
theorem sX2_measure {l : Launch} {E : sw_E} {K : Nat} (hK : 1 ≤ K) (P0 : Nat) (P1 : Nat) (hP0 : sw_isF P0) (hP1 : sw_isV P1) (σ : sw_M) (a2 : Int32) {res : sw_M} (h : fX2_measure P0 P1 σ a2 = some res) : sw_Ct l E K yX2_measure cX2_measure 9 none [.ref P0, .ref P1, .int a2] σ none res := by
  obtain ⟨t, hk, h⟩ : ∃ t, t = res ∧ fX2_measure P0 P1 σ a2 = some t := ⟨res, rfl, h⟩
  unfold fX2_measure at h
  refine sw_enter2 (own := RX2) (lv := [(0, .ref P0), (1, .ref P1), (2, .int a2)]) (by decide +kernel) (Nat.le_of_ble_eq_true rfl) rfl rfl ?_
  refine sw_iconst (n := 0) (v := 0) (by decide +kernel) (by decide) ?_
  refine sw_istore_n (k0 := 3) (lv' := [(3, .int 0), (0, .ref P0), (1, .ref P1), (2, .int a2)]) (by decide +kernel) rfl (by decide) rfl ?_
  refine sw_iconst (n := 0) (v := 0) (by decide +kernel) (by decide) ?_
  refine sw_istore (i := 4) (lv' := [(4, .int 0), (3, .int 0), (0, .ref P0), (1, .ref P1), (2, .int a2)]) (by decide +kernel) (by decide) rfl ?_
  refine sw_iconst (n := 0) (v := 0) (by decide +kernel) (by decide) ?_
  refine sw_istore (i := 5) (lv' := [(5, .int 0), (4, .int 0), (3, .int 0), (0, .ref P0), (1, .ref P1), (2, .int a2)]) (by decide +kernel) (by decide) rfl ?_
  refine sw_iload_n (k0 := 2) 5 rfl (by decide +kernel) rfl ?_
  refine sw_if_ne (off := 7) 16 (by decide +kernel) (by decide) (fun c1 => ?_) (fun c1 => ?_)
  · rw [if_neg c1] at h
    refine sw_sipush (n := 999) (v := 999) (by decide +kernel) (by decide) ?_
    refine sw_lv [3, 4, 5, 2, 1, 0] rfl ?_
    exact sX2_measure_L19 hK P0 P1 hP0 hP1 σ a2 0 0 0 999 h hk
  · rw [if_pos c1] at h
    refine sw_iconst (n := 0) (v := 0) (by decide +kernel) (by decide) ?_
    refine sw_goto (off := 6) 19 (by decide +kernel) (by decide) ?_
    refine sw_lv [3, 4, 5, 2, 1, 0] rfl ?_
    exact sX2_measure_L19 hK P0 P1 hP0 hP1 σ a2 0 0 0 0 h hk
def fX2_joined_L203 (a1 : Int32) (a2 : Int32) : Option ((Int32)) :=
  if a1 = 0 then
    if a2 = 0 then
      some (0)
    else
      some (1)
  else
    some (1)
def fX2_joined (a0 : Int32) (a1 : Int32) (a2 : Int32) : Option (Int32) :=
  if a0 = 37 then
    if a2 = 0 then
      some (0)
    else
      sw_gd (sw_nz a2) <|
      some (a1 - a1 / a2 * a2)
  else
    if a0 = 38 then
      if a1 = 0 then
        some (0)
      else
        if a2 = 0 then
          some (0)
        else
          some (1)
    else
      if a0 = 42 then
        some (a1 * a2)
      else
        if a0 = 43 then
          some (a1 + a2)
        else
          if a0 = 45 then
            some (a1 - a2)
          else
            if a0 = 47 then
              if a2 = 0 then
                some (0)
              else
                sw_gd (sw_nz a2) <|
                some (a1 / a2)
            else
              if a0 = 60 then
                if a2 ≤ a1 then
                  some (0)
                else
                  some (1)
              else
                if a0 = 61 then
                  if a1 = a2 then
                    some (1)
                  else
                    some (0)
                else
                  if a0 = 62 then
                    if a1 ≤ a2 then
                      some (0)
                    else
                      some (1)
                  else
                    fX2_joined_L203 a1 a2
set_option maxRecDepth 20000 in
theorem sX2_joined_L203 {l : Launch} {E : sw_E} {K : Nat} (hK : 0 ≤ K) (σ : sw_M) (a1 : Int32) (a2 : Int32) {res : Int32} {t : (Int32)} (h : fX2_joined_L203 a1 a2 = some t) (hk : (fun q => q = res) t) : sw_Go l E K RX2 cX2_joined 3 (some .int) 203 [(1, .int a1), (2, .int a2)] [] σ (some (.int res)) σ := by
  unfold fX2_joined_L203 at h
  refine sw_iload_n (k0 := 1) 0 rfl (by decide +kernel) rfl ?_
  refine sw_if_ne (off := 7) 211 (by decide +kernel) (by decide) (fun c1 => ?_) (fun c1 => ?_)
  · rw [if_neg c1] at h
    refine sw_iconst (n := 1) (v := 1) (by decide +kernel) (by decide) ?_
    refine sw_goto (off := 4) 216 (by decide +kernel) (by decide) ?_
    cases h
    obtain rfl : _ = res := hk
    exact sw_iret (by decide +kernel)
  · rw [if_pos c1] at h
    refine sw_iload_n (k0 := 2) 1 rfl (by decide +kernel) rfl ?_
    refine sw_if_eq (off := 7) 215 (by decide +kernel) (by decide) (fun c2 => ?_) (fun c2 => ?_)
    · rw [if_pos c2] at h
      refine sw_iconst (n := 0) (v := 0) (by decide +kernel) (by decide) ?_
      cases h
      obtain rfl : _ = res := hk
      exact sw_iret (by decide +kernel)
    · rw [if_neg c2] at h
      refine sw_iconst (n := 1) (v := 1) (by decide +kernel) (by decide) ?_
      refine sw_goto (off := 4) 216 (by decide +kernel) (by decide) ?_
      cases h
      obtain rfl : _ = res := hk
      exact sw_iret (by decide +kernel)
set_option maxRecDepth 20000 in
theorem sX2_joined {l : Launch} {E : sw_E} {K : Nat} (hK : 0 ≤ K) (σ : sw_M) (a0 : Int32) (a1 : Int32) (a2 : Int32) {res : Int32} (h : fX2_joined a0 a1 a2 = some res) : sw_Ct l E K yX2_joined cX2_joined 3 (some .int) [.int a0, .int a1, .int a2] σ (some (.int res)) σ := by
  obtain ⟨t, hk, h⟩ : ∃ t, t = res ∧ fX2_joined a0 a1 a2 = some t := ⟨res, rfl, h⟩
  unfold fX2_joined at h
  refine sw_enter2 (own := RX2) (lv := [(0, .int a0), (1, .int a1), (2, .int a2)]) (by decide +kernel) (Nat.le_of_ble_eq_true rfl) rfl rfl ?_
  refine sw_iload_n (k0 := 0) 0 rfl (by decide +kernel) rfl ?_
  by_cases c1 : a0 = 37
  · rw [if_pos c1] at h
    refine sw_tabIn (dflt := 202) (lo := 37) (hi := 62) (offs := #[143, 188, 202, 202, 202, 127, 119, 202, 123, 202, 131, 202, 202, 202, 202, 202, 202, 202, 202, 202, 202, 202, 202, 155, 177, 166]) (len := 119) (off := 143) 144 (by decide +kernel) (by rw [c1]; decide) (by rw [c1]; decide) (by rw [c1]; decide) (by decide) ?_
    refine sw_iload_n (k0 := 2) 2 rfl (by decide +kernel) rfl ?_
    refine sw_if_ne (off := 7) 152 (by decide +kernel) (by decide) (fun c2 => ?_) (fun c2 => ?_)
    · rw [if_neg c2] at h
      refine sw_iload_n (k0 := 1) 1 rfl (by decide +kernel) rfl ?_
      refine sw_iload_n (k0 := 2) 2 rfl (by decide +kernel) rfl ?_
      obtain ⟨g3, h⟩ := sw_gd_e h
      refine sw_irem (by decide +kernel) (sw_nz_e g3) ?_
      cases h
      obtain rfl : _ = res := hk
      exact sw_iret (by decide +kernel)
    · rw [if_pos c2] at h
      refine sw_iconst (n := 0) (v := 0) (by decide +kernel) (by decide) ?_
      refine sw_goto (off := 6) 155 (by decide +kernel) (by decide) ?_
      cases h
      obtain rfl : _ = res := hk
      exact sw_iret (by decide +kernel)
  · rw [if_neg c1] at h
    by_cases c4 : a0 = 38
    · rw [if_pos c4] at h
      refine sw_tabIn (dflt := 202) (lo := 37) (hi := 62) (offs := #[143, 188, 202, 202, 202, 127, 119, 202, 123, 202, 131, 202, 202, 202, 202, 202, 202, 202, 202, 202, 202, 202, 202, 155, 177, 166]) (len := 119) (off := 188) 189 (by decide +kernel) (by rw [c4]; decide) (by rw [c4]; decide) (by rw [c4]; decide) (by decide) ?_
      refine sw_iload_n (k0 := 1) 1 rfl (by decide +kernel) rfl ?_
      refine sw_if_eq (off := 11) 201 (by decide +kernel) (by decide) (fun c5 => ?_) (fun c5 => ?_)
      · rw [if_pos c5] at h
        refine sw_iconst (n := 0) (v := 0) (by decide +kernel) (by decide) ?_
        cases h
        obtain rfl : _ = res := hk
        exact sw_iret (by decide +kernel)
      · rw [if_neg c5] at h
        refine sw_iload_n (k0 := 2) 2 rfl (by decide +kernel) rfl ?_
        refine sw_if_eq (off := 7) 201 (by decide +kernel) (by decide) (fun c6 => ?_) (fun c6 => ?_)
        · rw [if_pos c6] at h
          refine sw_iconst (n := 0) (v := 0) (by decide +kernel) (by decide) ?_
          cases h
          obtain rfl : _ = res := hk
          exact sw_iret (by decide +kernel)
        · rw [if_neg c6] at h
          refine sw_iconst (n := 1) (v := 1) (by decide +kernel) (by decide) ?_
          refine sw_goto (off := 4) 202 (by decide +kernel) (by decide) ?_
          cases h
          obtain rfl : _ = res := hk
          exact sw_iret (by decide +kernel)
    · rw [if_neg c4] at h
      by_cases c7 : a0 = 42
      · rw [if_pos c7] at h
        refine sw_tabIn (dflt := 202) (lo := 37) (hi := 62) (offs := #[143, 188, 202, 202, 202, 127, 119, 202, 123, 202, 131, 202, 202, 202, 202, 202, 202, 202, 202, 202, 202, 202, 202, 155, 177, 166]) (len := 119) (off := 127) 128 (by decide +kernel) (by rw [c7]; decide) (by rw [c7]; decide) (by rw [c7]; decide) (by decide) ?_
        refine sw_iload_n (k0 := 1) 1 rfl (by decide +kernel) rfl ?_
        refine sw_iload_n (k0 := 2) 2 rfl (by decide +kernel) rfl ?_
        refine sw_imul (by decide +kernel) ?_
        cases h
        obtain rfl : _ = res := hk
        exact sw_iret (by decide +kernel)
      · rw [if_neg c7] at h
        by_cases c8 : a0 = 43
        · rw [if_pos c8] at h
          refine sw_tabIn (dflt := 202) (lo := 37) (hi := 62) (offs := #[143, 188, 202, 202, 202, 127, 119, 202, 123, 202, 131, 202, 202, 202, 202, 202, 202, 202, 202, 202, 202, 202, 202, 155, 177, 166]) (len := 119) (off := 119) 120 (by decide +kernel) (by rw [c8]; decide) (by rw [c8]; decide) (by rw [c8]; decide) (by decide) ?_
          refine sw_iload_n (k0 := 1) 1 rfl (by decide +kernel) rfl ?_
          refine sw_iload_n (k0 := 2) 2 rfl (by decide +kernel) rfl ?_
          refine sw_iadd (by decide +kernel) ?_
          cases h
          obtain rfl : _ = res := hk
          exact sw_iret (by decide +kernel)
        · rw [if_neg c8] at h
          by_cases c9 : a0 = 45
          · rw [if_pos c9] at h
            refine sw_tabIn (dflt := 202) (lo := 37) (hi := 62) (offs := #[143, 188, 202, 202, 202, 127, 119, 202, 123, 202, 131, 202, 202, 202, 202, 202, 202, 202, 202, 202, 202, 202, 202, 155, 177, 166]) (len := 119) (off := 123) 124 (by decide +kernel) (by rw [c9]; decide) (by rw [c9]; decide) (by rw [c9]; decide) (by decide) ?_
            refine sw_iload_n (k0 := 1) 1 rfl (by decide +kernel) rfl ?_
            refine sw_iload_n (k0 := 2) 2 rfl (by decide +kernel) rfl ?_
            refine sw_isub (by decide +kernel) ?_
            cases h
            obtain rfl : _ = res := hk
            exact sw_iret (by decide +kernel)
          · rw [if_neg c9] at h
            by_cases c10 : a0 = 47
            · rw [if_pos c10] at h
              refine sw_tabIn (dflt := 202) (lo := 37) (hi := 62) (offs := #[143, 188, 202, 202, 202, 127, 119, 202, 123, 202, 131, 202, 202, 202, 202, 202, 202, 202, 202, 202, 202, 202, 202, 155, 177, 166]) (len := 119) (off := 131) 132 (by decide +kernel) (by rw [c10]; decide) (by rw [c10]; decide) (by rw [c10]; decide) (by decide) ?_
              refine sw_iload_n (k0 := 2) 2 rfl (by decide +kernel) rfl ?_
              refine sw_if_ne (off := 7) 140 (by decide +kernel) (by decide) (fun c11 => ?_) (fun c11 => ?_)
              · rw [if_neg c11] at h
                refine sw_iload_n (k0 := 1) 1 rfl (by decide +kernel) rfl ?_
                refine sw_iload_n (k0 := 2) 2 rfl (by decide +kernel) rfl ?_
                obtain ⟨g12, h⟩ := sw_gd_e h
                refine sw_idiv (by decide +kernel) (sw_nz_e g12) ?_
                cases h
                obtain rfl : _ = res := hk
                exact sw_iret (by decide +kernel)
              · rw [if_pos c11] at h
                refine sw_iconst (n := 0) (v := 0) (by decide +kernel) (by decide) ?_
                refine sw_goto (off := 6) 143 (by decide +kernel) (by decide) ?_
                cases h
                obtain rfl : _ = res := hk
                exact sw_iret (by decide +kernel)
            · rw [if_neg c10] at h
              by_cases c13 : a0 = 60
              · rw [if_pos c13] at h
                refine sw_tabIn (dflt := 202) (lo := 37) (hi := 62) (offs := #[143, 188, 202, 202, 202, 127, 119, 202, 123, 202, 131, 202, 202, 202, 202, 202, 202, 202, 202, 202, 202, 202, 202, 155, 177, 166]) (len := 119) (off := 155) 156 (by decide +kernel) (by rw [c13]; decide) (by rw [c13]; decide) (by rw [c13]; decide) (by decide) ?_
                refine sw_iload_n (k0 := 1) 1 rfl (by decide +kernel) rfl ?_
                refine sw_iload_n (k0 := 2) 2 rfl (by decide +kernel) rfl ?_
                refine sw_icmp_ge (off := 7) 165 (by decide +kernel) (by decide) (fun c14 => ?_) (fun c14 => ?_)
                · rw [if_pos c14] at h
                  refine sw_iconst (n := 0) (v := 0) (by decide +kernel) (by decide) ?_
                  cases h
                  obtain rfl : _ = res := hk
                  exact sw_iret (by decide +kernel)
                · rw [if_neg c14] at h
                  refine sw_iconst (n := 1) (v := 1) (by decide +kernel) (by decide) ?_
                  refine sw_goto (off := 4) 166 (by decide +kernel) (by decide) ?_
                  cases h
                  obtain rfl : _ = res := hk
                  exact sw_iret (by decide +kernel)
              · rw [if_neg c13] at h
                by_cases c15 : a0 = 61
                · rw [if_pos c15] at h
                  refine sw_tabIn (dflt := 202) (lo := 37) (hi := 62) (offs := #[143, 188, 202, 202, 202, 127, 119, 202, 123, 202, 131, 202, 202, 202, 202, 202, 202, 202, 202, 202, 202, 202, 202, 155, 177, 166]) (len := 119) (off := 177) 178 (by decide +kernel) (by rw [c15]; decide) (by rw [c15]; decide) (by rw [c15]; decide) (by decide) ?_
                  refine sw_iload_n (k0 := 1) 1 rfl (by decide +kernel) rfl ?_
                  refine sw_iload_n (k0 := 2) 2 rfl (by decide +kernel) rfl ?_
                  refine sw_icmp_ne (off := 7) 187 (by decide +kernel) (by decide) (fun c16 => ?_) (fun c16 => ?_)
                  · rw [if_neg c16] at h
                    refine sw_iconst (n := 0) (v := 0) (by decide +kernel) (by decide) ?_
                    cases h
                    obtain rfl : _ = res := hk
                    exact sw_iret (by decide +kernel)
                  · rw [if_pos c16] at h
                    refine sw_iconst (n := 1) (v := 1) (by decide +kernel) (by decide) ?_
                    refine sw_goto (off := 4) 188 (by decide +kernel) (by decide) ?_
                    cases h
                    obtain rfl : _ = res := hk
                    exact sw_iret (by decide +kernel)
                · rw [if_neg c15] at h
                  by_cases c17 : a0 = 62
                  · rw [if_pos c17] at h
                    refine sw_tabIn (dflt := 202) (lo := 37) (hi := 62) (offs := #[143, 188, 202, 202, 202, 127, 119, 202, 123, 202, 131, 202, 202, 202, 202, 202, 202, 202, 202, 202, 202, 202, 202, 155, 177, 166]) (len := 119) (off := 166) 167 (by decide +kernel) (by rw [c17]; decide) (by rw [c17]; decide) (by rw [c17]; decide) (by decide) ?_
                    refine sw_iload_n (k0 := 1) 1 rfl (by decide +kernel) rfl ?_
                    refine sw_iload_n (k0 := 2) 2 rfl (by decide +kernel) rfl ?_
                    refine sw_icmp_le (off := 7) 176 (by decide +kernel) (by decide) (fun c18 => ?_) (fun c18 => ?_)
                    · rw [if_pos c18] at h
                      refine sw_iconst (n := 0) (v := 0) (by decide +kernel) (by decide) ?_
                      cases h
                      obtain rfl : _ = res := hk
                      exact sw_iret (by decide +kernel)
                    · rw [if_neg c18] at h
                      refine sw_iconst (n := 1) (v := 1) (by decide +kernel) (by decide) ?_
                      refine sw_goto (off := 4) 177 (by decide +kernel) (by decide) ?_
                      cases h
                      obtain rfl : _ = res := hk
                      exact sw_iret (by decide +kernel)
                  · rw [if_neg c17] at h
                    by_cases c19 : a0 = 39
                    · refine sw_tabIn (dflt := 202) (lo := 37) (hi := 62) (offs := #[143, 188, 202, 202, 202, 127, 119, 202, 123, 202, 131, 202, 202, 202, 202, 202, 202, 202, 202, 202, 202, 202, 202, 155, 177, 166]) (len := 119) (off := 202) 203 (by decide +kernel) (by rw [c19]; decide) (by rw [c19]; decide) (by rw [c19]; decide) (by decide) ?_
                      refine sw_lv [1, 2] rfl ?_
                      exact sX2_joined_L203 hK σ a1 a2 h hk
                    · by_cases c20 : a0 = 40
                      · refine sw_tabIn (dflt := 202) (lo := 37) (hi := 62) (offs := #[143, 188, 202, 202, 202, 127, 119, 202, 123, 202, 131, 202, 202, 202, 202, 202, 202, 202, 202, 202, 202, 202, 202, 155, 177, 166]) (len := 119) (off := 202) 203 (by decide +kernel) (by rw [c20]; decide) (by rw [c20]; decide) (by rw [c20]; decide) (by decide) ?_
                        refine sw_lv [1, 2] rfl ?_
                        exact sX2_joined_L203 hK σ a1 a2 h hk
                      · by_cases c21 : a0 = 41
                        · refine sw_tabIn (dflt := 202) (lo := 37) (hi := 62) (offs := #[143, 188, 202, 202, 202, 127, 119, 202, 123, 202, 131, 202, 202, 202, 202, 202, 202, 202, 202, 202, 202, 202, 202, 155, 177, 166]) (len := 119) (off := 202) 203 (by decide +kernel) (by rw [c21]; decide) (by rw [c21]; decide) (by rw [c21]; decide) (by decide) ?_
                          refine sw_lv [1, 2] rfl ?_
                          exact sX2_joined_L203 hK σ a1 a2 h hk
                        · by_cases c22 : a0 = 44
                          · refine sw_tabIn (dflt := 202) (lo := 37) (hi := 62) (offs := #[143, 188, 202, 202, 202, 127, 119, 202, 123, 202, 131, 202, 202, 202, 202, 202, 202, 202, 202, 202, 202, 202, 202, 155, 177, 166]) (len := 119) (off := 202) 203 (by decide +kernel) (by rw [c22]; decide) (by rw [c22]; decide) (by rw [c22]; decide) (by decide) ?_
                            refine sw_lv [1, 2] rfl ?_
                            exact sX2_joined_L203 hK σ a1 a2 h hk
                          · by_cases c23 : a0 = 46
                            · refine sw_tabIn (dflt := 202) (lo := 37) (hi := 62) (offs := #[143, 188, 202, 202, 202, 127, 119, 202, 123, 202, 131, 202, 202, 202, 202, 202, 202, 202, 202, 202, 202, 202, 202, 155, 177, 166]) (len := 119) (off := 202) 203 (by decide +kernel) (by rw [c23]; decide) (by rw [c23]; decide) (by rw [c23]; decide) (by decide) ?_
                              refine sw_lv [1, 2] rfl ?_
                              exact sX2_joined_L203 hK σ a1 a2 h hk
                            · by_cases c24 : a0 = 48
                              · refine sw_tabIn (dflt := 202) (lo := 37) (hi := 62) (offs := #[143, 188, 202, 202, 202, 127, 119, 202, 123, 202, 131, 202, 202, 202, 202, 202, 202, 202, 202, 202, 202, 202, 202, 155, 177, 166]) (len := 119) (off := 202) 203 (by decide +kernel) (by rw [c24]; decide) (by rw [c24]; decide) (by rw [c24]; decide) (by decide) ?_
                                refine sw_lv [1, 2] rfl ?_
                                exact sX2_joined_L203 hK σ a1 a2 h hk
                              · by_cases c25 : a0 = 49
                                · refine sw_tabIn (dflt := 202) (lo := 37) (hi := 62) (offs := #[143, 188, 202, 202, 202, 127, 119, 202, 123, 202, 131, 202, 202, 202, 202, 202, 202, 202, 202, 202, 202, 202, 202, 155, 177, 166]) (len := 119) (off := 202) 203 (by decide +kernel) (by rw [c25]; decide) (by rw [c25]; decide) (by rw [c25]; decide) (by decide) ?_
                                  refine sw_lv [1, 2] rfl ?_
                                  exact sX2_joined_L203 hK σ a1 a2 h hk
                                · by_cases c26 : a0 = 50
                                  · refine sw_tabIn (dflt := 202) (lo := 37) (hi := 62) (offs := #[143, 188, 202, 202, 202, 127, 119, 202, 123, 202, 131, 202, 202, 202, 202, 202, 202, 202, 202, 202, 202, 202, 202, 155, 177, 166]) (len := 119) (off := 202) 203 (by decide +kernel) (by rw [c26]; decide) (by rw [c26]; decide) (by rw [c26]; decide) (by decide) ?_
                                    refine sw_lv [1, 2] rfl ?_
                                    exact sX2_joined_L203 hK σ a1 a2 h hk
                                  · by_cases c27 : a0 = 51
                                    · refine sw_tabIn (dflt := 202) (lo := 37) (hi := 62) (offs := #[143, 188, 202, 202, 202, 127, 119, 202, 123, 202, 131, 202, 202, 202, 202, 202, 202, 202, 202, 202, 202, 202, 202, 155, 177, 166]) (len := 119) (off := 202) 203 (by decide +kernel) (by rw [c27]; decide) (by rw [c27]; decide) (by rw [c27]; decide) (by decide) ?_
                                      refine sw_lv [1, 2] rfl ?_
                                      exact sX2_joined_L203 hK σ a1 a2 h hk
                                    · by_cases c28 : a0 = 52
                                      · refine sw_tabIn (dflt := 202) (lo := 37) (hi := 62) (offs := #[143, 188, 202, 202, 202, 127, 119, 202, 123, 202, 131, 202, 202, 202, 202, 202, 202, 202, 202, 202, 202, 202, 202, 155, 177, 166]) (len := 119) (off := 202) 203 (by decide +kernel) (by rw [c28]; decide) (by rw [c28]; decide) (by rw [c28]; decide) (by decide) ?_
                                        refine sw_lv [1, 2] rfl ?_
                                        exact sX2_joined_L203 hK σ a1 a2 h hk
                                      · by_cases c29 : a0 = 53
                                        · refine sw_tabIn (dflt := 202) (lo := 37) (hi := 62) (offs := #[143, 188, 202, 202, 202, 127, 119, 202, 123, 202, 131, 202, 202, 202, 202, 202, 202, 202, 202, 202, 202, 202, 202, 155, 177, 166]) (len := 119) (off := 202) 203 (by decide +kernel) (by rw [c29]; decide) (by rw [c29]; decide) (by rw [c29]; decide) (by decide) ?_
                                          refine sw_lv [1, 2] rfl ?_
                                          exact sX2_joined_L203 hK σ a1 a2 h hk
                                        · by_cases c30 : a0 = 54
                                          · refine sw_tabIn (dflt := 202) (lo := 37) (hi := 62) (offs := #[143, 188, 202, 202, 202, 127, 119, 202, 123, 202, 131, 202, 202, 202, 202, 202, 202, 202, 202, 202, 202, 202, 202, 155, 177, 166]) (len := 119) (off := 202) 203 (by decide +kernel) (by rw [c30]; decide) (by rw [c30]; decide) (by rw [c30]; decide) (by decide) ?_
                                            refine sw_lv [1, 2] rfl ?_
                                            exact sX2_joined_L203 hK σ a1 a2 h hk
                                          · by_cases c31 : a0 = 55
                                            · refine sw_tabIn (dflt := 202) (lo := 37) (hi := 62) (offs := #[143, 188, 202, 202, 202, 127, 119, 202, 123, 202, 131, 202, 202, 202, 202, 202, 202, 202, 202, 202, 202, 202, 202, 155, 177, 166]) (len := 119) (off := 202) 203 (by decide +kernel) (by rw [c31]; decide) (by rw [c31]; decide) (by rw [c31]; decide) (by decide) ?_
                                              refine sw_lv [1, 2] rfl ?_
                                              exact sX2_joined_L203 hK σ a1 a2 h hk
                                            · by_cases c32 : a0 = 56
                                              · refine sw_tabIn (dflt := 202) (lo := 37) (hi := 62) (offs := #[143, 188, 202, 202, 202, 127, 119, 202, 123, 202, 131, 202, 202, 202, 202, 202, 202, 202, 202, 202, 202, 202, 202, 155, 177, 166]) (len := 119) (off := 202) 203 (by decide +kernel) (by rw [c32]; decide) (by rw [c32]; decide) (by rw [c32]; decide) (by decide) ?_
                                                refine sw_lv [1, 2] rfl ?_
                                                exact sX2_joined_L203 hK σ a1 a2 h hk
                                              · by_cases c33 : a0 = 57
                                                · refine sw_tabIn (dflt := 202) (lo := 37) (hi := 62) (offs := #[143, 188, 202, 202, 202, 127, 119, 202, 123, 202, 131, 202, 202, 202, 202, 202, 202, 202, 202, 202, 202, 202, 202, 155, 177, 166]) (len := 119) (off := 202) 203 (by decide +kernel) (by rw [c33]; decide) (by rw [c33]; decide) (by rw [c33]; decide) (by decide) ?_
                                                  refine sw_lv [1, 2] rfl ?_
                                                  exact sX2_joined_L203 hK σ a1 a2 h hk
                                                · by_cases c34 : a0 = 58
                                                  · refine sw_tabIn (dflt := 202) (lo := 37) (hi := 62) (offs := #[143, 188, 202, 202, 202, 127, 119, 202, 123, 202, 131, 202, 202, 202, 202, 202, 202, 202, 202, 202, 202, 202, 202, 155, 177, 166]) (len := 119) (off := 202) 203 (by decide +kernel) (by rw [c34]; decide) (by rw [c34]; decide) (by rw [c34]; decide) (by decide) ?_
                                                    refine sw_lv [1, 2] rfl ?_
                                                    exact sX2_joined_L203 hK σ a1 a2 h hk
                                                  · by_cases c35 : a0 = 59
                                                    · refine sw_tabIn (dflt := 202) (lo := 37) (hi := 62) (offs := #[143, 188, 202, 202, 202, 127, 119, 202, 123, 202, 131, 202, 202, 202, 202, 202, 202, 202, 202, 202, 202, 202, 202, 155, 177, 166]) (len := 119) (off := 202) 203 (by decide +kernel) (by rw [c35]; decide) (by rw [c35]; decide) (by rw [c35]; decide) (by decide) ?_
                                                      refine sw_lv [1, 2] rfl ?_
                                                      exact sX2_joined_L203 hK σ a1 a2 h hk
                                                    · have n0 := lv_neT (a := 37) c1 (by decide)
                                                      have n1 := lv_neT (a := 38) c4 (by decide)
                                                      have n2 := lv_neT (a := 42) c7 (by decide)
                                                      have n3 := lv_neT (a := 43) c8 (by decide)
                                                      have n4 := lv_neT (a := 45) c9 (by decide)
                                                      have n5 := lv_neT (a := 47) c10 (by decide)
                                                      have n6 := lv_neT (a := 60) c13 (by decide)
                                                      have n7 := lv_neT (a := 61) c15 (by decide)
                                                      have n8 := lv_neT (a := 62) c17 (by decide)
                                                      have n9 := lv_neT (a := 39) c19 (by decide)
                                                      have n10 := lv_neT (a := 40) c20 (by decide)
                                                      have n11 := lv_neT (a := 41) c21 (by decide)
                                                      have n12 := lv_neT (a := 44) c22 (by decide)
                                                      have n13 := lv_neT (a := 46) c23 (by decide)
                                                      have n14 := lv_neT (a := 48) c24 (by decide)
                                                      have n15 := lv_neT (a := 49) c25 (by decide)
                                                      have n16 := lv_neT (a := 50) c26 (by decide)
                                                      have n17 := lv_neT (a := 51) c27 (by decide)
                                                      have n18 := lv_neT (a := 52) c28 (by decide)
                                                      have n19 := lv_neT (a := 53) c29 (by decide)
                                                      have n20 := lv_neT (a := 54) c30 (by decide)
                                                      have n21 := lv_neT (a := 55) c31 (by decide)
                                                      have n22 := lv_neT (a := 56) c32 (by decide)
                                                      have n23 := lv_neT (a := 57) c33 (by decide)
                                                      have n24 := lv_neT (a := 58) c34 (by decide)
                                                      have n25 := lv_neT (a := 59) c35 (by decide)
                                                      refine sw_tabOut (dflt := 202) (lo := 37) (hi := 62) (offs := #[143, 188, 202, 202, 202, 127, 119, 202, 123, 202, 131, 202, 202, 202, 202, 202, 202, 202, 202, 202, 202, 202, 202, 155, 177, 166]) (len := 119) 203 (by decide +kernel) (by omega) (by decide) ?_
                                                      refine sw_lv [1, 2] rfl ?_
                                                      exact sX2_joined_L203 hK σ a1 a2 h hk
