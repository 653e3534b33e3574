def fX4_addRule (P0 : Nat) (σ : sw_M) (a1 : Int32) (a2 : Int32) (a3 : Int32) (a4 : Int32) : Option (sw_M) :=
  if (σ.1 P0 2) < 6 then
    sw_let ((σ.1 P0 2) * 4) fun v2 =>
    sw_gd (sw_in v2 24) <|
    sw_let (sw_w σ (P0 + 6) v2.toNatClampNeg a1) fun m5 =>
    sw_gd (sw_in (v2 + 1) 24) <|
    sw_let (sw_w m5 (P0 + 6) (v2 + 1).toNatClampNeg a2) fun m8 =>
    sw_gd (sw_in (v2 + 2) 24) <|
    sw_let (sw_w m8 (P0 + 6) (v2 + 2).toNatClampNeg a3) fun m11 =>
    sw_gd (sw_in (v2 + 3) 24) <|
    sw_let (sw_w m11 (P0 + 6) (v2 + 3).toNatClampNeg a4) fun m14 =>
    sw_let (sw_w m14 P0 2 ((m14.1 P0 2) + 1)) fun m16 =>
    some (m16)
  else
    some (σ)
set_option maxRecDepth 20000 in
theorem sX4_addRule {l : Launch} {E : sw_E} {K : Nat} (hK : 0 ≤ K) (P0 : Nat) (hP0 : sw_isP P0) (σ : sw_M) (a1 : Int32) (a2 : Int32) (a3 : Int32) (a4 : Int32) {res : sw_M} (h : fX4_addRule P0 σ a1 a2 a3 a4 = some res) : sw_Ct l E K yX4_addRule cX4_addRule 6 none [.ref P0, .int a1, .int a2, .int a3, .int a4] σ none res := by
  obtain ⟨t, hk, h⟩ : ∃ t, t = res ∧ fX4_addRule P0 σ a1 a2 a3 a4 = some t := ⟨res, rfl, h⟩
  unfold fX4_addRule at h
  refine sw_enter2 (own := RX4) (lv := [(0, .ref P0), (1, .int a1), (2, .int a2), (3, .int a3), (4, .int a4)]) (by decide +kernel) (Nat.le_of_ble_eq_true rfl) rfl rfl ?_
  refine sw_aload_n (k0 := 0) 0 rfl (by decide +kernel) rfl ?_
  refine gf_X4_45 (i := P0) hP0.o.1 hP0.o.2 (by decide +kernel) ?_
  refine sw_bipush (n := 6) (v := 6) (by decide +kernel) (by decide) ?_
  refine sw_icmp_lt (off := 4) 10 (by decide +kernel) (by decide) (fun c1 => ?_) (fun c1 => ?_)
  · rw [if_pos c1] at h
    refine sw_aload_n (k0 := 0) 0 rfl (by decide +kernel) rfl ?_
    refine gf_X4_45 (i := P0) hP0.o.1 hP0.o.2 (by decide +kernel) ?_
    refine sw_iconst (n := 4) (v := 4) (by decide +kernel) (by decide) ?_
    refine sw_imul (by decide +kernel) ?_
    obtain ⟨v2, e3, h⟩ := sw_let_e h
    refine sw_topi e3 ?_
    refine sw_istore (i := 5) (lv' := [(5, .int v2), (0, .ref P0), (1, .int a1), (2, .int a2), (3, .int a3), (4, .int a4)]) (by decide +kernel) (by decide) rfl ?_
    refine sw_aload_n (k0 := 0) 1 rfl (by decide +kernel) rfl ?_
    refine gf_X4_28 (i := P0) hP0.o.1 hP0.o.2 (by decide +kernel) ?_
    refine sw_iload 0 rfl (by decide +kernel) ?_
    refine sw_iload_n (k0 := 1) 2 rfl (by decide +kernel) rfl ?_
    obtain ⟨g4, h⟩ := sw_gd_e h
    obtain ⟨m5, e6, h⟩ := sw_let_e h
    refine sw_iastore (a := (P0 + 6)) hP0.p6.1 hP0.p6.2 (sw_in_e g4) (by decide +kernel) ?_
    refine sw_mem e6 ?_
    refine sw_aload_n (k0 := 0) 1 rfl (by decide +kernel) rfl ?_
    refine gf_X4_28 (i := P0) hP0.o.1 hP0.o.2 (by decide +kernel) ?_
    refine sw_iload 0 rfl (by decide +kernel) ?_
    refine sw_iconst (n := 1) (v := 1) (by decide +kernel) (by decide) ?_
    refine sw_iadd (by decide +kernel) ?_
    refine sw_iload_n (k0 := 2) 3 rfl (by decide +kernel) rfl ?_
    obtain ⟨g7, h⟩ := sw_gd_e h
    obtain ⟨m8, e9, h⟩ := sw_let_e h
    refine sw_iastore (a := (P0 + 6)) hP0.p6.1 hP0.p6.2 (sw_in_e g7) (by decide +kernel) ?_
    refine sw_mem e9 ?_
    refine sw_aload_n (k0 := 0) 1 rfl (by decide +kernel) rfl ?_
    refine gf_X4_28 (i := P0) hP0.o.1 hP0.o.2 (by decide +kernel) ?_
    refine sw_iload 0 rfl (by decide +kernel) ?_
    refine sw_iconst (n := 2) (v := 2) (by decide +kernel) (by decide) ?_
    refine sw_iadd (by decide +kernel) ?_
    refine sw_iload_n (k0 := 3) 4 rfl (by decide +kernel) rfl ?_
    obtain ⟨g10, h⟩ := sw_gd_e h
    obtain ⟨m11, e12, h⟩ := sw_let_e h
    refine sw_iastore (a := (P0 + 6)) hP0.p6.1 hP0.p6.2 (sw_in_e g10) (by decide +kernel) ?_
    refine sw_mem e12 ?_
    refine sw_aload_n (k0 := 0) 1 rfl (by decide +kernel) rfl ?_
    refine gf_X4_28 (i := P0) hP0.o.1 hP0.o.2 (by decide +kernel) ?_
    refine sw_iload 0 rfl (by decide +kernel) ?_
    refine sw_iconst (n := 3) (v := 3) (by decide +kernel) (by decide) ?_
    refine sw_iadd (by decide +kernel) ?_
    refine sw_iload 5 rfl (by decide +kernel) ?_
    obtain ⟨g13, h⟩ := sw_gd_e h
    obtain ⟨m14, e15, h⟩ := sw_let_e h
    refine sw_iastore (a := (P0 + 6)) hP0.p6.1 hP0.p6.2 (sw_in_e g13) (by decide +kernel) ?_
    refine sw_mem e15 ?_
    refine sw_aload_n (k0 := 0) 1 rfl (by decide +kernel) rfl ?_
    refine sw_dup (by decide +kernel) rfl ?_
    refine gf_X4_45 (i := P0) hP0.o.1 hP0.o.2 (by decide +kernel) ?_
    refine sw_iconst (n := 1) (v := 1) (by decide +kernel) (by decide) ?_
    refine sw_iadd (by decide +kernel) ?_
    obtain ⟨m16, e17, h⟩ := sw_let_e h
    refine pf_X4_45 hP0.o.1 hP0.o.2 (by decide +kernel) ?_
    refine sw_mem e17 ?_
    cases h
    obtain rfl : _ = res := hk
    exact sw_vret (by decide +kernel)
  · rw [if_neg c1] at h
    cases h
    obtain rfl : _ = res := hk
    exact sw_vret (by decide +kernel)
def fX4_isKind (P0 : Nat) (σ : sw_M) (a1 : Int32) : Int32 :=
  if a1 < 0 then
    0
  else
    if (σ.1 P0 0) ≤ a1 then
      0
    else
      1
set_option maxRecDepth 20000 in
theorem sX4_isKind {l : Launch} {E : sw_E} {K : Nat} (hK : 0 ≤ K) (P0 : Nat) (hP0 : sw_isP P0) (σ : sw_M) (a1 : Int32) {res : Int32} (h : fX4_isKind P0 σ a1 = res) : sw_Ct l E K yX4_isKind cX4_isKind 2 (some .boolean) [.ref P0, .int a1] σ (some (.int res)) σ := by
  obtain ⟨t, hk, h⟩ : ∃ t, t = res ∧ fX4_isKind P0 σ a1 = t := ⟨res, rfl, h⟩
  unfold fX4_isKind at h
  refine sw_enter2 (own := RX4) (lv := [(0, .ref P0), (1, .int a1)]) (by decide +kernel) (Nat.le_of_ble_eq_true rfl) rfl rfl ?_
  refine sw_iload_n (k0 := 1) 1 rfl (by decide +kernel) rfl ?_
  refine sw_if_lt (off := 15) 16 (by decide +kernel) (by decide) (fun c1 => ?_) (fun c1 => ?_)
  · rw [if_pos c1] at h
    refine sw_iconst (n := 0) (v := 0) (by decide +kernel) (by decide) ?_
    subst h
    obtain rfl : _ = res := hk
    exact sw_zret rfl (by decide +kernel)
  · rw [if_neg c1] at h
    refine sw_iload_n (k0 := 1) 1 rfl (by decide +kernel) rfl ?_
    refine sw_aload_n (k0 := 0) 0 rfl (by decide +kernel) rfl ?_
    refine gf_X4_38 (i := P0) hP0.o.1 hP0.o.2 (by decide +kernel) ?_
    refine sw_icmp_ge (off := 7) 16 (by decide +kernel) (by decide) (fun c2 => ?_) (fun c2 => ?_)
    · rw [if_pos c2] at h
      refine sw_iconst (n := 0) (v := 0) (by decide +kernel) (by decide) ?_
      subst h
      obtain rfl : _ = res := hk
      exact sw_zret rfl (by decide +kernel)
    · rw [if_neg c2] at h
      refine sw_iconst (n := 1) (v := 1) (by decide +kernel) (by decide) ?_
      refine sw_goto (off := 4) 17 (by decide +kernel) (by decide) ?_
      subst h
      obtain rfl : _ = res := hk
      exact sw_zret rfl (by decide +kernel)
theorem bX4_isKind (P0 : Nat) (σ : sw_M) (a1 : Int32) : fX4_isKind P0 σ a1 = 0 ∨ fX4_isKind P0 σ a1 = 1 := by
  simp only [fX4_isKind, sw_let]
  repeat' (first | exact Or.inl rfl | exact Or.inr rfl | refine sw_ite_bo ?_ ?_)
def fX4_isPerson (P0 : Nat) (σ : sw_M) (a1 : Int32) : Int32 :=
  if a1 < 0 then
    0
  else
    if (σ.1 P0 1) ≤ a1 then
      0
    else
      1
set_option maxRecDepth 20000 in
theorem sX4_isPerson {l : Launch} {E : sw_E} {K : Nat} (hK : 0 ≤ K) (P0 : Nat) (hP0 : sw_isP P0) (σ : sw_M) (a1 : Int32) {res : Int32} (h : fX4_isPerson P0 σ a1 = res) : sw_Ct l E K yX4_isPerson cX4_isPerson 2 (some .boolean) [.ref P0, .int a1] σ (some (.int res)) σ := by
  obtain ⟨t, hk, h⟩ : ∃ t, t = res ∧ fX4_isPerson P0 σ a1 = t := ⟨res, rfl, h⟩
  unfold fX4_isPerson at h
  refine sw_enter2 (own := RX4) (lv := [(0, .ref P0), (1, .int a1)]) (by decide +kernel) (Nat.le_of_ble_eq_true rfl) rfl rfl ?_
  refine sw_iload_n (k0 := 1) 1 rfl (by decide +kernel) rfl ?_
  refine sw_if_lt (off := 15) 16 (by decide +kernel) (by decide) (fun c1 => ?_) (fun c1 => ?_)
  · rw [if_pos c1] at h
    refine sw_iconst (n := 0) (v := 0) (by decide +kernel) (by decide) ?_
    subst h
    obtain rfl : _ = res := hk
    exact sw_zret rfl (by decide +kernel)
  · rw [if_neg c1] at h
    refine sw_iload_n (k0 := 1) 1 rfl (by decide +kernel) rfl ?_
    refine sw_aload_n (k0 := 0) 0 rfl (by decide +kernel) rfl ?_
    refine gf_X4_42 (i := P0) hP0.o.1 hP0.o.2 (by decide +kernel) ?_
    refine sw_icmp_ge (off := 7) 16 (by decide +kernel) (by decide) (fun c2 => ?_) (fun c2 => ?_)
    · rw [if_pos c2] at h
      refine sw_iconst (n := 0) (v := 0) (by decide +kernel) (by decide) ?_
      subst h
      obtain rfl : _ = res := hk
      exact sw_zret rfl (by decide +kernel)
    · rw [if_neg c2] at h
      refine sw_iconst (n := 1) (v := 1) (by decide +kernel) (by decide) ?_
      refine sw_goto (off := 4) 17 (by decide +kernel) (by decide) ?_
      subst h
      obtain rfl : _ = res := hk
      exact sw_zret rfl (by decide +kernel)
theorem bX4_isPerson (P0 : Nat) (σ : sw_M) (a1 : Int32) : fX4_isPerson P0 σ a1 = 0 ∨ fX4_isPerson P0 σ a1 = 1 := by
  simp only [fX4_isPerson, sw_let]
  repeat' (first | exact Or.inl rfl | exact Or.inr rfl | refine sw_ite_bo ?_ ?_)
def fX4_isBasin (P0 : Nat) (σ : sw_M) (a1 : Int32) : Int32 :=
  if a1 < 0 then
    0
  else
    if (σ.1 P0 3) ≤ a1 then
      0
    else
      1
set_option maxRecDepth 20000 in
theorem sX4_isBasin {l : Launch} {E : sw_E} {K : Nat} (hK : 0 ≤ K) (P0 : Nat) (hP0 : sw_isP P0) (σ : sw_M) (a1 : Int32) {res : Int32} (h : fX4_isBasin P0 σ a1 = res) : sw_Ct l E K yX4_isBasin cX4_isBasin 2 (some .boolean) [.ref P0, .int a1] σ (some (.int res)) σ := by
  obtain ⟨t, hk, h⟩ : ∃ t, t = res ∧ fX4_isBasin P0 σ a1 = t := ⟨res, rfl, h⟩
  unfold fX4_isBasin at h
  refine sw_enter2 (own := RX4) (lv := [(0, .ref P0), (1, .int a1)]) (by decide +kernel) (Nat.le_of_ble_eq_true rfl) rfl rfl ?_
  refine sw_iload_n (k0 := 1) 1 rfl (by decide +kernel) rfl ?_
  refine sw_if_lt (off := 15) 16 (by decide +kernel) (by decide) (fun c1 => ?_) (fun c1 => ?_)
  · rw [if_pos c1] at h
    refine sw_iconst (n := 0) (v := 0) (by decide +kernel) (by decide) ?_
    subst h
    obtain rfl : _ = res := hk
    exact sw_zret rfl (by decide +kernel)
  · rw [if_neg c1] at h
    refine sw_iload_n (k0 := 1) 1 rfl (by decide +kernel) rfl ?_
    refine sw_aload_n (k0 := 0) 0 rfl (by decide +kernel) rfl ?_
    refine gf_X4_48 (i := P0) hP0.o.1 hP0.o.2 (by decide +kernel) ?_
    refine sw_icmp_ge (off := 7) 16 (by decide +kernel) (by decide) (fun c2 => ?_) (fun c2 => ?_)
    · rw [if_pos c2] at h
      refine sw_iconst (n := 0) (v := 0) (by decide +kernel) (by decide) ?_
      subst h
      obtain rfl : _ = res := hk
      exact sw_zret rfl (by decide +kernel)
    · rw [if_neg c2] at h
      refine sw_iconst (n := 1) (v := 1) (by decide +kernel) (by decide) ?_
      refine sw_goto (off := 4) 17 (by decide +kernel) (by decide) ?_
      subst h
      obtain rfl : _ = res := hk
      exact sw_zret rfl (by decide +kernel)
theorem bX4_isBasin (P0 : Nat) (σ : sw_M) (a1 : Int32) : fX4_isBasin P0 σ a1 = 0 ∨ fX4_isBasin P0 σ a1 = 1 := by
  simp only [fX4_isBasin, sw_let]
  repeat' (first | exact Or.inl rfl | exact Or.inr rfl | refine sw_ite_bo ?_ ?_)
def fX4_canServe_L47 (P0 : Nat) (P1 : Nat) (σ : sw_M) (a2 : Int32) (a3 : Int32) (a4 : Int32) (a5 : Int32) : Option ((Int32 × Int32) ⊕ ((Int32) ⊕ (Int32))) :=
  sw_let (a5 + 1) fun v1 =>
  some (.inl (a4, v1))
def fX4_canServe_L16 (P0 : Nat) (P1 : Nat) (σ : sw_M) (a2 : Int32) (a3 : Int32) (a4 : Int32) (a5 : Int32) : Option ((Int32 × Int32) ⊕ ((Int32) ⊕ (Int32))) :=
  if (σ.1 P0 3) ≤ a5 then
    sw_gd (sw_in a3 (sw_s P1).2) <|
    if a4 ≤ (σ.1 P1 a3.toNatClampNeg) then
      sw_let (a3 + 1) fun v4 =>
      some (.inr (.inl v4))
    else
      some (.inr (.inr (0)))
  else
    if ((a2 >>> (a5 &&& 31)) &&& 1) = 1 then
      sw_b1 (fX4_needs P0 σ a5 a3) fun r7 =>
      sw_let (a4 + r7) fun v9 =>
      fX4_canServe_L47 P0 P1 σ a2 a3 v9 a5
    else
      fX4_canServe_L47 P0 P1 σ a2 a3 a4 a5
def fX4_canServe_L2 (P0 : Nat) (P1 : Nat) (σ : sw_M) (a2 : Int32) (a3 : Int32) : Option ((Int32) ⊕ (Int32)) :=
  if (σ.1 P0 0) ≤ a3 then
    some (.inr (1))
  else
    sw_wh sw_F (fun s => fX4_canServe_L16 P0 P1 σ a2 a3 s.1 s.2) (0, 0)
def fX4_canServe (P0 : Nat) (P1 : Nat) (σ : sw_M) (a2 : Int32) : Option (Int32) :=
  sw_wh sw_F (fun s => fX4_canServe_L2 P0 P1 σ a2 s) 0
set_option maxRecDepth 20000 in
theorem sX4_canServe_L47 {l : Launch} {E : sw_E} {K : Nat} (hK : 1 ≤ K) (P0 : Nat) (P1 : Nat) (hP0 : sw_isP P0) (hP1 : sw_isA 1 P1) (σ : sw_M) (a2 : Int32) (a3 : Int32) (a4 : Int32) (a5 : Int32) {res : Int32} {t : (Int32 × Int32) ⊕ ((Int32) ⊕ (Int32))} (h : fX4_canServe_L47 P0 P1 σ a2 a3 a4 a5 = some t) (hk : (Sum.elim (fun s : Int32 × Int32 => sw_Go l E K RX4 cX4_canServe 6 (some .boolean) 16 [(0, .ref P0), (1, .ref P1), (2, .int a2), (3, .int a3), (4, .int s.1), (5, .int s.2)] [] σ (some (.int res)) σ) (Sum.elim (fun s : Int32 => sw_Go l E K RX4 cX4_canServe 6 (some .boolean) 2 [(0, .ref P0), (1, .ref P1), (2, .int a2), (3, .int s)] [] σ (some (.int res)) σ) (fun q => q = res))) t) : sw_Go l E K RX4 cX4_canServe 6 (some .boolean) 47 [(0, .ref P0), (1, .ref P1), (2, .int a2), (3, .int a3), (4, .int a4), (5, .int a5)] [] σ (some (.int res)) σ := by
  unfold fX4_canServe_L47 at h
  obtain ⟨v1, e2, h⟩ := sw_let_e h
  refine sw_iincv (i := 5) (n := 1) (lv' := [(5, .int v1), (0, .ref P0), (1, .ref P1), (2, .int a2), (3, .int a3), (4, .int a4)]) 5 rfl e2 (by decide +kernel) (by decide) (by decide) rfl ?_
  refine sw_goto (off := (-34)) 16 (by decide +kernel) (by decide) ?_
  cases h
  refine sw_lv [1, 2, 3, 4, 5, 0] rfl ?_
  exact hk
set_option maxRecDepth 20000 in
theorem sX4_canServe_L16 {l : Launch} {E : sw_E} {K : Nat} (hK : 1 ≤ K) (P0 : Nat) (P1 : Nat) (hP0 : sw_isP P0) (hP1 : sw_isA 1 P1) (σ : sw_M) (a2 : Int32) (a3 : Int32) (a4 : Int32) (a5 : Int32) {res : Int32} {t : (Int32 × Int32) ⊕ ((Int32) ⊕ (Int32))} (h : fX4_canServe_L16 P0 P1 σ a2 a3 a4 a5 = some t) (hk : (Sum.elim (fun s : Int32 × Int32 => sw_Go l E K RX4 cX4_canServe 6 (some .boolean) 16 [(0, .ref P0), (1, .ref P1), (2, .int a2), (3, .int a3), (4, .int s.1), (5, .int s.2)] [] σ (some (.int res)) σ) (Sum.elim (fun s : Int32 => sw_Go l E K RX4 cX4_canServe 6 (some .boolean) 2 [(0, .ref P0), (1, .ref P1), (2, .int a2), (3, .int s)] [] σ (some (.int res)) σ) (fun q => q = res))) t) : sw_Go l E K RX4 cX4_canServe 6 (some .boolean) 16 [(0, .ref P0), (1, .ref P1), (2, .int a2), (3, .int a3), (4, .int a4), (5, .int a5)] [] σ (some (.int res)) σ := by
  unfold fX4_canServe_L16 at h
  refine sw_iload 5 rfl (by decide +kernel) ?_
  refine sw_aload_n (k0 := 0) 0 rfl (by decide +kernel) rfl ?_
  refine gf_X4_48 (i := P0) hP0.o.1 hP0.o.2 (by decide +kernel) ?_
  refine sw_icmp_ge (off := 31) 53 (by decide +kernel) (by decide) (fun c1 => ?_) (fun c1 => ?_)
  · rw [if_pos c1] at h
    refine sw_iload 4 rfl (by decide +kernel) ?_
    refine sw_aload_n (k0 := 1) 1 rfl (by decide +kernel) rfl ?_
    refine sw_iload_n (k0 := 3) 3 rfl (by decide +kernel) rfl ?_
    obtain ⟨g2, h⟩ := sw_gd_e h
    refine sw_iaload (a := P1) hP1.1 hP1.s (sw_in_e g2) (by decide +kernel) ?_
    refine sw_icmp_le (off := 5) 63 (by decide +kernel) (by decide) (fun c3 => ?_) (fun c3 => ?_)
    · rw [if_pos c3] at h
      obtain ⟨v4, e5, h⟩ := sw_let_e h
      refine sw_iincv (i := 3) (n := 1) (lv' := [(3, .int v4), (0, .ref P0), (1, .ref P1), (2, .int a2), (4, .int a4), (5, .int a5)]) 3 rfl e5 (by decide +kernel) (by decide) (by decide) rfl ?_
      refine sw_goto (off := (-64)) 2 (by decide +kernel) (by decide) ?_
      cases h
      refine sw_lv [1, 2, 3, 0] rfl ?_
      exact hk
    · rw [if_neg c3] at h
      refine sw_iconst (n := 0) (v := 0) (by decide +kernel) (by decide) ?_
      cases h
      obtain rfl : _ = res := hk
      exact sw_zret rfl (by decide +kernel)
  · rw [if_neg c1] at h
    refine sw_iload_n (k0 := 2) 2 rfl (by decide +kernel) rfl ?_
    refine sw_iload 5 rfl (by decide +kernel) ?_
    refine sw_ishr (by decide +kernel) ?_
    refine sw_iconst (n := 1) (v := 1) (by decide +kernel) (by decide) ?_
    refine sw_iand (by decide +kernel) ?_
    refine sw_iconst (n := 1) (v := 1) (by decide +kernel) (by decide) ?_
    refine sw_icmp_ne (off := 15) 47 (by decide +kernel) (by decide) (fun c6 => ?_) (fun c6 => ?_)
    · rw [if_neg c6] at h
      exact sX4_canServe_L47 hK P0 P1 hP0 hP1 σ a2 a3 a4 a5 h hk
    · rw [if_pos c6] at h
      refine sw_iload 4 rfl (by decide +kernel) ?_
      refine sw_aload_n (k0 := 0) 0 rfl (by decide +kernel) rfl ?_
      refine sw_iload 5 rfl (by decide +kernel) ?_
      refine sw_iload_n (k0 := 3) 3 rfl (by decide +kernel) rfl ?_
      obtain ⟨r7, w8, h⟩ := sw_b1_e h
      refine sw_callVi (ci := 4) (i := P0) [.int a5, .int a3] (sX4_needs (K := K - 1) (by omega) P0 hP0 σ a5 a3 w8) rfl (by omega) rfl gs_X4_96 hy_X4_needs (by decide) hP0.o.1 hP0.o.2 rfl (Nat.le_of_ble_eq_true rfl) (by decide +kernel) ?_
      refine sw_iadd (by decide +kernel) ?_
      obtain ⟨v9, e10, h⟩ := sw_let_e h
      refine sw_topi e10 ?_
      refine sw_istore (i := 4) (lv' := [(4, .int v9), (0, .ref P0), (1, .ref P1), (2, .int a2), (3, .int a3), (5, .int a5)]) (by decide +kernel) (by decide) rfl ?_
      refine sw_lv [1, 2, 3, 4, 0, 5] rfl ?_
      exact sX4_canServe_L47 hK P0 P1 hP0 hP1 σ a2 a3 v9 a5 h hk
set_option maxRecDepth 20000 in
theorem sX4_canServe_L2 {l : Launch} {E : sw_E} {K : Nat} (hK : 1 ≤ K) (P0 : Nat) (P1 : Nat) (hP0 : sw_isP P0) (hP1 : sw_isA 1 P1) (σ : sw_M) (a2 : Int32) (a3 : Int32) {res : Int32} {t : (Int32) ⊕ (Int32)} (h : fX4_canServe_L2 P0 P1 σ a2 a3 = some t) (hk : (Sum.elim (fun s : Int32 => sw_Go l E K RX4 cX4_canServe 6 (some .boolean) 2 [(0, .ref P0), (1, .ref P1), (2, .int a2), (3, .int s)] [] σ (some (.int res)) σ) (fun q => q = res)) t) : sw_Go l E K RX4 cX4_canServe 6 (some .boolean) 2 [(0, .ref P0), (1, .ref P1), (2, .int a2), (3, .int a3)] [] σ (some (.int res)) σ := by
  unfold fX4_canServe_L2 at h
  refine sw_iload_n (k0 := 3) 3 rfl (by decide +kernel) rfl ?_
  refine sw_aload_n (k0 := 0) 0 rfl (by decide +kernel) rfl ?_
  refine gf_X4_38 (i := P0) hP0.o.1 hP0.o.2 (by decide +kernel) ?_
  refine sw_icmp_ge (off := 62) 69 (by decide +kernel) (by decide) (fun c1 => ?_) (fun c1 => ?_)
  · rw [if_pos c1] at h
    refine sw_iconst (n := 1) (v := 1) (by decide +kernel) (by decide) ?_
    cases h
    obtain rfl : _ = res := hk
    exact sw_zret rfl (by decide +kernel)
  · rw [if_neg c1] at h
    refine sw_iconst (n := 0) (v := 0) (by decide +kernel) (by decide) ?_
    refine sw_istore (i := 4) (lv' := [(4, .int 0), (0, .ref P0), (1, .ref P1), (2, .int a2), (3, .int a3)]) (by decide +kernel) (by decide) rfl ?_
    refine sw_iconst (n := 0) (v := 0) (by decide +kernel) (by decide) ?_
    refine sw_istore (i := 5) (lv' := [(5, .int 0), (4, .int 0), (0, .ref P0), (1, .ref P1), (2, .int a2), (3, .int a3)]) (by decide +kernel) (by decide) rfl ?_
    refine sw_lv [2, 3, 4, 5, 1, 0] rfl ?_
    exact sw_wh_e (fun s : Int32 × Int32 => sw_Go l E K RX4 cX4_canServe 6 (some .boolean) 16 [(0, .ref P0), (1, .ref P1), (2, .int a2), (3, .int a3), (4, .int s.1), (5, .int s.2)] [] σ (some (.int res)) σ) (Sum.elim (fun s : Int32 => sw_Go l E K RX4 cX4_canServe 6 (some .boolean) 2 [(0, .ref P0), (1, .ref P1), (2, .int a2), (3, .int s)] [] σ (some (.int res)) σ) (fun q => q = res)) (fun s => fX4_canServe_L16 P0 P1 σ a2 a3 s.1 s.2) (fun s t hb hk => sX4_canServe_L16 hK P0 P1 hP0 hP1 σ a2 a3 s.1 s.2 hb hk) _ _ _ h hk
set_option maxRecDepth 20000 in
theorem sX4_canServe {l : Launch} {E : sw_E} {K : Nat} (hK : 1 ≤ K) (P0 : Nat) (P1 : Nat) (hP0 : sw_isP P0) (hP1 : sw_isA 1 P1) (σ : sw_M) (a2 : Int32) {res : Int32} (h : fX4_canServe P0 P1 σ a2 = some res) : sw_Ct l E K yX4_canServe cX4_canServe 6 (some .boolean) [.ref P0, .ref P1, .int a2] σ (some (.int res)) σ := by
  obtain ⟨t, hk, h⟩ : ∃ t, t = res ∧ fX4_canServe P0 P1 σ a2 = some t := ⟨res, rfl, h⟩
  unfold fX4_canServe at h
  refine sw_enter2 (own := RX4) (lv := [(0, .ref P0), (1, .ref P1), (2, .int a2)]) (by decide +kernel) (Nat.le_of_ble_eq_true rfl) rfl rfl ?_
  refine sw_iconst (n := 0) (v := 0) (by decide +kernel) (by decide) ?_
  refine sw_istore_n (k0 := 3) (lv' := [(3, .int 0), (0, .ref P0), (1, .ref P1), (2, .int a2)]) (by decide +kernel) rfl (by decide) rfl ?_
  refine sw_lv [1, 2, 3, 0] rfl ?_
  exact sw_wh_e (fun s : Int32 => sw_Go l E K RX4 cX4_canServe 6 (some .boolean) 2 [(0, .ref P0), (1, .ref P1), (2, .int a2), (3, .int s)] [] σ (some (.int res)) σ) (fun q => q = res) (fun s => fX4_canServe_L2 P0 P1 σ a2 s) (fun s t hb hk => sX4_canServe_L2 hK P0 P1 hP0 hP1 σ a2 s hb hk) _ _ _ h hk
def fX4_madeOf_L48 (P0 : Nat) (σ : sw_M) (a1 : Int32) (a2 : Int32) (a3 : Int32) : Option ((Int32 × Int32) ⊕ (Int32)) :=
  sw_let (a3 + 1) fun v1 =>
  some (.inl (a2, v1))
def fX4_madeOf_L38 (P0 : Nat) (σ : sw_M) (a1 : Int32) (a2 : Int32) (a3 : Int32) : Option ((Int32 × Int32) ⊕ (Int32)) :=
  sw_b1 (fX4_third P0 σ a3) fun r1 =>
  sw_let (a2 ||| (1 <<< (r1 &&& 31))) fun v3 =>
  fX4_madeOf_L48 P0 σ a1 v3 a3
def fX4_madeOf_L4 (P0 : Nat) (σ : sw_M) (a1 : Int32) (a2 : Int32) (a3 : Int32) : Option ((Int32 × Int32) ⊕ (Int32)) :=
  if (σ.1 P0 2) ≤ a3 then
    some (.inr (a2))
  else
    sw_b1 (fX4_first P0 σ a3) fun r2 =>
    if ((a1 >>> (r2 &&& 31)) &&& 1) = 1 then
      fX4_madeOf_L38 P0 σ a1 a2 a3
    else
      sw_b1 (fX4_second P0 σ a3) fun r5 =>
      if ((a1 >>> (r5 &&& 31)) &&& 1) = 1 then
        fX4_madeOf_L38 P0 σ a1 a2 a3
      else
        fX4_madeOf_L48 P0 σ a1 a2 a3
def fX4_madeOf (P0 : Nat) (σ : sw_M) (a1 : Int32) : Option (Int32) :=
  sw_wh sw_F (fun s => fX4_madeOf_L4 P0 σ a1 s.1 s.2) (0, 0)
set_option maxRecDepth 20000 in
theorem sX4_madeOf_L48 {l : Launch} {E : sw_E} {K : Nat} (hK : 1 ≤ K) (P0 : Nat) (hP0 : sw_isP P0) (σ : sw_M) (a1 : Int32) (a2 : Int32) (a3 : Int32) {res : Int32} {t : (Int32 × Int32) ⊕ (Int32)} (h : fX4_madeOf_L48 P0 σ a1 a2 a3 = some t) (hk : (Sum.elim (fun s : Int32 × Int32 => sw_Go l E K RX4 cX4_madeOf 4 (some .int) 4 [(0, .ref P0), (1, .int a1), (2, .int s.1), (3, .int s.2)] [] σ (some (.int res)) σ) (fun q => q = res)) t) : sw_Go l E K RX4 cX4_madeOf 4 (some .int) 48 [(0, .ref P0), (1, .int a1), (2, .int a2), (3, .int a3)] [] σ (some (.int res)) σ := by
  unfold fX4_madeOf_L48 at h
  obtain ⟨v1, e2, h⟩ := sw_let_e h
  refine sw_iincv (i := 3) (n := 1) (lv' := [(3, .int v1), (0, .ref P0), (1, .int a1), (2, .int a2)]) 3 rfl e2 (by decide +kernel) (by decide) (by decide) rfl ?_
  refine sw_goto (off := (-47)) 4 (by decide +kernel) (by decide) ?_
  cases h
  refine sw_lv [1, 2, 3, 0] rfl ?_
  exact hk
set_option maxRecDepth 20000 in
theorem sX4_madeOf_L38 {l : Launch} {E : sw_E} {K : Nat} (hK : 1 ≤ K) (P0 : Nat) (hP0 : sw_isP P0) (σ : sw_M) (a1 : Int32) (a2 : Int32) (a3 : Int32) {res : Int32} {t : (Int32 × Int32) ⊕ (Int32)} (h : fX4_madeOf_L38 P0 σ a1 a2 a3 = some t) (hk : (Sum.elim (fun s : Int32 × Int32 => sw_Go l E K RX4 cX4_madeOf 4 (some .int) 4 [(0, .ref P0), (1, .int a1), (2, .int s.1), (3, .int s.2)] [] σ (some (.int res)) σ) (fun q => q = res)) t) : sw_Go l E K RX4 cX4_madeOf 4 (some .int) 38 [(0, .ref P0), (1, .int a1), (2, .int a2), (3, .int a3)] [] σ (some (.int res)) σ := by
  unfold fX4_madeOf_L38 at h
  refine sw_iload_n (k0 := 2) 2 rfl (by decide +kernel) rfl ?_
  refine sw_iconst (n := 1) (v := 1) (by decide +kernel) (by decide) ?_
  refine sw_aload_n (k0 := 0) 0 rfl (by decide +kernel) rfl ?_
  refine sw_iload_n (k0 := 3) 3 rfl (by decide +kernel) rfl ?_
  obtain ⟨r1, w2, h⟩ := sw_b1_e h
  refine sw_callVi (ci := 4) (i := P0) [.int a3] (sX4_third (K := K - 1) (by omega) P0 hP0 σ a3 w2) rfl (by omega) rfl gs_X4_109 hy_X4_third (by decide) hP0.o.1 hP0.o.2 rfl (Nat.le_of_ble_eq_true rfl) (by decide +kernel) ?_
  refine sw_ishl (by decide +kernel) ?_
  refine sw_ior (by decide +kernel) ?_
  obtain ⟨v3, e4, h⟩ := sw_let_e h
  refine sw_topi e4 ?_
  refine sw_istore_n (k0 := 2) (lv' := [(2, .int v3), (0, .ref P0), (1, .int a1), (3, .int a3)]) (by decide +kernel) rfl (by decide) rfl ?_
  refine sw_lv [1, 2, 0, 3] rfl ?_
  exact sX4_madeOf_L48 hK P0 hP0 σ a1 v3 a3 h hk
set_option maxRecDepth 20000 in
theorem sX4_madeOf_L4 {l : Launch} {E : sw_E} {K : Nat} (hK : 1 ≤ K) (P0 : Nat) (hP0 : sw_isP P0) (σ : sw_M) (a1 : Int32) (a2 : Int32) (a3 : Int32) {res : Int32} {t : (Int32 × Int32) ⊕ (Int32)} (h : fX4_madeOf_L4 P0 σ a1 a2 a3 = some t) (hk : (Sum.elim (fun s : Int32 × Int32 => sw_Go l E K RX4 cX4_madeOf 4 (some .int) 4 [(0, .ref P0), (1, .int a1), (2, .int s.1), (3, .int s.2)] [] σ (some (.int res)) σ) (fun q => q = res)) t) : sw_Go l E K RX4 cX4_madeOf 4 (some .int) 4 [(0, .ref P0), (1, .int a1), (2, .int a2), (3, .int a3)] [] σ (some (.int res)) σ := by
  unfold fX4_madeOf_L4 at h
  refine sw_iload_n (k0 := 3) 3 rfl (by decide +kernel) rfl ?_
  refine sw_aload_n (k0 := 0) 0 rfl (by decide +kernel) rfl ?_
  refine gf_X4_45 (i := P0) hP0.o.1 hP0.o.2 (by decide +kernel) ?_
  refine sw_icmp_ge (off := 45) 54 (by decide +kernel) (by decide) (fun c1 => ?_) (fun c1 => ?_)
  · rw [if_pos c1] at h
    refine sw_iload_n (k0 := 2) 2 rfl (by decide +kernel) rfl ?_
    cases h
    obtain rfl : _ = res := hk
    exact sw_iret (by decide +kernel)
  · rw [if_neg c1] at h
    refine sw_iload_n (k0 := 1) 1 rfl (by decide +kernel) rfl ?_
    refine sw_aload_n (k0 := 0) 0 rfl (by decide +kernel) rfl ?_
    refine sw_iload_n (k0 := 3) 3 rfl (by decide +kernel) rfl ?_
    obtain ⟨r2, w3, h⟩ := sw_b1_e h
    refine sw_callVi (ci := 4) (i := P0) [.int a3] (sX4_first (K := K - 1) (by omega) P0 hP0 σ a3 w3) rfl (by omega) rfl gs_X4_102 hy_X4_first (by decide) hP0.o.1 hP0.o.2 rfl (Nat.le_of_ble_eq_true rfl) (by decide +kernel) ?_
    refine sw_ishr (by decide +kernel) ?_
    refine sw_iconst (n := 1) (v := 1) (by decide +kernel) (by decide) ?_
    refine sw_iand (by decide +kernel) ?_
    refine sw_iconst (n := 1) (v := 1) (by decide +kernel) (by decide) ?_
    refine sw_icmp_eq (off := 16) 38 (by decide +kernel) (by decide) (fun c4 => ?_) (fun c4 => ?_)
    · rw [if_pos c4] at h
      exact sX4_madeOf_L38 hK P0 hP0 σ a1 a2 a3 h hk
    · rw [if_neg c4] at h
      refine sw_iload_n (k0 := 1) 1 rfl (by decide +kernel) rfl ?_
      refine sw_aload_n (k0 := 0) 0 rfl (by decide +kernel) rfl ?_
      refine sw_iload_n (k0 := 3) 3 rfl (by decide +kernel) rfl ?_
      obtain ⟨r5, w6, h⟩ := sw_b1_e h
      refine sw_callVi (ci := 4) (i := P0) [.int a3] (sX4_second (K := K - 1) (by omega) P0 hP0 σ a3 w6) rfl (by omega) rfl gs_X4_106 hy_X4_second (by decide) hP0.o.1 hP0.o.2 rfl (Nat.le_of_ble_eq_true rfl) (by decide +kernel) ?_
      refine sw_ishr (by decide +kernel) ?_
      refine sw_iconst (n := 1) (v := 1) (by decide +kernel) (by decide) ?_
      refine sw_iand (by decide +kernel) ?_
      refine sw_iconst (n := 1) (v := 1) (by decide +kernel) (by decide) ?_
      refine sw_icmp_ne (off := 13) 48 (by decide +kernel) (by decide) (fun c7 => ?_) (fun c7 => ?_)
      · rw [if_neg c7] at h
        exact sX4_madeOf_L48 hK P0 hP0 σ a1 a2 a3 h hk
      · rw [if_pos c7] at h
        exact sX4_madeOf_L38 hK P0 hP0 σ a1 a2 a3 h hk
set_option maxRecDepth 20000 in
theorem sX4_madeOf {l : Launch} {E : sw_E} {K : Nat} (hK : 1 ≤ K) (P0 : Nat) (hP0 : sw_isP P0) (σ : sw_M) (a1 : Int32) {res : Int32} (h : fX4_madeOf P0 σ a1 = some res) : sw_Ct l E K yX4_madeOf cX4_madeOf 4 (some .int) [.ref P0, .int a1] σ (some (.int res)) σ := by
  obtain ⟨t, hk, h⟩ : ∃ t, t = res ∧ fX4_madeOf P0 σ a1 = some t := ⟨res, rfl, h⟩
  unfold fX4_madeOf at h
  refine sw_enter2 (own := RX4) (lv := [(0, .ref P0), (1, .int a1)]) (by decide +kernel) (Nat.le_of_ble_eq_true rfl) rfl rfl ?_
  refine sw_iconst (n := 0) (v := 0) (by decide +kernel) (by decide) ?_
  refine sw_istore_n (k0 := 2) (lv' := [(2, .int 0), (0, .ref P0), (1, .int a1)]) (by decide +kernel) rfl (by decide) rfl ?_
  refine sw_iconst (n := 0) (v := 0) (by decide +kernel) (by decide) ?_
  refine sw_istore_n (k0 := 3) (lv' := [(3, .int 0), (2, .int 0), (0, .ref P0), (1, .int a1)]) (by decide +kernel) rfl (by decide) rfl ?_
  refine sw_lv [2, 3, 1, 0] rfl ?_
  exact sw_wh_e (fun s : Int32 × Int32 => sw_Go l E K RX4 cX4_madeOf 4 (some .int) 4 [(0, .ref P0), (1, .int a1), (2, .int s.1), (3, .int s.2)] [] σ (some (.int res)) σ) (fun q => q = res) (fun s => fX4_madeOf_L4 P0 σ a1 s.1 s.2) (fun s t hb hk => sX4_madeOf_L4 hK P0 hP0 σ a1 s.1 s.2 hb hk) _ _ _ h hk
def fX7_isBlank (a0 : Int32) : Int32 :=
  if a0 = 32 then
    1
  else
    if a0 = 10 then
      1
    else
      0
set_option maxRecDepth 20000 in
theorem sX7_isBlank {l : Launch} {E : sw_E} {K : Nat} (hK : 0 ≤ K) (σ : sw_M) (a0 : Int32) {res : Int32} (h : fX7_isBlank a0 = res) : sw_Ct l E K yX7_isBlank cX7_isBlank 1 (some .boolean) [.int a0] σ (some (.int res)) σ := by
  obtain ⟨t, hk, h⟩ : ∃ t, t = res ∧ fX7_isBlank a0 = t := ⟨res, rfl, h⟩
  unfold fX7_isBlank at h
  refine sw_enter2 (own := RX7) (lv := [(0, .int a0)]) (by decide +kernel) (Nat.le_of_ble_eq_true rfl) rfl rfl ?_
  refine sw_iload_n (k0 := 0) 0 rfl (by decide +kernel) rfl ?_
  refine sw_bipush (n := 32) (v := 32) (by decide +kernel) (by decide) ?_
  refine sw_icmp_eq (off := 9) 12 (by decide +kernel) (by decide) (fun c1 => ?_) (fun c1 => ?_)
  · rw [if_pos c1] at h
    refine sw_iconst (n := 1) (v := 1) (by decide +kernel) (by decide) ?_
    refine sw_goto (off := 4) 17 (by decide +kernel) (by decide) ?_
    subst h
    obtain rfl : _ = res := hk
    exact sw_zret rfl (by decide +kernel)
  · rw [if_neg c1] at h
    refine sw_iload_n (k0 := 0) 0 rfl (by decide +kernel) rfl ?_
    refine sw_bipush (n := 10) (v := 10) (by decide +kernel) (by decide) ?_
    refine sw_icmp_ne (off := 7) 16 (by decide +kernel) (by decide) (fun c2 => ?_) (fun c2 => ?_)
    · rw [if_neg c2] at h
      refine sw_iconst (n := 0) (v := 0) (by decide +kernel) (by decide) ?_
      subst h
      obtain rfl : _ = res := hk
      exact sw_zret rfl (by decide +kernel)
    · rw [if_pos c2] at h
      refine sw_iconst (n := 1) (v := 1) (by decide +kernel) (by decide) ?_
      refine sw_goto (off := 4) 17 (by decide +kernel) (by decide) ?_
      subst h
      obtain rfl : _ = res := hk
      exact sw_zret rfl (by decide +kernel)
theorem bX7_isBlank (a0 : Int32) : fX7_isBlank a0 = 0 ∨ fX7_isBlank a0 = 1 := by
  simp only [fX7_isBlank, sw_let]
  repeat' (first | exact Or.inl rfl | exact Or.inr rfl | refine sw_ite_bo ?_ ?_)
def fX7_isLetter (a0 : Int32) : Int32 :=
  if a0 < 97 then
    0
  else
    if 122 < a0 then
      0
    else
      1
set_option maxRecDepth 20000 in
theorem sX7_isLetter {l : Launch} {E : sw_E} {K : Nat} (hK : 0 ≤ K) (σ : sw_M) (a0 : Int32) {res : Int32} (h : fX7_isLetter a0 = res) : sw_Ct l E K yX7_isLetter cX7_isLetter 1 (some .boolean) [.int a0] σ (some (.int res)) σ := by
  obtain ⟨t, hk, h⟩ : ∃ t, t = res ∧ fX7_isLetter a0 = t := ⟨res, rfl, h⟩
  unfold fX7_isLetter at h
  refine sw_enter2 (own := RX7) (lv := [(0, .int a0)]) (by decide +kernel) (Nat.le_of_ble_eq_true rfl) rfl rfl ?_
  refine sw_iload_n (k0 := 0) 0 rfl (by decide +kernel) rfl ?_
  refine sw_bipush (n := 97) (v := 97) (by decide +kernel) (by decide) ?_
  refine sw_icmp_lt (off := 13) 16 (by decide +kernel) (by decide) (fun c1 => ?_) (fun c1 => ?_)
  · rw [if_pos c1] at h
    refine sw_iconst (n := 0) (v := 0) (by decide +kernel) (by decide) ?_
    subst h
    obtain rfl : _ = res := hk
    exact sw_zret rfl (by decide +kernel)
  · rw [if_neg c1] at h
    refine sw_iload_n (k0 := 0) 0 rfl (by decide +kernel) rfl ?_
    refine sw_bipush (n := 122) (v := 122) (by decide +kernel) (by decide) ?_
    refine sw_icmp_gt (off := 7) 16 (by decide +kernel) (by decide) (fun c2 => ?_) (fun c2 => ?_)
    · rw [if_pos c2] at h
      refine sw_iconst (n := 0) (v := 0) (by decide +kernel) (by decide) ?_
      subst h
      obtain rfl : _ = res := hk
      exact sw_zret rfl (by decide +kernel)
    · rw [if_neg c2] at h
      refine sw_iconst (n := 1) (v := 1) (by decide +kernel) (by decide) ?_
      refine sw_goto (off := 4) 17 (by decide +kernel) (by decide) ?_
      subst h
      obtain rfl : _ = res := hk
      exact sw_zret rfl (by decide +kernel)
theorem bX7_isLetter (a0 : Int32) : fX7_isLetter a0 = 0 ∨ fX7_isLetter a0 = 1 := by
  simp only [fX7_isLetter, sw_let]
  repeat' (first | exact Or.inl rfl | exact Or.inr rfl | refine sw_ite_bo ?_ ?_)
def fX7_spelled (a0 : Int64) (a2 : Int32) : Int64 :=
  (((a0 * 27) + a2.toInt64) - 97) + 1
set_option maxRecDepth 20000 in
theorem sX7_spelled {l : Launch} {E : sw_E} {K : Nat} (hK : 0 ≤ K) (σ : sw_M) (a0 : Int64) (a2 : Int32) {res : Int64} (h : fX7_spelled a0 a2 = res) : sw_Ct l E K yX7_spelled cX7_spelled 3 (some .long) [.long a0, .int a2] σ (some (.long res)) σ := by
  obtain ⟨t, hk, h⟩ : ∃ t, t = res ∧ fX7_spelled a0 a2 = t := ⟨res, rfl, h⟩
  unfold fX7_spelled at h
  refine sw_enter2 (own := RX7) (lv := [(0, .long a0), (2, .int a2)]) (by decide +kernel) (Nat.le_of_ble_eq_true rfl) rfl rfl ?_
  refine sw_lload_n (k0 := 0) 0 rfl (by decide +kernel) rfl ?_
  refine sw_ldc2 kn_X7_96 (by decide +kernel) ?_
  refine sw_lmul (by decide +kernel) ?_
  refine sw_iload_n (k0 := 2) 1 rfl (by decide +kernel) rfl ?_
  refine sw_i2l (by decide +kernel) ?_
  refine sw_ladd (by decide +kernel) ?_
  refine sw_ldc2 kn_X7_98 (by decide +kernel) ?_
  refine sw_lsub (by decide +kernel) ?_
  refine sw_lconst (n := 1) (v := 1) (by decide +kernel) (by decide) ?_
  refine sw_ladd (by decide +kernel) ?_
  subst h
  obtain rfl : _ = res := hk
  exact sw_lret (by decide +kernel)
def fX7_find_L3 (P0 : Nat) (σ : sw_M) (a1 : Int32) (a2 : Int64) (a4 : Int32) : Option ((Int32) ⊕ (Int32)) :=
  if a1 ≤ a4 then
    some (.inr ((-1)))
  else
    if (Int32.ofNat (sw_s P0).2) ≤ a4 then
      some (.inr ((-1)))
    else
      sw_gd (sw_in a4 (sw_s P0).2) <|
      if (lg_cmp (σ.2.1 P0 a4.toNatClampNeg) a2) = 0 then
        some (.inr (a4))
      else
        sw_let (a4 + 1) fun v5 =>
        some (.inl v5)
def fX7_find (P0 : Nat) (σ : sw_M) (a1 : Int32) (a2 : Int64) : Option (Int32) :=
  sw_wh sw_F (fun s => fX7_find_L3 P0 σ a1 a2 s) 0
set_option maxRecDepth 20000 in
theorem sX7_find_L3 {l : Launch} {E : sw_E} {K : Nat} (hK : 0 ≤ K) (P0 : Nat) (hP0 : sw_isA 4 P0) (σ : sw_M) (a1 : Int32) (a2 : Int64) (a4 : Int32) {res : Int32} {t : (Int32) ⊕ (Int32)} (h : fX7_find_L3 P0 σ a1 a2 a4 = some t) (hk : (Sum.elim (fun s : Int32 => sw_Go l E K RX7 cX7_find 5 (some .int) 3 [(0, .ref P0), (1, .int a1), (2, .long a2), (4, .int s)] [] σ (some (.int res)) σ) (fun q => q = res)) t) : sw_Go l E K RX7 cX7_find 5 (some .int) 3 [(0, .ref P0), (1, .int a1), (2, .long a2), (4, .int a4)] [] σ (some (.int res)) σ := by
  unfold fX7_find_L3 at h
  refine sw_iload 3 rfl (by decide +kernel) ?_
  refine sw_iload_n (k0 := 1) 1 rfl (by decide +kernel) rfl ?_
  refine sw_icmp_ge (off := 28) 34 (by decide +kernel) (by decide) (fun c1 => ?_) (fun c1 => ?_)
  · rw [if_pos c1] at h
    refine sw_iconst (n := (-1)) (v := (-1)) (by decide +kernel) (by decide) ?_
    cases h
    obtain rfl : _ = res := hk
    exact sw_iret (by decide +kernel)
  · rw [if_neg c1] at h
    refine sw_iload 3 rfl (by decide +kernel) ?_
    refine sw_aload_n (k0 := 0) 0 rfl (by decide +kernel) rfl ?_
    refine sw_alen (a := P0) (v := Int32.ofNat (sw_s P0).2) hP0.1 hP0.s (by decide) rfl (by decide +kernel) ?_
    refine sw_icmp_ge (off := 21) 34 (by decide +kernel) (by decide) (fun c2 => ?_) (fun c2 => ?_)
    · rw [if_pos c2] at h
      refine sw_iconst (n := (-1)) (v := (-1)) (by decide +kernel) (by decide) ?_
      cases h
      obtain rfl : _ = res := hk
      exact sw_iret (by decide +kernel)
    · rw [if_neg c2] at h
      refine sw_aload_n (k0 := 0) 0 rfl (by decide +kernel) rfl ?_
      refine sw_iload 3 rfl (by decide +kernel) ?_
      obtain ⟨g3, h⟩ := sw_gd_e h
      refine sw_laload (a := P0) hP0.1 hP0.s (sw_in_e g3) (by decide +kernel) ?_
      refine sw_lload_n (k0 := 2) 2 rfl (by decide +kernel) rfl ?_
      refine sw_lcmp (by decide +kernel) ?_
      refine sw_if_ne (off := 6) 28 (by decide +kernel) (by decide) (fun c4 => ?_) (fun c4 => ?_)
      · rw [if_neg c4] at h
        obtain ⟨v5, e6, h⟩ := sw_let_e h
        refine sw_iincv (i := 4) (n := 1) (lv' := [(4, .int v5), (0, .ref P0), (1, .int a1), (2, .long a2)]) 3 rfl e6 (by decide +kernel) (by decide) (by decide) rfl ?_
        refine sw_goto (off := (-28)) 3 (by decide +kernel) (by decide) ?_
        cases h
        refine sw_lv [1, 2, 3, 0] rfl ?_
        exact hk
      · rw [if_pos c4] at h
        refine sw_iload 3 rfl (by decide +kernel) ?_
        cases h
        obtain rfl : _ = res := hk
        exact sw_iret (by decide +kernel)
set_option maxRecDepth 20000 in
theorem sX7_find {l : Launch} {E : sw_E} {K : Nat} (hK : 0 ≤ K) (P0 : Nat) (hP0 : sw_isA 4 P0) (σ : sw_M) (a1 : Int32) (a2 : Int64) {res : Int32} (h : fX7_find P0 σ a1 a2 = some res) : sw_Ct l E K yX7_find cX7_find 5 (some .int) [.ref P0, .int a1, .long a2] σ (some (.int res)) σ := by
  obtain ⟨t, hk, h⟩ : ∃ t, t = res ∧ fX7_find P0 σ a1 a2 = some t := ⟨res, rfl, h⟩
  unfold fX7_find at h
  refine sw_enter2 (own := RX7) (lv := [(0, .ref P0), (1, .int a1), (2, .long a2)]) (by decide +kernel) (Nat.le_of_ble_eq_true rfl) rfl rfl ?_
  refine sw_iconst (n := 0) (v := 0) (by decide +kernel) (by decide) ?_
  refine sw_istore (i := 4) (lv' := [(4, .int 0), (0, .ref P0), (1, .int a1), (2, .long a2)]) (by decide +kernel) (by decide) rfl ?_
  refine sw_lv [1, 2, 3, 0] rfl ?_
  exact sw_wh_e (fun s : Int32 => sw_Go l E K RX7 cX7_find 5 (some .int) 3 [(0, .ref P0), (1, .int a1), (2, .long a2), (4, .int s)] [] σ (some (.int res)) σ) (fun q => q = res) (fun s => fX7_find_L3 P0 σ a1 a2 s) (fun s t hb hk => sX7_find_L3 hK P0 hP0 σ a1 a2 s hb hk) _ _ _ h hk
def fX7_readWord_L84 (σ : sw_M) (b0 : Int32) : Option ((sw_M)) :=
  sw_let (sw_w σ 2 4 b0) fun m1 =>
  if (m1.1 2 4) = 2 then
    sw_b1 (fX7_find 4 m1 19 (m1.2.1 2 6)) fun r4 =>
    sw_let (sw_w m1 2 7 r4) fun m6 =>
    some (m6)
  else
    some (m1)
def fX7_readWord_L64 (σ : sw_M) : Option ((sw_M)) :=
  if ((σ.1 2 3) - (σ.1 2 5)) ≤ 8 then
    fX7_readWord_L84 σ 2
  else
    fX7_readWord_L84 σ 1
def fX7_readWord_L5 (σ : sw_M) : Option ((sw_M) ⊕ (sw_M)) :=
  if (σ.1 2 1) ≤ (σ.1 2 3) then
    sw_up (fX7_readWord_L64 σ)
  else
    sw_gd (sw_in (σ.1 2 3) 1600) <|
    if (fX7_isLetter (σ.1 3 (σ.1 2 3).toNatClampNeg)) = 0 then
      sw_up (fX7_readWord_L64 σ)
    else
      sw_gd (sw_in (σ.1 2 3) 1600) <|
      sw_let (sw_wL σ 2 6 (fX7_spelled (σ.2.1 2 6) (σ.1 3 (σ.1 2 3).toNatClampNeg))) fun m7 =>
      sw_let (sw_w m7 2 3 ((m7.1 2 3) + 1)) fun m9 =>
      some (.inl m9)
def fX7_readWord (σ : sw_M) : Option (sw_M) :=
  sw_let (sw_wL σ 2 6 0) fun m1 =>
  sw_wh sw_F (fun s => fX7_readWord_L5 s) m1
set_option maxRecDepth 20000 in
theorem sX7_readWord_L84 {l : Launch} {E : sw_E} {K : Nat} (hK : 1 ≤ K) (σ : sw_M) (b0 : Int32) {res : sw_M} {t : (sw_M)} (h : fX7_readWord_L84 σ b0 = some t) (hk : (fun q => q = res) t) : sw_Go l E K RX7 cX7_readWord 1 none 84 [(0, .ref 2)] [.int b0, .ref 2] σ none res := by
  unfold fX7_readWord_L84 at h
  obtain ⟨m1, e2, h⟩ := sw_let_e h
  refine pf_X7_48 (by decide) rfl (by decide +kernel) ?_
  refine sw_mem e2 ?_
  refine sw_aload_n (k0 := 0) 0 rfl (by decide +kernel) rfl ?_
  refine gf_X7_48 (i := 2) (by decide) rfl (by decide +kernel) ?_
  refine sw_iconst (n := 2) (v := 2) (by decide +kernel) (by decide) ?_
  refine sw_icmp_ne (off := 23) 115 (by decide +kernel) (by decide) (fun c3 => ?_) (fun c3 => ?_)
  · rw [if_neg c3] at h
    cases h
    obtain rfl : _ = res := hk
    exact sw_vret (by decide +kernel)
  · rw [if_pos c3] at h
    refine sw_aload_n (k0 := 0) 0 rfl (by decide +kernel) rfl ?_
    refine sw_aload_n (k0 := 0) 0 rfl (by decide +kernel) rfl ?_
    refine gf_X7_21 (i := 2) (by decide) rfl (by decide +kernel) ?_
    refine sw_refj 4 rfl ?_
    refine sw_aload_n (k0 := 0) 0 rfl (by decide +kernel) rfl ?_
    refine gf_X7_21 (i := 2) (by decide) rfl (by decide +kernel) ?_
    refine sw_refj 4 rfl ?_
    refine sw_alen (a := 4) (v := 19) (by decide) rfl (by decide) (by decide) (by decide +kernel) ?_
    refine sw_aload_n (k0 := 0) 0 rfl (by decide +kernel) rfl ?_
    refine gf_X7_66 (i := 2) (by decide) rfl (by decide +kernel) ?_
    obtain ⟨r4, w5, h⟩ := sw_b1_e h
    refine sw_callSi [.ref 4, .int 19, .long (m1.2.1 2 6)] (sX7_find (K := K - 1) (by omega) 4 (sw_A_of (by decide) rfl) m1 19 (m1.2.1 2 6) w5) rfl (by omega) gs_X7_74 hy_X7_find (by decide) rfl (Nat.le_of_ble_eq_true rfl) (by decide +kernel) ?_
    obtain ⟨m6, e7, h⟩ := sw_let_e h
    refine pf_X7_35 (by decide) rfl (by decide +kernel) ?_
    refine sw_mem e7 ?_
    cases h
    obtain rfl : _ = res := hk
    exact sw_vret (by decide +kernel)
set_option maxRecDepth 20000 in
theorem sX7_readWord_L64 {l : Launch} {E : sw_E} {K : Nat} (hK : 1 ≤ K) (σ : sw_M) {res : sw_M} {t : (sw_M)} (h : fX7_readWord_L64 σ = some t) (hk : (fun q => q = res) t) : sw_Go l E K RX7 cX7_readWord 1 none 64 [(0, .ref 2)] [] σ none res := by
  unfold fX7_readWord_L64 at h
  refine sw_aload_n (k0 := 0) 0 rfl (by decide +kernel) rfl ?_
  refine sw_aload_n (k0 := 0) 0 rfl (by decide +kernel) rfl ?_
  refine gf_X7_29 (i := 2) (by decide) rfl (by decide +kernel) ?_
  refine sw_aload_n (k0 := 0) 0 rfl (by decide +kernel) rfl ?_
  refine gf_X7_45 (i := 2) (by decide) rfl (by decide +kernel) ?_
  refine sw_isub (by decide +kernel) ?_
  refine sw_bipush (n := 8) (v := 8) (by decide +kernel) (by decide) ?_
  refine sw_icmp_le (off := 7) 83 (by decide +kernel) (by decide) (fun c1 => ?_) (fun c1 => ?_)
  · rw [if_pos c1] at h
    refine sw_iconst (n := 2) (v := 2) (by decide +kernel) (by decide) ?_
    exact sX7_readWord_L84 hK σ 2 h hk
  · rw [if_neg c1] at h
    refine sw_iconst (n := 1) (v := 1) (by decide +kernel) (by decide) ?_
    refine sw_goto (off := 4) 84 (by decide +kernel) (by decide) ?_
    exact sX7_readWord_L84 hK σ 1 h hk
set_option maxRecDepth 20000 in
theorem sX7_readWord_L5 {l : Launch} {E : sw_E} {K : Nat} (hK : 1 ≤ K) (σ : sw_M) {res : sw_M} {t : (sw_M) ⊕ (sw_M)} (h : fX7_readWord_L5 σ = some t) (hk : (Sum.elim (fun s : sw_M => sw_Go l E K RX7 cX7_readWord 1 none 5 [(0, .ref 2)] [] s none res) (fun q => q = res)) t) : sw_Go l E K RX7 cX7_readWord 1 none 5 [(0, .ref 2)] [] σ none res := by
  unfold fX7_readWord_L5 at h
  refine sw_aload_n (k0 := 0) 0 rfl (by decide +kernel) rfl ?_
  refine gf_X7_29 (i := 2) (by decide) rfl (by decide +kernel) ?_
  refine sw_aload_n (k0 := 0) 0 rfl (by decide +kernel) rfl ?_
  refine gf_X7_25 (i := 2) (by decide) rfl (by decide +kernel) ?_
  refine sw_icmp_ge (off := 51) 64 (by decide +kernel) (by decide) (fun c1 => ?_) (fun c1 => ?_)
  · rw [if_pos c1] at h
    obtain ⟨q1, h1, rfl⟩ := sw_up_e h
    replace h := h1
    exact sX7_readWord_L64 hK σ h hk
  · rw [if_neg c1] at h
    refine sw_aload_n (k0 := 0) 0 rfl (by decide +kernel) rfl ?_
    refine gf_X7_9 (i := 2) (by decide) rfl (by decide +kernel) ?_
    refine sw_refj 3 rfl ?_
    refine sw_aload_n (k0 := 0) 0 rfl (by decide +kernel) rfl ?_
    refine gf_X7_29 (i := 2) (by decide) rfl (by decide +kernel) ?_
    obtain ⟨g3, h⟩ := sw_gd_e h
    refine sw_baload (a := 3) (by decide) rfl (sw_in_e g3) (by decide +kernel) ?_
    refine sw_callSi [.int (σ.1 3 (σ.1 2 3).toNatClampNeg)] (sX7_isLetter (K := K - 1) (by omega) σ (σ.1 3 (σ.1 2 3).toNatClampNeg) rfl) rfl (by omega) gs_X7_51 hy_X7_isLetter (by decide) rfl (Nat.le_of_ble_eq_true rfl) (by decide +kernel) ?_
    refine sw_if_eq (off := 36) 64 (by decide +kernel) (by decide) (fun c4 => ?_) (fun c4 => ?_)
    · rw [if_pos c4] at h
      obtain ⟨q4, h4, rfl⟩ := sw_up_e h
      replace h := h4
      exact sX7_readWord_L64 hK σ h hk
    · rw [if_neg c4] at h
      refine sw_aload_n (k0 := 0) 0 rfl (by decide +kernel) rfl ?_
      refine sw_aload_n (k0 := 0) 0 rfl (by decide +kernel) rfl ?_
      refine gf_X7_66 (i := 2) (by decide) rfl (by decide +kernel) ?_
      refine sw_aload_n (k0 := 0) 0 rfl (by decide +kernel) rfl ?_
      refine gf_X7_9 (i := 2) (by decide) rfl (by decide +kernel) ?_
      refine sw_refj 3 rfl ?_
      refine sw_aload_n (k0 := 0) 0 rfl (by decide +kernel) rfl ?_
      refine gf_X7_29 (i := 2) (by decide) rfl (by decide +kernel) ?_
      obtain ⟨g6, h⟩ := sw_gd_e h
      refine sw_baload (a := 3) (by decide) rfl (sw_in_e g6) (by decide +kernel) ?_
      refine sw_callSl [.long (σ.2.1 2 6), .int (σ.1 3 (σ.1 2 3).toNatClampNeg)] (sX7_spelled (K := K - 1) (by omega) σ (σ.2.1 2 6) (σ.1 3 (σ.1 2 3).toNatClampNeg) rfl) rfl (by omega) gs_X7_70 hy_X7_spelled (by decide) rfl (Nat.le_of_ble_eq_true rfl) (by decide +kernel) ?_
      obtain ⟨m7, e8, h⟩ := sw_let_e h
      refine pf_X7_66 (by decide) rfl (by decide +kernel) ?_
      refine sw_mem e8 ?_
      refine sw_aload_n (k0 := 0) 0 rfl (by decide +kernel) rfl ?_
      refine sw_dup (by decide +kernel) rfl ?_
      refine gf_X7_29 (i := 2) (by decide) rfl (by decide +kernel) ?_
      refine sw_iconst (n := 1) (v := 1) (by decide +kernel) (by decide) ?_
      refine sw_iadd (by decide +kernel) ?_
      obtain ⟨m9, e10, h⟩ := sw_let_e h
      refine pf_X7_29 (by decide) rfl (by decide +kernel) ?_
      refine sw_mem e10 ?_
      refine sw_goto (off := (-56)) 5 (by decide +kernel) (by decide) ?_
      cases h
      exact hk
set_option maxRecDepth 20000 in
theorem sX7_readWord {l : Launch} {E : sw_E} {K : Nat} (hK : 1 ≤ K) (σ : sw_M) {res : sw_M} (h : fX7_readWord σ = some res) : sw_Ct l E K yX7_readWord cX7_readWord 1 none [.ref 2] σ none res := by
  obtain ⟨t, hk, h⟩ : ∃ t, t = res ∧ fX7_readWord σ = some t := ⟨res, rfl, h⟩
  unfold fX7_readWord at h
  refine sw_enter2 (own := RX7) (lv := [(0, .ref 2)]) (by decide +kernel) (Nat.le_of_ble_eq_true rfl) rfl rfl ?_
  refine sw_aload_n (k0 := 0) 0 rfl (by decide +kernel) rfl ?_
  refine sw_lconst (n := 0) (v := 0) (by decide +kernel) (by decide) ?_
  obtain ⟨m1, e2, h⟩ := sw_let_e h
  refine pf_X7_66 (by decide) rfl (by decide +kernel) ?_
  refine sw_mem e2 ?_
  exact sw_wh_e (fun s : sw_M => sw_Go l E K RX7 cX7_readWord 1 none 5 [(0, .ref 2)] [] s none res) (fun q => q = res) (fun s => fX7_readWord_L5 s) (fun s t hb hk => sX7_readWord_L5 hK s hb hk) _ _ _ h hk
def fX7_isDigit (a0 : Int32) : Int32 :=
  if a0 < 48 then
    0
  else
    if 57 < a0 then
      0
    else
      1
set_option maxRecDepth 20000 in
theorem sX7_isDigit {l : Launch} {E : sw_E} {K : Nat} (hK : 0 ≤ K) (σ : sw_M) (a0 : Int32) {res : Int32} (h : fX7_isDigit a0 = res) : sw_Ct l E K yX7_isDigit cX7_isDigit 1 (some .boolean) [.int a0] σ (some (.int res)) σ := by
  obtain ⟨t, hk, h⟩ : ∃ t, t = res ∧ fX7_isDigit a0 = t := ⟨res, rfl, h⟩
  unfold fX7_isDigit at h
  refine sw_enter2 (own := RX7) (lv := [(0, .int a0)]) (by decide +kernel) (Nat.le_of_ble_eq_true rfl) rfl rfl ?_
  refine sw_iload_n (k0 := 0) 0 rfl (by decide +kernel) rfl ?_
  refine sw_bipush (n := 48) (v := 48) (by decide +kernel) (by decide) ?_
  refine sw_icmp_lt (off := 13) 16 (by decide +kernel) (by decide) (fun c1 => ?_) (fun c1 => ?_)
  · rw [if_pos c1] at h
    refine sw_iconst (n := 0) (v := 0) (by decide +kernel) (by decide) ?_
    subst h
    obtain rfl : _ = res := hk
    exact sw_zret rfl (by decide +kernel)
  · rw [if_neg c1] at h
    refine sw_iload_n (k0 := 0) 0 rfl (by decide +kernel) rfl ?_
    refine sw_bipush (n := 57) (v := 57) (by decide +kernel) (by decide) ?_
    refine sw_icmp_gt (off := 7) 16 (by decide +kernel) (by decide) (fun c2 => ?_) (fun c2 => ?_)
    · rw [if_pos c2] at h
      refine sw_iconst (n := 0) (v := 0) (by decide +kernel) (by decide) ?_
      subst h
      obtain rfl : _ = res := hk
      exact sw_zret rfl (by decide +kernel)
    · rw [if_neg c2] at h
      refine sw_iconst (n := 1) (v := 1) (by decide +kernel) (by decide) ?_
      refine sw_goto (off := 4) 17 (by decide +kernel) (by decide) ?_
      subst h
      obtain rfl : _ = res := hk
      exact sw_zret rfl (by decide +kernel)
theorem bX7_isDigit (a0 : Int32) : fX7_isDigit a0 = 0 ∨ fX7_isDigit a0 = 1 := by
  simp only [fX7_isDigit, sw_let]
  repeat' (first | exact Or.inl rfl | exact Or.inr rfl | refine sw_ite_bo ?_ ?_)
def fX7_readNumber_L123 (σ : sw_M) (b0 : Int32) : Option ((sw_M)) :=
  sw_let (sw_w σ 2 4 b0) fun m1 =>
  some (m1)
def fX7_readNumber_L118 (σ : sw_M) : Option ((sw_M)) :=
  fX7_readNumber_L123 σ 1
def fX7_readNumber_L99 (σ : sw_M) (b0 : Int32) : Option ((sw_M)) :=
  if b0 = 0 then
    if ((σ.1 2 3) - (σ.1 2 5)) ≤ 4 then
      fX7_readNumber_L123 σ 3
    else
      fX7_readNumber_L118 σ
  else
    fX7_readNumber_L118 σ
def fX7_readNumber_L98 (σ : sw_M) : Option ((sw_M)) :=
  fX7_readNumber_L99 σ 0
def fX7_readNumber_L68 (σ : sw_M) : Option ((sw_M)) :=
  if (σ.1 2 1) ≤ (σ.1 2 3) then
    fX7_readNumber_L98 σ
  else
    sw_gd (sw_in (σ.1 2 3) 1600) <|
    if (fX7_isLetter (σ.1 3 (σ.1 2 3).toNatClampNeg)) = 0 then
      fX7_readNumber_L98 σ
    else
      fX7_readNumber_L99 σ 1
def fX7_readNumber_L5 (σ : sw_M) : Option ((sw_M) ⊕ (sw_M)) :=
  if (σ.1 2 1) ≤ (σ.1 2 3) then
    sw_up (fX7_readNumber_L68 σ)
  else
    sw_gd (sw_in (σ.1 2 3) 1600) <|
    if (fX7_isDigit (σ.1 3 (σ.1 2 3).toNatClampNeg)) = 0 then
      sw_up (fX7_readNumber_L68 σ)
    else
      sw_gd (sw_in (σ.1 2 3) 1600) <|
      sw_let (sw_w σ 2 8 ((((σ.1 2 8) * 10) + (σ.1 3 (σ.1 2 3).toNatClampNeg)) - 48)) fun m7 =>
      sw_let (sw_w m7 2 3 ((m7.1 2 3) + 1)) fun m9 =>
      some (.inl m9)
def fX7_readNumber (σ : sw_M) : Option (sw_M) :=
  sw_let (sw_w σ 2 8 0) fun m1 =>
  sw_wh sw_F (fun s => fX7_readNumber_L5 s) m1
set_option maxRecDepth 20000 in
theorem sX7_readNumber_L123 {l : Launch} {E : sw_E} {K : Nat} (hK : 1 ≤ K) (σ : sw_M) (b0 : Int32) {res : sw_M} {t : (sw_M)} (h : fX7_readNumber_L123 σ b0 = some t) (hk : (fun q => q = res) t) : sw_Go l E K RX7 cX7_readNumber 2 none 123 [] [.int b0, .ref 2] σ none res := by
  unfold fX7_readNumber_L123 at h
  obtain ⟨m1, e2, h⟩ := sw_let_e h
  refine pf_X7_48 (by decide) rfl (by decide +kernel) ?_
  refine sw_mem e2 ?_
  cases h
  obtain rfl : _ = res := hk
  exact sw_vret (by decide +kernel)
set_option maxRecDepth 20000 in
theorem sX7_readNumber_L118 {l : Launch} {E : sw_E} {K : Nat} (hK : 1 ≤ K) (σ : sw_M) {res : sw_M} {t : (sw_M)} (h : fX7_readNumber_L118 σ = some t) (hk : (fun q => q = res) t) : sw_Go l E K RX7 cX7_readNumber 2 none 118 [] [.ref 2] σ none res := by
  unfold fX7_readNumber_L118 at h
  refine sw_iconst (n := 1) (v := 1) (by decide +kernel) (by decide) ?_
  refine sw_goto (off := 4) 123 (by decide +kernel) (by decide) ?_
  exact sX7_readNumber_L123 hK σ 1 h hk
set_option maxRecDepth 20000 in
theorem sX7_readNumber_L99 {l : Launch} {E : sw_E} {K : Nat} (hK : 1 ≤ K) (σ : sw_M) (b0 : Int32) {res : sw_M} {t : (sw_M)} (h : fX7_readNumber_L99 σ b0 = some t) (hk : (fun q => q = res) t) : sw_Go l E K RX7 cX7_readNumber 2 none 99 [(0, .ref 2)] [.int b0] σ none res := by
  unfold fX7_readNumber_L99 at h
  refine sw_istore_n (k0 := 1) (lv' := [(1, .int b0), (0, .ref 2)]) (by decide +kernel) rfl (by decide) rfl ?_
  refine sw_aload_n (k0 := 0) 1 rfl (by decide +kernel) rfl ?_
  refine sw_iload_n (k0 := 1) 0 rfl (by decide +kernel) rfl ?_
  refine sw_if_ne (off := 16) 118 (by decide +kernel) (by decide) (fun c1 => ?_) (fun c1 => ?_)
  · rw [if_neg c1] at h
    refine sw_lv [] rfl ?_
    exact sX7_readNumber_L118 hK σ h hk
  · rw [if_pos c1] at h
    refine sw_aload_n (k0 := 0) 1 rfl (by decide +kernel) rfl ?_
    refine gf_X7_29 (i := 2) (by decide) rfl (by decide +kernel) ?_
    refine sw_aload_n (k0 := 0) 1 rfl (by decide +kernel) rfl ?_
    refine gf_X7_45 (i := 2) (by decide) rfl (by decide +kernel) ?_
    refine sw_isub (by decide +kernel) ?_
    refine sw_iconst (n := 4) (v := 4) (by decide +kernel) (by decide) ?_
    refine sw_icmp_le (off := 7) 122 (by decide +kernel) (by decide) (fun c2 => ?_) (fun c2 => ?_)
    · rw [if_pos c2] at h
      refine sw_iconst (n := 3) (v := 3) (by decide +kernel) (by decide) ?_
      refine sw_lv [] rfl ?_
      exact sX7_readNumber_L123 hK σ 3 h hk
    · rw [if_neg c2] at h
      refine sw_lv [] rfl ?_
      exact sX7_readNumber_L118 hK σ h hk
set_option maxRecDepth 20000 in
theorem sX7_readNumber_L98 {l : Launch} {E : sw_E} {K : Nat} (hK : 1 ≤ K) (σ : sw_M) {res : sw_M} {t : (sw_M)} (h : fX7_readNumber_L98 σ = some t) (hk : (fun q => q = res) t) : sw_Go l E K RX7 cX7_readNumber 2 none 98 [(0, .ref 2)] [] σ none res := by
  unfold fX7_readNumber_L98 at h
  refine sw_iconst (n := 0) (v := 0) (by decide +kernel) (by decide) ?_
  exact sX7_readNumber_L99 hK σ 0 h hk
set_option maxRecDepth 20000 in
theorem sX7_readNumber_L68 {l : Launch} {E : sw_E} {K : Nat} (hK : 1 ≤ K) (σ : sw_M) {res : sw_M} {t : (sw_M)} (h : fX7_readNumber_L68 σ = some t) (hk : (fun q => q = res) t) : sw_Go l E K RX7 cX7_readNumber 2 none 68 [(0, .ref 2)] [] σ none res := by
  unfold fX7_readNumber_L68 at h
  refine sw_aload_n (k0 := 0) 0 rfl (by decide +kernel) rfl ?_
  refine gf_X7_29 (i := 2) (by decide) rfl (by decide +kernel) ?_
  refine sw_aload_n (k0 := 0) 0 rfl (by decide +kernel) rfl ?_
  refine gf_X7_25 (i := 2) (by decide) rfl (by decide +kernel) ?_
  refine sw_icmp_ge (off := 22) 98 (by decide +kernel) (by decide) (fun c1 => ?_) (fun c1 => ?_)
  · rw [if_pos c1] at h
    exact sX7_readNumber_L98 hK σ h hk
  · rw [if_neg c1] at h
    refine sw_aload_n (k0 := 0) 0 rfl (by decide +kernel) rfl ?_
    refine gf_X7_9 (i := 2) (by decide) rfl (by decide +kernel) ?_
    refine sw_refj 3 rfl ?_
    refine sw_aload_n (k0 := 0) 0 rfl (by decide +kernel) rfl ?_
    refine gf_X7_29 (i := 2) (by decide) rfl (by decide +kernel) ?_
    obtain ⟨g2, h⟩ := sw_gd_e h
    refine sw_baload (a := 3) (by decide) rfl (sw_in_e g2) (by decide +kernel) ?_
    refine sw_callSi [.int (σ.1 3 (σ.1 2 3).toNatClampNeg)] (sX7_isLetter (K := K - 1) (by omega) σ (σ.1 3 (σ.1 2 3).toNatClampNeg) rfl) rfl (by omega) gs_X7_51 hy_X7_isLetter (by decide) rfl (Nat.le_of_ble_eq_true rfl) (by decide +kernel) ?_
    refine sw_if_eq (off := 7) 98 (by decide +kernel) (by decide) (fun c3 => ?_) (fun c3 => ?_)
    · rw [if_pos c3] at h
      exact sX7_readNumber_L98 hK σ h hk
    · rw [if_neg c3] at h
      refine sw_iconst (n := 1) (v := 1) (by decide +kernel) (by decide) ?_
      refine sw_goto (off := 4) 99 (by decide +kernel) (by decide) ?_
      exact sX7_readNumber_L99 hK σ 1 h hk
set_option maxRecDepth 20000 in
theorem sX7_readNumber_L5 {l : Launch} {E : sw_E} {K : Nat} (hK : 1 ≤ K) (σ : sw_M) {res : sw_M} {t : (sw_M) ⊕ (sw_M)} (h : fX7_readNumber_L5 σ = some t) (hk : (Sum.elim (fun s : sw_M => sw_Go l E K RX7 cX7_readNumber 2 none 5 [(0, .ref 2)] [] s none res) (fun q => q = res)) t) : sw_Go l E K RX7 cX7_readNumber 2 none 5 [(0, .ref 2)] [] σ none res := by
  unfold fX7_readNumber_L5 at h
  refine sw_aload_n (k0 := 0) 0 rfl (by decide +kernel) rfl ?_
  refine gf_X7_29 (i := 2) (by decide) rfl (by decide +kernel) ?_
  refine sw_aload_n (k0 := 0) 0 rfl (by decide +kernel) rfl ?_
  refine gf_X7_25 (i := 2) (by decide) rfl (by decide +kernel) ?_
  refine sw_icmp_ge (off := 55) 68 (by decide +kernel) (by decide) (fun c1 => ?_) (fun c1 => ?_)
  · rw [if_pos c1] at h
    obtain ⟨q1, h1, rfl⟩ := sw_up_e h
    replace h := h1
    exact sX7_readNumber_L68 hK σ h hk
  · rw [if_neg c1] at h
    refine sw_aload_n (k0 := 0) 0 rfl (by decide +kernel) rfl ?_
    refine gf_X7_9 (i := 2) (by decide) rfl (by decide +kernel) ?_
    refine sw_refj 3 rfl ?_
    refine sw_aload_n (k0 := 0) 0 rfl (by decide +kernel) rfl ?_
    refine gf_X7_29 (i := 2) (by decide) rfl (by decide +kernel) ?_
    obtain ⟨g3, h⟩ := sw_gd_e h
    refine sw_baload (a := 3) (by decide) rfl (sw_in_e g3) (by decide +kernel) ?_
    refine sw_callSi [.int (σ.1 3 (σ.1 2 3).toNatClampNeg)] (sX7_isDigit (K := K - 1) (by omega) σ (σ.1 3 (σ.1 2 3).toNatClampNeg) rfl) rfl (by omega) gs_X7_57 hy_X7_isDigit (by decide) rfl (Nat.le_of_ble_eq_true rfl) (by decide +kernel) ?_
    refine sw_if_eq (off := 40) 68 (by decide +kernel) (by decide) (fun c4 => ?_) (fun c4 => ?_)
    · rw [if_pos c4] at h
      obtain ⟨q4, h4, rfl⟩ := sw_up_e h
      replace h := h4
      exact sX7_readNumber_L68 hK σ h hk
    · rw [if_neg c4] at h
      refine sw_aload_n (k0 := 0) 0 rfl (by decide +kernel) rfl ?_
      refine sw_aload_n (k0 := 0) 0 rfl (by decide +kernel) rfl ?_
      refine gf_X7_78 (i := 2) (by decide) rfl (by decide +kernel) ?_
      refine sw_bipush (n := 10) (v := 10) (by decide +kernel) (by decide) ?_
      refine sw_imul (by decide +kernel) ?_
      refine sw_aload_n (k0 := 0) 0 rfl (by decide +kernel) rfl ?_
      refine gf_X7_9 (i := 2) (by decide) rfl (by decide +kernel) ?_
      refine sw_refj 3 rfl ?_
      refine sw_aload_n (k0 := 0) 0 rfl (by decide +kernel) rfl ?_
      refine gf_X7_29 (i := 2) (by decide) rfl (by decide +kernel) ?_
      obtain ⟨g6, h⟩ := sw_gd_e h
      refine sw_baload (a := 3) (by decide) rfl (sw_in_e g6) (by decide +kernel) ?_
      refine sw_iadd (by decide +kernel) ?_
      refine sw_bipush (n := 48) (v := 48) (by decide +kernel) (by decide) ?_
      refine sw_isub (by decide +kernel) ?_
      obtain ⟨m7, e8, h⟩ := sw_let_e h
      refine pf_X7_78 (by decide) rfl (by decide +kernel) ?_
      refine sw_mem e8 ?_
      refine sw_aload_n (k0 := 0) 0 rfl (by decide +kernel) rfl ?_
      refine sw_dup (by decide +kernel) rfl ?_
      refine gf_X7_29 (i := 2) (by decide) rfl (by decide +kernel) ?_
      refine sw_iconst (n := 1) (v := 1) (by decide +kernel) (by decide) ?_
      refine sw_iadd (by decide +kernel) ?_
      obtain ⟨m9, e10, h⟩ := sw_let_e h
      refine pf_X7_29 (by decide) rfl (by decide +kernel) ?_
      refine sw_mem e10 ?_
      refine sw_goto (off := (-60)) 5 (by decide +kernel) (by decide) ?_
      cases h
      exact hk
set_option maxRecDepth 20000 in
theorem sX7_readNumber {l : Launch} {E : sw_E} {K : Nat} (hK : 1 ≤ K) (σ : sw_M) {res : sw_M} (h : fX7_readNumber σ = some res) : sw_Ct l E K yX7_readNumber cX7_readNumber 2 none [.ref 2] σ none res := by
  obtain ⟨t, hk, h⟩ : ∃ t, t = res ∧ fX7_readNumber σ = some t := ⟨res, rfl, h⟩
  unfold fX7_readNumber at h
  refine sw_enter2 (own := RX7) (lv := [(0, .ref 2)]) (by decide +kernel) (Nat.le_of_ble_eq_true rfl) rfl rfl ?_
  refine sw_aload_n (k0 := 0) 0 rfl (by decide +kernel) rfl ?_
  refine sw_iconst (n := 0) (v := 0) (by decide +kernel) (by decide) ?_
  obtain ⟨m1, e2, h⟩ := sw_let_e h
  refine pf_X7_78 (by decide) rfl (by decide +kernel) ?_
  refine sw_mem e2 ?_
  exact sw_wh_e (fun s : sw_M => sw_Go l E K RX7 cX7_readNumber 2 none 5 [(0, .ref 2)] [] s none res) (fun q => q = res) (fun s => fX7_readNumber_L5 s) (fun s t hb hk => sX7_readNumber_L5 hK s hb hk) _ _ _ h hk
def fX7_readSign_L46 (σ : sw_M) : Option ((sw_M)) :=
  sw_let (sw_w σ 2 3 ((σ.1 2 3) + 1)) fun m1 =>
  some (m1)
def fX7_readSign_L30 (σ : sw_M) (a1 : Int32) (b0 : Int32) : Option ((sw_M)) :=
  sw_let (sw_w σ 2 4 b0) fun m1 =>
  if (m1.1 2 4) = 4 then
    sw_let (sw_w m1 2 9 a1) fun m4 =>
    fX7_readSign_L46 m4
  else
    fX7_readSign_L46 m1
def fX7_readSign_L29 (σ : sw_M) (a1 : Int32) : Option ((sw_M)) :=
  fX7_readSign_L30 σ a1 1
def fX7_readSign (σ : sw_M) : Option (sw_M) :=
  sw_gd (sw_in (σ.1 2 3) 1600) <|
  sw_let (σ.1 3 (σ.1 2 3).toNatClampNeg) fun v2 =>
  if v2 ≤ 0 then
    fX7_readSign_L29 σ v2
  else
    if (sw_sgn ((v2.toUInt32 % 65536).toInt32)) < 0 then
      fX7_readSign_L29 σ v2
    else
      fX7_readSign_L30 σ v2 4
def sw_RS (l : Launch) (E : sw_E) : Prop := ∀ (K : Nat) (σ res : sw_M), 8 ≤ K → fX7_readSign σ = some res → sw_Ct l E K yX7_readSign cX7_readSign 2 none [.ref 2] σ none res
theorem sX7_readSign {l : Launch} {E : sw_E} {K : Nat} (hE : sw_RS l E) (hK : 8 ≤ K) (σ : sw_M) {res : sw_M} (h : fX7_readSign σ = some res) : sw_Ct l E K yX7_readSign cX7_readSign 2 none [.ref 2] σ none res := hE K σ res hK h
def fX7_readNext_L49 (σ : sw_M) : Option ((sw_M)) :=
  sw_let (sw_w σ 2 5 (σ.1 2 3)) fun m1 =>
  if (m1.1 2 3) < (m1.1 2 1) then
    sw_gd (sw_in (m1.1 2 3) 1600) <|
    if (fX7_isLetter (m1.1 3 (m1.1 2 3).toNatClampNeg)) = 0 then
      sw_gd (sw_in (m1.1 2 3) 1600) <|
      if (fX7_isDigit (m1.1 3 (m1.1 2 3).toNatClampNeg)) = 0 then
        sw_b1 (fX7_readSign m1) fun m8 =>
        some (m8)
      else
        sw_b1 (fX7_readNumber m1) fun m10 =>
        some (m10)
    else
      sw_b1 (fX7_readWord m1) fun m12 =>
      some (m12)
  else
    sw_let (sw_w m1 2 4 0) fun m14 =>
    some (m14)
def fX7_readNext_L10 (σ : sw_M) : Option ((sw_M) ⊕ (sw_M)) :=
  if (σ.1 2 1) ≤ (σ.1 2 3) then
    sw_up (fX7_readNext_L49 σ)
  else
    sw_gd (sw_in (σ.1 2 3) 1600) <|
    if (fX7_isBlank (σ.1 3 (σ.1 2 3).toNatClampNeg)) = 0 then
      sw_up (fX7_readNext_L49 σ)
    else
      sw_let (sw_w σ 2 3 ((σ.1 2 3) + 1)) fun m6 =>
      some (.inl m6)
def fX7_readNext (σ : sw_M) : Option (sw_M) :=
  sw_let (sw_w σ 2 7 (-1)) fun m1 =>
  sw_let (sw_w m1 2 9 0) fun m3 =>
  sw_wh sw_F (fun s => fX7_readNext_L10 s) m3
set_option maxRecDepth 20000 in
theorem sX7_readNext_L49 {l : Launch} {E : sw_E} {K : Nat} (hE : sw_RS l E) (hK : 9 ≤ K) (σ : sw_M) {res : sw_M} {t : (sw_M)} (h : fX7_readNext_L49 σ = some t) (hk : (fun q => q = res) t) : sw_Go l E K RX7 cX7_readNext 1 none 49 [(0, .ref 2)] [] σ none res := by
  unfold fX7_readNext_L49 at h
  refine sw_aload_n (k0 := 0) 0 rfl (by decide +kernel) rfl ?_
  refine sw_aload_n (k0 := 0) 0 rfl (by decide +kernel) rfl ?_
  refine gf_X7_29 (i := 2) (by decide) rfl (by decide +kernel) ?_
  obtain ⟨m1, e2, h⟩ := sw_let_e h
  refine pf_X7_45 (by decide) rfl (by decide +kernel) ?_
  refine sw_mem e2 ?_
  refine sw_aload_n (k0 := 0) 0 rfl (by decide +kernel) rfl ?_
  refine gf_X7_29 (i := 2) (by decide) rfl (by decide +kernel) ?_
  refine sw_aload_n (k0 := 0) 0 rfl (by decide +kernel) rfl ?_
  refine gf_X7_25 (i := 2) (by decide) rfl (by decide +kernel) ?_
  refine sw_icmp_lt (off := 11) 76 (by decide +kernel) (by decide) (fun c3 => ?_) (fun c3 => ?_)
  · rw [if_pos c3] at h
    refine sw_aload_n (k0 := 0) 0 rfl (by decide +kernel) rfl ?_
    refine gf_X7_9 (i := 2) (by decide) rfl (by decide +kernel) ?_
    refine sw_refj 3 rfl ?_
    refine sw_aload_n (k0 := 0) 0 rfl (by decide +kernel) rfl ?_
    refine gf_X7_29 (i := 2) (by decide) rfl (by decide +kernel) ?_
    obtain ⟨g4, h⟩ := sw_gd_e h
    refine sw_baload (a := 3) (by decide) rfl (sw_in_e g4) (by decide +kernel) ?_
    refine sw_callSi [.int (m1.1 3 (m1.1 2 3).toNatClampNeg)] (sX7_isLetter (K := K - 1) (by omega) m1 (m1.1 3 (m1.1 2 3).toNatClampNeg) rfl) rfl (by omega) gs_X7_51 hy_X7_isLetter (by decide) rfl (Nat.le_of_ble_eq_true rfl) (by decide +kernel) ?_
    refine sw_if_eq (off := 10) 98 (by decide +kernel) (by decide) (fun c5 => ?_) (fun c5 => ?_)
    · rw [if_pos c5] at h
      refine sw_aload_n (k0 := 0) 0 rfl (by decide +kernel) rfl ?_
      refine gf_X7_9 (i := 2) (by decide) rfl (by decide +kernel) ?_
      refine sw_refj 3 rfl ?_
      refine sw_aload_n (k0 := 0) 0 rfl (by decide +kernel) rfl ?_
      refine gf_X7_29 (i := 2) (by decide) rfl (by decide +kernel) ?_
      obtain ⟨g6, h⟩ := sw_gd_e h
      refine sw_baload (a := 3) (by decide) rfl (sw_in_e g6) (by decide +kernel) ?_
      refine sw_callSi [.int (m1.1 3 (m1.1 2 3).toNatClampNeg)] (sX7_isDigit (K := K - 1) (by omega) m1 (m1.1 3 (m1.1 2 3).toNatClampNeg) rfl) rfl (by omega) gs_X7_57 hy_X7_isDigit (by decide) rfl (Nat.le_of_ble_eq_true rfl) (by decide +kernel) ?_
      refine sw_if_eq (off := 10) 120 (by decide +kernel) (by decide) (fun c7 => ?_) (fun c7 => ?_)
      · rw [if_pos c7] at h
        refine sw_aload_n (k0 := 0) 0 rfl (by decide +kernel) rfl ?_
        obtain ⟨m8, w9, h⟩ := sw_b1_e h
        refine sw_callVv (ci := 7) (i := 2) [] (sX7_readSign (K := K - 1) hE (by omega) m1 w9) rfl (by omega) rfl gs_X7_63 hy_X7_readSign (by decide) (by decide) rfl rfl (Nat.le_of_ble_eq_true rfl) (by decide +kernel) ?_
        cases h
        obtain rfl : _ = res := hk
        exact sw_vret (by decide +kernel)
      · rw [if_neg c7] at h
        refine sw_aload_n (k0 := 0) 0 rfl (by decide +kernel) rfl ?_
        obtain ⟨m10, w11, h⟩ := sw_b1_e h
        refine sw_callVv (ci := 7) (i := 2) [] (sX7_readNumber (K := K - 1) (by omega) m1 w11) rfl (by omega) rfl gs_X7_60 hy_X7_readNumber (by decide) (by decide) rfl rfl (Nat.le_of_ble_eq_true rfl) (by decide +kernel) ?_
        refine sw_goto (off := 7) 124 (by decide +kernel) (by decide) ?_
        cases h
        obtain rfl : _ = res := hk
        exact sw_vret (by decide +kernel)
    · rw [if_neg c5] at h
      refine sw_aload_n (k0 := 0) 0 rfl (by decide +kernel) rfl ?_
      obtain ⟨m12, w13, h⟩ := sw_b1_e h
      refine sw_callVv (ci := 7) (i := 2) [] (sX7_readWord (K := K - 1) (by omega) m1 w13) rfl (by omega) rfl gs_X7_54 hy_X7_readWord (by decide) (by decide) rfl rfl (Nat.le_of_ble_eq_true rfl) (by decide +kernel) ?_
      refine sw_goto (off := 29) 124 (by decide +kernel) (by decide) ?_
      cases h
      obtain rfl : _ = res := hk
      exact sw_vret (by decide +kernel)
  · rw [if_neg c3] at h
    refine sw_aload_n (k0 := 0) 0 rfl (by decide +kernel) rfl ?_
    refine sw_iconst (n := 0) (v := 0) (by decide +kernel) (by decide) ?_
    obtain ⟨m14, e15, h⟩ := sw_let_e h
    refine pf_X7_48 (by decide) rfl (by decide +kernel) ?_
    refine sw_mem e15 ?_
    refine sw_goto (off := 51) 124 (by decide +kernel) (by decide) ?_
    cases h
    obtain rfl : _ = res := hk
    exact sw_vret (by decide +kernel)
set_option maxRecDepth 20000 in
theorem sX7_readNext_L10 {l : Launch} {E : sw_E} {K : Nat} (hE : sw_RS l E) (hK : 9 ≤ K) (σ : sw_M) {res : sw_M} {t : (sw_M) ⊕ (sw_M)} (h : fX7_readNext_L10 σ = some t) (hk : (Sum.elim (fun s : sw_M => sw_Go l E K RX7 cX7_readNext 1 none 10 [(0, .ref 2)] [] s none res) (fun q => q = res)) t) : sw_Go l E K RX7 cX7_readNext 1 none 10 [(0, .ref 2)] [] σ none res := by
  unfold fX7_readNext_L10 at h
  refine sw_aload_n (k0 := 0) 0 rfl (by decide +kernel) rfl ?_
  refine gf_X7_29 (i := 2) (by decide) rfl (by decide +kernel) ?_
  refine sw_aload_n (k0 := 0) 0 rfl (by decide +kernel) rfl ?_
  refine gf_X7_25 (i := 2) (by decide) rfl (by decide +kernel) ?_
  refine sw_icmp_ge (off := 31) 49 (by decide +kernel) (by decide) (fun c1 => ?_) (fun c1 => ?_)
  · rw [if_pos c1] at h
    obtain ⟨q1, h1, rfl⟩ := sw_up_e h
    replace h := h1
    exact sX7_readNext_L49 hE hK σ h hk
  · rw [if_neg c1] at h
    refine sw_aload_n (k0 := 0) 0 rfl (by decide +kernel) rfl ?_
    refine gf_X7_9 (i := 2) (by decide) rfl (by decide +kernel) ?_
    refine sw_refj 3 rfl ?_
    refine sw_aload_n (k0 := 0) 0 rfl (by decide +kernel) rfl ?_
    refine gf_X7_29 (i := 2) (by decide) rfl (by decide +kernel) ?_
    obtain ⟨g3, h⟩ := sw_gd_e h
    refine sw_baload (a := 3) (by decide) rfl (sw_in_e g3) (by decide +kernel) ?_
    refine sw_callSi [.int (σ.1 3 (σ.1 2 3).toNatClampNeg)] (sX7_isBlank (K := K - 1) (by omega) σ (σ.1 3 (σ.1 2 3).toNatClampNeg) rfl) rfl (by omega) gs_X7_41 hy_X7_isBlank (by decide) rfl (Nat.le_of_ble_eq_true rfl) (by decide +kernel) ?_
    refine sw_if_eq (off := 16) 49 (by decide +kernel) (by decide) (fun c4 => ?_) (fun c4 => ?_)
    · rw [if_pos c4] at h
      obtain ⟨q4, h4, rfl⟩ := sw_up_e h
      replace h := h4
      exact sX7_readNext_L49 hE hK σ h hk
    · rw [if_neg c4] at h
      refine sw_aload_n (k0 := 0) 0 rfl (by decide +kernel) rfl ?_
      refine sw_dup (by decide +kernel) rfl ?_
      refine gf_X7_29 (i := 2) (by decide) rfl (by decide +kernel) ?_
      refine sw_iconst (n := 1) (v := 1) (by decide +kernel) (by decide) ?_
      refine sw_iadd (by decide +kernel) ?_
      obtain ⟨m6, e7, h⟩ := sw_let_e h
      refine pf_X7_29 (by decide) rfl (by decide +kernel) ?_
      refine sw_mem e7 ?_
      refine sw_goto (off := (-36)) 10 (by decide +kernel) (by decide) ?_
      cases h
      exact hk
set_option maxRecDepth 20000 in
theorem sX7_readNext {l : Launch} {E : sw_E} {K : Nat} (hE : sw_RS l E) (hK : 9 ≤ K) (σ : sw_M) {res : sw_M} (h : fX7_readNext σ = some res) : sw_Ct l E K yX7_readNext cX7_readNext 1 none [.ref 2] σ none res := by
  obtain ⟨t, hk, h⟩ : ∃ t, t = res ∧ fX7_readNext σ = some t := ⟨res, rfl, h⟩
  unfold fX7_readNext at h
  refine sw_enter2 (own := RX7) (lv := [(0, .ref 2)]) (by decide +kernel) (Nat.le_of_ble_eq_true rfl) rfl rfl ?_
  refine sw_aload_n (k0 := 0) 0 rfl (by decide +kernel) rfl ?_
  refine sw_iconst (n := (-1)) (v := (-1)) (by decide +kernel) (by decide) ?_
  obtain ⟨m1, e2, h⟩ := sw_let_e h
  refine pf_X7_35 (by decide) rfl (by decide +kernel) ?_
  refine sw_mem e2 ?_
  refine sw_aload_n (k0 := 0) 0 rfl (by decide +kernel) rfl ?_
  refine sw_iconst (n := 0) (v := 0) (by decide +kernel) (by decide) ?_
  obtain ⟨m3, e4, h⟩ := sw_let_e h
  refine pf_X7_38 (by decide) rfl (by decide +kernel) ?_
  refine sw_mem e4 ?_
  exact sw_wh_e (fun s : sw_M => sw_Go l E K RX7 cX7_readNext 1 none 10 [(0, .ref 2)] [] s none res) (fun q => q = res) (fun s => fX7_readNext_L10 s) (fun s t hb hk => sX7_readNext_L10 hE hK s hb hk) _ _ _ h hk
def fX7_readFirst (σ : sw_M) : Option (sw_M) :=
  sw_let (sw_w σ 2 3 0) fun m1 =>
  sw_b1 (fX7_readNext m1) fun m3 =>
  some (m3)
set_option maxRecDepth 20000 in
theorem sX7_readFirst {l : Launch} {E : sw_E} {K : Nat} (hE : sw_RS l E) (hK : 10 ≤ K) (σ : sw_M) {res : sw_M} (h : fX7_readFirst σ = some res) : sw_Ct l E K yX7_readFirst cX7_readFirst 1 none [.ref 2] σ none res := by
  obtain ⟨t, hk, h⟩ : ∃ t, t = res ∧ fX7_readFirst σ = some t := ⟨res, rfl, h⟩
  unfold fX7_readFirst at h
  refine sw_enter2 (own := RX7) (lv := [(0, .ref 2)]) (by decide +kernel) (Nat.le_of_ble_eq_true rfl) rfl rfl ?_
  refine sw_aload_n (k0 := 0) 0 rfl (by decide +kernel) rfl ?_
  refine sw_iconst (n := 0) (v := 0) (by decide +kernel) (by decide) ?_
  obtain ⟨m1, e2, h⟩ := sw_let_e h
  refine pf_X7_29 (by decide) rfl (by decide +kernel) ?_
  refine sw_mem e2 ?_
  refine sw_aload_n (k0 := 0) 0 rfl (by decide +kernel) rfl ?_
  obtain ⟨m3, w4, h⟩ := sw_b1_e h
  refine sw_callVv (ci := 7) (i := 2) [] (sX7_readNext (K := K - 1) hE (by omega) m1 w4) rfl (by omega) rfl gs_X7_32 hy_X7_readNext (by decide) (by decide) rfl rfl (Nat.le_of_ble_eq_true rfl) (by decide +kernel) ?_
  cases h
  obtain rfl : _ = res := hk
  exact sw_vret (by decide +kernel)
def fX5_begin (σ : sw_M) : Option (sw_M) :=
  sw_let (sw_w σ 1 2 0) fun m1 =>
  sw_let (sw_w m1 1 3 (-1)) fun m3 =>
  sw_b1 (fX4_clear (sw_pl (m3.2.2 1)) m3) fun m5 =>
  sw_b1 (fX7_readFirst m5) fun m7 =>
  some (m7)
set_option maxRecDepth 20000 in
theorem sX5_begin {l : Launch} {E : sw_E} {K : Nat} (hE : sw_RS l E) (hK : 11 ≤ K) (σ : sw_M) {res : sw_M} (h : fX5_begin σ = some res) : sw_Ct l E K yX5_begin cX5_begin 1 none [.ref 1] σ none res := by
  obtain ⟨t, hk, h⟩ : ∃ t, t = res ∧ fX5_begin σ = some t := ⟨res, rfl, h⟩
  unfold fX5_begin at h
  refine sw_enter2 (own := RX5) (lv := [(0, .ref 1)]) (by decide +kernel) (Nat.le_of_ble_eq_true rfl) rfl rfl ?_
  refine sw_aload_n (k0 := 0) 0 rfl (by decide +kernel) rfl ?_
  refine sw_iconst (n := 0) (v := 0) (by decide +kernel) (by decide) ?_
  obtain ⟨m1, e2, h⟩ := sw_let_e h
  refine pf_X5_29 (by decide) rfl (by decide +kernel) ?_
  refine sw_mem e2 ?_
  refine sw_aload_n (k0 := 0) 0 rfl (by decide +kernel) rfl ?_
  refine sw_iconst (n := (-1)) (v := (-1)) (by decide +kernel) (by decide) ?_
  obtain ⟨m3, e4, h⟩ := sw_let_e h
  refine pf_X5_25 (by decide) rfl (by decide +kernel) ?_
  refine sw_mem e4 ?_
  refine sw_aload_n (k0 := 0) 0 rfl (by decide +kernel) rfl ?_
  refine gf_X5_21 (i := 1) (by decide) rfl (by decide +kernel) ?_
  obtain ⟨m5, w6, h⟩ := sw_b1_e h
  refine sw_callVv (ci := 4) (i := (sw_pl (m3.2.2 1))) [] (sX4_clear (K := K - 1) (by omega) (sw_pl (m3.2.2 1)) (sw_pl_P _) m3 w6) rfl (by omega) rfl gs_X5_32 hy_X4_clear (by decide) (sw_pl_P _).o.1 (sw_pl_P _).o.2 rfl (Nat.le_of_ble_eq_true rfl) (by decide +kernel) ?_
  refine sw_aload_n (k0 := 0) 0 rfl (by decide +kernel) rfl ?_
  refine gf_X5_12 (i := 1) (by decide) rfl (by decide +kernel) ?_
  refine sw_refj 2 rfl ?_
  obtain ⟨m7, w8, h⟩ := sw_b1_e h
  refine sw_callVv (ci := 7) (i := 2) [] (sX7_readFirst (K := K - 1) hE (by omega) m5 w8) rfl (by omega) rfl gs_X5_35 hy_X7_readFirst (by decide) (by decide) rfl rfl (Nat.le_of_ble_eq_true rfl) (by decide +kernel) ?_
  cases h
  obtain rfl : _ = res := hk
  exact sw_vret (by decide +kernel)
def fX5_isAtEnd (σ : sw_M) : Int32 :=
  if (σ.1 2 4) = 0 then
    1
  else
    0
set_option maxRecDepth 20000 in
theorem sX5_isAtEnd {l : Launch} {E : sw_E} {K : Nat} (hK : 0 ≤ K) (σ : sw_M) {res : Int32} (h : fX5_isAtEnd σ = res) : sw_Ct l E K yX5_isAtEnd cX5_isAtEnd 1 (some .boolean) [.ref 1] σ (some (.int res)) σ := by
  obtain ⟨t, hk, h⟩ : ∃ t, t = res ∧ fX5_isAtEnd σ = t := ⟨res, rfl, h⟩
  unfold fX5_isAtEnd at h
  refine sw_enter2 (own := RX5) (lv := [(0, .ref 1)]) (by decide +kernel) (Nat.le_of_ble_eq_true rfl) rfl rfl ?_
  refine sw_aload_n (k0 := 0) 0 rfl (by decide +kernel) rfl ?_
  refine gf_X5_12 (i := 1) (by decide) rfl (by decide +kernel) ?_
  refine sw_refj 2 rfl ?_
  refine gf_X5_38 (i := 2) (by decide) rfl (by decide +kernel) ?_
  refine sw_if_ne (off := 7) 14 (by decide +kernel) (by decide) (fun c1 => ?_) (fun c1 => ?_)
  · rw [if_neg c1] at h
    refine sw_iconst (n := 0) (v := 0) (by decide +kernel) (by decide) ?_
    subst h
    obtain rfl : _ = res := hk
    exact sw_zret rfl (by decide +kernel)
  · rw [if_pos c1] at h
    refine sw_iconst (n := 1) (v := 1) (by decide +kernel) (by decide) ?_
    refine sw_goto (off := 4) 15 (by decide +kernel) (by decide) ?_
    subst h
    obtain rfl : _ = res := hk
    exact sw_zret rfl (by decide +kernel)
theorem bX5_isAtEnd (σ : sw_M) : fX5_isAtEnd σ = 0 ∨ fX5_isAtEnd σ = 1 := by
  simp only [fX5_isAtEnd, sw_let]
  repeat' (first | exact Or.inl rfl | exact Or.inr rfl | refine sw_ite_bo ?_ ?_)
def fX5_refuse_L17 (σ : sw_M) (b0 : Int32) : Option ((Int32 × sw_M)) :=
  sw_let (sw_w σ 1 2 b0) fun m1 =>
  sw_let (sw_w m1 1 3 (m1.1 2 5)) fun m3 =>
  some ((0, m3))
def fX5_refuse (σ : sw_M) (a1 : Int32) : Option (Int32 × sw_M) :=
  if (σ.1 2 4) = 1 then
    fX5_refuse_L17 σ 1
  else
    fX5_refuse_L17 σ a1
set_option maxRecDepth 20000 in
theorem sX5_refuse_L17 {l : Launch} {E : sw_E} {K : Nat} (hK : 0 ≤ K) (σ : sw_M) (b0 : Int32) {res : Int32 × sw_M} {t : (Int32 × sw_M)} (h : fX5_refuse_L17 σ b0 = some t) (hk : (fun q => q = res) t) : sw_Go l E K RX5 cX5_refuse 2 (some .boolean) 17 [(0, .ref 1)] [.int b0, .ref 1] σ (some (.int res.1)) res.2 := by
  unfold fX5_refuse_L17 at h
  obtain ⟨m1, e2, h⟩ := sw_let_e h
  refine pf_X5_29 (by decide) rfl (by decide +kernel) ?_
  refine sw_mem e2 ?_
  refine sw_aload_n (k0 := 0) 0 rfl (by decide +kernel) rfl ?_
  refine sw_aload_n (k0 := 0) 0 rfl (by decide +kernel) rfl ?_
  refine gf_X5_12 (i := 1) (by decide) rfl (by decide +kernel) ?_
  refine sw_refj 2 rfl ?_
  refine gf_X5_70 (i := 2) (by decide) rfl (by decide +kernel) ?_
  obtain ⟨m3, e4, h⟩ := sw_let_e h
  refine pf_X5_25 (by decide) rfl (by decide +kernel) ?_
  refine sw_mem e4 ?_
  refine sw_iconst (n := 0) (v := 0) (by decide +kernel) (by decide) ?_
  cases h
  obtain rfl : _ = res := hk
  exact sw_zret rfl (by decide +kernel)
set_option maxRecDepth 20000 in
theorem sX5_refuse {l : Launch} {E : sw_E} {K : Nat} (hK : 0 ≤ K) (σ : sw_M) (a1 : Int32) {res : Int32 × sw_M} (h : fX5_refuse σ a1 = some res) : sw_Ct l E K yX5_refuse cX5_refuse 2 (some .boolean) [.ref 1, .int a1] σ (some (.int res.1)) res.2 := by
  obtain ⟨t, hk, h⟩ : ∃ t, t = res ∧ fX5_refuse σ a1 = some t := ⟨res, rfl, h⟩
  unfold fX5_refuse at h
  refine sw_enter2 (own := RX5) (lv := [(0, .ref 1), (1, .int a1)]) (by decide +kernel) (Nat.le_of_ble_eq_true rfl) rfl rfl ?_
  refine sw_aload_n (k0 := 0) 0 rfl (by decide +kernel) rfl ?_
  refine sw_aload_n (k0 := 0) 0 rfl (by decide +kernel) rfl ?_
  refine gf_X5_12 (i := 1) (by decide) rfl (by decide +kernel) ?_
  refine sw_refj 2 rfl ?_
  refine gf_X5_38 (i := 2) (by decide) rfl (by decide +kernel) ?_
  refine sw_iconst (n := 1) (v := 1) (by decide +kernel) (by decide) ?_
  refine sw_icmp_ne (off := 7) 16 (by decide +kernel) (by decide) (fun c1 => ?_) (fun c1 => ?_)
  · rw [if_neg c1] at h
    refine sw_iload_n (k0 := 1) 1 rfl (by decide +kernel) rfl ?_
    refine sw_lv [0] rfl ?_
    exact sX5_refuse_L17 hK σ a1 h hk
  · rw [if_pos c1] at h
    refine sw_iconst (n := 1) (v := 1) (by decide +kernel) (by decide) ?_
    refine sw_goto (off := 4) 17 (by decide +kernel) (by decide) ?_
    refine sw_lv [0] rfl ?_
    exact sX5_refuse_L17 hK σ 1 h hk
def fX7_isName (σ : sw_M) : Int32 :=
  if (σ.1 2 4) = 2 then
    if (σ.1 2 7) = (-1) then
      1
    else
      0
  else
    0
set_option maxRecDepth 20000 in
theorem sX7_isName {l : Launch} {E : sw_E} {K : Nat} (hK : 0 ≤ K) (σ : sw_M) {res : Int32} (h : fX7_isName σ = res) : sw_Ct l E K yX7_isName cX7_isName 1 (some .boolean) [.ref 2] σ (some (.int res)) σ := by
  obtain ⟨t, hk, h⟩ : ∃ t, t = res ∧ fX7_isName σ = t := ⟨res, rfl, h⟩
  unfold fX7_isName at h
  refine sw_enter2 (own := RX7) (lv := [(0, .ref 2)]) (by decide +kernel) (Nat.le_of_ble_eq_true rfl) rfl rfl ?_
  refine sw_aload_n (k0 := 0) 0 rfl (by decide +kernel) rfl ?_
  refine gf_X7_48 (i := 2) (by decide) rfl (by decide +kernel) ?_
  refine sw_iconst (n := 2) (v := 2) (by decide +kernel) (by decide) ?_
  refine sw_icmp_ne (off := 15) 20 (by decide +kernel) (by decide) (fun c1 => ?_) (fun c1 => ?_)
  · rw [if_neg c1] at h
    refine sw_iconst (n := 0) (v := 0) (by decide +kernel) (by decide) ?_
    subst h
    obtain rfl : _ = res := hk
    exact sw_zret rfl (by decide +kernel)
  · rw [if_pos c1] at h
    refine sw_aload_n (k0 := 0) 0 rfl (by decide +kernel) rfl ?_
    refine gf_X7_35 (i := 2) (by decide) rfl (by decide +kernel) ?_
    refine sw_iconst (n := (-1)) (v := (-1)) (by decide +kernel) (by decide) ?_
    refine sw_icmp_ne (off := 7) 20 (by decide +kernel) (by decide) (fun c2 => ?_) (fun c2 => ?_)
    · rw [if_neg c2] at h
      refine sw_iconst (n := 0) (v := 0) (by decide +kernel) (by decide) ?_
      subst h
      obtain rfl : _ = res := hk
      exact sw_zret rfl (by decide +kernel)
    · rw [if_pos c2] at h
      refine sw_iconst (n := 1) (v := 1) (by decide +kernel) (by decide) ?_
      refine sw_goto (off := 4) 21 (by decide +kernel) (by decide) ?_
      subst h
      obtain rfl : _ = res := hk
      exact sw_zret rfl (by decide +kernel)
theorem bX7_isName (σ : sw_M) : fX7_isName σ = 0 ∨ fX7_isName σ = 1 := by
  simp only [fX7_isName, sw_let]
  repeat' (first | exact Or.inl rfl | exact Or.inr rfl | refine sw_ite_bo ?_ ?_)
