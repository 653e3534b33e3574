def fX10_formula_L181 (σ : sw_M) : Option ((sw_M)) :=
  if (σ.1 49 2) = 0 then
    sw_b1 (fX10_close σ 0) fun m2 =>
    some (m2)
  else
    some (σ)
def fX10_formula_L162 (σ : sw_M) : Option ((sw_M)) :=
  if (σ.1 49 2) = 0 then
    sw_b1 (fX10_hasBracket σ) fun r2 =>
    if r2 = 0 then
      fX10_formula_L181 σ
    else
      sw_b1 (fX10_wrong σ 2) fun m5 =>
      fX10_formula_L181 m5
  else
    fX10_formula_L181 σ
def fX10_formula_L159 (σ : sw_M) (a1 : Int32) : Option ((Int32 × sw_M) ⊕ (sw_M)) :=
  some (.inl (a1, σ))
def fX10_formula_L157 (σ : sw_M) : Option ((Int32 × sw_M) ⊕ (sw_M)) :=
  fX10_formula_L159 σ 0
def fX10_formula_L118 (σ : sw_M) (a1 : Int32) (a2 : Int32) : Option ((Int32 × sw_M) ⊕ (sw_M)) :=
  sw_b1 (fX10_close σ (fX10_tight a2)) fun m1 =>
  sw_gd (sw_in (m1.1 49 19) 160) <|
  sw_let (sw_w m1 56 (m1.1 49 19).toNatClampNeg a2) fun m4 =>
  sw_let (sw_w m4 49 19 ((m4.1 49 19) + 1)) fun m6 =>
  sw_b1 (fX10_token m6) fun m8 =>
  sw_b1 (fX10_unit m8) fun m10 =>
  fX10_formula_L159 m10 a1
def fX10_formula_L99 (σ : sw_M) (a1 : Int32) (a2 : Int32) : Option ((Int32 × sw_M) ⊕ (sw_M)) :=
  if a2 = 0 then
    fX10_formula_L157 σ
  else
    if (fX10_tight a2) = 4 then
      sw_b1 (fX10_hasRelation σ) fun r3 =>
      if r3 = 0 then
        fX10_formula_L118 σ a1 a2
      else
        fX10_formula_L157 σ
    else
      fX10_formula_L118 σ a1 a2
def fX10_formula_L35 (σ : sw_M) (a1 : Int32) : Option ((Int32 × sw_M) ⊕ (sw_M)) :=
  if a1 = 0 then
    sw_up (fX10_formula_L162 σ)
  else
    if (σ.1 49 2) = 0 then
      sw_let (fX10_sign σ) fun v5 =>
      if (σ.1 49 6) = 41 then
        sw_b1 (fX10_hasBracket σ) fun r8 =>
        if r8 = 0 then
          fX10_formula_L99 σ a1 v5
        else
          sw_b1 (fX10_close σ 0) fun m11 =>
          sw_let (sw_w m11 49 19 ((m11.1 49 19) - 1)) fun m13 =>
          sw_let (sw_w m13 49 23 ((m13.1 49 23) - 1)) fun m15 =>
          sw_b1 (fX10_token m15) fun m17 =>
          fX10_formula_L159 m17 a1
      else
        fX10_formula_L99 σ a1 v5
    else
      sw_up (fX10_formula_L162 σ)
def fX10_formula (σ : sw_M) : Option (sw_M) :=
  sw_b1 (fX10_token σ) fun m1 =>
  sw_let (sw_w m1 49 24 1) fun m3 =>
  sw_let (sw_w m3 49 17 0) fun m5 =>
  sw_let (sw_w m5 49 19 0) fun m7 =>
  sw_let (sw_w m7 49 23 0) fun m9 =>
  sw_let (sw_w m9 49 22 0) fun m11 =>
  sw_b1 (fX10_unit m11) fun m13 =>
  sw_wh sw_F (fun s => fX10_formula_L35 s.2 s.1) (1, m13)
set_option maxRecDepth 20000 in
theorem sX10_formula_L181 {l : Launch} {E : sw_E} {K : Nat} (hK : 4 ≤ K) (σ : sw_M) {res : sw_M} {t : (sw_M)} (h : fX10_formula_L181 σ = some t) (hk : (fun q => q = res) t) : sw_Go l E K RX10 cX10_formula 3 none 181 [(0, .ref 49)] [] σ none res := by
  unfold fX10_formula_L181 at h
  refine sw_aload_n (k0 := 0) 0 rfl (by decide +kernel) rfl ?_
  refine gf_X10_158 (i := 49) (by decide) rfl (by decide +kernel) ?_
  refine sw_if_ne (off := 8) 193 (by decide +kernel) (by decide) (fun c1 => ?_) (fun c1 => ?_)
  · rw [if_neg c1] at h
    cases h
    obtain rfl : _ = res := hk
    exact sw_vret (by decide +kernel)
  · rw [if_pos c1] at h
    refine sw_aload_n (k0 := 0) 0 rfl (by decide +kernel) rfl ?_
    refine sw_iconst (n := 0) (v := 0) (by decide +kernel) (by decide) ?_
    obtain ⟨m2, w3, h⟩ := sw_b1_e h
    refine sw_callVv (ci := 10) (i := 49) [.int 0] (sX10_close (K := K - 1) (by omega) σ 0 w3) rfl (by omega) rfl gs_X10_281 hy_X10_close (by decide) (by decide) rfl rfl (Nat.le_of_ble_eq_true rfl) (by decide +kernel) ?_
    cases h
    obtain rfl : _ = res := hk
    exact sw_vret (by decide +kernel)
set_option maxRecDepth 20000 in
theorem sX10_formula_L162 {l : Launch} {E : sw_E} {K : Nat} (hK : 4 ≤ K) (σ : sw_M) {res : sw_M} {t : (sw_M)} (h : fX10_formula_L162 σ = some t) (hk : (fun q => q = res) t) : sw_Go l E K RX10 cX10_formula 3 none 162 [(0, .ref 49)] [] σ none res := by
  unfold fX10_formula_L162 at h
  refine sw_aload_n (k0 := 0) 0 rfl (by decide +kernel) rfl ?_
  refine gf_X10_158 (i := 49) (by decide) rfl (by decide +kernel) ?_
  refine sw_if_ne (off := 15) 181 (by decide +kernel) (by decide) (fun c1 => ?_) (fun c1 => ?_)
  · rw [if_neg c1] at h
    exact sX10_formula_L181 hK σ h hk
  · rw [if_pos c1] at h
    refine sw_aload_n (k0 := 0) 0 rfl (by decide +kernel) rfl ?_
    obtain ⟨r2, w3, h⟩ := sw_b1_e h
    refine sw_callVi (ci := 10) (i := 49) [] (sX10_hasBracket (K := K - 1) (by omega) σ w3) rfl (by omega) rfl gs_X10_278 hy_X10_hasBracket (by decide) (by decide) rfl rfl (Nat.le_of_ble_eq_true rfl) (by decide +kernel) ?_
    refine sw_if_eq (off := 8) 181 (by decide +kernel) (by decide) (fun c4 => ?_) (fun c4 => ?_)
    · rw [if_pos c4] at h
      exact sX10_formula_L181 hK σ h hk
    · rw [if_neg c4] at h
      refine sw_aload_n (k0 := 0) 0 rfl (by decide +kernel) rfl ?_
      refine sw_iconst (n := 2) (v := 2) (by decide +kernel) (by decide) ?_
      obtain ⟨m5, w6, h⟩ := sw_b1_e h
      refine sw_callVv (ci := 10) (i := 49) [.int 2] (sX10_wrong (K := K - 1) (by omega) σ 2 w6) rfl (by omega) rfl gs_X10_207 hy_X10_wrong (by decide) (by decide) rfl rfl (Nat.le_of_ble_eq_true rfl) (by decide +kernel) ?_
      exact sX10_formula_L181 hK m5 h hk
set_option maxRecDepth 20000 in
theorem sX10_formula_L159 {l : Launch} {E : sw_E} {K : Nat} (hK : 4 ≤ K) (σ : sw_M) (a1 : Int32) {res : sw_M} {t : (Int32 × sw_M) ⊕ (sw_M)} (h : fX10_formula_L159 σ a1 = some t) (hk : (Sum.elim (fun s : Int32 × sw_M => sw_Go l E K RX10 cX10_formula 3 none 35 [(0, .ref 49), (1, .int s.1)] [] s.2 none res) (fun q => q = res)) t) : sw_Go l E K RX10 cX10_formula 3 none 159 [(0, .ref 49), (1, .int a1)] [] σ none res := by
  unfold fX10_formula_L159 at h
  refine sw_goto (off := (-124)) 35 (by decide +kernel) (by decide) ?_
  cases h
  exact hk
set_option maxRecDepth 20000 in
theorem sX10_formula_L157 {l : Launch} {E : sw_E} {K : Nat} (hK : 4 ≤ K) (σ : sw_M) {res : sw_M} {t : (Int32 × sw_M) ⊕ (sw_M)} (h : fX10_formula_L157 σ = some t) (hk : (Sum.elim (fun s : Int32 × sw_M => sw_Go l E K RX10 cX10_formula 3 none 35 [(0, .ref 49), (1, .int s.1)] [] s.2 none res) (fun q => q = res)) t) : sw_Go l E K RX10 cX10_formula 3 none 157 [(0, .ref 49)] [] σ none res := by
  unfold fX10_formula_L157 at h
  refine sw_iconst (n := 0) (v := 0) (by decide +kernel) (by decide) ?_
  refine sw_istore_n (k0 := 1) (lv' := [(1, .int 0), (0, .ref 49)]) (by decide +kernel) rfl (by decide) rfl ?_
  refine sw_lv [1, 0] rfl ?_
  exact sX10_formula_L159 hK σ 0 h hk
set_option maxRecDepth 20000 in
theorem sX10_formula_L118 {l : Launch} {E : sw_E} {K : Nat} (hK : 4 ≤ K) (σ : sw_M) (a1 : Int32) (a2 : Int32) {res : sw_M} {t : (Int32 × sw_M) ⊕ (sw_M)} (h : fX10_formula_L118 σ a1 a2 = some t) (hk : (Sum.elim (fun s : Int32 × sw_M => sw_Go l E K RX10 cX10_formula 3 none 35 [(0, .ref 49), (1, .int s.1)] [] s.2 none res) (fun q => q = res)) t) : sw_Go l E K RX10 cX10_formula 3 none 118 [(0, .ref 49), (1, .int a1), (2, .int a2)] [] σ none res := by
  unfold fX10_formula_L118 at h
  refine sw_aload_n (k0 := 0) 0 rfl (by decide +kernel) rfl ?_
  refine sw_iload_n (k0 := 2) 2 rfl (by decide +kernel) rfl ?_
  refine sw_callSi [.int a2] (sX10_tight (K := K - 1) (by omega) σ a2 rfl) rfl (by omega) gs_X10_236 hy_X10_tight (by decide) rfl (Nat.le_of_ble_eq_true rfl) (by decide +kernel) ?_
  obtain ⟨m1, w2, h⟩ := sw_b1_e h
  refine sw_callVv (ci := 10) (i := 49) [.int (fX10_tight a2)] (sX10_close (K := K - 1) (by omega) σ (fX10_tight a2) w2) rfl (by omega) rfl gs_X10_281 hy_X10_close (by decide) (by decide) rfl rfl (Nat.le_of_ble_eq_true rfl) (by decide +kernel) ?_
  refine sw_aload_n (k0 := 0) 0 rfl (by decide +kernel) rfl ?_
  refine gf_X10_33 (i := 49) (by decide) rfl (by decide +kernel) ?_
  refine sw_refj 56 rfl ?_
  refine sw_aload_n (k0 := 0) 0 rfl (by decide +kernel) rfl ?_
  refine gf_X10_233 (i := 49) (by decide) rfl (by decide +kernel) ?_
  refine sw_iload_n (k0 := 2) 2 rfl (by decide +kernel) rfl ?_
  obtain ⟨g3, h⟩ := sw_gd_e h
  obtain ⟨m4, e5, h⟩ := sw_let_e h
  refine sw_iastore (a := 56) (by decide) rfl (sw_in_e g3) (by decide +kernel) ?_
  refine sw_mem e5 ?_
  refine sw_aload_n (k0 := 0) 0 rfl (by decide +kernel) rfl ?_
  refine sw_dup (by decide +kernel) rfl ?_
  refine gf_X10_233 (i := 49) (by decide) rfl (by decide +kernel) ?_
  refine sw_iconst (n := 1) (v := 1) (by decide +kernel) (by decide) ?_
  refine sw_iadd (by decide +kernel) ?_
  obtain ⟨m6, e7, h⟩ := sw_let_e h
  refine pf_X10_233 (by decide) rfl (by decide +kernel) ?_
  refine sw_mem e7 ?_
  refine sw_aload_n (k0 := 0) 0 rfl (by decide +kernel) rfl ?_
  obtain ⟨m8, w9, h⟩ := sw_b1_e h
  refine sw_callVv (ci := 10) (i := 49) [] (sX10_token (K := K - 1) (by omega) m6 w9) rfl (by omega) rfl gs_X10_210 hy_X10_token (by decide) (by decide) rfl rfl (Nat.le_of_ble_eq_true rfl) (by decide +kernel) ?_
  refine sw_aload_n (k0 := 0) 0 rfl (by decide +kernel) rfl ?_
  obtain ⟨m10, w11, h⟩ := sw_b1_e h
  refine sw_callVv (ci := 10) (i := 49) [] (sX10_unit (K := K - 1) (by omega) m8 w11) rfl (by omega) rfl gs_X10_272 hy_X10_unit (by decide) (by decide) rfl rfl (Nat.le_of_ble_eq_true rfl) (by decide +kernel) ?_
  refine sw_goto (off := 5) 159 (by decide +kernel) (by decide) ?_
  refine sw_lv [0, 1] rfl ?_
  exact sX10_formula_L159 hK m10 a1 h hk
set_option maxRecDepth 20000 in
theorem sX10_formula_L99 {l : Launch} {E : sw_E} {K : Nat} (hK : 4 ≤ K) (σ : sw_M) (a1 : Int32) (a2 : Int32) {res : sw_M} {t : (Int32 × sw_M) ⊕ (sw_M)} (h : fX10_formula_L99 σ a1 a2 = some t) (hk : (Sum.elim (fun s : Int32 × sw_M => sw_Go l E K RX10 cX10_formula 3 none 35 [(0, .ref 49), (1, .int s.1)] [] s.2 none res) (fun q => q = res)) t) : sw_Go l E K RX10 cX10_formula 3 none 99 [(0, .ref 49), (1, .int a1), (2, .int a2)] [] σ none res := by
  unfold fX10_formula_L99 at h
  refine sw_iload_n (k0 := 2) 2 rfl (by decide +kernel) rfl ?_
  refine sw_if_eq (off := 57) 157 (by decide +kernel) (by decide) (fun c1 => ?_) (fun c1 => ?_)
  · rw [if_pos c1] at h
    refine sw_lv [0] rfl ?_
    exact sX10_formula_L157 hK σ h hk
  · rw [if_neg c1] at h
    refine sw_iload_n (k0 := 2) 2 rfl (by decide +kernel) rfl ?_
    refine sw_callSi [.int a2] (sX10_tight (K := K - 1) (by omega) σ a2 rfl) rfl (by omega) gs_X10_236 hy_X10_tight (by decide) rfl (Nat.le_of_ble_eq_true rfl) (by decide +kernel) ?_
    refine sw_iconst (n := 4) (v := 4) (by decide +kernel) (by decide) ?_
    refine sw_icmp_ne (off := 10) 118 (by decide +kernel) (by decide) (fun c2 => ?_) (fun c2 => ?_)
    · rw [if_neg c2] at h
      exact sX10_formula_L118 hK σ a1 a2 h hk
    · rw [if_pos c2] at h
      refine sw_aload_n (k0 := 0) 0 rfl (by decide +kernel) rfl ?_
      obtain ⟨r3, w4, h⟩ := sw_b1_e h
      refine sw_callVi (ci := 10) (i := 49) [] (sX10_hasRelation (K := K - 1) (by omega) σ w4) rfl (by omega) rfl gs_X10_284 hy_X10_hasRelation (by decide) (by decide) rfl rfl (Nat.le_of_ble_eq_true rfl) (by decide +kernel) ?_
      refine sw_if_ne (off := 42) 157 (by decide +kernel) (by decide) (fun c5 => ?_) (fun c5 => ?_)
      · rw [if_neg c5] at h
        refine sw_lv [0] rfl ?_
        exact sX10_formula_L157 hK σ h hk
      · rw [if_pos c5] at h
        exact sX10_formula_L118 hK σ a1 a2 h hk
set_option maxRecDepth 20000 in
theorem sX10_formula_L35 {l : Launch} {E : sw_E} {K : Nat} (hK : 4 ≤ K) (σ : sw_M) (a1 : Int32) {res : sw_M} {t : (Int32 × sw_M) ⊕ (sw_M)} (h : fX10_formula_L35 σ a1 = some t) (hk : (Sum.elim (fun s : Int32 × sw_M => sw_Go l E K RX10 cX10_formula 3 none 35 [(0, .ref 49), (1, .int s.1)] [] s.2 none res) (fun q => q = res)) t) : sw_Go l E K RX10 cX10_formula 3 none 35 [(0, .ref 49), (1, .int a1)] [] σ none res := by
  unfold fX10_formula_L35 at h
  refine sw_iload_n (k0 := 1) 1 rfl (by decide +kernel) rfl ?_
  refine sw_if_eq (off := 126) 162 (by decide +kernel) (by decide) (fun c1 => ?_) (fun c1 => ?_)
  · rw [if_pos c1] at h
    obtain ⟨q1, h1, rfl⟩ := sw_up_e h
    replace h := h1
    refine sw_lv [0] rfl ?_
    exact sX10_formula_L162 hK σ h hk
  · rw [if_neg c1] at h
    refine sw_aload_n (k0 := 0) 0 rfl (by decide +kernel) rfl ?_
    refine gf_X10_158 (i := 49) (by decide) rfl (by decide +kernel) ?_
    refine sw_if_ne (off := 119) 162 (by decide +kernel) (by decide) (fun c3 => ?_) (fun c3 => ?_)
    · rw [if_neg c3] at h
      obtain ⟨q3, h3, rfl⟩ := sw_up_e h
      replace h := h3
      refine sw_lv [0] rfl ?_
      exact sX10_formula_L162 hK σ h hk
    · rw [if_pos c3] at h
      refine sw_aload_n (k0 := 0) 0 rfl (by decide +kernel) rfl ?_
      refine sw_callVi (ci := 10) (i := 49) [] (sX10_sign (K := K - 1) (by omega) σ rfl) rfl (by omega) rfl gs_X10_275 hy_X10_sign (by decide) (by decide) rfl rfl (Nat.le_of_ble_eq_true rfl) (by decide +kernel) ?_
      obtain ⟨v5, e6, h⟩ := sw_let_e h
      refine sw_topi e6 ?_
      refine sw_istore_n (k0 := 2) (lv' := [(2, .int v5), (0, .ref 49), (1, .int a1)]) (by decide +kernel) rfl (by decide) rfl ?_
      refine sw_aload_n (k0 := 0) 1 rfl (by decide +kernel) rfl ?_
      refine gf_X10_145 (i := 49) (by decide) rfl (by decide +kernel) ?_
      refine sw_bipush (n := 41) (v := 41) (by decide +kernel) (by decide) ?_
      refine sw_icmp_ne (off := 42) 99 (by decide +kernel) (by decide) (fun c7 => ?_) (fun c7 => ?_)
      · rw [if_neg c7] at h
        refine sw_lv [1, 2, 0] rfl ?_
        exact sX10_formula_L99 hK σ a1 v5 h hk
      · rw [if_pos c7] at h
        refine sw_aload_n (k0 := 0) 1 rfl (by decide +kernel) rfl ?_
        obtain ⟨r8, w9, h⟩ := sw_b1_e h
        refine sw_callVi (ci := 10) (i := 49) [] (sX10_hasBracket (K := K - 1) (by omega) σ w9) rfl (by omega) rfl gs_X10_278 hy_X10_hasBracket (by decide) (by decide) rfl rfl (Nat.le_of_ble_eq_true rfl) (by decide +kernel) ?_
        refine sw_if_eq (off := 35) 99 (by decide +kernel) (by decide) (fun c10 => ?_) (fun c10 => ?_)
        · rw [if_pos c10] at h
          refine sw_lv [1, 2, 0] rfl ?_
          exact sX10_formula_L99 hK σ a1 v5 h hk
        · rw [if_neg c10] at h
          refine sw_aload_n (k0 := 0) 1 rfl (by decide +kernel) rfl ?_
          refine sw_iconst (n := 0) (v := 0) (by decide +kernel) (by decide) ?_
          obtain ⟨m11, w12, h⟩ := sw_b1_e h
          refine sw_callVv (ci := 10) (i := 49) [.int 0] (sX10_close (K := K - 1) (by omega) σ 0 w12) rfl (by omega) rfl gs_X10_281 hy_X10_close (by decide) (by decide) rfl rfl (Nat.le_of_ble_eq_true rfl) (by decide +kernel) ?_
          refine sw_aload_n (k0 := 0) 1 rfl (by decide +kernel) rfl ?_
          refine sw_dup (by decide +kernel) rfl ?_
          refine gf_X10_233 (i := 49) (by decide) rfl (by decide +kernel) ?_
          refine sw_iconst (n := 1) (v := 1) (by decide +kernel) (by decide) ?_
          refine sw_isub (by decide +kernel) ?_
          obtain ⟨m13, e14, h⟩ := sw_let_e h
          refine pf_X10_233 (by decide) rfl (by decide +kernel) ?_
          refine sw_mem e14 ?_
          refine sw_aload_n (k0 := 0) 1 rfl (by decide +kernel) rfl ?_
          refine sw_dup (by decide +kernel) rfl ?_
          refine gf_X10_243 (i := 49) (by decide) rfl (by decide +kernel) ?_
          refine sw_iconst (n := 1) (v := 1) (by decide +kernel) (by decide) ?_
          refine sw_isub (by decide +kernel) ?_
          obtain ⟨m15, e16, h⟩ := sw_let_e h
          refine pf_X10_243 (by decide) rfl (by decide +kernel) ?_
          refine sw_mem e16 ?_
          refine sw_aload_n (k0 := 0) 1 rfl (by decide +kernel) rfl ?_
          obtain ⟨m17, w18, h⟩ := sw_b1_e h
          refine sw_callVv (ci := 10) (i := 49) [] (sX10_token (K := K - 1) (by omega) m15 w18) rfl (by omega) rfl gs_X10_210 hy_X10_token (by decide) (by decide) rfl rfl (Nat.le_of_ble_eq_true rfl) (by decide +kernel) ?_
          refine sw_goto (off := 63) 159 (by decide +kernel) (by decide) ?_
          refine sw_lv [1, 2] rfl ?_
          exact sX10_formula_L159 hK m17 a1 h hk
set_option maxRecDepth 20000 in
theorem sX10_formula {l : Launch} {E : sw_E} {K : Nat} (hK : 4 ≤ K) (σ : sw_M) {res : sw_M} (h : fX10_formula σ = some res) : sw_Ct l E K yX10_formula cX10_formula 3 none [.ref 49] σ none res := by
  obtain ⟨t, hk, h⟩ : ∃ t, t = res ∧ fX10_formula σ = some t := ⟨res, rfl, h⟩
  unfold fX10_formula at h
  refine sw_enter2 (own := RX10) (lv := [(0, .ref 49)]) (by decide +kernel) (Nat.le_of_ble_eq_true rfl) rfl rfl ?_
  refine sw_aload_n (k0 := 0) 0 rfl (by decide +kernel) rfl ?_
  obtain ⟨m1, w2, h⟩ := sw_b1_e h
  refine sw_callVv (ci := 10) (i := 49) [] (sX10_token (K := K - 1) (by omega) σ w2) rfl (by omega) rfl gs_X10_210 hy_X10_token (by decide) (by decide) rfl rfl (Nat.le_of_ble_eq_true rfl) (by decide +kernel) ?_
  refine sw_aload_n (k0 := 0) 0 rfl (by decide +kernel) rfl ?_
  refine sw_iconst (n := 1) (v := 1) (by decide +kernel) (by decide) ?_
  obtain ⟨m3, e4, h⟩ := sw_let_e h
  refine pf_X10_268 (Or.inr rfl) (by decide) rfl (by decide +kernel) ?_
  refine sw_mem e4 ?_
  refine sw_aload_n (k0 := 0) 0 rfl (by decide +kernel) rfl ?_
  refine sw_iconst (n := 0) (v := 0) (by decide +kernel) (by decide) ?_
  obtain ⟨m5, e6, h⟩ := sw_let_e h
  refine pf_X10_230 (by decide) rfl (by decide +kernel) ?_
  refine sw_mem e6 ?_
  refine sw_aload_n (k0 := 0) 0 rfl (by decide +kernel) rfl ?_
  refine sw_iconst (n := 0) (v := 0) (by decide +kernel) (by decide) ?_
  obtain ⟨m7, e8, h⟩ := sw_let_e h
  refine pf_X10_233 (by decide) rfl (by decide +kernel) ?_
  refine sw_mem e8 ?_
  refine sw_aload_n (k0 := 0) 0 rfl (by decide +kernel) rfl ?_
  refine sw_iconst (n := 0) (v := 0) (by decide +kernel) (by decide) ?_
  obtain ⟨m9, e10, h⟩ := sw_let_e h
  refine pf_X10_243 (by decide) rfl (by decide +kernel) ?_
  refine sw_mem e10 ?_
  refine sw_aload_n (k0 := 0) 0 rfl (by decide +kernel) rfl ?_
  refine sw_iconst (n := 0) (v := 0) (by decide +kernel) (by decide) ?_
  obtain ⟨m11, e12, h⟩ := sw_let_e h
  refine pf_X10_249 (by decide) rfl (by decide +kernel) ?_
  refine sw_mem e12 ?_
  refine sw_aload_n (k0 := 0) 0 rfl (by decide +kernel) rfl ?_
  obtain ⟨m13, w14, h⟩ := sw_b1_e h
  refine sw_callVv (ci := 10) (i := 49) [] (sX10_unit (K := K - 1) (by omega) m11 w14) rfl (by omega) rfl gs_X10_272 hy_X10_unit (by decide) (by decide) rfl rfl (Nat.le_of_ble_eq_true rfl) (by decide +kernel) ?_
  refine sw_iconst (n := 1) (v := 1) (by decide +kernel) (by decide) ?_
  refine sw_istore_n (k0 := 1) (lv' := [(1, .int 1), (0, .ref 49)]) (by decide +kernel) rfl (by decide) rfl ?_
  refine sw_lv [1, 0] rfl ?_
  exact sw_wh_e (fun s : Int32 × sw_M => sw_Go l E K RX10 cX10_formula 3 none 35 [(0, .ref 49), (1, .int s.1)] [] s.2 none res) (fun q => q = res) (fun s => fX10_formula_L35 s.2 s.1) (fun s t hb hk => sX10_formula_L35 hK s.2 s.1 hb hk) _ _ _ h hk
def fX10_truth (a0 : Int32) : Int32 :=
  if a0 = 0 then
    0
  else
    1
set_option maxRecDepth 20000 in
theorem sX10_truth {l : Launch} {E : sw_E} {K : Nat} (hK : 0 ≤ K) (σ : sw_M) (a0 : Int32) {res : Int32} (h : fX10_truth a0 = res) : sw_Ct l E K yX10_truth cX10_truth 1 (some .int) [.int a0] σ (some (.int res)) σ := by
  obtain ⟨t, hk, h⟩ : ∃ t, t = res ∧ fX10_truth a0 = t := ⟨res, rfl, h⟩
  unfold fX10_truth at h
  refine sw_enter2 (own := RX10) (lv := [(0, .int a0)]) (by decide +kernel) (Nat.le_of_ble_eq_true rfl) rfl rfl ?_
  refine sw_iload_n (k0 := 0) 0 rfl (by decide +kernel) rfl ?_
  refine sw_if_eq (off := 7) 8 (by decide +kernel) (by decide) (fun c1 => ?_) (fun c1 => ?_)
  · rw [if_pos c1] at h
    refine sw_iconst (n := 0) (v := 0) (by decide +kernel) (by decide) ?_
    subst h
    obtain rfl : _ = res := hk
    exact sw_iret (by decide +kernel)
  · rw [if_neg c1] at h
    refine sw_iconst (n := 1) (v := 1) (by decide +kernel) (by decide) ?_
    refine sw_goto (off := 4) 9 (by decide +kernel) (by decide) ?_
    subst h
    obtain rfl : _ = res := hk
    exact sw_iret (by decide +kernel)
def fX10_done_L211 (b0 : Int32) : Option ((Int32)) :=
  some (fX10_truth b0)
def fX10_done_L210 : Option ((Int32)) :=
  fX10_done_L211 0
def fX10_done_L166 (b0 : Int32) : Option ((Int32)) :=
  some (fX10_truth b0)
def fX10_done_L194 (b0 : Int32) : Option ((Int32)) :=
  some (fX10_truth b0)
def fX10_done_L180 (b0 : Int32) : Option ((Int32)) :=
  some (fX10_truth b0)
def fX10_done_L228 (b0 : Int32) : Option ((Int32)) :=
  some (fX10_truth b0)
def fX10_done_L223 : Option ((Int32)) :=
  fX10_done_L228 1
def fX10_done_L215 (a1 : Int32) (a2 : Int32) : Option ((Int32)) :=
  if a1 = 0 then
    if a2 = 0 then
      fX10_done_L228 0
    else
      fX10_done_L223
  else
    fX10_done_L223
def fX10_done (a0 : Int32) (a1 : Int32) (a2 : Int32) : Option (Int32) :=
  if a0 = 37 then
    if a2 = 0 then
      some (0)
    else
      sw_gd (sw_nz a2) <|
      some (a1 - a1 / a2 * a2)
  else
    if a0 = 38 then
      if a1 = 0 then
        fX10_done_L210
      else
        if a2 = 0 then
          fX10_done_L210
        else
          fX10_done_L211 1
    else
      if a0 = 42 then
        some (a1 * a2)
      else
        if a0 = 43 then
          some (a1 + a2)
        else
          if a0 = 45 then
            some (a1 - a2)
          else
            if a0 = 47 then
              if a2 = 0 then
                some (0)
              else
                sw_gd (sw_nz a2) <|
                some (a1 / a2)
            else
              if a0 = 60 then
                if a2 ≤ a1 then
                  fX10_done_L166 0
                else
                  fX10_done_L166 1
              else
                if a0 = 61 then
                  if a1 = a2 then
                    fX10_done_L194 1
                  else
                    fX10_done_L194 0
                else
                  if a0 = 62 then
                    if a1 ≤ a2 then
                      fX10_done_L180 0
                    else
                      fX10_done_L180 1
                  else
                    fX10_done_L215 a1 a2
set_option maxRecDepth 20000 in
theorem sX10_done_L211 {l : Launch} {E : sw_E} {K : Nat} (hK : 1 ≤ K) (σ : sw_M) (b0 : Int32) {res : Int32} {t : (Int32)} (h : fX10_done_L211 b0 = some t) (hk : (fun q => q = res) t) : sw_Go l E K RX10 cX10_done 3 (some .int) 211 [] [.int b0] σ (some (.int res)) σ := by
  unfold fX10_done_L211 at h
  refine sw_callSi [.int b0] (sX10_truth (K := K - 1) (by omega) σ b0 rfl) rfl (by omega) gs_X10_287 hy_X10_truth (by decide) rfl (Nat.le_of_ble_eq_true rfl) (by decide +kernel) ?_
  cases h
  obtain rfl : _ = res := hk
  exact sw_iret (by decide +kernel)
set_option maxRecDepth 20000 in
theorem sX10_done_L210 {l : Launch} {E : sw_E} {K : Nat} (hK : 1 ≤ K) (σ : sw_M) {res : Int32} {t : (Int32)} (h : fX10_done_L210 = some t) (hk : (fun q => q = res) t) : sw_Go l E K RX10 cX10_done 3 (some .int) 210 [] [] σ (some (.int res)) σ := by
  unfold fX10_done_L210 at h
  refine sw_iconst (n := 0) (v := 0) (by decide +kernel) (by decide) ?_
  exact sX10_done_L211 hK σ 0 h hk
set_option maxRecDepth 20000 in
theorem sX10_done_L166 {l : Launch} {E : sw_E} {K : Nat} (hK : 1 ≤ K) (σ : sw_M) (b0 : Int32) {res : Int32} {t : (Int32)} (h : fX10_done_L166 b0 = some t) (hk : (fun q => q = res) t) : sw_Go l E K RX10 cX10_done 3 (some .int) 166 [] [.int b0] σ (some (.int res)) σ := by
  unfold fX10_done_L166 at h
  refine sw_callSi [.int b0] (sX10_truth (K := K - 1) (by omega) σ b0 rfl) rfl (by omega) gs_X10_287 hy_X10_truth (by decide) rfl (Nat.le_of_ble_eq_true rfl) (by decide +kernel) ?_
  cases h
  obtain rfl : _ = res := hk
  exact sw_iret (by decide +kernel)
set_option maxRecDepth 20000 in
theorem sX10_done_L194 {l : Launch} {E : sw_E} {K : Nat} (hK : 1 ≤ K) (σ : sw_M) (b0 : Int32) {res : Int32} {t : (Int32)} (h : fX10_done_L194 b0 = some t) (hk : (fun q => q = res) t) : sw_Go l E K RX10 cX10_done 3 (some .int) 194 [] [.int b0] σ (some (.int res)) σ := by
  unfold fX10_done_L194 at h
  refine sw_callSi [.int b0] (sX10_truth (K := K - 1) (by omega) σ b0 rfl) rfl (by omega) gs_X10_287 hy_X10_truth (by decide) rfl (Nat.le_of_ble_eq_true rfl) (by decide +kernel) ?_
  cases h
  obtain rfl : _ = res := hk
  exact sw_iret (by decide +kernel)
set_option maxRecDepth 20000 in
theorem sX10_done_L180 {l : Launch} {E : sw_E} {K : Nat} (hK : 1 ≤ K) (σ : sw_M) (b0 : Int32) {res : Int32} {t : (Int32)} (h : fX10_done_L180 b0 = some t) (hk : (fun q => q = res) t) : sw_Go l E K RX10 cX10_done 3 (some .int) 180 [] [.int b0] σ (some (.int res)) σ := by
  unfold fX10_done_L180 at h
  refine sw_callSi [.int b0] (sX10_truth (K := K - 1) (by omega) σ b0 rfl) rfl (by omega) gs_X10_287 hy_X10_truth (by decide) rfl (Nat.le_of_ble_eq_true rfl) (by decide +kernel) ?_
  cases h
  obtain rfl : _ = res := hk
  exact sw_iret (by decide +kernel)
set_option maxRecDepth 20000 in
theorem sX10_done_L228 {l : Launch} {E : sw_E} {K : Nat} (hK : 1 ≤ K) (σ : sw_M) (b0 : Int32) {res : Int32} {t : (Int32)} (h : fX10_done_L228 b0 = some t) (hk : (fun q => q = res) t) : sw_Go l E K RX10 cX10_done 3 (some .int) 228 [] [.int b0] σ (some (.int res)) σ := by
  unfold fX10_done_L228 at h
  refine sw_callSi [.int b0] (sX10_truth (K := K - 1) (by omega) σ b0 rfl) rfl (by omega) gs_X10_287 hy_X10_truth (by decide) rfl (Nat.le_of_ble_eq_true rfl) (by decide +kernel) ?_
  cases h
  obtain rfl : _ = res := hk
  exact sw_iret (by decide +kernel)
set_option maxRecDepth 20000 in
theorem sX10_done_L223 {l : Launch} {E : sw_E} {K : Nat} (hK : 1 ≤ K) (σ : sw_M) {res : Int32} {t : (Int32)} (h : fX10_done_L223 = some t) (hk : (fun q => q = res) t) : sw_Go l E K RX10 cX10_done 3 (some .int) 223 [] [] σ (some (.int res)) σ := by
  unfold fX10_done_L223 at h
  refine sw_iconst (n := 1) (v := 1) (by decide +kernel) (by decide) ?_
  refine sw_goto (off := 4) 228 (by decide +kernel) (by decide) ?_
  exact sX10_done_L228 hK σ 1 h hk
set_option maxRecDepth 20000 in
theorem sX10_done_L215 {l : Launch} {E : sw_E} {K : Nat} (hK : 1 ≤ K) (σ : sw_M) (a1 : Int32) (a2 : Int32) {res : Int32} {t : (Int32)} (h : fX10_done_L215 a1 a2 = some t) (hk : (fun q => q = res) t) : sw_Go l E K RX10 cX10_done 3 (some .int) 215 [(1, .int a1), (2, .int a2)] [] σ (some (.int res)) σ := by
  unfold fX10_done_L215 at h
  refine sw_iload_n (k0 := 1) 0 rfl (by decide +kernel) rfl ?_
  refine sw_if_ne (off := 7) 223 (by decide +kernel) (by decide) (fun c1 => ?_) (fun c1 => ?_)
  · rw [if_neg c1] at h
    refine sw_lv [] rfl ?_
    exact sX10_done_L223 hK σ h hk
  · rw [if_pos c1] at h
    refine sw_iload_n (k0 := 2) 1 rfl (by decide +kernel) rfl ?_
    refine sw_if_eq (off := 7) 227 (by decide +kernel) (by decide) (fun c2 => ?_) (fun c2 => ?_)
    · rw [if_pos c2] at h
      refine sw_iconst (n := 0) (v := 0) (by decide +kernel) (by decide) ?_
      refine sw_lv [] rfl ?_
      exact sX10_done_L228 hK σ 0 h hk
    · rw [if_neg c2] at h
      refine sw_lv [] rfl ?_
      exact sX10_done_L223 hK σ h hk
set_option maxRecDepth 20000 in
theorem sX10_done {l : Launch} {E : sw_E} {K : Nat} (hK : 1 ≤ K) (σ : sw_M) (a0 : Int32) (a1 : Int32) (a2 : Int32) {res : Int32} (h : fX10_done a0 a1 a2 = some res) : sw_Ct l E K yX10_done cX10_done 3 (some .int) [.int a0, .int a1, .int a2] σ (some (.int res)) σ := by
  obtain ⟨t, hk, h⟩ : ∃ t, t = res ∧ fX10_done a0 a1 a2 = some t := ⟨res, rfl, h⟩
  unfold fX10_done at h
  refine sw_enter2 (own := RX10) (lv := [(0, .int a0), (1, .int a1), (2, .int a2)]) (by decide +kernel) (Nat.le_of_ble_eq_true rfl) rfl rfl ?_
  refine sw_iload_n (k0 := 0) 0 rfl (by decide +kernel) rfl ?_
  by_cases c1 : a0 = 37
  · rw [if_pos c1] at h
    refine sw_tabIn (dflt := 214) (lo := 37) (hi := 62) (offs := #[143, 197, 214, 214, 214, 127, 119, 214, 123, 214, 131, 214, 214, 214, 214, 214, 214, 214, 214, 214, 214, 214, 214, 155, 183, 169]) (len := 119) (off := 143) 144 (by decide +kernel) (by rw [c1]; decide) (by rw [c1]; decide) (by rw [c1]; decide) (by decide) ?_
    refine sw_iload_n (k0 := 2) 2 rfl (by decide +kernel) rfl ?_
    refine sw_if_ne (off := 7) 152 (by decide +kernel) (by decide) (fun c2 => ?_) (fun c2 => ?_)
    · rw [if_neg c2] at h
      refine sw_iload_n (k0 := 1) 1 rfl (by decide +kernel) rfl ?_
      refine sw_iload_n (k0 := 2) 2 rfl (by decide +kernel) rfl ?_
      obtain ⟨g3, h⟩ := sw_gd_e h
      refine sw_irem (by decide +kernel) (sw_nz_e g3) ?_
      cases h
      obtain rfl : _ = res := hk
      exact sw_iret (by decide +kernel)
    · rw [if_pos c2] at h
      refine sw_iconst (n := 0) (v := 0) (by decide +kernel) (by decide) ?_
      refine sw_goto (off := 6) 155 (by decide +kernel) (by decide) ?_
      cases h
      obtain rfl : _ = res := hk
      exact sw_iret (by decide +kernel)
  · rw [if_neg c1] at h
    by_cases c4 : a0 = 38
    · rw [if_pos c4] at h
      refine sw_tabIn (dflt := 214) (lo := 37) (hi := 62) (offs := #[143, 197, 214, 214, 214, 127, 119, 214, 123, 214, 131, 214, 214, 214, 214, 214, 214, 214, 214, 214, 214, 214, 214, 155, 183, 169]) (len := 119) (off := 197) 198 (by decide +kernel) (by rw [c4]; decide) (by rw [c4]; decide) (by rw [c4]; decide) (by decide) ?_
      refine sw_iload_n (k0 := 1) 1 rfl (by decide +kernel) rfl ?_
      refine sw_if_eq (off := 11) 210 (by decide +kernel) (by decide) (fun c5 => ?_) (fun c5 => ?_)
      · rw [if_pos c5] at h
        refine sw_lv [] rfl ?_
        exact sX10_done_L210 hK σ h hk
      · rw [if_neg c5] at h
        refine sw_iload_n (k0 := 2) 2 rfl (by decide +kernel) rfl ?_
        refine sw_if_eq (off := 7) 210 (by decide +kernel) (by decide) (fun c6 => ?_) (fun c6 => ?_)
        · rw [if_pos c6] at h
          refine sw_lv [] rfl ?_
          exact sX10_done_L210 hK σ h hk
        · rw [if_neg c6] at h
          refine sw_iconst (n := 1) (v := 1) (by decide +kernel) (by decide) ?_
          refine sw_goto (off := 4) 211 (by decide +kernel) (by decide) ?_
          refine sw_lv [] rfl ?_
          exact sX10_done_L211 hK σ 1 h hk
    · rw [if_neg c4] at h
      by_cases c7 : a0 = 42
      · rw [if_pos c7] at h
        refine sw_tabIn (dflt := 214) (lo := 37) (hi := 62) (offs := #[143, 197, 214, 214, 214, 127, 119, 214, 123, 214, 131, 214, 214, 214, 214, 214, 214, 214, 214, 214, 214, 214, 214, 155, 183, 169]) (len := 119) (off := 127) 128 (by decide +kernel) (by rw [c7]; decide) (by rw [c7]; decide) (by rw [c7]; decide) (by decide) ?_
        refine sw_iload_n (k0 := 1) 1 rfl (by decide +kernel) rfl ?_
        refine sw_iload_n (k0 := 2) 2 rfl (by decide +kernel) rfl ?_
        refine sw_imul (by decide +kernel) ?_
        cases h
        obtain rfl : _ = res := hk
        exact sw_iret (by decide +kernel)
      · rw [if_neg c7] at h
        by_cases c8 : a0 = 43
        · rw [if_pos c8] at h
          refine sw_tabIn (dflt := 214) (lo := 37) (hi := 62) (offs := #[143, 197, 214, 214, 214, 127, 119, 214, 123, 214, 131, 214, 214, 214, 214, 214, 214, 214, 214, 214, 214, 214, 214, 155, 183, 169]) (len := 119) (off := 119) 120 (by decide +kernel) (by rw [c8]; decide) (by rw [c8]; decide) (by rw [c8]; decide) (by decide) ?_
          refine sw_iload_n (k0 := 1) 1 rfl (by decide +kernel) rfl ?_
          refine sw_iload_n (k0 := 2) 2 rfl (by decide +kernel) rfl ?_
          refine sw_iadd (by decide +kernel) ?_
          cases h
          obtain rfl : _ = res := hk
          exact sw_iret (by decide +kernel)
        · rw [if_neg c8] at h
          by_cases c9 : a0 = 45
          · rw [if_pos c9] at h
            refine sw_tabIn (dflt := 214) (lo := 37) (hi := 62) (offs := #[143, 197, 214, 214, 214, 127, 119, 214, 123, 214, 131, 214, 214, 214, 214, 214, 214, 214, 214, 214, 214, 214, 214, 155, 183, 169]) (len := 119) (off := 123) 124 (by decide +kernel) (by rw [c9]; decide) (by rw [c9]; decide) (by rw [c9]; decide) (by decide) ?_
            refine sw_iload_n (k0 := 1) 1 rfl (by decide +kernel) rfl ?_
            refine sw_iload_n (k0 := 2) 2 rfl (by decide +kernel) rfl ?_
            refine sw_isub (by decide +kernel) ?_
            cases h
            obtain rfl : _ = res := hk
            exact sw_iret (by decide +kernel)
          · rw [if_neg c9] at h
            by_cases c10 : a0 = 47
            · rw [if_pos c10] at h
              refine sw_tabIn (dflt := 214) (lo := 37) (hi := 62) (offs := #[143, 197, 214, 214, 214, 127, 119, 214, 123, 214, 131, 214, 214, 214, 214, 214, 214, 214, 214, 214, 214, 214, 214, 155, 183, 169]) (len := 119) (off := 131) 132 (by decide +kernel) (by rw [c10]; decide) (by rw [c10]; decide) (by rw [c10]; decide) (by decide) ?_
              refine sw_iload_n (k0 := 2) 2 rfl (by decide +kernel) rfl ?_
              refine sw_if_ne (off := 7) 140 (by decide +kernel) (by decide) (fun c11 => ?_) (fun c11 => ?_)
              · rw [if_neg c11] at h
                refine sw_iload_n (k0 := 1) 1 rfl (by decide +kernel) rfl ?_
                refine sw_iload_n (k0 := 2) 2 rfl (by decide +kernel) rfl ?_
                obtain ⟨g12, h⟩ := sw_gd_e h
                refine sw_idiv (by decide +kernel) (sw_nz_e g12) ?_
                cases h
                obtain rfl : _ = res := hk
                exact sw_iret (by decide +kernel)
              · rw [if_pos c11] at h
                refine sw_iconst (n := 0) (v := 0) (by decide +kernel) (by decide) ?_
                refine sw_goto (off := 6) 143 (by decide +kernel) (by decide) ?_
                cases h
                obtain rfl : _ = res := hk
                exact sw_iret (by decide +kernel)
            · rw [if_neg c10] at h
              by_cases c13 : a0 = 60
              · rw [if_pos c13] at h
                refine sw_tabIn (dflt := 214) (lo := 37) (hi := 62) (offs := #[143, 197, 214, 214, 214, 127, 119, 214, 123, 214, 131, 214, 214, 214, 214, 214, 214, 214, 214, 214, 214, 214, 214, 155, 183, 169]) (len := 119) (off := 155) 156 (by decide +kernel) (by rw [c13]; decide) (by rw [c13]; decide) (by rw [c13]; decide) (by decide) ?_
                refine sw_iload_n (k0 := 1) 1 rfl (by decide +kernel) rfl ?_
                refine sw_iload_n (k0 := 2) 2 rfl (by decide +kernel) rfl ?_
                refine sw_icmp_ge (off := 7) 165 (by decide +kernel) (by decide) (fun c14 => ?_) (fun c14 => ?_)
                · rw [if_pos c14] at h
                  refine sw_iconst (n := 0) (v := 0) (by decide +kernel) (by decide) ?_
                  refine sw_lv [] rfl ?_
                  exact sX10_done_L166 hK σ 0 h hk
                · rw [if_neg c14] at h
                  refine sw_iconst (n := 1) (v := 1) (by decide +kernel) (by decide) ?_
                  refine sw_goto (off := 4) 166 (by decide +kernel) (by decide) ?_
                  refine sw_lv [] rfl ?_
                  exact sX10_done_L166 hK σ 1 h hk
              · rw [if_neg c13] at h
                by_cases c15 : a0 = 61
                · rw [if_pos c15] at h
                  refine sw_tabIn (dflt := 214) (lo := 37) (hi := 62) (offs := #[143, 197, 214, 214, 214, 127, 119, 214, 123, 214, 131, 214, 214, 214, 214, 214, 214, 214, 214, 214, 214, 214, 214, 155, 183, 169]) (len := 119) (off := 183) 184 (by decide +kernel) (by rw [c15]; decide) (by rw [c15]; decide) (by rw [c15]; decide) (by decide) ?_
                  refine sw_iload_n (k0 := 1) 1 rfl (by decide +kernel) rfl ?_
                  refine sw_iload_n (k0 := 2) 2 rfl (by decide +kernel) rfl ?_
                  refine sw_icmp_ne (off := 7) 193 (by decide +kernel) (by decide) (fun c16 => ?_) (fun c16 => ?_)
                  · rw [if_neg c16] at h
                    refine sw_iconst (n := 0) (v := 0) (by decide +kernel) (by decide) ?_
                    refine sw_lv [] rfl ?_
                    exact sX10_done_L194 hK σ 0 h hk
                  · rw [if_pos c16] at h
                    refine sw_iconst (n := 1) (v := 1) (by decide +kernel) (by decide) ?_
                    refine sw_goto (off := 4) 194 (by decide +kernel) (by decide) ?_
                    refine sw_lv [] rfl ?_
                    exact sX10_done_L194 hK σ 1 h hk
                · rw [if_neg c15] at h
                  by_cases c17 : a0 = 62
                  · rw [if_pos c17] at h
                    refine sw_tabIn (dflt := 214) (lo := 37) (hi := 62) (offs := #[143, 197, 214, 214, 214, 127, 119, 214, 123, 214, 131, 214, 214, 214, 214, 214, 214, 214, 214, 214, 214, 214, 214, 155, 183, 169]) (len := 119) (off := 169) 170 (by decide +kernel) (by rw [c17]; decide) (by rw [c17]; decide) (by rw [c17]; decide) (by decide) ?_
                    refine sw_iload_n (k0 := 1) 1 rfl (by decide +kernel) rfl ?_
                    refine sw_iload_n (k0 := 2) 2 rfl (by decide +kernel) rfl ?_
                    refine sw_icmp_le (off := 7) 179 (by decide +kernel) (by decide) (fun c18 => ?_) (fun c18 => ?_)
                    · rw [if_pos c18] at h
                      refine sw_iconst (n := 0) (v := 0) (by decide +kernel) (by decide) ?_
                      refine sw_lv [] rfl ?_
                      exact sX10_done_L180 hK σ 0 h hk
                    · rw [if_neg c18] at h
                      refine sw_iconst (n := 1) (v := 1) (by decide +kernel) (by decide) ?_
                      refine sw_goto (off := 4) 180 (by decide +kernel) (by decide) ?_
                      refine sw_lv [] rfl ?_
                      exact sX10_done_L180 hK σ 1 h hk
                  · rw [if_neg c17] at h
                    by_cases c19 : a0 = 39
                    · refine sw_tabIn (dflt := 214) (lo := 37) (hi := 62) (offs := #[143, 197, 214, 214, 214, 127, 119, 214, 123, 214, 131, 214, 214, 214, 214, 214, 214, 214, 214, 214, 214, 214, 214, 155, 183, 169]) (len := 119) (off := 214) 215 (by decide +kernel) (by rw [c19]; decide) (by rw [c19]; decide) (by rw [c19]; decide) (by decide) ?_
                      refine sw_lv [1, 2] rfl ?_
                      exact sX10_done_L215 hK σ a1 a2 h hk
                    · by_cases c20 : a0 = 40
                      · refine sw_tabIn (dflt := 214) (lo := 37) (hi := 62) (offs := #[143, 197, 214, 214, 214, 127, 119, 214, 123, 214, 131, 214, 214, 214, 214, 214, 214, 214, 214, 214, 214, 214, 214, 155, 183, 169]) (len := 119) (off := 214) 215 (by decide +kernel) (by rw [c20]; decide) (by rw [c20]; decide) (by rw [c20]; decide) (by decide) ?_
                        refine sw_lv [1, 2] rfl ?_
                        exact sX10_done_L215 hK σ a1 a2 h hk
                      · by_cases c21 : a0 = 41
                        · refine sw_tabIn (dflt := 214) (lo := 37) (hi := 62) (offs := #[143, 197, 214, 214, 214, 127, 119, 214, 123, 214, 131, 214, 214, 214, 214, 214, 214, 214, 214, 214, 214, 214, 214, 155, 183, 169]) (len := 119) (off := 214) 215 (by decide +kernel) (by rw [c21]; decide) (by rw [c21]; decide) (by rw [c21]; decide) (by decide) ?_
                          refine sw_lv [1, 2] rfl ?_
                          exact sX10_done_L215 hK σ a1 a2 h hk
                        · by_cases c22 : a0 = 44
                          · refine sw_tabIn (dflt := 214) (lo := 37) (hi := 62) (offs := #[143, 197, 214, 214, 214, 127, 119, 214, 123, 214, 131, 214, 214, 214, 214, 214, 214, 214, 214, 214, 214, 214, 214, 155, 183, 169]) (len := 119) (off := 214) 215 (by decide +kernel) (by rw [c22]; decide) (by rw [c22]; decide) (by rw [c22]; decide) (by decide) ?_
                            refine sw_lv [1, 2] rfl ?_
                            exact sX10_done_L215 hK σ a1 a2 h hk
                          · by_cases c23 : a0 = 46
                            · refine sw_tabIn (dflt := 214) (lo := 37) (hi := 62) (offs := #[143, 197, 214, 214, 214, 127, 119, 214, 123, 214, 131, 214, 214, 214, 214, 214, 214, 214, 214, 214, 214, 214, 214, 155, 183, 169]) (len := 119) (off := 214) 215 (by decide +kernel) (by rw [c23]; decide) (by rw [c23]; decide) (by rw [c23]; decide) (by decide) ?_
                              refine sw_lv [1, 2] rfl ?_
                              exact sX10_done_L215 hK σ a1 a2 h hk
                            · by_cases c24 : a0 = 48
                              · refine sw_tabIn (dflt := 214) (lo := 37) (hi := 62) (offs := #[143, 197, 214, 214, 214, 127, 119, 214, 123, 214, 131, 214, 214, 214, 214, 214, 214, 214, 214, 214, 214, 214, 214, 155, 183, 169]) (len := 119) (off := 214) 215 (by decide +kernel) (by rw [c24]; decide) (by rw [c24]; decide) (by rw [c24]; decide) (by decide) ?_
                                refine sw_lv [1, 2] rfl ?_
                                exact sX10_done_L215 hK σ a1 a2 h hk
                              · by_cases c25 : a0 = 49
                                · refine sw_tabIn (dflt := 214) (lo := 37) (hi := 62) (offs := #[143, 197, 214, 214, 214, 127, 119, 214, 123, 214, 131, 214, 214, 214, 214, 214, 214, 214, 214, 214, 214, 214, 214, 155, 183, 169]) (len := 119) (off := 214) 215 (by decide +kernel) (by rw [c25]; decide) (by rw [c25]; decide) (by rw [c25]; decide) (by decide) ?_
                                  refine sw_lv [1, 2] rfl ?_
                                  exact sX10_done_L215 hK σ a1 a2 h hk
                                · by_cases c26 : a0 = 50
                                  · refine sw_tabIn (dflt := 214) (lo := 37) (hi := 62) (offs := #[143, 197, 214, 214, 214, 127, 119, 214, 123, 214, 131, 214, 214, 214, 214, 214, 214, 214, 214, 214, 214, 214, 214, 155, 183, 169]) (len := 119) (off := 214) 215 (by decide +kernel) (by rw [c26]; decide) (by rw [c26]; decide) (by rw [c26]; decide) (by decide) ?_
                                    refine sw_lv [1, 2] rfl ?_
                                    exact sX10_done_L215 hK σ a1 a2 h hk
                                  · by_cases c27 : a0 = 51
                                    · refine sw_tabIn (dflt := 214) (lo := 37) (hi := 62) (offs := #[143, 197, 214, 214, 214, 127, 119, 214, 123, 214, 131, 214, 214, 214, 214, 214, 214, 214, 214, 214, 214, 214, 214, 155, 183, 169]) (len := 119) (off := 214) 215 (by decide +kernel) (by rw [c27]; decide) (by rw [c27]; decide) (by rw [c27]; decide) (by decide) ?_
                                      refine sw_lv [1, 2] rfl ?_
                                      exact sX10_done_L215 hK σ a1 a2 h hk
                                    · by_cases c28 : a0 = 52
                                      · refine sw_tabIn (dflt := 214) (lo := 37) (hi := 62) (offs := #[143, 197, 214, 214, 214, 127, 119, 214, 123, 214, 131, 214, 214, 214, 214, 214, 214, 214, 214, 214, 214, 214, 214, 155, 183, 169]) (len := 119) (off := 214) 215 (by decide +kernel) (by rw [c28]; decide) (by rw [c28]; decide) (by rw [c28]; decide) (by decide) ?_
                                        refine sw_lv [1, 2] rfl ?_
                                        exact sX10_done_L215 hK σ a1 a2 h hk
                                      · by_cases c29 : a0 = 53
                                        · refine sw_tabIn (dflt := 214) (lo := 37) (hi := 62) (offs := #[143, 197, 214, 214, 214, 127, 119, 214, 123, 214, 131, 214, 214, 214, 214, 214, 214, 214, 214, 214, 214, 214, 214, 155, 183, 169]) (len := 119) (off := 214) 215 (by decide +kernel) (by rw [c29]; decide) (by rw [c29]; decide) (by rw [c29]; decide) (by decide) ?_
                                          refine sw_lv [1, 2] rfl ?_
                                          exact sX10_done_L215 hK σ a1 a2 h hk
                                        · by_cases c30 : a0 = 54
                                          · refine sw_tabIn (dflt := 214) (lo := 37) (hi := 62) (offs := #[143, 197, 214, 214, 214, 127, 119, 214, 123, 214, 131, 214, 214, 214, 214, 214, 214, 214, 214, 214, 214, 214, 214, 155, 183, 169]) (len := 119) (off := 214) 215 (by decide +kernel) (by rw [c30]; decide) (by rw [c30]; decide) (by rw [c30]; decide) (by decide) ?_
                                            refine sw_lv [1, 2] rfl ?_
                                            exact sX10_done_L215 hK σ a1 a2 h hk
                                          · by_cases c31 : a0 = 55
                                            · refine sw_tabIn (dflt := 214) (lo := 37) (hi := 62) (offs := #[143, 197, 214, 214, 214, 127, 119, 214, 123, 214, 131, 214, 214, 214, 214, 214, 214, 214, 214, 214, 214, 214, 214, 155, 183, 169]) (len := 119) (off := 214) 215 (by decide +kernel) (by rw [c31]; decide) (by rw [c31]; decide) (by rw [c31]; decide) (by decide) ?_
                                              refine sw_lv [1, 2] rfl ?_
                                              exact sX10_done_L215 hK σ a1 a2 h hk
                                            · by_cases c32 : a0 = 56
                                              · refine sw_tabIn (dflt := 214) (lo := 37) (hi := 62) (offs := #[143, 197, 214, 214, 214, 127, 119, 214, 123, 214, 131, 214, 214, 214, 214, 214, 214, 214, 214, 214, 214, 214, 214, 155, 183, 169]) (len := 119) (off := 214) 215 (by decide +kernel) (by rw [c32]; decide) (by rw [c32]; decide) (by rw [c32]; decide) (by decide) ?_
                                                refine sw_lv [1, 2] rfl ?_
                                                exact sX10_done_L215 hK σ a1 a2 h hk
                                              · by_cases c33 : a0 = 57
                                                · refine sw_tabIn (dflt := 214) (lo := 37) (hi := 62) (offs := #[143, 197, 214, 214, 214, 127, 119, 214, 123, 214, 131, 214, 214, 214, 214, 214, 214, 214, 214, 214, 214, 214, 214, 155, 183, 169]) (len := 119) (off := 214) 215 (by decide +kernel) (by rw [c33]; decide) (by rw [c33]; decide) (by rw [c33]; decide) (by decide) ?_
                                                  refine sw_lv [1, 2] rfl ?_
                                                  exact sX10_done_L215 hK σ a1 a2 h hk
                                                · by_cases c34 : a0 = 58
                                                  · refine sw_tabIn (dflt := 214) (lo := 37) (hi := 62) (offs := #[143, 197, 214, 214, 214, 127, 119, 214, 123, 214, 131, 214, 214, 214, 214, 214, 214, 214, 214, 214, 214, 214, 214, 155, 183, 169]) (len := 119) (off := 214) 215 (by decide +kernel) (by rw [c34]; decide) (by rw [c34]; decide) (by rw [c34]; decide) (by decide) ?_
                                                    refine sw_lv [1, 2] rfl ?_
                                                    exact sX10_done_L215 hK σ a1 a2 h hk
                                                  · by_cases c35 : a0 = 59
                                                    · refine sw_tabIn (dflt := 214) (lo := 37) (hi := 62) (offs := #[143, 197, 214, 214, 214, 127, 119, 214, 123, 214, 131, 214, 214, 214, 214, 214, 214, 214, 214, 214, 214, 214, 214, 155, 183, 169]) (len := 119) (off := 214) 215 (by decide +kernel) (by rw [c35]; decide) (by rw [c35]; decide) (by rw [c35]; decide) (by decide) ?_
                                                      refine sw_lv [1, 2] rfl ?_
                                                      exact sX10_done_L215 hK σ a1 a2 h hk
                                                    · have n0 := lv_neT (a := 37) c1 (by decide)
                                                      have n1 := lv_neT (a := 38) c4 (by decide)
                                                      have n2 := lv_neT (a := 42) c7 (by decide)
                                                      have n3 := lv_neT (a := 43) c8 (by decide)
                                                      have n4 := lv_neT (a := 45) c9 (by decide)
                                                      have n5 := lv_neT (a := 47) c10 (by decide)
                                                      have n6 := lv_neT (a := 60) c13 (by decide)
                                                      have n7 := lv_neT (a := 61) c15 (by decide)
                                                      have n8 := lv_neT (a := 62) c17 (by decide)
                                                      have n9 := lv_neT (a := 39) c19 (by decide)
                                                      have n10 := lv_neT (a := 40) c20 (by decide)
                                                      have n11 := lv_neT (a := 41) c21 (by decide)
                                                      have n12 := lv_neT (a := 44) c22 (by decide)
                                                      have n13 := lv_neT (a := 46) c23 (by decide)
                                                      have n14 := lv_neT (a := 48) c24 (by decide)
                                                      have n15 := lv_neT (a := 49) c25 (by decide)
                                                      have n16 := lv_neT (a := 50) c26 (by decide)
                                                      have n17 := lv_neT (a := 51) c27 (by decide)
                                                      have n18 := lv_neT (a := 52) c28 (by decide)
                                                      have n19 := lv_neT (a := 53) c29 (by decide)
                                                      have n20 := lv_neT (a := 54) c30 (by decide)
                                                      have n21 := lv_neT (a := 55) c31 (by decide)
                                                      have n22 := lv_neT (a := 56) c32 (by decide)
                                                      have n23 := lv_neT (a := 57) c33 (by decide)
                                                      have n24 := lv_neT (a := 58) c34 (by decide)
                                                      have n25 := lv_neT (a := 59) c35 (by decide)
                                                      refine sw_tabOut (dflt := 214) (lo := 37) (hi := 62) (offs := #[143, 197, 214, 214, 214, 127, 119, 214, 123, 214, 131, 214, 214, 214, 214, 214, 214, 214, 214, 214, 214, 214, 214, 155, 183, 169]) (len := 119) 215 (by decide +kernel) (by omega) (by decide) ?_
                                                      refine sw_lv [1, 2] rfl ?_
                                                      exact sX10_done_L215 hK σ a1 a2 h hk
def fX10_lesser (a0 : Int32) (a1 : Int32) : Int32 :=
  if a1 ≤ a0 then
    a1
  else
    a0
set_option maxRecDepth 20000 in
theorem sX10_lesser {l : Launch} {E : sw_E} {K : Nat} (hK : 0 ≤ K) (σ : sw_M) (a0 : Int32) (a1 : Int32) {res : Int32} (h : fX10_lesser a0 a1 = res) : sw_Ct l E K yX10_lesser cX10_lesser 2 (some .int) [.int a0, .int a1] σ (some (.int res)) σ := by
  obtain ⟨t, hk, h⟩ : ∃ t, t = res ∧ fX10_lesser a0 a1 = t := ⟨res, rfl, h⟩
  unfold fX10_lesser at h
  refine sw_enter2 (own := RX10) (lv := [(0, .int a0), (1, .int a1)]) (by decide +kernel) (Nat.le_of_ble_eq_true rfl) rfl rfl ?_
  refine sw_iload_n (k0 := 0) 0 rfl (by decide +kernel) rfl ?_
  refine sw_iload_n (k0 := 1) 1 rfl (by decide +kernel) rfl ?_
  refine sw_icmp_ge (off := 7) 9 (by decide +kernel) (by decide) (fun c1 => ?_) (fun c1 => ?_)
  · rw [if_pos c1] at h
    refine sw_iload_n (k0 := 1) 1 rfl (by decide +kernel) rfl ?_
    subst h
    obtain rfl : _ = res := hk
    exact sw_iret (by decide +kernel)
  · rw [if_neg c1] at h
    refine sw_iload_n (k0 := 0) 0 rfl (by decide +kernel) rfl ?_
    refine sw_goto (off := 4) 10 (by decide +kernel) (by decide) ?_
    subst h
    obtain rfl : _ = res := hk
    exact sw_iret (by decide +kernel)
def fX10_greater (a0 : Int32) (a1 : Int32) : Int32 :=
  if a0 ≤ a1 then
    a1
  else
    a0
set_option maxRecDepth 20000 in
theorem sX10_greater {l : Launch} {E : sw_E} {K : Nat} (hK : 0 ≤ K) (σ : sw_M) (a0 : Int32) (a1 : Int32) {res : Int32} (h : fX10_greater a0 a1 = res) : sw_Ct l E K yX10_greater cX10_greater 2 (some .int) [.int a0, .int a1] σ (some (.int res)) σ := by
  obtain ⟨t, hk, h⟩ : ∃ t, t = res ∧ fX10_greater a0 a1 = t := ⟨res, rfl, h⟩
  unfold fX10_greater at h
  refine sw_enter2 (own := RX10) (lv := [(0, .int a0), (1, .int a1)]) (by decide +kernel) (Nat.le_of_ble_eq_true rfl) rfl rfl ?_
  refine sw_iload_n (k0 := 0) 0 rfl (by decide +kernel) rfl ?_
  refine sw_iload_n (k0 := 1) 1 rfl (by decide +kernel) rfl ?_
  refine sw_icmp_le (off := 7) 9 (by decide +kernel) (by decide) (fun c1 => ?_) (fun c1 => ?_)
  · rw [if_pos c1] at h
    refine sw_iload_n (k0 := 1) 1 rfl (by decide +kernel) rfl ?_
    subst h
    obtain rfl : _ = res := hk
    exact sw_iret (by decide +kernel)
  · rw [if_neg c1] at h
    refine sw_iload_n (k0 := 0) 0 rfl (by decide +kernel) rfl ?_
    refine sw_goto (off := 4) 10 (by decide +kernel) (by decide) ?_
    subst h
    obtain rfl : _ = res := hk
    exact sw_iret (by decide +kernel)
def fX10_members_L4 (a0 : Int32) (a1 : Int32) (a2 : Int32) : Option ((Int32 × Int32) ⊕ (Int32)) :=
  if 7 ≤ a2 then
    some (.inr (a1))
  else
    sw_let (a1 + ((a0 >>> (a2 &&& 31)) &&& 1)) fun v2 =>
    sw_let (a2 + 1) fun v4 =>
    some (.inl (v2, v4))
def fX10_members (a0 : Int32) : Option (Int32) :=
  sw_wh sw_F (fun s => fX10_members_L4 a0 s.1 s.2) (0, 0)
set_option maxRecDepth 20000 in
theorem sX10_members_L4 {l : Launch} {E : sw_E} {K : Nat} (hK : 0 ≤ K) (σ : sw_M) (a0 : Int32) (a1 : Int32) (a2 : Int32) {res : Int32} {t : (Int32 × Int32) ⊕ (Int32)} (h : fX10_members_L4 a0 a1 a2 = some t) (hk : (Sum.elim (fun s : Int32 × Int32 => sw_Go l E K RX10 cX10_members 3 (some .int) 4 [(0, .int a0), (1, .int s.1), (2, .int s.2)] [] σ (some (.int res)) σ) (fun q => q = res)) t) : sw_Go l E K RX10 cX10_members 3 (some .int) 4 [(0, .int a0), (1, .int a1), (2, .int a2)] [] σ (some (.int res)) σ := by
  unfold fX10_members_L4 at h
  refine sw_iload_n (k0 := 2) 2 rfl (by decide +kernel) rfl ?_
  refine sw_bipush (n := 7) (v := 7) (by decide +kernel) (by decide) ?_
  refine sw_icmp_ge (off := 17) 24 (by decide +kernel) (by decide) (fun c1 => ?_) (fun c1 => ?_)
  · rw [if_pos c1] at h
    refine sw_iload_n (k0 := 1) 1 rfl (by decide +kernel) rfl ?_
    cases h
    obtain rfl : _ = res := hk
    exact sw_iret (by decide +kernel)
  · rw [if_neg c1] at h
    refine sw_iload_n (k0 := 1) 1 rfl (by decide +kernel) rfl ?_
    refine sw_iload_n (k0 := 0) 0 rfl (by decide +kernel) rfl ?_
    refine sw_iload_n (k0 := 2) 2 rfl (by decide +kernel) rfl ?_
    refine sw_ishr (by decide +kernel) ?_
    refine sw_iconst (n := 1) (v := 1) (by decide +kernel) (by decide) ?_
    refine sw_iand (by decide +kernel) ?_
    refine sw_iadd (by decide +kernel) ?_
    obtain ⟨v2, e3, h⟩ := sw_let_e h
    refine sw_topi e3 ?_
    refine sw_istore_n (k0 := 1) (lv' := [(1, .int v2), (0, .int a0), (2, .int a2)]) (by decide +kernel) rfl (by decide) rfl ?_
    obtain ⟨v4, e5, h⟩ := sw_let_e h
    refine sw_iincv (i := 2) (n := 1) (lv' := [(2, .int v4), (1, .int v2), (0, .int a0)]) 2 rfl e5 (by decide +kernel) (by decide) (by decide) rfl ?_
    refine sw_goto (off := (-17)) 4 (by decide +kernel) (by decide) ?_
    cases h
    refine sw_lv [2, 1, 0] rfl ?_
    exact hk
set_option maxRecDepth 20000 in
theorem sX10_members {l : Launch} {E : sw_E} {K : Nat} (hK : 0 ≤ K) (σ : sw_M) (a0 : Int32) {res : Int32} (h : fX10_members a0 = some res) : sw_Ct l E K yX10_members cX10_members 3 (some .int) [.int a0] σ (some (.int res)) σ := by
  obtain ⟨t, hk, h⟩ : ∃ t, t = res ∧ fX10_members a0 = some t := ⟨res, rfl, h⟩
  unfold fX10_members at h
  refine sw_enter2 (own := RX10) (lv := [(0, .int a0)]) (by decide +kernel) (Nat.le_of_ble_eq_true rfl) rfl rfl ?_
  refine sw_iconst (n := 0) (v := 0) (by decide +kernel) (by decide) ?_
  refine sw_istore_n (k0 := 1) (lv' := [(1, .int 0), (0, .int a0)]) (by decide +kernel) rfl (by decide) rfl ?_
  refine sw_iconst (n := 0) (v := 0) (by decide +kernel) (by decide) ?_
  refine sw_istore_n (k0 := 2) (lv' := [(2, .int 0), (1, .int 0), (0, .int a0)]) (by decide +kernel) rfl (by decide) rfl ?_
  refine sw_lv [2, 1, 0] rfl ?_
  exact sw_wh_e (fun s : Int32 × Int32 => sw_Go l E K RX10 cX10_members 3 (some .int) 4 [(0, .int a0), (1, .int s.1), (2, .int s.2)] [] σ (some (.int res)) σ) (fun q => q = res) (fun s => fX10_members_L4 a0 s.1 s.2) (fun s t hb hk => sX10_members_L4 hK σ a0 s.1 s.2 hb hk) _ _ _ h hk
def fX10_allOf_L4 (σ : sw_M) (a1 : Int32) (a2 : Int32) : Option ((Int32 × Int32) ⊕ (Int32)) :=
  if (σ.1 49 40) ≤ a2 then
    some (.inr (a1))
  else
    sw_gd (sw_in a2 10) <|
    sw_let (a1 + (σ.1 66 a2.toNatClampNeg)) fun v3 =>
    sw_let (a2 + 1) fun v5 =>
    some (.inl (v3, v5))
def fX10_allOf (σ : sw_M) : Option (Int32) :=
  sw_wh sw_F (fun s => fX10_allOf_L4 σ s.1 s.2) (0, 0)
set_option maxRecDepth 20000 in
theorem sX10_allOf_L4 {l : Launch} {E : sw_E} {K : Nat} (hK : 0 ≤ K) (σ : sw_M) (a1 : Int32) (a2 : Int32) {res : Int32} {t : (Int32 × Int32) ⊕ (Int32)} (h : fX10_allOf_L4 σ a1 a2 = some t) (hk : (Sum.elim (fun s : Int32 × Int32 => sw_Go l E K RX10 cX10_allOf 3 (some .int) 4 [(0, .ref 49), (1, .int s.1), (2, .int s.2)] [] σ (some (.int res)) σ) (fun q => q = res)) t) : sw_Go l E K RX10 cX10_allOf 3 (some .int) 4 [(0, .ref 49), (1, .int a1), (2, .int a2)] [] σ (some (.int res)) σ := by
  unfold fX10_allOf_L4 at h
  refine sw_iload_n (k0 := 2) 2 rfl (by decide +kernel) rfl ?_
  refine sw_aload_n (k0 := 0) 0 rfl (by decide +kernel) rfl ?_
  refine gf_X10_291 (i := 49) (by decide) rfl (by decide +kernel) ?_
  refine sw_icmp_ge (off := 18) 27 (by decide +kernel) (by decide) (fun c1 => ?_) (fun c1 => ?_)
  · rw [if_pos c1] at h
    refine sw_iload_n (k0 := 1) 1 rfl (by decide +kernel) rfl ?_
    cases h
    obtain rfl : _ = res := hk
    exact sw_iret (by decide +kernel)
  · rw [if_neg c1] at h
    refine sw_iload_n (k0 := 1) 1 rfl (by decide +kernel) rfl ?_
    refine sw_aload_n (k0 := 0) 0 rfl (by decide +kernel) rfl ?_
    refine gf_X10_63 (i := 49) (by decide) rfl (by decide +kernel) ?_
    refine sw_refj 66 rfl ?_
    refine sw_iload_n (k0 := 2) 2 rfl (by decide +kernel) rfl ?_
    obtain ⟨g2, h⟩ := sw_gd_e h
    refine sw_iaload (a := 66) (by decide) rfl (sw_in_e g2) (by decide +kernel) ?_
    refine sw_iadd (by decide +kernel) ?_
    obtain ⟨v3, e4, h⟩ := sw_let_e h
    refine sw_topi e4 ?_
    refine sw_istore_n (k0 := 1) (lv' := [(1, .int v3), (0, .ref 49), (2, .int a2)]) (by decide +kernel) rfl (by decide) rfl ?_
    obtain ⟨v5, e6, h⟩ := sw_let_e h
    refine sw_iincv (i := 2) (n := 1) (lv' := [(2, .int v5), (1, .int v3), (0, .ref 49)]) 2 rfl e6 (by decide +kernel) (by decide) (by decide) rfl ?_
    refine sw_goto (off := (-20)) 4 (by decide +kernel) (by decide) ?_
    cases h
    refine sw_lv [2, 1, 0] rfl ?_
    exact hk
set_option maxRecDepth 20000 in
theorem sX10_allOf {l : Launch} {E : sw_E} {K : Nat} (hK : 0 ≤ K) (σ : sw_M) {res : Int32} (h : fX10_allOf σ = some res) : sw_Ct l E K yX10_allOf cX10_allOf 3 (some .int) [.ref 49] σ (some (.int res)) σ := by
  obtain ⟨t, hk, h⟩ : ∃ t, t = res ∧ fX10_allOf σ = some t := ⟨res, rfl, h⟩
  unfold fX10_allOf at h
  refine sw_enter2 (own := RX10) (lv := [(0, .ref 49)]) (by decide +kernel) (Nat.le_of_ble_eq_true rfl) rfl rfl ?_
  refine sw_iconst (n := 0) (v := 0) (by decide +kernel) (by decide) ?_
  refine sw_istore_n (k0 := 1) (lv' := [(1, .int 0), (0, .ref 49)]) (by decide +kernel) rfl (by decide) rfl ?_
  refine sw_iconst (n := 0) (v := 0) (by decide +kernel) (by decide) ?_
  refine sw_istore_n (k0 := 2) (lv' := [(2, .int 0), (1, .int 0), (0, .ref 49)]) (by decide +kernel) rfl (by decide) rfl ?_
  refine sw_lv [2, 1, 0] rfl ?_
  exact sw_wh_e (fun s : Int32 × Int32 => sw_Go l E K RX10 cX10_allOf 3 (some .int) 4 [(0, .ref 49), (1, .int s.1), (2, .int s.2)] [] σ (some (.int res)) σ) (fun q => q = res) (fun s => fX10_allOf_L4 σ s.1 s.2) (fun s t hb hk => sX10_allOf_L4 hK σ s.1 s.2 hb hk) _ _ _ h hk
def fX10_isRisen_L326 (σ : sw_M) (a1 : Int32) (a2 : Int32) : Option ((Int32 × Int32 × sw_M) ⊕ (Int32 × sw_M)) :=
  sw_let (a2 + 1) fun v1 =>
  some (.inl (a1, v1, σ))
def fX10_isRisen_L245 (σ : sw_M) (a1 : Int32) (a2 : Int32) (b0 : Int32) (b1 : Int32) : Option ((Int32 × Int32 × sw_M) ⊕ (Int32 × sw_M)) :=
  sw_gd (sw_in b1 64) <|
  sw_let (sw_w σ 57 b1.toNatClampNeg b0) fun m2 =>
  sw_let (a1 + 1) fun v4 =>
  fX10_isRisen_L326 m2 v4 a2
def fX10_isRisen_L211 (σ : sw_M) (a1 : Int32) (a2 : Int32) : Option ((Int32 × Int32 × sw_M) ⊕ (Int32 × sw_M)) :=
  sw_gd (sw_in a2 320) <|
  if (σ.1 54 a2.toNatClampNeg) = 0 then
    sw_gd (sw_in a2 320) <|
    fX10_isRisen_L245 σ a1 a2 (σ.1 55 a2.toNatClampNeg) a1
  else
    sw_gd (sw_in a2 320) <|
    sw_gd (sw_in (σ.1 55 a2.toNatClampNeg) 6) <|
    fX10_isRisen_L245 σ a1 a2 (σ.1 58 (σ.1 55 a2.toNatClampNeg).toNatClampNeg) a1
def fX10_isRisen_L285 (σ : sw_M) (a1 : Int32) (a2 : Int32) (b0 : Int32) (b1 : Int32) : Option ((Int32 × Int32 × sw_M) ⊕ (Int32 × sw_M)) :=
  sw_gd (sw_in b1 64) <|
  sw_let (sw_w σ 57 b1.toNatClampNeg (fX10_truth b0)) fun m2 =>
  fX10_isRisen_L326 m2 a1 a2
def fX10_isRisen_L184 (σ : sw_M) (a1 : Int32) (a2 : Int32) : Option ((Int32 × Int32 × sw_M) ⊕ (Int32 × sw_M)) :=
  if (σ.1 49 18) ≤ a2 then
    if (σ.1 57 0) ≤ 0 then
      some (.inr ((0, σ)))
    else
      some (.inr ((1, σ)))
  else
    sw_gd (sw_in a2 320) <|
    if (σ.1 54 a2.toNatClampNeg) = 0 then
      fX10_isRisen_L211 σ a1 a2
    else
      sw_gd (sw_in a2 320) <|
      if (σ.1 54 a2.toNatClampNeg) = 1 then
        fX10_isRisen_L211 σ a1 a2
      else
        sw_gd (sw_in a2 320) <|
        if (σ.1 54 a2.toNatClampNeg) = 2 then
          sw_gd (sw_in (a1 - 1) 64) <|
          if (σ.1 57 (a1 - 1).toNatClampNeg) = 0 then
            fX10_isRisen_L285 σ a1 a2 1 (a1 - 1)
          else
            fX10_isRisen_L285 σ a1 a2 0 (a1 - 1)
        else
          sw_let (a1 + (-1)) fun v9 =>
          sw_gd (sw_in a2 320) <|
          sw_gd (sw_in (v9 - 1) 64) <|
          sw_gd (sw_in v9 64) <|
          sw_b1 (fX10_done (σ.1 55 a2.toNatClampNeg) (σ.1 57 (v9 - 1).toNatClampNeg) (σ.1 57 v9.toNatClampNeg)) fun r14 =>
          sw_gd (sw_in (v9 - 1) 64) <|
          sw_let (sw_w σ 57 (v9 - 1).toNatClampNeg r14) fun m17 =>
          fX10_isRisen_L326 m17 v9 a2
def fX10_isRisen_L75 (σ : sw_M) (a1 : Int32) (b0 : Int32) (b1 : Int32) (b2 : Int32) : Option ((Int32 × sw_M) ⊕ (Int32 × sw_M)) :=
  sw_gd (sw_in b2 6) <|
  sw_let (sw_w σ 58 b2.toNatClampNeg (b1 + (fX10_truth b0))) fun m2 =>
  sw_gd (sw_in a1 10) <|
  sw_let (sw_w m2 58 2 (fX10_greater (m2.1 58 2) (m2.1 66 a1.toNatClampNeg))) fun m5 =>
  sw_gd (sw_in a1 10) <|
  sw_let (sw_w m5 58 3 (fX10_lesser (m5.1 58 3) (m5.1 66 a1.toNatClampNeg))) fun m8 =>
  sw_let (a1 + 1) fun v10 =>
  some (.inl (v10, m8))
def fX10_isRisen_L46 (σ : sw_M) (a1 : Int32) : Option ((Int32 × sw_M) ⊕ (Int32 × sw_M)) :=
  if (σ.1 49 40) ≤ a1 then
    sw_b1 (fX10_members (σ.1 66 5)) fun r2 =>
    sw_let (sw_w σ 58 4 r2) fun m4 =>
    sw_let (sw_w m4 58 5 (m4.1 66 8)) fun m6 =>
    if (m6.1 49 25) = 0 then
      if (m6.1 58 0) ≤ 50 then
        some (.inr ((0, m6)))
      else
        some (.inr ((1, m6)))
    else
      sw_up (sw_wh sw_F (fun s => fX10_isRisen_L184 s.2.2 s.1 s.2.1) (0, 0, m6))
  else
    sw_gd (sw_in a1 10) <|
    if (σ.1 66 a1.toNatClampNeg) ≤ 0 then
      fX10_isRisen_L75 σ a1 0 (σ.1 58 1) 1
    else
      fX10_isRisen_L75 σ a1 1 (σ.1 58 1) 1
def fX10_isRisen_L43 (σ : sw_M) (b0 : Int32) (b1 : Int32) : Option ((Int32 × sw_M)) :=
  sw_gd (sw_in b1 6) <|
  sw_let (sw_w σ 58 b1.toNatClampNeg b0) fun m2 =>
  sw_wh sw_F (fun s => fX10_isRisen_L46 s.2 s.1) (0, m2)
def fX10_isRisen (σ : sw_M) : Option (Int32 × sw_M) :=
  sw_b1 (fX10_allOf σ) fun r1 =>
  sw_let (sw_w σ 58 0 r1) fun m3 =>
  sw_let (sw_w m3 58 1 0) fun m5 =>
  sw_let (sw_w m5 58 2 0) fun m7 =>
  if (m7.1 49 40) = 0 then
    fX10_isRisen_L43 m7 0 3
  else
    fX10_isRisen_L43 m7 999 3
set_option maxRecDepth 20000 in
theorem sX10_isRisen_L326 {l : Launch} {E : sw_E} {K : Nat} (hK : 2 ≤ K) (σ : sw_M) (a1 : Int32) (a2 : Int32) {res : Int32 × sw_M} {t : (Int32 × Int32 × sw_M) ⊕ (Int32 × sw_M)} (h : fX10_isRisen_L326 σ a1 a2 = some t) (hk : (Sum.elim (fun s : Int32 × Int32 × sw_M => sw_Go l E K RX10 cX10_isRisen 3 (some .boolean) 184 [(0, .ref 49), (1, .int s.1), (2, .int s.2.1)] [] s.2.2 (some (.int res.1)) res.2) (fun q => q = res)) t) : sw_Go l E K RX10 cX10_isRisen 3 (some .boolean) 326 [(0, .ref 49), (1, .int a1), (2, .int a2)] [] σ (some (.int res.1)) res.2 := by
  unfold fX10_isRisen_L326 at h
  obtain ⟨v1, e2, h⟩ := sw_let_e h
  refine sw_iincv (i := 2) (n := 1) (lv' := [(2, .int v1), (0, .ref 49), (1, .int a1)]) 2 rfl e2 (by decide +kernel) (by decide) (by decide) rfl ?_
  refine sw_goto (off := (-145)) 184 (by decide +kernel) (by decide) ?_
  cases h
  refine sw_lv [1, 2, 0] rfl ?_
  exact hk
set_option maxRecDepth 20000 in
theorem sX10_isRisen_L245 {l : Launch} {E : sw_E} {K : Nat} (hK : 2 ≤ K) (σ : sw_M) (a1 : Int32) (a2 : Int32) (b0 : Int32) (b1 : Int32) {res : Int32 × sw_M} {t : (Int32 × Int32 × sw_M) ⊕ (Int32 × sw_M)} (h : fX10_isRisen_L245 σ a1 a2 b0 b1 = some t) (hk : (Sum.elim (fun s : Int32 × Int32 × sw_M => sw_Go l E K RX10 cX10_isRisen 3 (some .boolean) 184 [(0, .ref 49), (1, .int s.1), (2, .int s.2.1)] [] s.2.2 (some (.int res.1)) res.2) (fun q => q = res)) t) : sw_Go l E K RX10 cX10_isRisen 3 (some .boolean) 245 [(0, .ref 49), (1, .int a1), (2, .int a2)] [.int b0, .int b1, .ref 57] σ (some (.int res.1)) res.2 := by
  unfold fX10_isRisen_L245 at h
  obtain ⟨g1, h⟩ := sw_gd_e h
  obtain ⟨m2, e3, h⟩ := sw_let_e h
  refine sw_iastore (a := 57) (by decide) rfl (sw_in_e g1) (by decide +kernel) ?_
  refine sw_mem e3 ?_
  obtain ⟨v4, e5, h⟩ := sw_let_e h
  refine sw_iincv (i := 1) (n := 1) (lv' := [(1, .int v4), (0, .ref 49), (2, .int a2)]) 1 rfl e5 (by decide +kernel) (by decide) (by decide) rfl ?_
  refine sw_goto (off := 77) 326 (by decide +kernel) (by decide) ?_
  refine sw_lv [1, 0, 2] rfl ?_
  exact sX10_isRisen_L326 hK m2 v4 a2 h hk
set_option maxRecDepth 20000 in
theorem sX10_isRisen_L211 {l : Launch} {E : sw_E} {K : Nat} (hK : 2 ≤ K) (σ : sw_M) (a1 : Int32) (a2 : Int32) {res : Int32 × sw_M} {t : (Int32 × Int32 × sw_M) ⊕ (Int32 × sw_M)} (h : fX10_isRisen_L211 σ a1 a2 = some t) (hk : (Sum.elim (fun s : Int32 × Int32 × sw_M => sw_Go l E K RX10 cX10_isRisen 3 (some .boolean) 184 [(0, .ref 49), (1, .int s.1), (2, .int s.2.1)] [] s.2.2 (some (.int res.1)) res.2) (fun q => q = res)) t) : sw_Go l E K RX10 cX10_isRisen 3 (some .boolean) 211 [(0, .ref 49), (1, .int a1), (2, .int a2)] [] σ (some (.int res.1)) res.2 := by
  unfold fX10_isRisen_L211 at h
  refine sw_aload_n (k0 := 0) 0 rfl (by decide +kernel) rfl ?_
  refine gf_X10_36 (i := 49) (by decide) rfl (by decide +kernel) ?_
  refine sw_refj 57 rfl ?_
  refine sw_iload_n (k0 := 1) 1 rfl (by decide +kernel) rfl ?_
  refine sw_aload_n (k0 := 0) 0 rfl (by decide +kernel) rfl ?_
  refine gf_X10_27 (i := 49) (by decide) rfl (by decide +kernel) ?_
  refine sw_refj 54 rfl ?_
  refine sw_iload_n (k0 := 2) 2 rfl (by decide +kernel) rfl ?_
  obtain ⟨g1, h⟩ := sw_gd_e h
  refine sw_iaload (a := 54) (by decide) rfl (sw_in_e g1) (by decide +kernel) ?_
  refine sw_if_ne (off := 12) 234 (by decide +kernel) (by decide) (fun c2 => ?_) (fun c2 => ?_)
  · rw [if_neg c2] at h
    refine sw_aload_n (k0 := 0) 0 rfl (by decide +kernel) rfl ?_
    refine gf_X10_39 (i := 49) (by decide) rfl (by decide +kernel) ?_
    refine sw_refj 58 rfl ?_
    refine sw_aload_n (k0 := 0) 0 rfl (by decide +kernel) rfl ?_
    refine gf_X10_30 (i := 49) (by decide) rfl (by decide +kernel) ?_
    refine sw_refj 55 rfl ?_
    refine sw_iload_n (k0 := 2) 2 rfl (by decide +kernel) rfl ?_
    obtain ⟨g3, h⟩ := sw_gd_e h
    refine sw_iaload (a := 55) (by decide) rfl (sw_in_e g3) (by decide +kernel) ?_
    obtain ⟨g4, h⟩ := sw_gd_e h
    refine sw_iaload (a := 58) (by decide) rfl (sw_in_e g4) (by decide +kernel) ?_
    exact sX10_isRisen_L245 hK σ a1 a2 (σ.1 58 (σ.1 55 a2.toNatClampNeg).toNatClampNeg) a1 h hk
  · rw [if_pos c2] at h
    refine sw_aload_n (k0 := 0) 0 rfl (by decide +kernel) rfl ?_
    refine gf_X10_30 (i := 49) (by decide) rfl (by decide +kernel) ?_
    refine sw_refj 55 rfl ?_
    refine sw_iload_n (k0 := 2) 2 rfl (by decide +kernel) rfl ?_
    obtain ⟨g5, h⟩ := sw_gd_e h
    refine sw_iaload (a := 55) (by decide) rfl (sw_in_e g5) (by decide +kernel) ?_
    refine sw_goto (off := 14) 245 (by decide +kernel) (by decide) ?_
    exact sX10_isRisen_L245 hK σ a1 a2 (σ.1 55 a2.toNatClampNeg) a1 h hk
set_option maxRecDepth 20000 in
theorem sX10_isRisen_L285 {l : Launch} {E : sw_E} {K : Nat} (hK : 2 ≤ K) (σ : sw_M) (a1 : Int32) (a2 : Int32) (b0 : Int32) (b1 : Int32) {res : Int32 × sw_M} {t : (Int32 × Int32 × sw_M) ⊕ (Int32 × sw_M)} (h : fX10_isRisen_L285 σ a1 a2 b0 b1 = some t) (hk : (Sum.elim (fun s : Int32 × Int32 × sw_M => sw_Go l E K RX10 cX10_isRisen 3 (some .boolean) 184 [(0, .ref 49), (1, .int s.1), (2, .int s.2.1)] [] s.2.2 (some (.int res.1)) res.2) (fun q => q = res)) t) : sw_Go l E K RX10 cX10_isRisen 3 (some .boolean) 285 [(0, .ref 49), (1, .int a1), (2, .int a2)] [.int b0, .int b1, .ref 57] σ (some (.int res.1)) res.2 := by
  unfold fX10_isRisen_L285 at h
  refine sw_callSi [.int b0] (sX10_truth (K := K - 1) (by omega) σ b0 rfl) rfl (by omega) gs_X10_287 hy_X10_truth (by decide) rfl (Nat.le_of_ble_eq_true rfl) (by decide +kernel) ?_
  obtain ⟨g1, h⟩ := sw_gd_e h
  obtain ⟨m2, e3, h⟩ := sw_let_e h
  refine sw_iastore (a := 57) (by decide) rfl (sw_in_e g1) (by decide +kernel) ?_
  refine sw_mem e3 ?_
  refine sw_goto (off := 37) 326 (by decide +kernel) (by decide) ?_
  exact sX10_isRisen_L326 hK m2 a1 a2 h hk
set_option maxRecDepth 20000 in
theorem sX10_isRisen_L184 {l : Launch} {E : sw_E} {K : Nat} (hK : 2 ≤ K) (σ : sw_M) (a1 : Int32) (a2 : Int32) {res : Int32 × sw_M} {t : (Int32 × Int32 × sw_M) ⊕ (Int32 × sw_M)} (h : fX10_isRisen_L184 σ a1 a2 = some t) (hk : (Sum.elim (fun s : Int32 × Int32 × sw_M => sw_Go l E K RX10 cX10_isRisen 3 (some .boolean) 184 [(0, .ref 49), (1, .int s.1), (2, .int s.2.1)] [] s.2.2 (some (.int res.1)) res.2) (fun q => q = res)) t) : sw_Go l E K RX10 cX10_isRisen 3 (some .boolean) 184 [(0, .ref 49), (1, .int a1), (2, .int a2)] [] σ (some (.int res.1)) res.2 := by
  unfold fX10_isRisen_L184 at h
  refine sw_iload_n (k0 := 2) 2 rfl (by decide +kernel) rfl ?_
  refine sw_aload_n (k0 := 0) 0 rfl (by decide +kernel) rfl ?_
  refine gf_X10_309 (i := 49) (by decide) rfl (by decide +kernel) ?_
  refine sw_icmp_ge (off := 143) 332 (by decide +kernel) (by decide) (fun c1 => ?_) (fun c1 => ?_)
  · rw [if_pos c1] at h
    refine sw_aload_n (k0 := 0) 0 rfl (by decide +kernel) rfl ?_
    refine gf_X10_36 (i := 49) (by decide) rfl (by decide +kernel) ?_
    refine sw_refj 57 rfl ?_
    refine sw_iconst (n := 0) (v := 0) (by decide +kernel) (by decide) ?_
    refine sw_iaload (a := 57) (by decide) rfl (sw_in_e (by decide)) (by decide +kernel) ?_
    refine sw_topi (x := σ.1 57 0) rfl ?_
    refine sw_if_le (off := 7) 345 (by decide +kernel) (by decide) (fun c2 => ?_) (fun c2 => ?_)
    · rw [if_pos c2] at h
      refine sw_iconst (n := 0) (v := 0) (by decide +kernel) (by decide) ?_
      cases h
      obtain rfl : _ = res := hk
      exact sw_zret rfl (by decide +kernel)
    · rw [if_neg c2] at h
      refine sw_iconst (n := 1) (v := 1) (by decide +kernel) (by decide) ?_
      refine sw_goto (off := 4) 346 (by decide +kernel) (by decide) ?_
      cases h
      obtain rfl : _ = res := hk
      exact sw_zret rfl (by decide +kernel)
  · rw [if_neg c1] at h
    refine sw_aload_n (k0 := 0) 0 rfl (by decide +kernel) rfl ?_
    refine gf_X10_27 (i := 49) (by decide) rfl (by decide +kernel) ?_
    refine sw_refj 54 rfl ?_
    refine sw_iload_n (k0 := 2) 2 rfl (by decide +kernel) rfl ?_
    obtain ⟨g3, h⟩ := sw_gd_e h
    refine sw_iaload (a := 54) (by decide) rfl (sw_in_e g3) (by decide +kernel) ?_
    refine sw_if_eq (off := 13) 211 (by decide +kernel) (by decide) (fun c4 => ?_) (fun c4 => ?_)
    · rw [if_pos c4] at h
      exact sX10_isRisen_L211 hK σ a1 a2 h hk
    · rw [if_neg c4] at h
      refine sw_aload_n (k0 := 0) 0 rfl (by decide +kernel) rfl ?_
      refine gf_X10_27 (i := 49) (by decide) rfl (by decide +kernel) ?_
      refine sw_refj 54 rfl ?_
      refine sw_iload_n (k0 := 2) 2 rfl (by decide +kernel) rfl ?_
      obtain ⟨g5, h⟩ := sw_gd_e h
      refine sw_iaload (a := 54) (by decide) rfl (sw_in_e g5) (by decide +kernel) ?_
      refine sw_iconst (n := 1) (v := 1) (by decide +kernel) (by decide) ?_
      refine sw_icmp_ne (off := 44) 252 (by decide +kernel) (by decide) (fun c6 => ?_) (fun c6 => ?_)
      · rw [if_neg c6] at h
        refine sw_aload_n (k0 := 0) 0 rfl (by decide +kernel) rfl ?_
        refine gf_X10_27 (i := 49) (by decide) rfl (by decide +kernel) ?_
        refine sw_refj 54 rfl ?_
        refine sw_iload_n (k0 := 2) 2 rfl (by decide +kernel) rfl ?_
        obtain ⟨g7, h⟩ := sw_gd_e h
        refine sw_iaload (a := 54) (by decide) rfl (sw_in_e g7) (by decide +kernel) ?_
        refine sw_iconst (n := 2) (v := 2) (by decide +kernel) (by decide) ?_
        refine sw_icmp_ne (off := 33) 292 (by decide +kernel) (by decide) (fun c8 => ?_) (fun c8 => ?_)
        · rw [if_neg c8] at h
          obtain ⟨v9, e10, h⟩ := sw_let_e h
          refine sw_iincv (i := 1) (n := (-1)) (lv' := [(1, .int v9), (0, .ref 49), (2, .int a2)]) 1 rfl e10 (by decide +kernel) (by decide) (by decide) rfl ?_
          refine sw_aload_n (k0 := 0) 1 rfl (by decide +kernel) rfl ?_
          refine gf_X10_36 (i := 49) (by decide) rfl (by decide +kernel) ?_
          refine sw_refj 57 rfl ?_
          refine sw_iload_n (k0 := 1) 0 rfl (by decide +kernel) rfl ?_
          refine sw_iconst (n := 1) (v := 1) (by decide +kernel) (by decide) ?_
          refine sw_isub (by decide +kernel) ?_
          refine sw_aload_n (k0 := 0) 1 rfl (by decide +kernel) rfl ?_
          refine gf_X10_30 (i := 49) (by decide) rfl (by decide +kernel) ?_
          refine sw_refj 55 rfl ?_
          refine sw_iload_n (k0 := 2) 2 rfl (by decide +kernel) rfl ?_
          obtain ⟨g11, h⟩ := sw_gd_e h
          refine sw_iaload (a := 55) (by decide) rfl (sw_in_e g11) (by decide +kernel) ?_
          refine sw_aload_n (k0 := 0) 1 rfl (by decide +kernel) rfl ?_
          refine gf_X10_36 (i := 49) (by decide) rfl (by decide +kernel) ?_
          refine sw_refj 57 rfl ?_
          refine sw_iload_n (k0 := 1) 0 rfl (by decide +kernel) rfl ?_
          refine sw_iconst (n := 1) (v := 1) (by decide +kernel) (by decide) ?_
          refine sw_isub (by decide +kernel) ?_
          obtain ⟨g12, h⟩ := sw_gd_e h
          refine sw_iaload (a := 57) (by decide) rfl (sw_in_e g12) (by decide +kernel) ?_
          refine sw_aload_n (k0 := 0) 1 rfl (by decide +kernel) rfl ?_
          refine gf_X10_36 (i := 49) (by decide) rfl (by decide +kernel) ?_
          refine sw_refj 57 rfl ?_
          refine sw_iload_n (k0 := 1) 0 rfl (by decide +kernel) rfl ?_
          obtain ⟨g13, h⟩ := sw_gd_e h
          refine sw_iaload (a := 57) (by decide) rfl (sw_in_e g13) (by decide +kernel) ?_
          obtain ⟨r14, w15, h⟩ := sw_b1_e h
          refine sw_callSi [.int (σ.1 55 a2.toNatClampNeg), .int (σ.1 57 (v9 - 1).toNatClampNeg), .int (σ.1 57 v9.toNatClampNeg)] (sX10_done (K := K - 1) (by omega) σ (σ.1 55 a2.toNatClampNeg) (σ.1 57 (v9 - 1).toNatClampNeg) (σ.1 57 v9.toNatClampNeg) w15) rfl (by omega) gs_X10_312 hy_X10_done (by decide) rfl (Nat.le_of_ble_eq_true rfl) (by decide +kernel) ?_
          obtain ⟨g16, h⟩ := sw_gd_e h
          obtain ⟨m17, e18, h⟩ := sw_let_e h
          refine sw_iastore (a := 57) (by decide) rfl (sw_in_e g16) (by decide +kernel) ?_
          refine sw_mem e18 ?_
          refine sw_lv [1, 0, 2] rfl ?_
          exact sX10_isRisen_L326 hK m17 v9 a2 h hk
        · rw [if_pos c8] at h
          refine sw_aload_n (k0 := 0) 0 rfl (by decide +kernel) rfl ?_
          refine gf_X10_36 (i := 49) (by decide) rfl (by decide +kernel) ?_
          refine sw_refj 57 rfl ?_
          refine sw_iload_n (k0 := 1) 1 rfl (by decide +kernel) rfl ?_
          refine sw_iconst (n := 1) (v := 1) (by decide +kernel) (by decide) ?_
          refine sw_isub (by decide +kernel) ?_
          refine sw_aload_n (k0 := 0) 0 rfl (by decide +kernel) rfl ?_
          refine gf_X10_36 (i := 49) (by decide) rfl (by decide +kernel) ?_
          refine sw_refj 57 rfl ?_
          refine sw_iload_n (k0 := 1) 1 rfl (by decide +kernel) rfl ?_
          refine sw_iconst (n := 1) (v := 1) (by decide +kernel) (by decide) ?_
          refine sw_isub (by decide +kernel) ?_
          obtain ⟨g19, h⟩ := sw_gd_e h
          refine sw_iaload (a := 57) (by decide) rfl (sw_in_e g19) (by decide +kernel) ?_
          refine sw_if_ne (off := 7) 284 (by decide +kernel) (by decide) (fun c20 => ?_) (fun c20 => ?_)
          · rw [if_neg c20] at h
            refine sw_iconst (n := 0) (v := 0) (by decide +kernel) (by decide) ?_
            exact sX10_isRisen_L285 hK σ a1 a2 0 (a1 - 1) h hk
          · rw [if_pos c20] at h
            refine sw_iconst (n := 1) (v := 1) (by decide +kernel) (by decide) ?_
            refine sw_goto (off := 4) 285 (by decide +kernel) (by decide) ?_
            exact sX10_isRisen_L285 hK σ a1 a2 1 (a1 - 1) h hk
      · rw [if_pos c6] at h
        exact sX10_isRisen_L211 hK σ a1 a2 h hk
set_option maxRecDepth 20000 in
theorem sX10_isRisen_L75 {l : Launch} {E : sw_E} {K : Nat} (hK : 2 ≤ K) (σ : sw_M) (a1 : Int32) (b0 : Int32) (b1 : Int32) (b2 : Int32) {res : Int32 × sw_M} {t : (Int32 × sw_M) ⊕ (Int32 × sw_M)} (h : fX10_isRisen_L75 σ a1 b0 b1 b2 = some t) (hk : (Sum.elim (fun s : Int32 × sw_M => sw_Go l E K RX10 cX10_isRisen 3 (some .boolean) 46 [(0, .ref 49), (1, .int s.1)] [] s.2 (some (.int res.1)) res.2) (fun q => q = res)) t) : sw_Go l E K RX10 cX10_isRisen 3 (some .boolean) 75 [(0, .ref 49), (1, .int a1)] [.int b0, .int b1, .int b2, .ref 58] σ (some (.int res.1)) res.2 := by
  unfold fX10_isRisen_L75 at h
  refine sw_callSi [.int b0] (sX10_truth (K := K - 1) (by omega) σ b0 rfl) rfl (by omega) gs_X10_287 hy_X10_truth (by decide) rfl (Nat.le_of_ble_eq_true rfl) (by decide +kernel) ?_
  refine sw_iadd (by decide +kernel) ?_
  obtain ⟨g1, h⟩ := sw_gd_e h
  obtain ⟨m2, e3, h⟩ := sw_let_e h
  refine sw_iastore (a := 58) (by decide) rfl (sw_in_e g1) (by decide +kernel) ?_
  refine sw_mem e3 ?_
  refine sw_aload_n (k0 := 0) 0 rfl (by decide +kernel) rfl ?_
  refine gf_X10_39 (i := 49) (by decide) rfl (by decide +kernel) ?_
  refine sw_refj 58 rfl ?_
  refine sw_iconst (n := 2) (v := 2) (by decide +kernel) (by decide) ?_
  refine sw_aload_n (k0 := 0) 0 rfl (by decide +kernel) rfl ?_
  refine gf_X10_39 (i := 49) (by decide) rfl (by decide +kernel) ?_
  refine sw_refj 58 rfl ?_
  refine sw_iconst (n := 2) (v := 2) (by decide +kernel) (by decide) ?_
  refine sw_iaload (a := 58) (by decide) rfl (sw_in_e (by decide)) (by decide +kernel) ?_
  refine sw_topi (x := m2.1 58 2) rfl ?_
  refine sw_aload_n (k0 := 0) 0 rfl (by decide +kernel) rfl ?_
  refine gf_X10_63 (i := 49) (by decide) rfl (by decide +kernel) ?_
  refine sw_refj 66 rfl ?_
  refine sw_iload_n (k0 := 1) 1 rfl (by decide +kernel) rfl ?_
  obtain ⟨g4, h⟩ := sw_gd_e h
  refine sw_iaload (a := 66) (by decide) rfl (sw_in_e g4) (by decide +kernel) ?_
  refine sw_callSi [.int (m2.1 58 2), .int (m2.1 66 a1.toNatClampNeg)] (sX10_greater (K := K - 1) (by omega) m2 (m2.1 58 2) (m2.1 66 a1.toNatClampNeg) rfl) rfl (by omega) gs_X10_297 hy_X10_greater (by decide) rfl (Nat.le_of_ble_eq_true rfl) (by decide +kernel) ?_
  obtain ⟨m5, e6, h⟩ := sw_let_e h
  refine sw_iastore (a := 58) (by decide) rfl (sw_in_e (by decide)) (by decide +kernel) ?_
  refine sw_mem (e6.trans (show sw_w m2 58 2 (fX10_greater (m2.1 58 2) (m2.1 66 a1.toNatClampNeg)) = sw_w m2 58 (2 : Int32).toNatClampNeg (fX10_greater (m2.1 58 2) (m2.1 66 a1.toNatClampNeg)) from rfl)) ?_
  refine sw_aload_n (k0 := 0) 0 rfl (by decide +kernel) rfl ?_
  refine gf_X10_39 (i := 49) (by decide) rfl (by decide +kernel) ?_
  refine sw_refj 58 rfl ?_
  refine sw_iconst (n := 3) (v := 3) (by decide +kernel) (by decide) ?_
  refine sw_aload_n (k0 := 0) 0 rfl (by decide +kernel) rfl ?_
  refine gf_X10_39 (i := 49) (by decide) rfl (by decide +kernel) ?_
  refine sw_refj 58 rfl ?_
  refine sw_iconst (n := 3) (v := 3) (by decide +kernel) (by decide) ?_
  refine sw_iaload (a := 58) (by decide) rfl (sw_in_e (by decide)) (by decide +kernel) ?_
  refine sw_topi (x := m5.1 58 3) rfl ?_
  refine sw_aload_n (k0 := 0) 0 rfl (by decide +kernel) rfl ?_
  refine gf_X10_63 (i := 49) (by decide) rfl (by decide +kernel) ?_
  refine sw_refj 66 rfl ?_
  refine sw_iload_n (k0 := 1) 1 rfl (by decide +kernel) rfl ?_
  obtain ⟨g7, h⟩ := sw_gd_e h
  refine sw_iaload (a := 66) (by decide) rfl (sw_in_e g7) (by decide +kernel) ?_
  refine sw_callSi [.int (m5.1 58 3), .int (m5.1 66 a1.toNatClampNeg)] (sX10_lesser (K := K - 1) (by omega) m5 (m5.1 58 3) (m5.1 66 a1.toNatClampNeg) rfl) rfl (by omega) gs_X10_300 hy_X10_lesser (by decide) rfl (Nat.le_of_ble_eq_true rfl) (by decide +kernel) ?_
  obtain ⟨m8, e9, h⟩ := sw_let_e h
  refine sw_iastore (a := 58) (by decide) rfl (sw_in_e (by decide)) (by decide +kernel) ?_
  refine sw_mem (e9.trans (show sw_w m5 58 3 (fX10_lesser (m5.1 58 3) (m5.1 66 a1.toNatClampNeg)) = sw_w m5 58 (3 : Int32).toNatClampNeg (fX10_lesser (m5.1 58 3) (m5.1 66 a1.toNatClampNeg)) from rfl)) ?_
  obtain ⟨v10, e11, h⟩ := sw_let_e h
  refine sw_iincv (i := 1) (n := 1) (lv' := [(1, .int v10), (0, .ref 49)]) 1 rfl e11 (by decide +kernel) (by decide) (by decide) rfl ?_
  refine sw_goto (off := (-79)) 46 (by decide +kernel) (by decide) ?_
  cases h
  refine sw_lv [1, 0] rfl ?_
  exact hk
set_option maxRecDepth 20000 in
theorem sX10_isRisen_L46 {l : Launch} {E : sw_E} {K : Nat} (hK : 2 ≤ K) (σ : sw_M) (a1 : Int32) {res : Int32 × sw_M} {t : (Int32 × sw_M) ⊕ (Int32 × sw_M)} (h : fX10_isRisen_L46 σ a1 = some t) (hk : (Sum.elim (fun s : Int32 × sw_M => sw_Go l E K RX10 cX10_isRisen 3 (some .boolean) 46 [(0, .ref 49), (1, .int s.1)] [] s.2 (some (.int res.1)) res.2) (fun q => q = res)) t) : sw_Go l E K RX10 cX10_isRisen 3 (some .boolean) 46 [(0, .ref 49), (1, .int a1)] [] σ (some (.int res.1)) res.2 := by
  unfold fX10_isRisen_L46 at h
  refine sw_iload_n (k0 := 1) 1 rfl (by decide +kernel) rfl ?_
  refine sw_aload_n (k0 := 0) 0 rfl (by decide +kernel) rfl ?_
  refine gf_X10_291 (i := 49) (by decide) rfl (by decide +kernel) ?_
  refine sw_icmp_ge (off := 77) 128 (by decide +kernel) (by decide) (fun c1 => ?_) (fun c1 => ?_)
  · rw [if_pos c1] at h
    refine sw_aload_n (k0 := 0) 0 rfl (by decide +kernel) rfl ?_
    refine gf_X10_39 (i := 49) (by decide) rfl (by decide +kernel) ?_
    refine sw_refj 58 rfl ?_
    refine sw_iconst (n := 4) (v := 4) (by decide +kernel) (by decide) ?_
    refine sw_aload_n (k0 := 0) 0 rfl (by decide +kernel) rfl ?_
    refine gf_X10_63 (i := 49) (by decide) rfl (by decide +kernel) ?_
    refine sw_refj 66 rfl ?_
    refine sw_iconst (n := 5) (v := 5) (by decide +kernel) (by decide) ?_
    refine sw_iaload (a := 66) (by decide) rfl (sw_in_e (by decide)) (by decide +kernel) ?_
    refine sw_topi (x := σ.1 66 5) rfl ?_
    obtain ⟨r2, w3, h⟩ := sw_b1_e h
    refine sw_callSi [.int (σ.1 66 5)] (sX10_members (K := K - 1) (by omega) σ (σ.1 66 5) w3) rfl (by omega) gs_X10_303 hy_X10_members (by decide) rfl (Nat.le_of_ble_eq_true rfl) (by decide +kernel) ?_
    obtain ⟨m4, e5, h⟩ := sw_let_e h
    refine sw_iastore (a := 58) (by decide) rfl (sw_in_e (by decide)) (by decide +kernel) ?_
    refine sw_mem (e5.trans (show sw_w σ 58 4 r2 = sw_w σ 58 (4 : Int32).toNatClampNeg r2 from rfl)) ?_
    refine sw_aload_n (k0 := 0) 0 rfl (by decide +kernel) rfl ?_
    refine gf_X10_39 (i := 49) (by decide) rfl (by decide +kernel) ?_
    refine sw_refj 58 rfl ?_
    refine sw_iconst (n := 5) (v := 5) (by decide +kernel) (by decide) ?_
    refine sw_aload_n (k0 := 0) 0 rfl (by decide +kernel) rfl ?_
    refine gf_X10_63 (i := 49) (by decide) rfl (by decide +kernel) ?_
    refine sw_refj 66 rfl ?_
    refine sw_bipush (n := 8) (v := 8) (by decide +kernel) (by decide) ?_
    refine sw_iaload (a := 66) (by decide) rfl (sw_in_e (by decide)) (by decide +kernel) ?_
    refine sw_topi (x := m4.1 66 8) rfl ?_
    obtain ⟨m6, e7, h⟩ := sw_let_e h
    refine sw_iastore (a := 58) (by decide) rfl (sw_in_e (by decide)) (by decide +kernel) ?_
    refine sw_mem (e7.trans (show sw_w m4 58 5 (m4.1 66 8) = sw_w m4 58 (5 : Int32).toNatClampNeg (m4.1 66 8) from rfl)) ?_
    refine sw_aload_n (k0 := 0) 0 rfl (by decide +kernel) rfl ?_
    refine gf_X10_306 (i := 49) (by decide) rfl (by decide +kernel) ?_
    refine sw_if_ne (off := 20) 180 (by decide +kernel) (by decide) (fun c8 => ?_) (fun c8 => ?_)
    · rw [if_neg c8] at h
      refine sw_iconst (n := 0) (v := 0) (by decide +kernel) (by decide) ?_
      refine sw_istore_n (k0 := 1) (lv' := [(1, .int 0), (0, .ref 49)]) (by decide +kernel) rfl (by decide) rfl ?_
      refine sw_iconst (n := 0) (v := 0) (by decide +kernel) (by decide) ?_
      refine sw_istore_n (k0 := 2) (lv' := [(2, .int 0), (1, .int 0), (0, .ref 49)]) (by decide +kernel) rfl (by decide) rfl ?_
      obtain ⟨q8, h8, rfl⟩ := sw_up_e h
      replace h := h8
      refine sw_lv [2, 1, 0] rfl ?_
      exact sw_wh_e (fun s : Int32 × Int32 × sw_M => sw_Go l E K RX10 cX10_isRisen 3 (some .boolean) 184 [(0, .ref 49), (1, .int s.1), (2, .int s.2.1)] [] s.2.2 (some (.int res.1)) res.2) (fun q => q = res) (fun s => fX10_isRisen_L184 s.2.2 s.1 s.2.1) (fun s t hb hk => sX10_isRisen_L184 hK s.2.2 s.1 s.2.1 hb hk) _ _ _ h hk
    · rw [if_pos c8] at h
      refine sw_aload_n (k0 := 0) 0 rfl (by decide +kernel) rfl ?_
      refine gf_X10_39 (i := 49) (by decide) rfl (by decide +kernel) ?_
      refine sw_refj 58 rfl ?_
      refine sw_iconst (n := 0) (v := 0) (by decide +kernel) (by decide) ?_
      refine sw_iaload (a := 58) (by decide) rfl (sw_in_e (by decide)) (by decide +kernel) ?_
      refine sw_topi (x := m6.1 58 0) rfl ?_
      refine sw_bipush (n := 50) (v := 50) (by decide +kernel) (by decide) ?_
      refine sw_icmp_le (off := 7) 178 (by decide +kernel) (by decide) (fun c10 => ?_) (fun c10 => ?_)
      · rw [if_pos c10] at h
        refine sw_iconst (n := 0) (v := 0) (by decide +kernel) (by decide) ?_
        cases h
        obtain rfl : _ = res := hk
        exact sw_zret rfl (by decide +kernel)
      · rw [if_neg c10] at h
        refine sw_iconst (n := 1) (v := 1) (by decide +kernel) (by decide) ?_
        refine sw_goto (off := 4) 179 (by decide +kernel) (by decide) ?_
        cases h
        obtain rfl : _ = res := hk
        exact sw_zret rfl (by decide +kernel)
  · rw [if_neg c1] at h
    refine sw_aload_n (k0 := 0) 0 rfl (by decide +kernel) rfl ?_
    refine gf_X10_39 (i := 49) (by decide) rfl (by decide +kernel) ?_
    refine sw_refj 58 rfl ?_
    refine sw_iconst (n := 1) (v := 1) (by decide +kernel) (by decide) ?_
    refine sw_dup2 (by decide +kernel) rfl rfl ?_
    refine sw_iaload (a := 58) (by decide) rfl (sw_in_e (by decide)) (by decide +kernel) ?_
    refine sw_topi (x := σ.1 58 1) rfl ?_
    refine sw_aload_n (k0 := 0) 0 rfl (by decide +kernel) rfl ?_
    refine gf_X10_63 (i := 49) (by decide) rfl (by decide +kernel) ?_
    refine sw_refj 66 rfl ?_
    refine sw_iload_n (k0 := 1) 1 rfl (by decide +kernel) rfl ?_
    obtain ⟨g11, h⟩ := sw_gd_e h
    refine sw_iaload (a := 66) (by decide) rfl (sw_in_e g11) (by decide +kernel) ?_
    refine sw_if_le (off := 7) 74 (by decide +kernel) (by decide) (fun c12 => ?_) (fun c12 => ?_)
    · rw [if_pos c12] at h
      refine sw_iconst (n := 0) (v := 0) (by decide +kernel) (by decide) ?_
      exact sX10_isRisen_L75 hK σ a1 0 (σ.1 58 1) 1 h hk
    · rw [if_neg c12] at h
      refine sw_iconst (n := 1) (v := 1) (by decide +kernel) (by decide) ?_
      refine sw_goto (off := 4) 75 (by decide +kernel) (by decide) ?_
      exact sX10_isRisen_L75 hK σ a1 1 (σ.1 58 1) 1 h hk
set_option maxRecDepth 20000 in
theorem sX10_isRisen_L43 {l : Launch} {E : sw_E} {K : Nat} (hK : 2 ≤ K) (σ : sw_M) (b0 : Int32) (b1 : Int32) {res : Int32 × sw_M} {t : (Int32 × sw_M)} (h : fX10_isRisen_L43 σ b0 b1 = some t) (hk : (fun q => q = res) t) : sw_Go l E K RX10 cX10_isRisen 3 (some .boolean) 43 [(0, .ref 49)] [.int b0, .int b1, .ref 58] σ (some (.int res.1)) res.2 := by
  unfold fX10_isRisen_L43 at h
  obtain ⟨g1, h⟩ := sw_gd_e h
  obtain ⟨m2, e3, h⟩ := sw_let_e h
  refine sw_iastore (a := 58) (by decide) rfl (sw_in_e g1) (by decide +kernel) ?_
  refine sw_mem e3 ?_
  refine sw_iconst (n := 0) (v := 0) (by decide +kernel) (by decide) ?_
  refine sw_istore_n (k0 := 1) (lv' := [(1, .int 0), (0, .ref 49)]) (by decide +kernel) rfl (by decide) rfl ?_
  refine sw_lv [1, 0] rfl ?_
  exact sw_wh_e (fun s : Int32 × sw_M => sw_Go l E K RX10 cX10_isRisen 3 (some .boolean) 46 [(0, .ref 49), (1, .int s.1)] [] s.2 (some (.int res.1)) res.2) (fun q => q = res) (fun s => fX10_isRisen_L46 s.2 s.1) (fun s t hb hk => sX10_isRisen_L46 hK s.2 s.1 hb hk) _ _ _ h hk
set_option maxRecDepth 20000 in
theorem sX10_isRisen {l : Launch} {E : sw_E} {K : Nat} (hK : 2 ≤ K) (σ : sw_M) {res : Int32 × sw_M} (h : fX10_isRisen σ = some res) : sw_Ct l E K yX10_isRisen cX10_isRisen 3 (some .boolean) [.ref 49] σ (some (.int res.1)) res.2 := by
  obtain ⟨t, hk, h⟩ : ∃ t, t = res ∧ fX10_isRisen σ = some t := ⟨res, rfl, h⟩
  unfold fX10_isRisen at h
  refine sw_enter2 (own := RX10) (lv := [(0, .ref 49)]) (by decide +kernel) (Nat.le_of_ble_eq_true rfl) rfl rfl ?_
  refine sw_aload_n (k0 := 0) 0 rfl (by decide +kernel) rfl ?_
  refine gf_X10_39 (i := 49) (by decide) rfl (by decide +kernel) ?_
  refine sw_refj 58 rfl ?_
  refine sw_iconst (n := 0) (v := 0) (by decide +kernel) (by decide) ?_
  refine sw_aload_n (k0 := 0) 0 rfl (by decide +kernel) rfl ?_
  obtain ⟨r1, w2, h⟩ := sw_b1_e h
  refine sw_callVi (ci := 10) (i := 49) [] (sX10_allOf (K := K - 1) (by omega) σ w2) rfl (by omega) rfl gs_X10_294 hy_X10_allOf (by decide) (by decide) rfl rfl (Nat.le_of_ble_eq_true rfl) (by decide +kernel) ?_
  obtain ⟨m3, e4, h⟩ := sw_let_e h
  refine sw_iastore (a := 58) (by decide) rfl (sw_in_e (by decide)) (by decide +kernel) ?_
  refine sw_mem (e4.trans (show sw_w σ 58 0 r1 = sw_w σ 58 (0 : Int32).toNatClampNeg r1 from rfl)) ?_
  refine sw_aload_n (k0 := 0) 0 rfl (by decide +kernel) rfl ?_
  refine gf_X10_39 (i := 49) (by decide) rfl (by decide +kernel) ?_
  refine sw_refj 58 rfl ?_
  refine sw_iconst (n := 1) (v := 1) (by decide +kernel) (by decide) ?_
  refine sw_iconst (n := 0) (v := 0) (by decide +kernel) (by decide) ?_
  obtain ⟨m5, e6, h⟩ := sw_let_e h
  refine sw_iastore (a := 58) (by decide) rfl (sw_in_e (by decide)) (by decide +kernel) ?_
  refine sw_mem (e6.trans (show sw_w m3 58 1 0 = sw_w m3 58 (1 : Int32).toNatClampNeg 0 from rfl)) ?_
  refine sw_aload_n (k0 := 0) 0 rfl (by decide +kernel) rfl ?_
  refine gf_X10_39 (i := 49) (by decide) rfl (by decide +kernel) ?_
  refine sw_refj 58 rfl ?_
  refine sw_iconst (n := 2) (v := 2) (by decide +kernel) (by decide) ?_
  refine sw_iconst (n := 0) (v := 0) (by decide +kernel) (by decide) ?_
  obtain ⟨m7, e8, h⟩ := sw_let_e h
  refine sw_iastore (a := 58) (by decide) rfl (sw_in_e (by decide)) (by decide +kernel) ?_
  refine sw_mem (e8.trans (show sw_w m5 58 2 0 = sw_w m5 58 (2 : Int32).toNatClampNeg 0 from rfl)) ?_
  refine sw_aload_n (k0 := 0) 0 rfl (by decide +kernel) rfl ?_
  refine gf_X10_39 (i := 49) (by decide) rfl (by decide +kernel) ?_
  refine sw_refj 58 rfl ?_
  refine sw_iconst (n := 3) (v := 3) (by decide +kernel) (by decide) ?_
  refine sw_aload_n (k0 := 0) 0 rfl (by decide +kernel) rfl ?_
  refine gf_X10_291 (i := 49) (by decide) rfl (by decide +kernel) ?_
  refine sw_if_ne (off := 7) 40 (by decide +kernel) (by decide) (fun c9 => ?_) (fun c9 => ?_)
  · rw [if_neg c9] at h
    refine sw_sipush (n := 999) (v := 999) (by decide +kernel) (by decide) ?_
    exact sX10_isRisen_L43 hK m7 999 3 h hk
  · rw [if_pos c9] at h
    refine sw_iconst (n := 0) (v := 0) (by decide +kernel) (by decide) ?_
    refine sw_goto (off := 6) 43 (by decide +kernel) (by decide) ?_
    exact sX10_isRisen_L43 hK m7 0 3 h hk
def fX10_readKind (σ : sw_M) : Option (sw_M) :=
  sw_b1 (fX10_newName σ 0 (σ.1 49 33)) fun m1 =>
  if (m1.1 49 2) = 0 then
    sw_let (sw_w m1 49 33 ((m1.1 49 33) + 1)) fun m4 =>
    some (m4)
  else
    some (m1)
set_option maxRecDepth 20000 in
theorem sX10_readKind {l : Launch} {E : sw_E} {K : Nat} (hK : 3 ≤ K) (σ : sw_M) {res : sw_M} (h : fX10_readKind σ = some res) : sw_Ct l E K yX10_readKind cX10_readKind 1 none [.ref 49] σ none res := by
  obtain ⟨t, hk, h⟩ : ∃ t, t = res ∧ fX10_readKind σ = some t := ⟨res, rfl, h⟩
  unfold fX10_readKind at h
  refine sw_enter2 (own := RX10) (lv := [(0, .ref 49)]) (by decide +kernel) (Nat.le_of_ble_eq_true rfl) rfl rfl ?_
  refine sw_aload_n (k0 := 0) 0 rfl (by decide +kernel) rfl ?_
  refine sw_iconst (n := 0) (v := 0) (by decide +kernel) (by decide) ?_
  refine sw_aload_n (k0 := 0) 0 rfl (by decide +kernel) rfl ?_
  refine gf_X10_227 (i := 49) (by decide) rfl (by decide +kernel) ?_
  obtain ⟨m1, w2, h⟩ := sw_b1_e h
  refine sw_callVv (ci := 10) (i := 49) [.int 0, .int (σ.1 49 33)] (sX10_newName (K := K - 1) (by omega) σ 0 (σ.1 49 33) w2) rfl (by omega) rfl gs_X10_316 hy_X10_newName (by decide) (by decide) rfl rfl (Nat.le_of_ble_eq_true rfl) (by decide +kernel) ?_
  refine sw_aload_n (k0 := 0) 0 rfl (by decide +kernel) rfl ?_
  refine gf_X10_158 (i := 49) (by decide) rfl (by decide +kernel) ?_
  refine sw_if_ne (off := 13) 26 (by decide +kernel) (by decide) (fun c3 => ?_) (fun c3 => ?_)
  · rw [if_neg c3] at h
    cases h
    obtain rfl : _ = res := hk
    exact sw_vret (by decide +kernel)
  · rw [if_pos c3] at h
    refine sw_aload_n (k0 := 0) 0 rfl (by decide +kernel) rfl ?_
    refine sw_dup (by decide +kernel) rfl ?_
    refine gf_X10_227 (i := 49) (by decide) rfl (by decide +kernel) ?_
    refine sw_iconst (n := 1) (v := 1) (by decide +kernel) (by decide) ?_
    refine sw_iadd (by decide +kernel) ?_
    obtain ⟨m4, e5, h⟩ := sw_let_e h
    refine pf_X10_227 (by decide) rfl (by decide +kernel) ?_
    refine sw_mem e5 ?_
    cases h
    obtain rfl : _ = res := hk
    exact sw_vret (by decide +kernel)
def fX10_readSome_L36 (P1 : Nat) (σ : sw_M) (a2 : Int32) (a3 : Int32) : Option ((sw_M)) :=
  sw_b2 (fX10_toldNumber σ 1 20) fun r1 m2 =>
  if (m2.1 49 2) ≤ 0 then
    sw_gd (sw_in (a2 + a3) (sw_s P1).2) <|
    sw_let (sw_w m2 P1 (a2 + a3).toNatClampNeg r1) fun m6 =>
    sw_let (sw_w m6 49 48 a3) fun m8 =>
    some (m8)
  else
    some (m2)
def fX10_readSome_L25 (P1 : Nat) (σ : sw_M) (a2 : Int32) (a3 : Int32) : Option ((sw_M)) :=
  if (σ.1 49 2) = 0 then
    sw_b1 (fX10_token σ) fun m2 =>
    fX10_readSome_L36 P1 m2 a2 a3
  else
    fX10_readSome_L36 P1 σ a2 a3
def fX10_readSome (P1 : Nat) (σ : sw_M) (a2 : Int32) : Option (sw_M) :=
  sw_b2 (fX10_oldKind σ) fun r1 m2 =>
  if (m2.1 49 2) = 0 then
    sw_gd (sw_in (a2 + r1) (sw_s P1).2) <|
    if (m2.1 P1 (a2 + r1).toNatClampNeg) ≤ 0 then
      fX10_readSome_L25 P1 m2 a2 r1
    else
      sw_b1 (fX10_wrong m2 3) fun m7 =>
      fX10_readSome_L25 P1 m7 a2 r1
  else
    fX10_readSome_L25 P1 m2 a2 r1
set_option maxRecDepth 20000 in
theorem sX10_readSome_L36 {l : Launch} {E : sw_E} {K : Nat} (hK : 3 ≤ K) (P1 : Nat) (hP1 : sw_isA 1 P1) (σ : sw_M) (a2 : Int32) (a3 : Int32) {res : sw_M} {t : (sw_M)} (h : fX10_readSome_L36 P1 σ a2 a3 = some t) (hk : (fun q => q = res) t) : sw_Go l E K RX10 cX10_readSome 5 none 36 [(0, .ref 49), (1, .ref P1), (2, .int a2), (3, .int a3)] [] σ none res := by
  unfold fX10_readSome_L36 at h
  refine sw_aload_n (k0 := 0) 0 rfl (by decide +kernel) rfl ?_
  refine sw_iconst (n := 1) (v := 1) (by decide +kernel) (by decide) ?_
  refine sw_bipush (n := 20) (v := 20) (by decide +kernel) (by decide) ?_
  obtain ⟨r1, m2, w3, h⟩ := sw_b2_e h
  refine sw_callVi (ci := 10) (i := 49) [.int 1, .int 20] (sX10_toldNumber (K := K - 1) (by omega) σ 1 20 w3) rfl (by omega) rfl gs_X10_217 hy_X10_toldNumber (by decide) (by decide) rfl rfl (Nat.le_of_ble_eq_true rfl) (by decide +kernel) ?_
  refine sw_istore (i := 4) (lv' := [(4, .int r1), (0, .ref 49), (1, .ref P1), (2, .int a2), (3, .int a3)]) (by decide +kernel) (by decide) rfl ?_
  refine sw_aload_n (k0 := 0) 1 rfl (by decide +kernel) rfl ?_
  refine gf_X10_158 (i := 49) (by decide) rfl (by decide +kernel) ?_
  refine sw_if_le (off := 4) 53 (by decide +kernel) (by decide) (fun c4 => ?_) (fun c4 => ?_)
  · rw [if_pos c4] at h
    refine sw_aload_n (k0 := 1) 2 rfl (by decide +kernel) rfl ?_
    refine sw_iload_n (k0 := 2) 3 rfl (by decide +kernel) rfl ?_
    refine sw_iload_n (k0 := 3) 4 rfl (by decide +kernel) rfl ?_
    refine sw_iadd (by decide +kernel) ?_
    refine sw_iload 0 rfl (by decide +kernel) ?_
    obtain ⟨g5, h⟩ := sw_gd_e h
    obtain ⟨m6, e7, h⟩ := sw_let_e h
    refine sw_iastore (a := P1) hP1.1 hP1.s (sw_in_e g5) (by decide +kernel) ?_
    refine sw_mem e7 ?_
    refine sw_aload_n (k0 := 0) 1 rfl (by decide +kernel) rfl ?_
    refine sw_iload_n (k0 := 3) 4 rfl (by decide +kernel) rfl ?_
    obtain ⟨m8, e9, h⟩ := sw_let_e h
    refine pf_X10_322 (by decide) rfl (by decide +kernel) ?_
    refine sw_mem e9 ?_
    cases h
    obtain rfl : _ = res := hk
    exact sw_vret (by decide +kernel)
  · rw [if_neg c4] at h
    cases h
    obtain rfl : _ = res := hk
    exact sw_vret (by decide +kernel)
set_option maxRecDepth 20000 in
theorem sX10_readSome_L25 {l : Launch} {E : sw_E} {K : Nat} (hK : 3 ≤ K) (P1 : Nat) (hP1 : sw_isA 1 P1) (σ : sw_M) (a2 : Int32) (a3 : Int32) {res : sw_M} {t : (sw_M)} (h : fX10_readSome_L25 P1 σ a2 a3 = some t) (hk : (fun q => q = res) t) : sw_Go l E K RX10 cX10_readSome 5 none 25 [(0, .ref 49), (1, .ref P1), (2, .int a2), (3, .int a3)] [] σ none res := by
  unfold fX10_readSome_L25 at h
  refine sw_aload_n (k0 := 0) 0 rfl (by decide +kernel) rfl ?_
  refine gf_X10_158 (i := 49) (by decide) rfl (by decide +kernel) ?_
  refine sw_if_ne (off := 7) 36 (by decide +kernel) (by decide) (fun c1 => ?_) (fun c1 => ?_)
  · rw [if_neg c1] at h
    exact sX10_readSome_L36 hK P1 hP1 σ a2 a3 h hk
  · rw [if_pos c1] at h
    refine sw_aload_n (k0 := 0) 0 rfl (by decide +kernel) rfl ?_
    obtain ⟨m2, w3, h⟩ := sw_b1_e h
    refine sw_callVv (ci := 10) (i := 49) [] (sX10_token (K := K - 1) (by omega) σ w3) rfl (by omega) rfl gs_X10_210 hy_X10_token (by decide) (by decide) rfl rfl (Nat.le_of_ble_eq_true rfl) (by decide +kernel) ?_
    exact sX10_readSome_L36 hK P1 hP1 m2 a2 a3 h hk
set_option maxRecDepth 20000 in
theorem sX10_readSome {l : Launch} {E : sw_E} {K : Nat} (hK : 3 ≤ K) (P1 : Nat) (hP1 : sw_isA 1 P1) (σ : sw_M) (a2 : Int32) {res : sw_M} (h : fX10_readSome P1 σ a2 = some res) : sw_Ct l E K yX10_readSome cX10_readSome 5 none [.ref 49, .ref P1, .int a2] σ none res := by
  obtain ⟨t, hk, h⟩ : ∃ t, t = res ∧ fX10_readSome P1 σ a2 = some t := ⟨res, rfl, h⟩
  unfold fX10_readSome at h
  refine sw_enter2 (own := RX10) (lv := [(0, .ref 49), (1, .ref P1), (2, .int a2)]) (by decide +kernel) (Nat.le_of_ble_eq_true rfl) rfl rfl ?_
  refine sw_aload_n (k0 := 0) 0 rfl (by decide +kernel) rfl ?_
  obtain ⟨r1, m2, w3, h⟩ := sw_b2_e h
  refine sw_callVi (ci := 10) (i := 49) [] (sX10_oldKind (K := K - 1) (by omega) σ w3) rfl (by omega) rfl gs_X10_319 hy_X10_oldKind (by decide) (by decide) rfl rfl (Nat.le_of_ble_eq_true rfl) (by decide +kernel) ?_
  refine sw_istore_n (k0 := 3) (lv' := [(3, .int r1), (0, .ref 49), (1, .ref P1), (2, .int a2)]) (by decide +kernel) rfl (by decide) rfl ?_
  refine sw_aload_n (k0 := 0) 1 rfl (by decide +kernel) rfl ?_
  refine gf_X10_158 (i := 49) (by decide) rfl (by decide +kernel) ?_
  refine sw_if_ne (off := 16) 25 (by decide +kernel) (by decide) (fun c4 => ?_) (fun c4 => ?_)
  · rw [if_neg c4] at h
    refine sw_lv [1, 2, 3, 0] rfl ?_
    exact sX10_readSome_L25 hK P1 hP1 m2 a2 r1 h hk
  · rw [if_pos c4] at h
    refine sw_aload_n (k0 := 1) 2 rfl (by decide +kernel) rfl ?_
    refine sw_iload_n (k0 := 2) 3 rfl (by decide +kernel) rfl ?_
    refine sw_iload_n (k0 := 3) 0 rfl (by decide +kernel) rfl ?_
    refine sw_iadd (by decide +kernel) ?_
    obtain ⟨g5, h⟩ := sw_gd_e h
    refine sw_iaload (a := P1) hP1.1 hP1.s (sw_in_e g5) (by decide +kernel) ?_
    refine sw_if_le (off := 8) 25 (by decide +kernel) (by decide) (fun c6 => ?_) (fun c6 => ?_)
    · rw [if_pos c6] at h
      refine sw_lv [1, 2, 3, 0] rfl ?_
      exact sX10_readSome_L25 hK P1 hP1 m2 a2 r1 h hk
    · rw [if_neg c6] at h
      refine sw_aload_n (k0 := 0) 1 rfl (by decide +kernel) rfl ?_
      refine sw_iconst (n := 3) (v := 3) (by decide +kernel) (by decide) ?_
      obtain ⟨m7, w8, h⟩ := sw_b1_e h
      refine sw_callVv (ci := 10) (i := 49) [.int 3] (sX10_wrong (K := K - 1) (by omega) m2 3 w8) rfl (by omega) rfl gs_X10_207 hy_X10_wrong (by decide) (by decide) rfl rfl (Nat.le_of_ble_eq_true rfl) (by decide +kernel) ?_
      refine sw_lv [1, 2, 3, 0] rfl ?_
      exact sX10_readSome_L25 hK P1 hP1 m7 a2 r1 h hk
