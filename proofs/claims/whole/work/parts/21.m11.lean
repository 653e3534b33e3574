def fX10_newName_L33 (σ : sw_M) (a1 : Int32) (a2 : Int32) : Option ((sw_M)) :=
  if (σ.1 49 2) ≤ 0 then
    sw_gd (sw_in (a1 + a2) 16) <|
    sw_let (sw_wL σ 51 (a1 + a2).toNatClampNeg (σ.2.1 49 9)) fun m3 =>
    sw_b1 (fX10_token m3) fun m5 =>
    some (m5)
  else
    some (σ)
def fX10_newName (σ : sw_M) (a1 : Int32) (a2 : Int32) : Option (sw_M) :=
  sw_b1 (fX10_token σ) fun m1 =>
  if (fX10_isName m1) = 0 then
    sw_b1 (fX10_wrong m1 2) fun m9 =>
    fX10_newName_L33 m9 a1 a2
  else
    sw_b1 (fX10_find m1 a1 a2) fun r4 =>
    if r4 < 0 then
      fX10_newName_L33 m1 a1 a2
    else
      sw_b1 (fX10_wrong m1 3) fun m7 =>
      fX10_newName_L33 m7 a1 a2
set_option maxRecDepth 20000 in
theorem sX10_newName_L33 {l : Launch} {E : sw_E} {K : Nat} (hK : 2 ≤ K) (σ : sw_M) (a1 : Int32) (a2 : Int32) {res : sw_M} {t : (sw_M)} (h : fX10_newName_L33 σ a1 a2 = some t) (hk : (fun q => q = res) t) : sw_Go l E K RX10 cX10_newName 3 none 33 [(0, .ref 49), (1, .int a1), (2, .int a2)] [] σ none res := by
  unfold fX10_newName_L33 at h
  refine sw_aload_n (k0 := 0) 0 rfl (by decide +kernel) rfl ?_
  refine gf_X10_158 (i := 49) (by decide) rfl (by decide +kernel) ?_
  refine sw_if_le (off := 4) 41 (by decide +kernel) (by decide) (fun c1 => ?_) (fun c1 => ?_)
  · rw [if_pos c1] at h
    refine sw_aload_n (k0 := 0) 0 rfl (by decide +kernel) rfl ?_
    refine gf_X10_17 (i := 49) (by decide) rfl (by decide +kernel) ?_
    refine sw_refj 51 rfl ?_
    refine sw_iload_n (k0 := 1) 1 rfl (by decide +kernel) rfl ?_
    refine sw_iload_n (k0 := 2) 2 rfl (by decide +kernel) rfl ?_
    refine sw_iadd (by decide +kernel) ?_
    refine sw_aload_n (k0 := 0) 0 rfl (by decide +kernel) rfl ?_
    refine gf_X10_138 (i := 49) (by decide) rfl (by decide +kernel) ?_
    obtain ⟨g2, h⟩ := sw_gd_e h
    obtain ⟨m3, e4, h⟩ := sw_let_e h
    refine sw_lastore (a := 51) (by decide) rfl (sw_in_e g2) (by decide +kernel) ?_
    refine sw_mem e4 ?_
    refine sw_aload_n (k0 := 0) 0 rfl (by decide +kernel) rfl ?_
    obtain ⟨m5, w6, h⟩ := sw_b1_e h
    refine sw_callVv (ci := 10) (i := 49) [] (sX10_token (K := K - 1) (by omega) m3 w6) rfl (by omega) rfl gs_X10_210 hy_X10_token (by decide) (by decide) rfl rfl (Nat.le_of_ble_eq_true rfl) (by decide +kernel) ?_
    cases h
    obtain rfl : _ = res := hk
    exact sw_vret (by decide +kernel)
  · rw [if_neg c1] at h
    cases h
    obtain rfl : _ = res := hk
    exact sw_vret (by decide +kernel)
set_option maxRecDepth 20000 in
theorem sX10_newName {l : Launch} {E : sw_E} {K : Nat} (hK : 2 ≤ K) (σ : sw_M) (a1 : Int32) (a2 : Int32) {res : sw_M} (h : fX10_newName σ a1 a2 = some res) : sw_Ct l E K yX10_newName cX10_newName 3 none [.ref 49, .int a1, .int a2] σ none res := by
  obtain ⟨t, hk, h⟩ : ∃ t, t = res ∧ fX10_newName σ a1 a2 = some t := ⟨res, rfl, h⟩
  unfold fX10_newName at h
  refine sw_enter2 (own := RX10) (lv := [(0, .ref 49), (1, .int a1), (2, .int a2)]) (by decide +kernel) (Nat.le_of_ble_eq_true rfl) rfl rfl ?_
  refine sw_aload_n (k0 := 0) 0 rfl (by decide +kernel) rfl ?_
  obtain ⟨m1, w2, h⟩ := sw_b1_e h
  refine sw_callVv (ci := 10) (i := 49) [] (sX10_token (K := K - 1) (by omega) σ w2) rfl (by omega) rfl gs_X10_210 hy_X10_token (by decide) (by decide) rfl rfl (Nat.le_of_ble_eq_true rfl) (by decide +kernel) ?_
  refine sw_aload_n (k0 := 0) 0 rfl (by decide +kernel) rfl ?_
  refine sw_callVi (ci := 10) (i := 49) [] (sX10_isName (K := K - 1) (by omega) m1 rfl) rfl (by omega) rfl gs_X10_221 hy_X10_isName (by decide) (by decide) rfl rfl (Nat.le_of_ble_eq_true rfl) (by decide +kernel) ?_
  refine sw_if_ne (off := 11) 19 (by decide +kernel) (by decide) (fun c3 => ?_) (fun c3 => ?_)
  · rw [if_neg c3] at h
    refine sw_aload_n (k0 := 0) 0 rfl (by decide +kernel) rfl ?_
    refine sw_iload_n (k0 := 1) 1 rfl (by decide +kernel) rfl ?_
    refine sw_iload_n (k0 := 2) 2 rfl (by decide +kernel) rfl ?_
    obtain ⟨r4, w5, h⟩ := sw_b1_e h
    refine sw_callVi (ci := 10) (i := 49) [.int a1, .int a2] (sX10_find (K := K - 1) (by omega) m1 a1 a2 w5) rfl (by omega) rfl gs_X10_224 hy_X10_find (by decide) (by decide) rfl rfl (Nat.le_of_ble_eq_true rfl) (by decide +kernel) ?_
    refine sw_if_lt (off := 8) 33 (by decide +kernel) (by decide) (fun c6 => ?_) (fun c6 => ?_)
    · rw [if_pos c6] at h
      exact sX10_newName_L33 hK m1 a1 a2 h hk
    · rw [if_neg c6] at h
      refine sw_aload_n (k0 := 0) 0 rfl (by decide +kernel) rfl ?_
      refine sw_iconst (n := 3) (v := 3) (by decide +kernel) (by decide) ?_
      obtain ⟨m7, w8, h⟩ := sw_b1_e h
      refine sw_callVv (ci := 10) (i := 49) [.int 3] (sX10_wrong (K := K - 1) (by omega) m1 3 w8) rfl (by omega) rfl gs_X10_207 hy_X10_wrong (by decide) (by decide) rfl rfl (Nat.le_of_ble_eq_true rfl) (by decide +kernel) ?_
      exact sX10_newName_L33 hK m7 a1 a2 h hk
  · rw [if_pos c3] at h
    refine sw_aload_n (k0 := 0) 0 rfl (by decide +kernel) rfl ?_
    refine sw_iconst (n := 2) (v := 2) (by decide +kernel) (by decide) ?_
    obtain ⟨m9, w10, h⟩ := sw_b1_e h
    refine sw_callVv (ci := 10) (i := 49) [.int 2] (sX10_wrong (K := K - 1) (by omega) m1 2 w10) rfl (by omega) rfl gs_X10_207 hy_X10_wrong (by decide) (by decide) rfl rfl (Nat.le_of_ble_eq_true rfl) (by decide +kernel) ?_
    refine sw_goto (off := 17) 33 (by decide +kernel) (by decide) ?_
    exact sX10_newName_L33 hK m9 a1 a2 h hk
def fX10_oldKind_L41 (σ : sw_M) : Option ((Int32 × sw_M)) :=
  if (σ.1 49 2) ≤ 0 then
    sw_b1 (fX10_find σ 0 (σ.1 49 33)) fun r2 =>
    some ((r2, σ))
  else
    some ((0, σ))
def fX10_oldKind (σ : sw_M) : Option (Int32 × sw_M) :=
  if (σ.1 49 2) ≤ 0 then
    if (fX10_isName σ) = 0 then
      sw_b1 (fX10_wrong σ 2) fun m8 =>
      fX10_oldKind_L41 m8
    else
      sw_b1 (fX10_find σ 0 (σ.1 49 33)) fun r3 =>
      if (0 : Int32) ≤ r3 then
        fX10_oldKind_L41 σ
      else
        sw_b1 (fX10_wrong σ 5) fun m6 =>
        fX10_oldKind_L41 m6
  else
    some ((0, σ))
set_option maxRecDepth 20000 in
theorem sX10_oldKind_L41 {l : Launch} {E : sw_E} {K : Nat} (hK : 2 ≤ K) (σ : sw_M) {res : Int32 × sw_M} {t : (Int32 × sw_M)} (h : fX10_oldKind_L41 σ = some t) (hk : (fun q => q = res) t) : sw_Go l E K RX10 cX10_oldKind 1 (some .int) 41 [(0, .ref 49)] [] σ (some (.int res.1)) res.2 := by
  unfold fX10_oldKind_L41 at h
  refine sw_aload_n (k0 := 0) 0 rfl (by decide +kernel) rfl ?_
  refine gf_X10_158 (i := 49) (by decide) rfl (by decide +kernel) ?_
  refine sw_if_le (off := 7) 52 (by decide +kernel) (by decide) (fun c1 => ?_) (fun c1 => ?_)
  · rw [if_pos c1] at h
    refine sw_aload_n (k0 := 0) 0 rfl (by decide +kernel) rfl ?_
    refine sw_iconst (n := 0) (v := 0) (by decide +kernel) (by decide) ?_
    refine sw_aload_n (k0 := 0) 0 rfl (by decide +kernel) rfl ?_
    refine gf_X10_227 (i := 49) (by decide) rfl (by decide +kernel) ?_
    obtain ⟨r2, w3, h⟩ := sw_b1_e h
    refine sw_callVi (ci := 10) (i := 49) [.int 0, .int (σ.1 49 33)] (sX10_find (K := K - 1) (by omega) σ 0 (σ.1 49 33) w3) rfl (by omega) rfl gs_X10_224 hy_X10_find (by decide) (by decide) rfl rfl (Nat.le_of_ble_eq_true rfl) (by decide +kernel) ?_
    cases h
    obtain rfl : _ = res := hk
    exact sw_iret (by decide +kernel)
  · rw [if_neg c1] at h
    refine sw_iconst (n := 0) (v := 0) (by decide +kernel) (by decide) ?_
    refine sw_goto (off := 12) 61 (by decide +kernel) (by decide) ?_
    cases h
    obtain rfl : _ = res := hk
    exact sw_iret (by decide +kernel)
set_option maxRecDepth 20000 in
theorem sX10_oldKind {l : Launch} {E : sw_E} {K : Nat} (hK : 2 ≤ K) (σ : sw_M) {res : Int32 × sw_M} (h : fX10_oldKind σ = some res) : sw_Ct l E K yX10_oldKind cX10_oldKind 1 (some .int) [.ref 49] σ (some (.int res.1)) res.2 := by
  obtain ⟨t, hk, h⟩ : ∃ t, t = res ∧ fX10_oldKind σ = some t := ⟨res, rfl, h⟩
  unfold fX10_oldKind at h
  refine sw_enter2 (own := RX10) (lv := [(0, .ref 49)]) (by decide +kernel) (Nat.le_of_ble_eq_true rfl) rfl rfl ?_
  refine sw_aload_n (k0 := 0) 0 rfl (by decide +kernel) rfl ?_
  refine gf_X10_158 (i := 49) (by decide) rfl (by decide +kernel) ?_
  refine sw_if_le (off := 5) 9 (by decide +kernel) (by decide) (fun c1 => ?_) (fun c1 => ?_)
  · rw [if_pos c1] at h
    refine sw_aload_n (k0 := 0) 0 rfl (by decide +kernel) rfl ?_
    refine sw_callVi (ci := 10) (i := 49) [] (sX10_isName (K := K - 1) (by omega) σ rfl) rfl (by omega) rfl gs_X10_221 hy_X10_isName (by decide) (by decide) rfl rfl (Nat.le_of_ble_eq_true rfl) (by decide +kernel) ?_
    refine sw_if_ne (off := 11) 24 (by decide +kernel) (by decide) (fun c2 => ?_) (fun c2 => ?_)
    · rw [if_neg c2] at h
      refine sw_aload_n (k0 := 0) 0 rfl (by decide +kernel) rfl ?_
      refine sw_iconst (n := 0) (v := 0) (by decide +kernel) (by decide) ?_
      refine sw_aload_n (k0 := 0) 0 rfl (by decide +kernel) rfl ?_
      refine gf_X10_227 (i := 49) (by decide) rfl (by decide +kernel) ?_
      obtain ⟨r3, w4, h⟩ := sw_b1_e h
      refine sw_callVi (ci := 10) (i := 49) [.int 0, .int (σ.1 49 33)] (sX10_find (K := K - 1) (by omega) σ 0 (σ.1 49 33) w4) rfl (by omega) rfl gs_X10_224 hy_X10_find (by decide) (by decide) rfl rfl (Nat.le_of_ble_eq_true rfl) (by decide +kernel) ?_
      refine sw_if_ge (off := 8) 41 (by decide +kernel) (by decide) (fun c5 => ?_) (fun c5 => ?_)
      · rw [if_pos c5] at h
        exact sX10_oldKind_L41 hK σ h hk
      · rw [if_neg c5] at h
        refine sw_aload_n (k0 := 0) 0 rfl (by decide +kernel) rfl ?_
        refine sw_iconst (n := 5) (v := 5) (by decide +kernel) (by decide) ?_
        obtain ⟨m6, w7, h⟩ := sw_b1_e h
        refine sw_callVv (ci := 10) (i := 49) [.int 5] (sX10_wrong (K := K - 1) (by omega) σ 5 w7) rfl (by omega) rfl gs_X10_207 hy_X10_wrong (by decide) (by decide) rfl rfl (Nat.le_of_ble_eq_true rfl) (by decide +kernel) ?_
        exact sX10_oldKind_L41 hK m6 h hk
    · rw [if_pos c2] at h
      refine sw_aload_n (k0 := 0) 0 rfl (by decide +kernel) rfl ?_
      refine sw_iconst (n := 2) (v := 2) (by decide +kernel) (by decide) ?_
      obtain ⟨m8, w9, h⟩ := sw_b1_e h
      refine sw_callVv (ci := 10) (i := 49) [.int 2] (sX10_wrong (K := K - 1) (by omega) σ 2 w9) rfl (by omega) rfl gs_X10_207 hy_X10_wrong (by decide) (by decide) rfl rfl (Nat.le_of_ble_eq_true rfl) (by decide +kernel) ?_
      refine sw_goto (off := 20) 41 (by decide +kernel) (by decide) ?_
      exact sX10_oldKind_L41 hK m8 h hk
  · rw [if_neg c1] at h
    refine sw_iconst (n := 0) (v := 0) (by decide +kernel) (by decide) ?_
    cases h
    obtain rfl : _ = res := hk
    exact sw_iret (by decide +kernel)
def fX10_add (σ : sw_M) (a1 : Int32) (a2 : Int32) : Option (sw_M) :=
  sw_gd (sw_in (σ.1 49 17) 320) <|
  sw_let (sw_w σ 52 (σ.1 49 17).toNatClampNeg a1) fun m2 =>
  sw_gd (sw_in (m2.1 49 17) 320) <|
  sw_let (sw_w m2 53 (m2.1 49 17).toNatClampNeg a2) fun m5 =>
  sw_let (sw_w m5 49 17 ((m5.1 49 17) + 1)) fun m7 =>
  some (m7)
set_option maxRecDepth 20000 in
theorem sX10_add {l : Launch} {E : sw_E} {K : Nat} (hK : 0 ≤ K) (σ : sw_M) (a1 : Int32) (a2 : Int32) {res : sw_M} (h : fX10_add σ a1 a2 = some res) : sw_Ct l E K yX10_add cX10_add 3 none [.ref 49, .int a1, .int a2] σ none res := by
  obtain ⟨t, hk, h⟩ : ∃ t, t = res ∧ fX10_add σ a1 a2 = some t := ⟨res, rfl, h⟩
  unfold fX10_add at h
  refine sw_enter2 (own := RX10) (lv := [(0, .ref 49), (1, .int a1), (2, .int a2)]) (by decide +kernel) (Nat.le_of_ble_eq_true rfl) rfl rfl ?_
  refine sw_aload_n (k0 := 0) 0 rfl (by decide +kernel) rfl ?_
  refine gf_X10_21 (i := 49) (by decide) rfl (by decide +kernel) ?_
  refine sw_refj 52 rfl ?_
  refine sw_aload_n (k0 := 0) 0 rfl (by decide +kernel) rfl ?_
  refine gf_X10_230 (i := 49) (by decide) rfl (by decide +kernel) ?_
  refine sw_iload_n (k0 := 1) 1 rfl (by decide +kernel) rfl ?_
  obtain ⟨g1, h⟩ := sw_gd_e h
  obtain ⟨m2, e3, h⟩ := sw_let_e h
  refine sw_iastore (a := 52) (by decide) rfl (sw_in_e g1) (by decide +kernel) ?_
  refine sw_mem e3 ?_
  refine sw_aload_n (k0 := 0) 0 rfl (by decide +kernel) rfl ?_
  refine gf_X10_24 (i := 49) (by decide) rfl (by decide +kernel) ?_
  refine sw_refj 53 rfl ?_
  refine sw_aload_n (k0 := 0) 0 rfl (by decide +kernel) rfl ?_
  refine gf_X10_230 (i := 49) (by decide) rfl (by decide +kernel) ?_
  refine sw_iload_n (k0 := 2) 2 rfl (by decide +kernel) rfl ?_
  obtain ⟨g4, h⟩ := sw_gd_e h
  obtain ⟨m5, e6, h⟩ := sw_let_e h
  refine sw_iastore (a := 53) (by decide) rfl (sw_in_e g4) (by decide +kernel) ?_
  refine sw_mem e6 ?_
  refine sw_aload_n (k0 := 0) 0 rfl (by decide +kernel) rfl ?_
  refine sw_dup (by decide +kernel) rfl ?_
  refine gf_X10_230 (i := 49) (by decide) rfl (by decide +kernel) ?_
  refine sw_iconst (n := 1) (v := 1) (by decide +kernel) (by decide) ?_
  refine sw_iadd (by decide +kernel) ?_
  obtain ⟨m7, e8, h⟩ := sw_let_e h
  refine pf_X10_230 (by decide) rfl (by decide +kernel) ?_
  refine sw_mem e8 ?_
  cases h
  obtain rfl : _ = res := hk
  exact sw_vret (by decide +kernel)
def fX10_tight (a0 : Int32) : Int32 :=
  if a0 = 21 then
    3
  else
    if a0 = 38 then
      2
    else
      if a0 = 43 then
        5
      else
        if a0 = 45 then
          5
        else
          if a0 = 60 then
            4
          else
            if a0 = 61 then
              4
            else
              if a0 = 62 then
                4
              else
                if a0 = 124 then
                  1
                else
                  6
set_option maxRecDepth 20000 in
theorem sX10_tight {l : Launch} {E : sw_E} {K : Nat} (hK : 0 ≤ K) (σ : sw_M) (a0 : Int32) {res : Int32} (h : fX10_tight a0 = res) : sw_Ct l E K yX10_tight cX10_tight 1 (some .int) [.int a0] σ (some (.int res)) σ := by
  obtain ⟨t, hk, h⟩ : ∃ t, t = res ∧ fX10_tight a0 = t := ⟨res, rfl, h⟩
  unfold fX10_tight at h
  refine sw_enter2 (own := RX10) (lv := [(0, .int a0)]) (by decide +kernel) (Nat.le_of_ble_eq_true rfl) rfl rfl ?_
  refine sw_iload_n (k0 := 0) 0 rfl (by decide +kernel) rfl ?_
  by_cases c1 : a0 = 21
  · rw [if_pos c1] at h
    refine sw_lookup (dflt := 85) (ps := #[(21, 79), (38, 77), (43, 83), (45, 83), (60, 81), (61, 81), (62, 81), (124, 75)]) (len := 75) (off := 79) 80 (by decide +kernel) (by decide) (by rw [c1]; decide) (by decide) ?_
    refine sw_iconst (n := 3) (v := 3) (by decide +kernel) (by decide) ?_
    subst h
    obtain rfl : _ = res := hk
    exact sw_iret (by decide +kernel)
  · rw [if_neg c1] at h
    by_cases c2 : a0 = 38
    · rw [if_pos c2] at h
      refine sw_lookup (dflt := 85) (ps := #[(21, 79), (38, 77), (43, 83), (45, 83), (60, 81), (61, 81), (62, 81), (124, 75)]) (len := 75) (off := 77) 78 (by decide +kernel) (by decide) (by rw [c2]; decide) (by decide) ?_
      refine sw_iconst (n := 2) (v := 2) (by decide +kernel) (by decide) ?_
      subst h
      obtain rfl : _ = res := hk
      exact sw_iret (by decide +kernel)
    · rw [if_neg c2] at h
      by_cases c3 : a0 = 43
      · rw [if_pos c3] at h
        refine sw_lookup (dflt := 85) (ps := #[(21, 79), (38, 77), (43, 83), (45, 83), (60, 81), (61, 81), (62, 81), (124, 75)]) (len := 75) (off := 83) 84 (by decide +kernel) (by decide) (by rw [c3]; decide) (by decide) ?_
        refine sw_iconst (n := 5) (v := 5) (by decide +kernel) (by decide) ?_
        subst h
        obtain rfl : _ = res := hk
        exact sw_iret (by decide +kernel)
      · rw [if_neg c3] at h
        by_cases c4 : a0 = 45
        · rw [if_pos c4] at h
          refine sw_lookup (dflt := 85) (ps := #[(21, 79), (38, 77), (43, 83), (45, 83), (60, 81), (61, 81), (62, 81), (124, 75)]) (len := 75) (off := 83) 84 (by decide +kernel) (by decide) (by rw [c4]; decide) (by decide) ?_
          refine sw_iconst (n := 5) (v := 5) (by decide +kernel) (by decide) ?_
          subst h
          obtain rfl : _ = res := hk
          exact sw_iret (by decide +kernel)
        · rw [if_neg c4] at h
          by_cases c5 : a0 = 60
          · rw [if_pos c5] at h
            refine sw_lookup (dflt := 85) (ps := #[(21, 79), (38, 77), (43, 83), (45, 83), (60, 81), (61, 81), (62, 81), (124, 75)]) (len := 75) (off := 81) 82 (by decide +kernel) (by decide) (by rw [c5]; decide) (by decide) ?_
            refine sw_iconst (n := 4) (v := 4) (by decide +kernel) (by decide) ?_
            subst h
            obtain rfl : _ = res := hk
            exact sw_iret (by decide +kernel)
          · rw [if_neg c5] at h
            by_cases c6 : a0 = 61
            · rw [if_pos c6] at h
              refine sw_lookup (dflt := 85) (ps := #[(21, 79), (38, 77), (43, 83), (45, 83), (60, 81), (61, 81), (62, 81), (124, 75)]) (len := 75) (off := 81) 82 (by decide +kernel) (by decide) (by rw [c6]; decide) (by decide) ?_
              refine sw_iconst (n := 4) (v := 4) (by decide +kernel) (by decide) ?_
              subst h
              obtain rfl : _ = res := hk
              exact sw_iret (by decide +kernel)
            · rw [if_neg c6] at h
              by_cases c7 : a0 = 62
              · rw [if_pos c7] at h
                refine sw_lookup (dflt := 85) (ps := #[(21, 79), (38, 77), (43, 83), (45, 83), (60, 81), (61, 81), (62, 81), (124, 75)]) (len := 75) (off := 81) 82 (by decide +kernel) (by decide) (by rw [c7]; decide) (by decide) ?_
                refine sw_iconst (n := 4) (v := 4) (by decide +kernel) (by decide) ?_
                subst h
                obtain rfl : _ = res := hk
                exact sw_iret (by decide +kernel)
              · rw [if_neg c7] at h
                by_cases c8 : a0 = 124
                · rw [if_pos c8] at h
                  refine sw_lookup (dflt := 85) (ps := #[(21, 79), (38, 77), (43, 83), (45, 83), (60, 81), (61, 81), (62, 81), (124, 75)]) (len := 75) (off := 75) 76 (by decide +kernel) (by decide) (by rw [c8]; decide) (by decide) ?_
                  refine sw_iconst (n := 1) (v := 1) (by decide +kernel) (by decide) ?_
                  subst h
                  obtain rfl : _ = res := hk
                  exact sw_iret (by decide +kernel)
                · rw [if_neg c8] at h
                  refine sw_lookup (dflt := 85) (ps := #[(21, 79), (38, 77), (43, 83), (45, 83), (60, 81), (61, 81), (62, 81), (124, 75)]) (len := 75) (off := 85) 86 (by decide +kernel) (by decide) (by rw [lv_osw c1 (by decide)]; rw [lv_osw c2 (by decide)]; rw [lv_osw c3 (by decide)]; rw [lv_osw c4 (by decide)]; rw [lv_osw c5 (by decide)]; rw [lv_osw c6 (by decide)]; rw [lv_osw c7 (by decide)]; rw [lv_osw c8 (by decide)]; rfl) (by decide) ?_
                  refine sw_bipush (n := 6) (v := 6) (by decide +kernel) (by decide) ?_
                  subst h
                  obtain rfl : _ = res := hk
                  exact sw_iret (by decide +kernel)
def fX10_close_L0 (σ : sw_M) (a1 : Int32) : Option ((sw_M) ⊕ (sw_M)) :=
  if (σ.1 49 19) ≤ 0 then
    some (.inr (σ))
  else
    sw_gd (sw_in ((σ.1 49 19) - 1) 160) <|
    if (σ.1 56 ((σ.1 49 19) - 1).toNatClampNeg) = 20 then
      some (.inr (σ))
    else
      sw_gd (sw_in ((σ.1 49 19) - 1) 160) <|
      if (fX10_tight (σ.1 56 ((σ.1 49 19) - 1).toNatClampNeg)) < a1 then
        some (.inr (σ))
      else
        sw_let (sw_w σ 49 19 ((σ.1 49 19) - 1)) fun m6 =>
        sw_gd (sw_in (m6.1 49 19) 160) <|
        if (m6.1 56 (m6.1 49 19).toNatClampNeg) = 21 then
          sw_b1 (fX10_add m6 2 0) fun m13 =>
          sw_let (sw_w m13 49 23 ((m13.1 49 23) - 1)) fun m15 =>
          some (.inl m15)
        else
          sw_gd (sw_in (m6.1 49 19) 160) <|
          sw_b1 (fX10_add m6 3 (m6.1 56 (m6.1 49 19).toNatClampNeg)) fun m11 =>
          some (.inl m11)
def fX10_close (σ : sw_M) (a1 : Int32) : Option (sw_M) :=
  sw_wh sw_F (fun s => fX10_close_L0 s a1) σ
set_option maxRecDepth 20000 in
theorem sX10_close_L0 {l : Launch} {E : sw_E} {K : Nat} (hK : 1 ≤ K) (σ : sw_M) (a1 : Int32) {res : sw_M} {t : (sw_M) ⊕ (sw_M)} (h : fX10_close_L0 σ a1 = some t) (hk : (Sum.elim (fun s : sw_M => sw_Go l E K RX10 cX10_close 2 none 0 [(0, .ref 49), (1, .int a1)] [] s none res) (fun q => q = res)) t) : sw_Go l E K RX10 cX10_close 2 none 0 [(0, .ref 49), (1, .int a1)] [] σ none res := by
  unfold fX10_close_L0 at h
  refine sw_aload_n (k0 := 0) 0 rfl (by decide +kernel) rfl ?_
  refine gf_X10_233 (i := 49) (by decide) rfl (by decide +kernel) ?_
  refine sw_if_le (off := 97) 101 (by decide +kernel) (by decide) (fun c1 => ?_) (fun c1 => ?_)
  · rw [if_pos c1] at h
    cases h
    obtain rfl : _ = res := hk
    exact sw_vret (by decide +kernel)
  · rw [if_neg c1] at h
    refine sw_aload_n (k0 := 0) 0 rfl (by decide +kernel) rfl ?_
    refine gf_X10_33 (i := 49) (by decide) rfl (by decide +kernel) ?_
    refine sw_refj 56 rfl ?_
    refine sw_aload_n (k0 := 0) 0 rfl (by decide +kernel) rfl ?_
    refine gf_X10_233 (i := 49) (by decide) rfl (by decide +kernel) ?_
    refine sw_iconst (n := 1) (v := 1) (by decide +kernel) (by decide) ?_
    refine sw_isub (by decide +kernel) ?_
    obtain ⟨g2, h⟩ := sw_gd_e h
    refine sw_iaload (a := 56) (by decide) rfl (sw_in_e g2) (by decide +kernel) ?_
    refine sw_bipush (n := 20) (v := 20) (by decide +kernel) (by decide) ?_
    refine sw_icmp_eq (off := 81) 101 (by decide +kernel) (by decide) (fun c3 => ?_) (fun c3 => ?_)
    · rw [if_pos c3] at h
      cases h
      obtain rfl : _ = res := hk
      exact sw_vret (by decide +kernel)
    · rw [if_neg c3] at h
      refine sw_aload_n (k0 := 0) 0 rfl (by decide +kernel) rfl ?_
      refine gf_X10_33 (i := 49) (by decide) rfl (by decide +kernel) ?_
      refine sw_refj 56 rfl ?_
      refine sw_aload_n (k0 := 0) 0 rfl (by decide +kernel) rfl ?_
      refine gf_X10_233 (i := 49) (by decide) rfl (by decide +kernel) ?_
      refine sw_iconst (n := 1) (v := 1) (by decide +kernel) (by decide) ?_
      refine sw_isub (by decide +kernel) ?_
      obtain ⟨g4, h⟩ := sw_gd_e h
      refine sw_iaload (a := 56) (by decide) rfl (sw_in_e g4) (by decide +kernel) ?_
      refine sw_callSi [.int (σ.1 56 ((σ.1 49 19) - 1).toNatClampNeg)] (sX10_tight (K := K - 1) (by omega) σ (σ.1 56 ((σ.1 49 19) - 1).toNatClampNeg) rfl) rfl (by omega) gs_X10_236 hy_X10_tight (by decide) rfl (Nat.le_of_ble_eq_true rfl) (by decide +kernel) ?_
      refine sw_iload_n (k0 := 1) 1 rfl (by decide +kernel) rfl ?_
      refine sw_icmp_lt (off := 63) 101 (by decide +kernel) (by decide) (fun c5 => ?_) (fun c5 => ?_)
      · rw [if_pos c5] at h
        cases h
        obtain rfl : _ = res := hk
        exact sw_vret (by decide +kernel)
      · rw [if_neg c5] at h
        refine sw_aload_n (k0 := 0) 0 rfl (by decide +kernel) rfl ?_
        refine sw_dup (by decide +kernel) rfl ?_
        refine gf_X10_233 (i := 49) (by decide) rfl (by decide +kernel) ?_
        refine sw_iconst (n := 1) (v := 1) (by decide +kernel) (by decide) ?_
        refine sw_isub (by decide +kernel) ?_
        obtain ⟨m6, e7, h⟩ := sw_let_e h
        refine pf_X10_233 (by decide) rfl (by decide +kernel) ?_
        refine sw_mem e7 ?_
        refine sw_aload_n (k0 := 0) 0 rfl (by decide +kernel) rfl ?_
        refine gf_X10_33 (i := 49) (by decide) rfl (by decide +kernel) ?_
        refine sw_refj 56 rfl ?_
        refine sw_aload_n (k0 := 0) 0 rfl (by decide +kernel) rfl ?_
        refine gf_X10_233 (i := 49) (by decide) rfl (by decide +kernel) ?_
        obtain ⟨g8, h⟩ := sw_gd_e h
        refine sw_iaload (a := 56) (by decide) rfl (sw_in_e g8) (by decide +kernel) ?_
        refine sw_bipush (n := 21) (v := 21) (by decide +kernel) (by decide) ?_
        refine sw_icmp_ne (off := 22) 84 (by decide +kernel) (by decide) (fun c9 => ?_) (fun c9 => ?_)
        · rw [if_neg c9] at h
          refine sw_aload_n (k0 := 0) 0 rfl (by decide +kernel) rfl ?_
          refine sw_iconst (n := 3) (v := 3) (by decide +kernel) (by decide) ?_
          refine sw_aload_n (k0 := 0) 0 rfl (by decide +kernel) rfl ?_
          refine gf_X10_33 (i := 49) (by decide) rfl (by decide +kernel) ?_
          refine sw_refj 56 rfl ?_
          refine sw_aload_n (k0 := 0) 0 rfl (by decide +kernel) rfl ?_
          refine gf_X10_233 (i := 49) (by decide) rfl (by decide +kernel) ?_
          obtain ⟨g10, h⟩ := sw_gd_e h
          refine sw_iaload (a := 56) (by decide) rfl (sw_in_e g10) (by decide +kernel) ?_
          obtain ⟨m11, w12, h⟩ := sw_b1_e h
          refine sw_callVv (ci := 10) (i := 49) [.int 3, .int (m6.1 56 (m6.1 49 19).toNatClampNeg)] (sX10_add (K := K - 1) (by omega) m6 3 (m6.1 56 (m6.1 49 19).toNatClampNeg) w12) rfl (by omega) rfl gs_X10_239 hy_X10_add (by decide) (by decide) rfl rfl (Nat.le_of_ble_eq_true rfl) (by decide +kernel) ?_
          refine sw_goto (off := (-98)) 0 (by decide +kernel) (by decide) ?_
          cases h
          exact hk
        · rw [if_pos c9] at h
          refine sw_aload_n (k0 := 0) 0 rfl (by decide +kernel) rfl ?_
          refine sw_iconst (n := 2) (v := 2) (by decide +kernel) (by decide) ?_
          refine sw_iconst (n := 0) (v := 0) (by decide +kernel) (by decide) ?_
          obtain ⟨m13, w14, h⟩ := sw_b1_e h
          refine sw_callVv (ci := 10) (i := 49) [.int 2, .int 0] (sX10_add (K := K - 1) (by omega) m6 2 0 w14) rfl (by omega) rfl gs_X10_239 hy_X10_add (by decide) (by decide) rfl rfl (Nat.le_of_ble_eq_true rfl) (by decide +kernel) ?_
          refine sw_aload_n (k0 := 0) 0 rfl (by decide +kernel) rfl ?_
          refine sw_dup (by decide +kernel) rfl ?_
          refine gf_X10_243 (i := 49) (by decide) rfl (by decide +kernel) ?_
          refine sw_iconst (n := 1) (v := 1) (by decide +kernel) (by decide) ?_
          refine sw_isub (by decide +kernel) ?_
          obtain ⟨m15, e16, h⟩ := sw_let_e h
          refine pf_X10_243 (by decide) rfl (by decide +kernel) ?_
          refine sw_mem e16 ?_
          refine sw_goto (off := (-81)) 0 (by decide +kernel) (by decide) ?_
          cases h
          exact hk
set_option maxRecDepth 20000 in
theorem sX10_close {l : Launch} {E : sw_E} {K : Nat} (hK : 1 ≤ K) (σ : sw_M) (a1 : Int32) {res : sw_M} (h : fX10_close σ a1 = some res) : sw_Ct l E K yX10_close cX10_close 2 none [.ref 49, .int a1] σ none res := by
  obtain ⟨t, hk, h⟩ : ∃ t, t = res ∧ fX10_close σ a1 = some t := ⟨res, rfl, h⟩
  unfold fX10_close at h
  refine sw_enter2 (own := RX10) (lv := [(0, .ref 49), (1, .int a1)]) (by decide +kernel) (Nat.le_of_ble_eq_true rfl) rfl rfl ?_
  exact sw_wh_e (fun s : sw_M => sw_Go l E K RX10 cX10_close 2 none 0 [(0, .ref 49), (1, .int a1)] [] s none res) (fun q => q = res) (fun s => fX10_close_L0 s a1) (fun s t hb hk => sX10_close_L0 hK s a1 hb hk) _ _ _ h hk
def fX10_hasRelation_L41 (σ : sw_M) (a1 : Int32) : Option ((Int32)) :=
  if a1 < 0 then
    some (0)
  else
    sw_gd (sw_in a1 160) <|
    if (σ.1 56 a1.toNatClampNeg) = 20 then
      some (0)
    else
      sw_gd (sw_in a1 160) <|
      if (fX10_tight (σ.1 56 a1.toNatClampNeg)) = 4 then
        some (1)
      else
        some (0)
def fX10_hasRelation_L7 (σ : sw_M) (a1 : Int32) : Option ((Int32) ⊕ (Int32)) :=
  if a1 < 0 then
    sw_up (fX10_hasRelation_L41 σ a1)
  else
    sw_gd (sw_in a1 160) <|
    if (σ.1 56 a1.toNatClampNeg) = 20 then
      sw_up (fX10_hasRelation_L41 σ a1)
    else
      sw_gd (sw_in a1 160) <|
      if (fX10_tight (σ.1 56 a1.toNatClampNeg)) ≤ 4 then
        sw_up (fX10_hasRelation_L41 σ a1)
      else
        sw_let (a1 + (-1)) fun v9 =>
        some (.inl v9)
def fX10_hasRelation (σ : sw_M) : Option (Int32) :=
  sw_let ((σ.1 49 19) - 1) fun v1 =>
  sw_wh sw_F (fun s => fX10_hasRelation_L7 σ s) v1
set_option maxRecDepth 20000 in
theorem sX10_hasRelation_L41 {l : Launch} {E : sw_E} {K : Nat} (hK : 1 ≤ K) (σ : sw_M) (a1 : Int32) {res : Int32} {t : (Int32)} (h : fX10_hasRelation_L41 σ a1 = some t) (hk : (fun q => q = res) t) : sw_Go l E K RX10 cX10_hasRelation 2 (some .boolean) 41 [(0, .ref 49), (1, .int a1)] [] σ (some (.int res)) σ := by
  unfold fX10_hasRelation_L41 at h
  refine sw_iload_n (k0 := 1) 1 rfl (by decide +kernel) rfl ?_
  refine sw_if_lt (off := 31) 73 (by decide +kernel) (by decide) (fun c1 => ?_) (fun c1 => ?_)
  · rw [if_pos c1] at h
    refine sw_iconst (n := 0) (v := 0) (by decide +kernel) (by decide) ?_
    cases h
    obtain rfl : _ = res := hk
    exact sw_zret rfl (by decide +kernel)
  · rw [if_neg c1] at h
    refine sw_aload_n (k0 := 0) 0 rfl (by decide +kernel) rfl ?_
    refine gf_X10_33 (i := 49) (by decide) rfl (by decide +kernel) ?_
    refine sw_refj 56 rfl ?_
    refine sw_iload_n (k0 := 1) 1 rfl (by decide +kernel) rfl ?_
    obtain ⟨g2, h⟩ := sw_gd_e h
    refine sw_iaload (a := 56) (by decide) rfl (sw_in_e g2) (by decide +kernel) ?_
    refine sw_bipush (n := 20) (v := 20) (by decide +kernel) (by decide) ?_
    refine sw_icmp_eq (off := 20) 73 (by decide +kernel) (by decide) (fun c3 => ?_) (fun c3 => ?_)
    · rw [if_pos c3] at h
      refine sw_iconst (n := 0) (v := 0) (by decide +kernel) (by decide) ?_
      cases h
      obtain rfl : _ = res := hk
      exact sw_zret rfl (by decide +kernel)
    · rw [if_neg c3] at h
      refine sw_aload_n (k0 := 0) 0 rfl (by decide +kernel) rfl ?_
      refine gf_X10_33 (i := 49) (by decide) rfl (by decide +kernel) ?_
      refine sw_refj 56 rfl ?_
      refine sw_iload_n (k0 := 1) 1 rfl (by decide +kernel) rfl ?_
      obtain ⟨g4, h⟩ := sw_gd_e h
      refine sw_iaload (a := 56) (by decide) rfl (sw_in_e g4) (by decide +kernel) ?_
      refine sw_callSi [.int (σ.1 56 a1.toNatClampNeg)] (sX10_tight (K := K - 1) (by omega) σ (σ.1 56 a1.toNatClampNeg) rfl) rfl (by omega) gs_X10_236 hy_X10_tight (by decide) rfl (Nat.le_of_ble_eq_true rfl) (by decide +kernel) ?_
      refine sw_iconst (n := 4) (v := 4) (by decide +kernel) (by decide) ?_
      refine sw_icmp_ne (off := 7) 73 (by decide +kernel) (by decide) (fun c5 => ?_) (fun c5 => ?_)
      · rw [if_neg c5] at h
        refine sw_iconst (n := 0) (v := 0) (by decide +kernel) (by decide) ?_
        cases h
        obtain rfl : _ = res := hk
        exact sw_zret rfl (by decide +kernel)
      · rw [if_pos c5] at h
        refine sw_iconst (n := 1) (v := 1) (by decide +kernel) (by decide) ?_
        refine sw_goto (off := 4) 74 (by decide +kernel) (by decide) ?_
        cases h
        obtain rfl : _ = res := hk
        exact sw_zret rfl (by decide +kernel)
set_option maxRecDepth 20000 in
theorem sX10_hasRelation_L7 {l : Launch} {E : sw_E} {K : Nat} (hK : 1 ≤ K) (σ : sw_M) (a1 : Int32) {res : Int32} {t : (Int32) ⊕ (Int32)} (h : fX10_hasRelation_L7 σ a1 = some t) (hk : (Sum.elim (fun s : Int32 => sw_Go l E K RX10 cX10_hasRelation 2 (some .boolean) 7 [(0, .ref 49), (1, .int s)] [] σ (some (.int res)) σ) (fun q => q = res)) t) : sw_Go l E K RX10 cX10_hasRelation 2 (some .boolean) 7 [(0, .ref 49), (1, .int a1)] [] σ (some (.int res)) σ := by
  unfold fX10_hasRelation_L7 at h
  refine sw_iload_n (k0 := 1) 1 rfl (by decide +kernel) rfl ?_
  refine sw_if_lt (off := 33) 41 (by decide +kernel) (by decide) (fun c1 => ?_) (fun c1 => ?_)
  · rw [if_pos c1] at h
    obtain ⟨q1, h1, rfl⟩ := sw_up_e h
    replace h := h1
    exact sX10_hasRelation_L41 hK σ a1 h hk
  · rw [if_neg c1] at h
    refine sw_aload_n (k0 := 0) 0 rfl (by decide +kernel) rfl ?_
    refine gf_X10_33 (i := 49) (by decide) rfl (by decide +kernel) ?_
    refine sw_refj 56 rfl ?_
    refine sw_iload_n (k0 := 1) 1 rfl (by decide +kernel) rfl ?_
    obtain ⟨g3, h⟩ := sw_gd_e h
    refine sw_iaload (a := 56) (by decide) rfl (sw_in_e g3) (by decide +kernel) ?_
    refine sw_bipush (n := 20) (v := 20) (by decide +kernel) (by decide) ?_
    refine sw_icmp_eq (off := 22) 41 (by decide +kernel) (by decide) (fun c4 => ?_) (fun c4 => ?_)
    · rw [if_pos c4] at h
      obtain ⟨q4, h4, rfl⟩ := sw_up_e h
      replace h := h4
      exact sX10_hasRelation_L41 hK σ a1 h hk
    · rw [if_neg c4] at h
      refine sw_aload_n (k0 := 0) 0 rfl (by decide +kernel) rfl ?_
      refine gf_X10_33 (i := 49) (by decide) rfl (by decide +kernel) ?_
      refine sw_refj 56 rfl ?_
      refine sw_iload_n (k0 := 1) 1 rfl (by decide +kernel) rfl ?_
      obtain ⟨g6, h⟩ := sw_gd_e h
      refine sw_iaload (a := 56) (by decide) rfl (sw_in_e g6) (by decide +kernel) ?_
      refine sw_callSi [.int (σ.1 56 a1.toNatClampNeg)] (sX10_tight (K := K - 1) (by omega) σ (σ.1 56 a1.toNatClampNeg) rfl) rfl (by omega) gs_X10_236 hy_X10_tight (by decide) rfl (Nat.le_of_ble_eq_true rfl) (by decide +kernel) ?_
      refine sw_iconst (n := 4) (v := 4) (by decide +kernel) (by decide) ?_
      refine sw_icmp_le (off := 9) 41 (by decide +kernel) (by decide) (fun c7 => ?_) (fun c7 => ?_)
      · rw [if_pos c7] at h
        obtain ⟨q7, h7, rfl⟩ := sw_up_e h
        replace h := h7
        exact sX10_hasRelation_L41 hK σ a1 h hk
      · rw [if_neg c7] at h
        obtain ⟨v9, e10, h⟩ := sw_let_e h
        refine sw_iincv (i := 1) (n := (-1)) (lv' := [(1, .int v9), (0, .ref 49)]) 1 rfl e10 (by decide +kernel) (by decide) (by decide) rfl ?_
        refine sw_goto (off := (-31)) 7 (by decide +kernel) (by decide) ?_
        cases h
        refine sw_lv [1, 0] rfl ?_
        exact hk
set_option maxRecDepth 20000 in
theorem sX10_hasRelation {l : Launch} {E : sw_E} {K : Nat} (hK : 1 ≤ K) (σ : sw_M) {res : Int32} (h : fX10_hasRelation σ = some res) : sw_Ct l E K yX10_hasRelation cX10_hasRelation 2 (some .boolean) [.ref 49] σ (some (.int res)) σ := by
  obtain ⟨t, hk, h⟩ : ∃ t, t = res ∧ fX10_hasRelation σ = some t := ⟨res, rfl, h⟩
  unfold fX10_hasRelation at h
  refine sw_enter2 (own := RX10) (lv := [(0, .ref 49)]) (by decide +kernel) (Nat.le_of_ble_eq_true rfl) rfl rfl ?_
  refine sw_aload_n (k0 := 0) 0 rfl (by decide +kernel) rfl ?_
  refine gf_X10_233 (i := 49) (by decide) rfl (by decide +kernel) ?_
  refine sw_iconst (n := 1) (v := 1) (by decide +kernel) (by decide) ?_
  refine sw_isub (by decide +kernel) ?_
  obtain ⟨v1, e2, h⟩ := sw_let_e h
  refine sw_topi e2 ?_
  refine sw_istore_n (k0 := 1) (lv' := [(1, .int v1), (0, .ref 49)]) (by decide +kernel) rfl (by decide) rfl ?_
  refine sw_lv [1, 0] rfl ?_
  exact sw_wh_e (fun s : Int32 => sw_Go l E K RX10 cX10_hasRelation 2 (some .boolean) 7 [(0, .ref 49), (1, .int s)] [] σ (some (.int res)) σ) (fun q => q = res) (fun s => fX10_hasRelation_L7 σ s) (fun s t hb hk => sX10_hasRelation_L7 hK σ s hb hk) _ _ _ h hk
def fX10_mayNot (σ : sw_M) : Option (Int32) :=
  if (σ.1 49 19) = 0 then
    some (1)
  else
    sw_gd (sw_in ((σ.1 49 19) - 1) 160) <|
    if (σ.1 56 ((σ.1 49 19) - 1).toNatClampNeg) = 20 then
      some (1)
    else
      sw_gd (sw_in ((σ.1 49 19) - 1) 160) <|
      if 4 ≤ (fX10_tight (σ.1 56 ((σ.1 49 19) - 1).toNatClampNeg)) then
        some (0)
      else
        some (1)
set_option maxRecDepth 20000 in
theorem sX10_mayNot {l : Launch} {E : sw_E} {K : Nat} (hK : 1 ≤ K) (σ : sw_M) {res : Int32} (h : fX10_mayNot σ = some res) : sw_Ct l E K yX10_mayNot cX10_mayNot 1 (some .boolean) [.ref 49] σ (some (.int res)) σ := by
  obtain ⟨t, hk, h⟩ : ∃ t, t = res ∧ fX10_mayNot σ = some t := ⟨res, rfl, h⟩
  unfold fX10_mayNot at h
  refine sw_enter2 (own := RX10) (lv := [(0, .ref 49)]) (by decide +kernel) (Nat.le_of_ble_eq_true rfl) rfl rfl ?_
  refine sw_aload_n (k0 := 0) 0 rfl (by decide +kernel) rfl ?_
  refine gf_X10_233 (i := 49) (by decide) rfl (by decide +kernel) ?_
  refine sw_if_eq (off := 37) 41 (by decide +kernel) (by decide) (fun c1 => ?_) (fun c1 => ?_)
  · rw [if_pos c1] at h
    refine sw_iconst (n := 1) (v := 1) (by decide +kernel) (by decide) ?_
    refine sw_goto (off := 4) 46 (by decide +kernel) (by decide) ?_
    cases h
    obtain rfl : _ = res := hk
    exact sw_zret rfl (by decide +kernel)
  · rw [if_neg c1] at h
    refine sw_aload_n (k0 := 0) 0 rfl (by decide +kernel) rfl ?_
    refine gf_X10_33 (i := 49) (by decide) rfl (by decide +kernel) ?_
    refine sw_refj 56 rfl ?_
    refine sw_aload_n (k0 := 0) 0 rfl (by decide +kernel) rfl ?_
    refine gf_X10_233 (i := 49) (by decide) rfl (by decide +kernel) ?_
    refine sw_iconst (n := 1) (v := 1) (by decide +kernel) (by decide) ?_
    refine sw_isub (by decide +kernel) ?_
    obtain ⟨g2, h⟩ := sw_gd_e h
    refine sw_iaload (a := 56) (by decide) rfl (sw_in_e g2) (by decide +kernel) ?_
    refine sw_bipush (n := 20) (v := 20) (by decide +kernel) (by decide) ?_
    refine sw_icmp_eq (off := 21) 41 (by decide +kernel) (by decide) (fun c3 => ?_) (fun c3 => ?_)
    · rw [if_pos c3] at h
      refine sw_iconst (n := 1) (v := 1) (by decide +kernel) (by decide) ?_
      refine sw_goto (off := 4) 46 (by decide +kernel) (by decide) ?_
      cases h
      obtain rfl : _ = res := hk
      exact sw_zret rfl (by decide +kernel)
    · rw [if_neg c3] at h
      refine sw_aload_n (k0 := 0) 0 rfl (by decide +kernel) rfl ?_
      refine gf_X10_33 (i := 49) (by decide) rfl (by decide +kernel) ?_
      refine sw_refj 56 rfl ?_
      refine sw_aload_n (k0 := 0) 0 rfl (by decide +kernel) rfl ?_
      refine gf_X10_233 (i := 49) (by decide) rfl (by decide +kernel) ?_
      refine sw_iconst (n := 1) (v := 1) (by decide +kernel) (by decide) ?_
      refine sw_isub (by decide +kernel) ?_
      obtain ⟨g4, h⟩ := sw_gd_e h
      refine sw_iaload (a := 56) (by decide) rfl (sw_in_e g4) (by decide +kernel) ?_
      refine sw_callSi [.int (σ.1 56 ((σ.1 49 19) - 1).toNatClampNeg)] (sX10_tight (K := K - 1) (by omega) σ (σ.1 56 ((σ.1 49 19) - 1).toNatClampNeg) rfl) rfl (by omega) gs_X10_236 hy_X10_tight (by decide) rfl (Nat.le_of_ble_eq_true rfl) (by decide +kernel) ?_
      refine sw_iconst (n := 4) (v := 4) (by decide +kernel) (by decide) ?_
      refine sw_icmp_ge (off := 7) 45 (by decide +kernel) (by decide) (fun c5 => ?_) (fun c5 => ?_)
      · rw [if_pos c5] at h
        refine sw_iconst (n := 0) (v := 0) (by decide +kernel) (by decide) ?_
        cases h
        obtain rfl : _ = res := hk
        exact sw_zret rfl (by decide +kernel)
      · rw [if_neg c5] at h
        refine sw_iconst (n := 1) (v := 1) (by decide +kernel) (by decide) ?_
        refine sw_goto (off := 4) 46 (by decide +kernel) (by decide) ?_
        cases h
        obtain rfl : _ = res := hk
        exact sw_zret rfl (by decide +kernel)
def fX10_asked (σ : sw_M) : Int32 :=
  if (σ.1 49 6) = 1 then
    if (lg_cmp (σ.2.1 49 9) 6384748) = 0 then
      0
    else
      if (lg_cmp (σ.2.1 49 9) 461330343027) = 0 then
        1
      else
        if (lg_cmp (σ.2.1 49 9) 1836020596) = 0 then
          2
        else
          if (lg_cmp (σ.2.1 49 9) 465557353332) = 0 then
            3
          else
            if (lg_cmp (σ.2.1 49 9) 32762613647897203) = 0 then
              4
            else
              if (lg_cmp (σ.2.1 49 9) 6578553) = 0 then
                5
              else
                (-1)
  else
    (-1)
set_option maxRecDepth 20000 in
theorem sX10_asked {l : Launch} {E : sw_E} {K : Nat} (hK : 0 ≤ K) (σ : sw_M) {res : Int32} (h : fX10_asked σ = res) : sw_Ct l E K yX10_asked cX10_asked 1 (some .int) [.ref 49] σ (some (.int res)) σ := by
  obtain ⟨t, hk, h⟩ : ∃ t, t = res ∧ fX10_asked σ = t := ⟨res, rfl, h⟩
  unfold fX10_asked at h
  refine sw_enter2 (own := RX10) (lv := [(0, .ref 49)]) (by decide +kernel) (Nat.le_of_ble_eq_true rfl) rfl rfl ?_
  refine sw_aload_n (k0 := 0) 0 rfl (by decide +kernel) rfl ?_
  refine gf_X10_145 (i := 49) (by decide) rfl (by decide +kernel) ?_
  refine sw_iconst (n := 1) (v := 1) (by decide +kernel) (by decide) ?_
  refine sw_icmp_eq (off := 5) 10 (by decide +kernel) (by decide) (fun c1 => ?_) (fun c1 => ?_)
  · rw [if_pos c1] at h
    refine sw_aload_n (k0 := 0) 0 rfl (by decide +kernel) rfl ?_
    refine gf_X10_138 (i := 49) (by decide) rfl (by decide +kernel) ?_
    refine sw_ldc2 kn_X10_181 (by decide +kernel) ?_
    refine sw_lcmp (by decide +kernel) ?_
    refine sw_if_ne (off := 5) 23 (by decide +kernel) (by decide) (fun c2 => ?_) (fun c2 => ?_)
    · rw [if_neg c2] at h
      refine sw_aload_n (k0 := 0) 0 rfl (by decide +kernel) rfl ?_
      refine gf_X10_138 (i := 49) (by decide) rfl (by decide +kernel) ?_
      refine sw_ldc2 kn_X10_183 (by decide +kernel) ?_
      refine sw_lcmp (by decide +kernel) ?_
      refine sw_if_ne (off := 5) 36 (by decide +kernel) (by decide) (fun c3 => ?_) (fun c3 => ?_)
      · rw [if_neg c3] at h
        refine sw_aload_n (k0 := 0) 0 rfl (by decide +kernel) rfl ?_
        refine gf_X10_138 (i := 49) (by decide) rfl (by decide +kernel) ?_
        refine sw_ldc2 kn_X10_185 (by decide +kernel) ?_
        refine sw_lcmp (by decide +kernel) ?_
        refine sw_if_ne (off := 5) 49 (by decide +kernel) (by decide) (fun c4 => ?_) (fun c4 => ?_)
        · rw [if_neg c4] at h
          refine sw_aload_n (k0 := 0) 0 rfl (by decide +kernel) rfl ?_
          refine gf_X10_138 (i := 49) (by decide) rfl (by decide +kernel) ?_
          refine sw_ldc2 kn_X10_187 (by decide +kernel) ?_
          refine sw_lcmp (by decide +kernel) ?_
          refine sw_if_ne (off := 5) 62 (by decide +kernel) (by decide) (fun c5 => ?_) (fun c5 => ?_)
          · rw [if_neg c5] at h
            refine sw_aload_n (k0 := 0) 0 rfl (by decide +kernel) rfl ?_
            refine gf_X10_138 (i := 49) (by decide) rfl (by decide +kernel) ?_
            refine sw_ldc2 kn_X10_189 (by decide +kernel) ?_
            refine sw_lcmp (by decide +kernel) ?_
            refine sw_if_ne (off := 5) 75 (by decide +kernel) (by decide) (fun c6 => ?_) (fun c6 => ?_)
            · rw [if_neg c6] at h
              refine sw_aload_n (k0 := 0) 0 rfl (by decide +kernel) rfl ?_
              refine gf_X10_138 (i := 49) (by decide) rfl (by decide +kernel) ?_
              refine sw_ldc2 kn_X10_191 (by decide +kernel) ?_
              refine sw_lcmp (by decide +kernel) ?_
              refine sw_if_ne (off := 7) 90 (by decide +kernel) (by decide) (fun c7 => ?_) (fun c7 => ?_)
              · rw [if_neg c7] at h
                refine sw_iconst (n := (-1)) (v := (-1)) (by decide +kernel) (by decide) ?_
                subst h
                obtain rfl : _ = res := hk
                exact sw_iret (by decide +kernel)
              · rw [if_pos c7] at h
                refine sw_iconst (n := 5) (v := 5) (by decide +kernel) (by decide) ?_
                refine sw_goto (off := 4) 91 (by decide +kernel) (by decide) ?_
                subst h
                obtain rfl : _ = res := hk
                exact sw_iret (by decide +kernel)
            · rw [if_pos c6] at h
              refine sw_iconst (n := 4) (v := 4) (by decide +kernel) (by decide) ?_
              subst h
              obtain rfl : _ = res := hk
              exact sw_iret (by decide +kernel)
          · rw [if_pos c5] at h
            refine sw_iconst (n := 3) (v := 3) (by decide +kernel) (by decide) ?_
            subst h
            obtain rfl : _ = res := hk
            exact sw_iret (by decide +kernel)
        · rw [if_pos c4] at h
          refine sw_iconst (n := 2) (v := 2) (by decide +kernel) (by decide) ?_
          subst h
          obtain rfl : _ = res := hk
          exact sw_iret (by decide +kernel)
      · rw [if_pos c3] at h
        refine sw_iconst (n := 1) (v := 1) (by decide +kernel) (by decide) ?_
        subst h
        obtain rfl : _ = res := hk
        exact sw_iret (by decide +kernel)
    · rw [if_pos c2] at h
      refine sw_iconst (n := 0) (v := 0) (by decide +kernel) (by decide) ?_
      subst h
      obtain rfl : _ = res := hk
      exact sw_iret (by decide +kernel)
  · rw [if_neg c1] at h
    refine sw_iconst (n := (-1)) (v := (-1)) (by decide +kernel) (by decide) ?_
    subst h
    obtain rfl : _ = res := hk
    exact sw_iret (by decide +kernel)
def fX10_isFull (σ : sw_M) : Int32 :=
  if (σ.1 49 20) = 60 then
    1
  else
    if (σ.1 49 22) = 30 then
      1
    else
      0
set_option maxRecDepth 20000 in
theorem sX10_isFull {l : Launch} {E : sw_E} {K : Nat} (hK : 0 ≤ K) (σ : sw_M) {res : Int32} (h : fX10_isFull σ = res) : sw_Ct l E K yX10_isFull cX10_isFull 1 (some .boolean) [.ref 49] σ (some (.int res)) σ := by
  obtain ⟨t, hk, h⟩ : ∃ t, t = res ∧ fX10_isFull σ = t := ⟨res, rfl, h⟩
  unfold fX10_isFull at h
  refine sw_enter2 (own := RX10) (lv := [(0, .ref 49)]) (by decide +kernel) (Nat.le_of_ble_eq_true rfl) rfl rfl ?_
  refine sw_aload_n (k0 := 0) 0 rfl (by decide +kernel) rfl ?_
  refine gf_X10_246 (i := 49) (by decide) rfl (by decide +kernel) ?_
  refine sw_bipush (n := 60) (v := 60) (by decide +kernel) (by decide) ?_
  refine sw_icmp_eq (off := 12) 18 (by decide +kernel) (by decide) (fun c1 => ?_) (fun c1 => ?_)
  · rw [if_pos c1] at h
    refine sw_iconst (n := 1) (v := 1) (by decide +kernel) (by decide) ?_
    refine sw_goto (off := 4) 23 (by decide +kernel) (by decide) ?_
    subst h
    obtain rfl : _ = res := hk
    exact sw_zret rfl (by decide +kernel)
  · rw [if_neg c1] at h
    refine sw_aload_n (k0 := 0) 0 rfl (by decide +kernel) rfl ?_
    refine gf_X10_249 (i := 49) (by decide) rfl (by decide +kernel) ?_
    refine sw_bipush (n := 30) (v := 30) (by decide +kernel) (by decide) ?_
    refine sw_icmp_ne (off := 7) 22 (by decide +kernel) (by decide) (fun c2 => ?_) (fun c2 => ?_)
    · rw [if_neg c2] at h
      refine sw_iconst (n := 0) (v := 0) (by decide +kernel) (by decide) ?_
      subst h
      obtain rfl : _ = res := hk
      exact sw_zret rfl (by decide +kernel)
    · rw [if_pos c2] at h
      refine sw_iconst (n := 1) (v := 1) (by decide +kernel) (by decide) ?_
      refine sw_goto (off := 4) 23 (by decide +kernel) (by decide) ?_
      subst h
      obtain rfl : _ = res := hk
      exact sw_zret rfl (by decide +kernel)
theorem bX10_isFull (σ : sw_M) : fX10_isFull σ = 0 ∨ fX10_isFull σ = 1 := by
  simp only [fX10_isFull, sw_let]
  repeat' (first | exact Or.inl rfl | exact Or.inr rfl | refine sw_ite_bo ?_ ?_)
def fX10_countUnit (σ : sw_M) : Option (sw_M) :=
  sw_let (sw_w σ 49 20 ((σ.1 49 20) + 1)) fun m1 =>
  sw_let (sw_w m1 49 22 ((m1.1 49 22) + 1)) fun m3 =>
  some (m3)
set_option maxRecDepth 20000 in
theorem sX10_countUnit {l : Launch} {E : sw_E} {K : Nat} (hK : 0 ≤ K) (σ : sw_M) {res : sw_M} (h : fX10_countUnit σ = some res) : sw_Ct l E K yX10_countUnit cX10_countUnit 1 none [.ref 49] σ none res := by
  obtain ⟨t, hk, h⟩ : ∃ t, t = res ∧ fX10_countUnit σ = some t := ⟨res, rfl, h⟩
  unfold fX10_countUnit at h
  refine sw_enter2 (own := RX10) (lv := [(0, .ref 49)]) (by decide +kernel) (Nat.le_of_ble_eq_true rfl) rfl rfl ?_
  refine sw_aload_n (k0 := 0) 0 rfl (by decide +kernel) rfl ?_
  refine sw_dup (by decide +kernel) rfl ?_
  refine gf_X10_246 (i := 49) (by decide) rfl (by decide +kernel) ?_
  refine sw_iconst (n := 1) (v := 1) (by decide +kernel) (by decide) ?_
  refine sw_iadd (by decide +kernel) ?_
  obtain ⟨m1, e2, h⟩ := sw_let_e h
  refine pf_X10_246 (by decide) rfl (by decide +kernel) ?_
  refine sw_mem e2 ?_
  refine sw_aload_n (k0 := 0) 0 rfl (by decide +kernel) rfl ?_
  refine sw_dup (by decide +kernel) rfl ?_
  refine gf_X10_249 (i := 49) (by decide) rfl (by decide +kernel) ?_
  refine sw_iconst (n := 1) (v := 1) (by decide +kernel) (by decide) ?_
  refine sw_iadd (by decide +kernel) ?_
  obtain ⟨m3, e4, h⟩ := sw_let_e h
  refine pf_X10_249 (by decide) rfl (by decide +kernel) ?_
  refine sw_mem e4 ?_
  cases h
  obtain rfl : _ = res := hk
  exact sw_vret (by decide +kernel)
def fX10_openUp (σ : sw_M) (a1 : Int32) : Option (sw_M) :=
  sw_gd (sw_in (σ.1 49 19) 160) <|
  sw_let (sw_w σ 56 (σ.1 49 19).toNatClampNeg a1) fun m2 =>
  sw_let (sw_w m2 49 19 ((m2.1 49 19) + 1)) fun m4 =>
  sw_let (sw_w m4 49 23 ((m4.1 49 23) + 1)) fun m6 =>
  if (m6.1 49 2) = 0 then
    sw_b1 (fX10_token m6) fun m9 =>
    some (m9)
  else
    some (m6)
set_option maxRecDepth 20000 in
theorem sX10_openUp {l : Launch} {E : sw_E} {K : Nat} (hK : 2 ≤ K) (σ : sw_M) (a1 : Int32) {res : sw_M} (h : fX10_openUp σ a1 = some res) : sw_Ct l E K yX10_openUp cX10_openUp 2 none [.ref 49, .int a1] σ none res := by
  obtain ⟨t, hk, h⟩ : ∃ t, t = res ∧ fX10_openUp σ a1 = some t := ⟨res, rfl, h⟩
  unfold fX10_openUp at h
  refine sw_enter2 (own := RX10) (lv := [(0, .ref 49), (1, .int a1)]) (by decide +kernel) (Nat.le_of_ble_eq_true rfl) rfl rfl ?_
  refine sw_aload_n (k0 := 0) 0 rfl (by decide +kernel) rfl ?_
  refine gf_X10_33 (i := 49) (by decide) rfl (by decide +kernel) ?_
  refine sw_refj 56 rfl ?_
  refine sw_aload_n (k0 := 0) 0 rfl (by decide +kernel) rfl ?_
  refine gf_X10_233 (i := 49) (by decide) rfl (by decide +kernel) ?_
  refine sw_iload_n (k0 := 1) 1 rfl (by decide +kernel) rfl ?_
  obtain ⟨g1, h⟩ := sw_gd_e h
  obtain ⟨m2, e3, h⟩ := sw_let_e h
  refine sw_iastore (a := 56) (by decide) rfl (sw_in_e g1) (by decide +kernel) ?_
  refine sw_mem e3 ?_
  refine sw_aload_n (k0 := 0) 0 rfl (by decide +kernel) rfl ?_
  refine sw_dup (by decide +kernel) rfl ?_
  refine gf_X10_233 (i := 49) (by decide) rfl (by decide +kernel) ?_
  refine sw_iconst (n := 1) (v := 1) (by decide +kernel) (by decide) ?_
  refine sw_iadd (by decide +kernel) ?_
  obtain ⟨m4, e5, h⟩ := sw_let_e h
  refine pf_X10_233 (by decide) rfl (by decide +kernel) ?_
  refine sw_mem e5 ?_
  refine sw_aload_n (k0 := 0) 0 rfl (by decide +kernel) rfl ?_
  refine sw_dup (by decide +kernel) rfl ?_
  refine gf_X10_243 (i := 49) (by decide) rfl (by decide +kernel) ?_
  refine sw_iconst (n := 1) (v := 1) (by decide +kernel) (by decide) ?_
  refine sw_iadd (by decide +kernel) ?_
  obtain ⟨m6, e7, h⟩ := sw_let_e h
  refine pf_X10_243 (by decide) rfl (by decide +kernel) ?_
  refine sw_mem e7 ?_
  refine sw_aload_n (k0 := 0) 0 rfl (by decide +kernel) rfl ?_
  refine gf_X10_158 (i := 49) (by decide) rfl (by decide +kernel) ?_
  refine sw_if_ne (off := 7) 41 (by decide +kernel) (by decide) (fun c8 => ?_) (fun c8 => ?_)
  · rw [if_neg c8] at h
    cases h
    obtain rfl : _ = res := hk
    exact sw_vret (by decide +kernel)
  · rw [if_pos c8] at h
    refine sw_aload_n (k0 := 0) 0 rfl (by decide +kernel) rfl ?_
    obtain ⟨m9, w10, h⟩ := sw_b1_e h
    refine sw_callVv (ci := 10) (i := 49) [] (sX10_token (K := K - 1) (by omega) m6 w10) rfl (by omega) rfl gs_X10_210 hy_X10_token (by decide) (by decide) rfl rfl (Nat.le_of_ble_eq_true rfl) (by decide +kernel) ?_
    cases h
    obtain rfl : _ = res := hk
    exact sw_vret (by decide +kernel)
def fX10_unit_L172 (σ : sw_M) (b0 : Int32) (b1 : Int32) : Option ((sw_M)) :=
  sw_b1 (fX10_add σ b1 b0) fun m1 =>
  sw_b1 (fX10_token m1) fun m3 =>
  some (m3)
def fX10_unit_L160 (σ : sw_M) (a2 : Int32) (b0 : Int32) : Option ((sw_M)) :=
  if (0 : Int32) ≤ a2 then
    fX10_unit_L172 σ a2 b0
  else
    fX10_unit_L172 σ (σ.1 49 8) b0
def fX10_unit_L138 (σ : sw_M) (a2 : Int32) : Option ((sw_M)) :=
  if (σ.1 49 2) ≤ 0 then
    sw_b1 (fX10_countUnit σ) fun m2 =>
    if (0 : Int32) ≤ a2 then
      fX10_unit_L160 m2 a2 1
    else
      fX10_unit_L160 m2 a2 0
  else
    some (σ)
def fX10_unit_L133 (σ : sw_M) (a2 : Int32) : Option ((sw_M)) :=
  sw_b1 (fX10_wrong σ 2) fun m1 =>
  fX10_unit_L138 m1 a2
def fX10_unit_L126 (σ : sw_M) (a2 : Int32) : Option ((sw_M)) :=
  if (fX10_isFull σ) = 0 then
    fX10_unit_L138 σ a2
  else
    fX10_unit_L133 σ a2
def fX10_unit_L101 (σ : sw_M) : Option ((sw_M)) :=
  if (σ.1 49 2) ≤ 0 then
    sw_let (fX10_asked σ) fun v2 =>
    if (σ.1 49 6) = 2 then
      fX10_unit_L126 σ v2
    else
      if v2 < 0 then
        fX10_unit_L133 σ v2
      else
        fX10_unit_L126 σ v2
  else
    some (σ)
def fX10_unit_L83 (σ : sw_M) (a1 : Int32) : Option ((Int32 × sw_M) ⊕ (sw_M)) :=
  sw_b1 (fX10_countUnit σ) fun m1 =>
  sw_b1 (fX10_openUp m1 20) fun m3 =>
  some (.inl (a1, m3))
def fX10_unit_L78 (σ : sw_M) (a1 : Int32) : Option ((Int32 × sw_M) ⊕ (sw_M)) :=
  sw_b1 (fX10_wrong σ 2) fun m1 =>
  fX10_unit_L83 m1 a1
def fX10_unit_L53 (σ : sw_M) (a1 : Int32) : Option ((Int32 × sw_M) ⊕ (sw_M)) :=
  if (σ.1 49 6) = 40 then
    if (fX10_isFull σ) = 0 then
      if (σ.1 49 23) ≤ 6 then
        fX10_unit_L83 σ a1
      else
        fX10_unit_L78 σ a1
    else
      fX10_unit_L78 σ a1
  else
    some (.inl (0, σ))
def fX10_unit_L44 (σ : sw_M) (a1 : Int32) : Option ((Int32 × sw_M) ⊕ (sw_M)) :=
  sw_b1 (fX10_openUp σ 21) fun m1 =>
  some (.inl (a1, m1))
def fX10_unit_L2 (σ : sw_M) (a1 : Int32) : Option ((Int32 × sw_M) ⊕ (sw_M)) :=
  if a1 = 0 then
    sw_up (fX10_unit_L101 σ)
  else
    if (σ.1 49 2) = 0 then
      if (fX10_isWord σ 7237492) = 0 then
        fX10_unit_L53 σ a1
      else
        sw_b1 (fX10_mayNot σ) fun r6 =>
        if r6 = 0 then
          fX10_unit_L53 σ a1
        else
          if (σ.1 49 23) ≤ 6 then
            fX10_unit_L44 σ a1
          else
            sw_b1 (fX10_wrong σ 2) fun m10 =>
            fX10_unit_L44 m10 a1
    else
      sw_up (fX10_unit_L101 σ)
def fX10_unit (σ : sw_M) : Option (sw_M) :=
  sw_wh sw_F (fun s => fX10_unit_L2 s.2 s.1) (1, σ)
set_option maxRecDepth 20000 in
theorem sX10_unit_L172 {l : Launch} {E : sw_E} {K : Nat} (hK : 3 ≤ K) (σ : sw_M) (b0 : Int32) (b1 : Int32) {res : sw_M} {t : (sw_M)} (h : fX10_unit_L172 σ b0 b1 = some t) (hk : (fun q => q = res) t) : sw_Go l E K RX10 cX10_unit 3 none 172 [(0, .ref 49)] [.int b0, .int b1, .ref 49] σ none res := by
  unfold fX10_unit_L172 at h
  obtain ⟨m1, w2, h⟩ := sw_b1_e h
  refine sw_callVv (ci := 10) (i := 49) [.int b1, .int b0] (sX10_add (K := K - 1) (by omega) σ b1 b0 w2) rfl (by omega) rfl gs_X10_239 hy_X10_add (by decide) (by decide) rfl rfl (Nat.le_of_ble_eq_true rfl) (by decide +kernel) ?_
  refine sw_aload_n (k0 := 0) 0 rfl (by decide +kernel) rfl ?_
  obtain ⟨m3, w4, h⟩ := sw_b1_e h
  refine sw_callVv (ci := 10) (i := 49) [] (sX10_token (K := K - 1) (by omega) m1 w4) rfl (by omega) rfl gs_X10_210 hy_X10_token (by decide) (by decide) rfl rfl (Nat.le_of_ble_eq_true rfl) (by decide +kernel) ?_
  cases h
  obtain rfl : _ = res := hk
  exact sw_vret (by decide +kernel)
set_option maxRecDepth 20000 in
theorem sX10_unit_L160 {l : Launch} {E : sw_E} {K : Nat} (hK : 3 ≤ K) (σ : sw_M) (a2 : Int32) (b0 : Int32) {res : sw_M} {t : (sw_M)} (h : fX10_unit_L160 σ a2 b0 = some t) (hk : (fun q => q = res) t) : sw_Go l E K RX10 cX10_unit 3 none 160 [(0, .ref 49), (2, .int a2)] [.int b0, .ref 49] σ none res := by
  unfold fX10_unit_L160 at h
  refine sw_iload_n (k0 := 2) 1 rfl (by decide +kernel) rfl ?_
  refine sw_if_ge (off := 10) 171 (by decide +kernel) (by decide) (fun c1 => ?_) (fun c1 => ?_)
  · rw [if_pos c1] at h
    refine sw_iload_n (k0 := 2) 1 rfl (by decide +kernel) rfl ?_
    refine sw_lv [0] rfl ?_
    exact sX10_unit_L172 hK σ a2 b0 h hk
  · rw [if_neg c1] at h
    refine sw_aload_n (k0 := 0) 0 rfl (by decide +kernel) rfl ?_
    refine gf_X10_142 (i := 49) (by decide) rfl (by decide +kernel) ?_
    refine sw_goto (off := 4) 172 (by decide +kernel) (by decide) ?_
    refine sw_lv [0] rfl ?_
    exact sX10_unit_L172 hK σ (σ.1 49 8) b0 h hk
set_option maxRecDepth 20000 in
theorem sX10_unit_L138 {l : Launch} {E : sw_E} {K : Nat} (hK : 3 ≤ K) (σ : sw_M) (a2 : Int32) {res : sw_M} {t : (sw_M)} (h : fX10_unit_L138 σ a2 = some t) (hk : (fun q => q = res) t) : sw_Go l E K RX10 cX10_unit 3 none 138 [(0, .ref 49), (2, .int a2)] [] σ none res := by
  unfold fX10_unit_L138 at h
  refine sw_aload_n (k0 := 0) 0 rfl (by decide +kernel) rfl ?_
  refine gf_X10_158 (i := 49) (by decide) rfl (by decide +kernel) ?_
  refine sw_if_le (off := 4) 146 (by decide +kernel) (by decide) (fun c1 => ?_) (fun c1 => ?_)
  · rw [if_pos c1] at h
    refine sw_aload_n (k0 := 0) 0 rfl (by decide +kernel) rfl ?_
    obtain ⟨m2, w3, h⟩ := sw_b1_e h
    refine sw_callVv (ci := 10) (i := 49) [] (sX10_countUnit (K := K - 1) (by omega) σ w3) rfl (by omega) rfl gs_X10_261 hy_X10_countUnit (by decide) (by decide) rfl rfl (Nat.le_of_ble_eq_true rfl) (by decide +kernel) ?_
    refine sw_aload_n (k0 := 0) 0 rfl (by decide +kernel) rfl ?_
    refine sw_iload_n (k0 := 2) 1 rfl (by decide +kernel) rfl ?_
    refine sw_if_ge (off := 7) 159 (by decide +kernel) (by decide) (fun c4 => ?_) (fun c4 => ?_)
    · rw [if_pos c4] at h
      refine sw_iconst (n := 1) (v := 1) (by decide +kernel) (by decide) ?_
      exact sX10_unit_L160 hK m2 a2 1 h hk
    · rw [if_neg c4] at h
      refine sw_iconst (n := 0) (v := 0) (by decide +kernel) (by decide) ?_
      refine sw_goto (off := 4) 160 (by decide +kernel) (by decide) ?_
      exact sX10_unit_L160 hK m2 a2 0 h hk
  · rw [if_neg c1] at h
    cases h
    obtain rfl : _ = res := hk
    exact sw_vret (by decide +kernel)
set_option maxRecDepth 20000 in
theorem sX10_unit_L133 {l : Launch} {E : sw_E} {K : Nat} (hK : 3 ≤ K) (σ : sw_M) (a2 : Int32) {res : sw_M} {t : (sw_M)} (h : fX10_unit_L133 σ a2 = some t) (hk : (fun q => q = res) t) : sw_Go l E K RX10 cX10_unit 3 none 133 [(0, .ref 49), (2, .int a2)] [] σ none res := by
  unfold fX10_unit_L133 at h
  refine sw_aload_n (k0 := 0) 0 rfl (by decide +kernel) rfl ?_
  refine sw_iconst (n := 2) (v := 2) (by decide +kernel) (by decide) ?_
  obtain ⟨m1, w2, h⟩ := sw_b1_e h
  refine sw_callVv (ci := 10) (i := 49) [.int 2] (sX10_wrong (K := K - 1) (by omega) σ 2 w2) rfl (by omega) rfl gs_X10_207 hy_X10_wrong (by decide) (by decide) rfl rfl (Nat.le_of_ble_eq_true rfl) (by decide +kernel) ?_
  exact sX10_unit_L138 hK m1 a2 h hk
set_option maxRecDepth 20000 in
theorem sX10_unit_L126 {l : Launch} {E : sw_E} {K : Nat} (hK : 3 ≤ K) (σ : sw_M) (a2 : Int32) {res : sw_M} {t : (sw_M)} (h : fX10_unit_L126 σ a2 = some t) (hk : (fun q => q = res) t) : sw_Go l E K RX10 cX10_unit 3 none 126 [(0, .ref 49), (2, .int a2)] [] σ none res := by
  unfold fX10_unit_L126 at h
  refine sw_aload_n (k0 := 0) 0 rfl (by decide +kernel) rfl ?_
  refine sw_callVi (ci := 10) (i := 49) [] (sX10_isFull (K := K - 1) (by omega) σ rfl) rfl (by omega) rfl gs_X10_258 hy_X10_isFull (by decide) (by decide) rfl rfl (Nat.le_of_ble_eq_true rfl) (by decide +kernel) ?_
  refine sw_if_eq (off := 8) 138 (by decide +kernel) (by decide) (fun c1 => ?_) (fun c1 => ?_)
  · rw [if_pos c1] at h
    exact sX10_unit_L138 hK σ a2 h hk
  · rw [if_neg c1] at h
    exact sX10_unit_L133 hK σ a2 h hk
set_option maxRecDepth 20000 in
theorem sX10_unit_L101 {l : Launch} {E : sw_E} {K : Nat} (hK : 3 ≤ K) (σ : sw_M) {res : sw_M} {t : (sw_M)} (h : fX10_unit_L101 σ = some t) (hk : (fun q => q = res) t) : sw_Go l E K RX10 cX10_unit 3 none 101 [(0, .ref 49)] [] σ none res := by
  unfold fX10_unit_L101 at h
  refine sw_aload_n (k0 := 0) 0 rfl (by decide +kernel) rfl ?_
  refine gf_X10_158 (i := 49) (by decide) rfl (by decide +kernel) ?_
  refine sw_if_le (off := 4) 109 (by decide +kernel) (by decide) (fun c1 => ?_) (fun c1 => ?_)
  · rw [if_pos c1] at h
    refine sw_aload_n (k0 := 0) 0 rfl (by decide +kernel) rfl ?_
    refine sw_callVi (ci := 10) (i := 49) [] (sX10_asked (K := K - 1) (by omega) σ rfl) rfl (by omega) rfl gs_X10_264 hy_X10_asked (by decide) (by decide) rfl rfl (Nat.le_of_ble_eq_true rfl) (by decide +kernel) ?_
    obtain ⟨v2, e3, h⟩ := sw_let_e h
    refine sw_topi e3 ?_
    refine sw_istore_n (k0 := 2) (lv' := [(2, .int v2), (0, .ref 49)]) (by decide +kernel) rfl (by decide) rfl ?_
    refine sw_aload_n (k0 := 0) 1 rfl (by decide +kernel) rfl ?_
    refine gf_X10_145 (i := 49) (by decide) rfl (by decide +kernel) ?_
    refine sw_iconst (n := 2) (v := 2) (by decide +kernel) (by decide) ?_
    refine sw_icmp_eq (off := 7) 126 (by decide +kernel) (by decide) (fun c4 => ?_) (fun c4 => ?_)
    · rw [if_pos c4] at h
      refine sw_lv [1, 0] rfl ?_
      exact sX10_unit_L126 hK σ v2 h hk
    · rw [if_neg c4] at h
      refine sw_iload_n (k0 := 2) 0 rfl (by decide +kernel) rfl ?_
      refine sw_if_lt (off := 10) 133 (by decide +kernel) (by decide) (fun c5 => ?_) (fun c5 => ?_)
      · rw [if_pos c5] at h
        refine sw_lv [1, 0] rfl ?_
        exact sX10_unit_L133 hK σ v2 h hk
      · rw [if_neg c5] at h
        refine sw_lv [1, 0] rfl ?_
        exact sX10_unit_L126 hK σ v2 h hk
  · rw [if_neg c1] at h
    cases h
    obtain rfl : _ = res := hk
    exact sw_vret (by decide +kernel)
set_option maxRecDepth 20000 in
theorem sX10_unit_L83 {l : Launch} {E : sw_E} {K : Nat} (hK : 3 ≤ K) (σ : sw_M) (a1 : Int32) {res : sw_M} {t : (Int32 × sw_M) ⊕ (sw_M)} (h : fX10_unit_L83 σ a1 = some t) (hk : (Sum.elim (fun s : Int32 × sw_M => sw_Go l E K RX10 cX10_unit 3 none 2 [(0, .ref 49), (1, .int s.1)] [] s.2 none res) (fun q => q = res)) t) : sw_Go l E K RX10 cX10_unit 3 none 83 [(0, .ref 49), (1, .int a1)] [] σ none res := by
  unfold fX10_unit_L83 at h
  refine sw_aload_n (k0 := 0) 0 rfl (by decide +kernel) rfl ?_
  obtain ⟨m1, w2, h⟩ := sw_b1_e h
  refine sw_callVv (ci := 10) (i := 49) [] (sX10_countUnit (K := K - 1) (by omega) σ w2) rfl (by omega) rfl gs_X10_261 hy_X10_countUnit (by decide) (by decide) rfl rfl (Nat.le_of_ble_eq_true rfl) (by decide +kernel) ?_
  refine sw_aload_n (k0 := 0) 0 rfl (by decide +kernel) rfl ?_
  refine sw_bipush (n := 20) (v := 20) (by decide +kernel) (by decide) ?_
  obtain ⟨m3, w4, h⟩ := sw_b1_e h
  refine sw_callVv (ci := 10) (i := 49) [.int 20] (sX10_openUp (K := K - 1) (by omega) m1 20 w4) rfl (by omega) rfl gs_X10_255 hy_X10_openUp (by decide) (by decide) rfl rfl (Nat.le_of_ble_eq_true rfl) (by decide +kernel) ?_
  refine sw_goto (off := (-91)) 2 (by decide +kernel) (by decide) ?_
  cases h
  exact hk
set_option maxRecDepth 20000 in
theorem sX10_unit_L78 {l : Launch} {E : sw_E} {K : Nat} (hK : 3 ≤ K) (σ : sw_M) (a1 : Int32) {res : sw_M} {t : (Int32 × sw_M) ⊕ (sw_M)} (h : fX10_unit_L78 σ a1 = some t) (hk : (Sum.elim (fun s : Int32 × sw_M => sw_Go l E K RX10 cX10_unit 3 none 2 [(0, .ref 49), (1, .int s.1)] [] s.2 none res) (fun q => q = res)) t) : sw_Go l E K RX10 cX10_unit 3 none 78 [(0, .ref 49), (1, .int a1)] [] σ none res := by
  unfold fX10_unit_L78 at h
  refine sw_aload_n (k0 := 0) 0 rfl (by decide +kernel) rfl ?_
  refine sw_iconst (n := 2) (v := 2) (by decide +kernel) (by decide) ?_
  obtain ⟨m1, w2, h⟩ := sw_b1_e h
  refine sw_callVv (ci := 10) (i := 49) [.int 2] (sX10_wrong (K := K - 1) (by omega) σ 2 w2) rfl (by omega) rfl gs_X10_207 hy_X10_wrong (by decide) (by decide) rfl rfl (Nat.le_of_ble_eq_true rfl) (by decide +kernel) ?_
  exact sX10_unit_L83 hK m1 a1 h hk
set_option maxRecDepth 20000 in
theorem sX10_unit_L53 {l : Launch} {E : sw_E} {K : Nat} (hK : 3 ≤ K) (σ : sw_M) (a1 : Int32) {res : sw_M} {t : (Int32 × sw_M) ⊕ (sw_M)} (h : fX10_unit_L53 σ a1 = some t) (hk : (Sum.elim (fun s : Int32 × sw_M => sw_Go l E K RX10 cX10_unit 3 none 2 [(0, .ref 49), (1, .int s.1)] [] s.2 none res) (fun q => q = res)) t) : sw_Go l E K RX10 cX10_unit 3 none 53 [(0, .ref 49), (1, .int a1)] [] σ none res := by
  unfold fX10_unit_L53 at h
  refine sw_aload_n (k0 := 0) 0 rfl (by decide +kernel) rfl ?_
  refine gf_X10_145 (i := 49) (by decide) rfl (by decide +kernel) ?_
  refine sw_bipush (n := 40) (v := 40) (by decide +kernel) (by decide) ?_
  refine sw_icmp_ne (off := 37) 96 (by decide +kernel) (by decide) (fun c1 => ?_) (fun c1 => ?_)
  · rw [if_neg c1] at h
    refine sw_iconst (n := 0) (v := 0) (by decide +kernel) (by decide) ?_
    refine sw_istore_n (k0 := 1) (lv' := [(1, .int 0), (0, .ref 49)]) (by decide +kernel) rfl (by decide) rfl ?_
    refine sw_goto (off := (-96)) 2 (by decide +kernel) (by decide) ?_
    cases h
    refine sw_lv [1, 0] rfl ?_
    exact hk
  · rw [if_pos c1] at h
    refine sw_aload_n (k0 := 0) 0 rfl (by decide +kernel) rfl ?_
    refine sw_callVi (ci := 10) (i := 49) [] (sX10_isFull (K := K - 1) (by omega) σ rfl) rfl (by omega) rfl gs_X10_258 hy_X10_isFull (by decide) (by decide) rfl rfl (Nat.le_of_ble_eq_true rfl) (by decide +kernel) ?_
    refine sw_if_ne (off := 12) 78 (by decide +kernel) (by decide) (fun c2 => ?_) (fun c2 => ?_)
    · rw [if_neg c2] at h
      exact sX10_unit_L78 hK σ a1 h hk
    · rw [if_pos c2] at h
      refine sw_aload_n (k0 := 0) 0 rfl (by decide +kernel) rfl ?_
      refine gf_X10_243 (i := 49) (by decide) rfl (by decide +kernel) ?_
      refine sw_bipush (n := 6) (v := 6) (by decide +kernel) (by decide) ?_
      refine sw_icmp_le (off := 8) 83 (by decide +kernel) (by decide) (fun c3 => ?_) (fun c3 => ?_)
      · rw [if_pos c3] at h
        exact sX10_unit_L83 hK σ a1 h hk
      · rw [if_neg c3] at h
        exact sX10_unit_L78 hK σ a1 h hk
set_option maxRecDepth 20000 in
theorem sX10_unit_L44 {l : Launch} {E : sw_E} {K : Nat} (hK : 3 ≤ K) (σ : sw_M) (a1 : Int32) {res : sw_M} {t : (Int32 × sw_M) ⊕ (sw_M)} (h : fX10_unit_L44 σ a1 = some t) (hk : (Sum.elim (fun s : Int32 × sw_M => sw_Go l E K RX10 cX10_unit 3 none 2 [(0, .ref 49), (1, .int s.1)] [] s.2 none res) (fun q => q = res)) t) : sw_Go l E K RX10 cX10_unit 3 none 44 [(0, .ref 49), (1, .int a1)] [] σ none res := by
  unfold fX10_unit_L44 at h
  refine sw_aload_n (k0 := 0) 0 rfl (by decide +kernel) rfl ?_
  refine sw_bipush (n := 21) (v := 21) (by decide +kernel) (by decide) ?_
  obtain ⟨m1, w2, h⟩ := sw_b1_e h
  refine sw_callVv (ci := 10) (i := 49) [.int 21] (sX10_openUp (K := K - 1) (by omega) σ 21 w2) rfl (by omega) rfl gs_X10_255 hy_X10_openUp (by decide) (by decide) rfl rfl (Nat.le_of_ble_eq_true rfl) (by decide +kernel) ?_
  refine sw_goto (off := (-48)) 2 (by decide +kernel) (by decide) ?_
  cases h
  exact hk
set_option maxRecDepth 20000 in
theorem sX10_unit_L2 {l : Launch} {E : sw_E} {K : Nat} (hK : 3 ≤ K) (σ : sw_M) (a1 : Int32) {res : sw_M} {t : (Int32 × sw_M) ⊕ (sw_M)} (h : fX10_unit_L2 σ a1 = some t) (hk : (Sum.elim (fun s : Int32 × sw_M => sw_Go l E K RX10 cX10_unit 3 none 2 [(0, .ref 49), (1, .int s.1)] [] s.2 none res) (fun q => q = res)) t) : sw_Go l E K RX10 cX10_unit 3 none 2 [(0, .ref 49), (1, .int a1)] [] σ none res := by
  unfold fX10_unit_L2 at h
  refine sw_iload_n (k0 := 1) 1 rfl (by decide +kernel) rfl ?_
  refine sw_if_eq (off := 98) 101 (by decide +kernel) (by decide) (fun c1 => ?_) (fun c1 => ?_)
  · rw [if_pos c1] at h
    obtain ⟨q1, h1, rfl⟩ := sw_up_e h
    replace h := h1
    refine sw_lv [0] rfl ?_
    exact sX10_unit_L101 hK σ h hk
  · rw [if_neg c1] at h
    refine sw_aload_n (k0 := 0) 0 rfl (by decide +kernel) rfl ?_
    refine gf_X10_158 (i := 49) (by decide) rfl (by decide +kernel) ?_
    refine sw_if_ne (off := 91) 101 (by decide +kernel) (by decide) (fun c3 => ?_) (fun c3 => ?_)
    · rw [if_neg c3] at h
      obtain ⟨q3, h3, rfl⟩ := sw_up_e h
      replace h := h3
      refine sw_lv [0] rfl ?_
      exact sX10_unit_L101 hK σ h hk
    · rw [if_pos c3] at h
      refine sw_aload_n (k0 := 0) 0 rfl (by decide +kernel) rfl ?_
      refine sw_ldc2 kn_X10_197 (by decide +kernel) ?_
      refine sw_callVi (ci := 10) (i := 49) [.long 7237492] (sX10_isWord (K := K - 1) (by omega) σ 7237492 rfl) rfl (by omega) rfl gs_X10_203 hy_X10_isWord (by decide) (by decide) rfl rfl (Nat.le_of_ble_eq_true rfl) (by decide +kernel) ?_
      refine sw_if_eq (off := 33) 53 (by decide +kernel) (by decide) (fun c5 => ?_) (fun c5 => ?_)
      · rw [if_pos c5] at h
        exact sX10_unit_L53 hK σ a1 h hk
      · rw [if_neg c5] at h
        refine sw_aload_n (k0 := 0) 0 rfl (by decide +kernel) rfl ?_
        obtain ⟨r6, w7, h⟩ := sw_b1_e h
        refine sw_callVi (ci := 10) (i := 49) [] (sX10_mayNot (K := K - 1) (by omega) σ w7) rfl (by omega) rfl gs_X10_252 hy_X10_mayNot (by decide) (by decide) rfl rfl (Nat.le_of_ble_eq_true rfl) (by decide +kernel) ?_
        refine sw_if_eq (off := 26) 53 (by decide +kernel) (by decide) (fun c8 => ?_) (fun c8 => ?_)
        · rw [if_pos c8] at h
          exact sX10_unit_L53 hK σ a1 h hk
        · rw [if_neg c8] at h
          refine sw_aload_n (k0 := 0) 0 rfl (by decide +kernel) rfl ?_
          refine gf_X10_243 (i := 49) (by decide) rfl (by decide +kernel) ?_
          refine sw_bipush (n := 6) (v := 6) (by decide +kernel) (by decide) ?_
          refine sw_icmp_le (off := 8) 44 (by decide +kernel) (by decide) (fun c9 => ?_) (fun c9 => ?_)
          · rw [if_pos c9] at h
            exact sX10_unit_L44 hK σ a1 h hk
          · rw [if_neg c9] at h
            refine sw_aload_n (k0 := 0) 0 rfl (by decide +kernel) rfl ?_
            refine sw_iconst (n := 2) (v := 2) (by decide +kernel) (by decide) ?_
            obtain ⟨m10, w11, h⟩ := sw_b1_e h
            refine sw_callVv (ci := 10) (i := 49) [.int 2] (sX10_wrong (K := K - 1) (by omega) σ 2 w11) rfl (by omega) rfl gs_X10_207 hy_X10_wrong (by decide) (by decide) rfl rfl (Nat.le_of_ble_eq_true rfl) (by decide +kernel) ?_
            exact sX10_unit_L44 hK m10 a1 h hk
set_option maxRecDepth 20000 in
theorem sX10_unit {l : Launch} {E : sw_E} {K : Nat} (hK : 3 ≤ K) (σ : sw_M) {res : sw_M} (h : fX10_unit σ = some res) : sw_Ct l E K yX10_unit cX10_unit 3 none [.ref 49] σ none res := by
  obtain ⟨t, hk, h⟩ : ∃ t, t = res ∧ fX10_unit σ = some t := ⟨res, rfl, h⟩
  unfold fX10_unit at h
  refine sw_enter2 (own := RX10) (lv := [(0, .ref 49)]) (by decide +kernel) (Nat.le_of_ble_eq_true rfl) rfl rfl ?_
  refine sw_iconst (n := 1) (v := 1) (by decide +kernel) (by decide) ?_
  refine sw_istore_n (k0 := 1) (lv' := [(1, .int 1), (0, .ref 49)]) (by decide +kernel) rfl (by decide) rfl ?_
  refine sw_lv [1, 0] rfl ?_
  exact sw_wh_e (fun s : Int32 × sw_M => sw_Go l E K RX10 cX10_unit 3 none 2 [(0, .ref 49), (1, .int s.1)] [] s.2 none res) (fun q => q = res) (fun s => fX10_unit_L2 s.2 s.1) (fun s t hb hk => sX10_unit_L2 hK s.2 s.1 hb hk) _ _ _ h hk
def fX10_sign (σ : sw_M) : Int32 :=
  if (fX10_isWord σ 6385252) = 0 then
    if (fX10_isWord σ 28530) = 0 then
      if (σ.1 49 6) = 60 then
        σ.1 49 6
      else
        if (σ.1 49 6) = 62 then
          σ.1 49 6
        else
          if (σ.1 49 6) = 61 then
            σ.1 49 6
          else
            if (σ.1 49 6) = 43 then
              σ.1 49 6
            else
              if (σ.1 49 6) = 45 then
                σ.1 49 6
              else
                if (σ.1 49 6) = 42 then
                  σ.1 49 6
                else
                  if (σ.1 49 6) = 47 then
                    σ.1 49 6
                  else
                    if (σ.1 49 6) = 37 then
                      σ.1 49 6
                    else
                      0
    else
      124
  else
    38
set_option maxRecDepth 20000 in
theorem sX10_sign {l : Launch} {E : sw_E} {K : Nat} (hK : 1 ≤ K) (σ : sw_M) {res : Int32} (h : fX10_sign σ = res) : sw_Ct l E K yX10_sign cX10_sign 1 (some .int) [.ref 49] σ (some (.int res)) σ := by
  obtain ⟨t, hk, h⟩ : ∃ t, t = res ∧ fX10_sign σ = t := ⟨res, rfl, h⟩
  unfold fX10_sign at h
  refine sw_enter2 (own := RX10) (lv := [(0, .ref 49)]) (by decide +kernel) (Nat.le_of_ble_eq_true rfl) rfl rfl ?_
  refine sw_aload_n (k0 := 0) 0 rfl (by decide +kernel) rfl ?_
  refine sw_ldc2 kn_X10_193 (by decide +kernel) ?_
  refine sw_callVi (ci := 10) (i := 49) [.long 6385252] (sX10_isWord (K := K - 1) (by omega) σ 6385252 rfl) rfl (by omega) rfl gs_X10_203 hy_X10_isWord (by decide) (by decide) rfl rfl (Nat.le_of_ble_eq_true rfl) (by decide +kernel) ?_
  refine sw_if_eq (off := 6) 13 (by decide +kernel) (by decide) (fun c1 => ?_) (fun c1 => ?_)
  · rw [if_pos c1] at h
    refine sw_aload_n (k0 := 0) 0 rfl (by decide +kernel) rfl ?_
    refine sw_ldc2 kn_X10_195 (by decide +kernel) ?_
    refine sw_callVi (ci := 10) (i := 49) [.long 28530] (sX10_isWord (K := K - 1) (by omega) σ 28530 rfl) rfl (by omega) rfl gs_X10_203 hy_X10_isWord (by decide) (by decide) rfl rfl (Nat.le_of_ble_eq_true rfl) (by decide +kernel) ?_
    refine sw_if_eq (off := 6) 26 (by decide +kernel) (by decide) (fun c2 => ?_) (fun c2 => ?_)
    · rw [if_pos c2] at h
      refine sw_aload_n (k0 := 0) 0 rfl (by decide +kernel) rfl ?_
      refine gf_X10_145 (i := 49) (by decide) rfl (by decide +kernel) ?_
      refine sw_bipush (n := 60) (v := 60) (by decide +kernel) (by decide) ?_
      refine sw_icmp_eq (off := 66) 98 (by decide +kernel) (by decide) (fun c3 => ?_) (fun c3 => ?_)
      · rw [if_pos c3] at h
        refine sw_aload_n (k0 := 0) 0 rfl (by decide +kernel) rfl ?_
        refine gf_X10_145 (i := 49) (by decide) rfl (by decide +kernel) ?_
        refine sw_goto (off := 4) 106 (by decide +kernel) (by decide) ?_
        subst h
        obtain rfl : _ = res := hk
        exact sw_iret (by decide +kernel)
      · rw [if_neg c3] at h
        refine sw_aload_n (k0 := 0) 0 rfl (by decide +kernel) rfl ?_
        refine gf_X10_145 (i := 49) (by decide) rfl (by decide +kernel) ?_
        refine sw_bipush (n := 62) (v := 62) (by decide +kernel) (by decide) ?_
        refine sw_icmp_eq (off := 57) 98 (by decide +kernel) (by decide) (fun c4 => ?_) (fun c4 => ?_)
        · rw [if_pos c4] at h
          refine sw_aload_n (k0 := 0) 0 rfl (by decide +kernel) rfl ?_
          refine gf_X10_145 (i := 49) (by decide) rfl (by decide +kernel) ?_
          refine sw_goto (off := 4) 106 (by decide +kernel) (by decide) ?_
          subst h
          obtain rfl : _ = res := hk
          exact sw_iret (by decide +kernel)
        · rw [if_neg c4] at h
          refine sw_aload_n (k0 := 0) 0 rfl (by decide +kernel) rfl ?_
          refine gf_X10_145 (i := 49) (by decide) rfl (by decide +kernel) ?_
          refine sw_bipush (n := 61) (v := 61) (by decide +kernel) (by decide) ?_
          refine sw_icmp_eq (off := 48) 98 (by decide +kernel) (by decide) (fun c5 => ?_) (fun c5 => ?_)
          · rw [if_pos c5] at h
            refine sw_aload_n (k0 := 0) 0 rfl (by decide +kernel) rfl ?_
            refine gf_X10_145 (i := 49) (by decide) rfl (by decide +kernel) ?_
            refine sw_goto (off := 4) 106 (by decide +kernel) (by decide) ?_
            subst h
            obtain rfl : _ = res := hk
            exact sw_iret (by decide +kernel)
          · rw [if_neg c5] at h
            refine sw_aload_n (k0 := 0) 0 rfl (by decide +kernel) rfl ?_
            refine gf_X10_145 (i := 49) (by decide) rfl (by decide +kernel) ?_
            refine sw_bipush (n := 43) (v := 43) (by decide +kernel) (by decide) ?_
            refine sw_icmp_eq (off := 39) 98 (by decide +kernel) (by decide) (fun c6 => ?_) (fun c6 => ?_)
            · rw [if_pos c6] at h
              refine sw_aload_n (k0 := 0) 0 rfl (by decide +kernel) rfl ?_
              refine gf_X10_145 (i := 49) (by decide) rfl (by decide +kernel) ?_
              refine sw_goto (off := 4) 106 (by decide +kernel) (by decide) ?_
              subst h
              obtain rfl : _ = res := hk
              exact sw_iret (by decide +kernel)
            · rw [if_neg c6] at h
              refine sw_aload_n (k0 := 0) 0 rfl (by decide +kernel) rfl ?_
              refine gf_X10_145 (i := 49) (by decide) rfl (by decide +kernel) ?_
              refine sw_bipush (n := 45) (v := 45) (by decide +kernel) (by decide) ?_
              refine sw_icmp_eq (off := 30) 98 (by decide +kernel) (by decide) (fun c7 => ?_) (fun c7 => ?_)
              · rw [if_pos c7] at h
                refine sw_aload_n (k0 := 0) 0 rfl (by decide +kernel) rfl ?_
                refine gf_X10_145 (i := 49) (by decide) rfl (by decide +kernel) ?_
                refine sw_goto (off := 4) 106 (by decide +kernel) (by decide) ?_
                subst h
                obtain rfl : _ = res := hk
                exact sw_iret (by decide +kernel)
              · rw [if_neg c7] at h
                refine sw_aload_n (k0 := 0) 0 rfl (by decide +kernel) rfl ?_
                refine gf_X10_145 (i := 49) (by decide) rfl (by decide +kernel) ?_
                refine sw_bipush (n := 42) (v := 42) (by decide +kernel) (by decide) ?_
                refine sw_icmp_eq (off := 21) 98 (by decide +kernel) (by decide) (fun c8 => ?_) (fun c8 => ?_)
                · rw [if_pos c8] at h
                  refine sw_aload_n (k0 := 0) 0 rfl (by decide +kernel) rfl ?_
                  refine gf_X10_145 (i := 49) (by decide) rfl (by decide +kernel) ?_
                  refine sw_goto (off := 4) 106 (by decide +kernel) (by decide) ?_
                  subst h
                  obtain rfl : _ = res := hk
                  exact sw_iret (by decide +kernel)
                · rw [if_neg c8] at h
                  refine sw_aload_n (k0 := 0) 0 rfl (by decide +kernel) rfl ?_
                  refine gf_X10_145 (i := 49) (by decide) rfl (by decide +kernel) ?_
                  refine sw_bipush (n := 47) (v := 47) (by decide +kernel) (by decide) ?_
                  refine sw_icmp_eq (off := 12) 98 (by decide +kernel) (by decide) (fun c9 => ?_) (fun c9 => ?_)
                  · rw [if_pos c9] at h
                    refine sw_aload_n (k0 := 0) 0 rfl (by decide +kernel) rfl ?_
                    refine gf_X10_145 (i := 49) (by decide) rfl (by decide +kernel) ?_
                    refine sw_goto (off := 4) 106 (by decide +kernel) (by decide) ?_
                    subst h
                    obtain rfl : _ = res := hk
                    exact sw_iret (by decide +kernel)
                  · rw [if_neg c9] at h
                    refine sw_aload_n (k0 := 0) 0 rfl (by decide +kernel) rfl ?_
                    refine gf_X10_145 (i := 49) (by decide) rfl (by decide +kernel) ?_
                    refine sw_bipush (n := 37) (v := 37) (by decide +kernel) (by decide) ?_
                    refine sw_icmp_ne (off := 10) 105 (by decide +kernel) (by decide) (fun c10 => ?_) (fun c10 => ?_)
                    · rw [if_neg c10] at h
                      refine sw_iconst (n := 0) (v := 0) (by decide +kernel) (by decide) ?_
                      subst h
                      obtain rfl : _ = res := hk
                      exact sw_iret (by decide +kernel)
                    · rw [if_pos c10] at h
                      refine sw_aload_n (k0 := 0) 0 rfl (by decide +kernel) rfl ?_
                      refine gf_X10_145 (i := 49) (by decide) rfl (by decide +kernel) ?_
                      refine sw_goto (off := 4) 106 (by decide +kernel) (by decide) ?_
                      subst h
                      obtain rfl : _ = res := hk
                      exact sw_iret (by decide +kernel)
    · rw [if_neg c2] at h
      refine sw_bipush (n := 124) (v := 124) (by decide +kernel) (by decide) ?_
      subst h
      obtain rfl : _ = res := hk
      exact sw_iret (by decide +kernel)
  · rw [if_neg c1] at h
    refine sw_bipush (n := 38) (v := 38) (by decide +kernel) (by decide) ?_
    subst h
    obtain rfl : _ = res := hk
    exact sw_iret (by decide +kernel)
def fX10_hasBracket_L32 (σ : sw_M) (a2 : Int32) (b0 : Int32) : Option ((Int32 × Int32) ⊕ (Int32)) :=
  sw_let (a2 + 1) fun v1 =>
  some (.inl (b0, v1))
def fX10_hasBracket_L27 (σ : sw_M) (a2 : Int32) : Option ((Int32 × Int32) ⊕ (Int32)) :=
  fX10_hasBracket_L32 σ a2 1
def fX10_hasBracket_L4 (σ : sw_M) (a1 : Int32) (a2 : Int32) : Option ((Int32 × Int32) ⊕ (Int32)) :=
  if (σ.1 49 19) ≤ a2 then
    sw_gd (sw_bo a1) <|
    some (.inr (a1))
  else
    if a1 = 0 then
      sw_gd (sw_in a2 160) <|
      if (σ.1 56 a2.toNatClampNeg) = 20 then
        fX10_hasBracket_L27 σ a2
      else
        fX10_hasBracket_L32 σ a2 0
    else
      fX10_hasBracket_L27 σ a2
def fX10_hasBracket (σ : sw_M) : Option (Int32) :=
  sw_wh sw_F (fun s => fX10_hasBracket_L4 σ s.1 s.2) (0, 0)
set_option maxRecDepth 20000 in
theorem sX10_hasBracket_L32 {l : Launch} {E : sw_E} {K : Nat} (hK : 0 ≤ K) (σ : sw_M) (a2 : Int32) (b0 : Int32) {res : Int32} {t : (Int32 × Int32) ⊕ (Int32)} (h : fX10_hasBracket_L32 σ a2 b0 = some t) (hk : (Sum.elim (fun s : Int32 × Int32 => sw_Go l E K RX10 cX10_hasBracket 3 (some .boolean) 4 [(0, .ref 49), (1, .int s.1), (2, .int s.2)] [] σ (some (.int res)) σ) (fun q => q = res)) t) : sw_Go l E K RX10 cX10_hasBracket 3 (some .boolean) 32 [(0, .ref 49), (2, .int a2)] [.int b0] σ (some (.int res)) σ := by
  unfold fX10_hasBracket_L32 at h
  refine sw_istore_n (k0 := 1) (lv' := [(1, .int b0), (0, .ref 49), (2, .int a2)]) (by decide +kernel) rfl (by decide) rfl ?_
  obtain ⟨v1, e2, h⟩ := sw_let_e h
  refine sw_iincv (i := 2) (n := 1) (lv' := [(2, .int v1), (1, .int b0), (0, .ref 49)]) 2 rfl e2 (by decide +kernel) (by decide) (by decide) rfl ?_
  refine sw_goto (off := (-32)) 4 (by decide +kernel) (by decide) ?_
  cases h
  refine sw_lv [2, 1, 0] rfl ?_
  exact hk
set_option maxRecDepth 20000 in
theorem sX10_hasBracket_L27 {l : Launch} {E : sw_E} {K : Nat} (hK : 0 ≤ K) (σ : sw_M) (a2 : Int32) {res : Int32} {t : (Int32 × Int32) ⊕ (Int32)} (h : fX10_hasBracket_L27 σ a2 = some t) (hk : (Sum.elim (fun s : Int32 × Int32 => sw_Go l E K RX10 cX10_hasBracket 3 (some .boolean) 4 [(0, .ref 49), (1, .int s.1), (2, .int s.2)] [] σ (some (.int res)) σ) (fun q => q = res)) t) : sw_Go l E K RX10 cX10_hasBracket 3 (some .boolean) 27 [(0, .ref 49), (2, .int a2)] [] σ (some (.int res)) σ := by
  unfold fX10_hasBracket_L27 at h
  refine sw_iconst (n := 1) (v := 1) (by decide +kernel) (by decide) ?_
  refine sw_goto (off := 4) 32 (by decide +kernel) (by decide) ?_
  exact sX10_hasBracket_L32 hK σ a2 1 h hk
set_option maxRecDepth 20000 in
theorem sX10_hasBracket_L4 {l : Launch} {E : sw_E} {K : Nat} (hK : 0 ≤ K) (σ : sw_M) (a1 : Int32) (a2 : Int32) {res : Int32} {t : (Int32 × Int32) ⊕ (Int32)} (h : fX10_hasBracket_L4 σ a1 a2 = some t) (hk : (Sum.elim (fun s : Int32 × Int32 => sw_Go l E K RX10 cX10_hasBracket 3 (some .boolean) 4 [(0, .ref 49), (1, .int s.1), (2, .int s.2)] [] σ (some (.int res)) σ) (fun q => q = res)) t) : sw_Go l E K RX10 cX10_hasBracket 3 (some .boolean) 4 [(0, .ref 49), (1, .int a1), (2, .int a2)] [] σ (some (.int res)) σ := by
  unfold fX10_hasBracket_L4 at h
  refine sw_iload_n (k0 := 2) 2 rfl (by decide +kernel) rfl ?_
  refine sw_aload_n (k0 := 0) 0 rfl (by decide +kernel) rfl ?_
  refine gf_X10_233 (i := 49) (by decide) rfl (by decide +kernel) ?_
  refine sw_icmp_ge (off := 30) 39 (by decide +kernel) (by decide) (fun c1 => ?_) (fun c1 => ?_)
  · rw [if_pos c1] at h
    refine sw_iload_n (k0 := 1) 1 rfl (by decide +kernel) rfl ?_
    obtain ⟨g2, h⟩ := sw_gd_e h
    cases h
    obtain rfl : _ = res := hk
    exact sw_zret (sw_bo_n (sw_bo_e g2)) (by decide +kernel)
  · rw [if_neg c1] at h
    refine sw_iload_n (k0 := 1) 1 rfl (by decide +kernel) rfl ?_
    refine sw_if_ne (off := 14) 27 (by decide +kernel) (by decide) (fun c3 => ?_) (fun c3 => ?_)
    · rw [if_neg c3] at h
      refine sw_lv [0, 2] rfl ?_
      exact sX10_hasBracket_L27 hK σ a2 h hk
    · rw [if_pos c3] at h
      refine sw_aload_n (k0 := 0) 0 rfl (by decide +kernel) rfl ?_
      refine gf_X10_33 (i := 49) (by decide) rfl (by decide +kernel) ?_
      refine sw_refj 56 rfl ?_
      refine sw_iload_n (k0 := 2) 2 rfl (by decide +kernel) rfl ?_
      obtain ⟨g4, h⟩ := sw_gd_e h
      refine sw_iaload (a := 56) (by decide) rfl (sw_in_e g4) (by decide +kernel) ?_
      refine sw_bipush (n := 20) (v := 20) (by decide +kernel) (by decide) ?_
      refine sw_icmp_ne (off := 7) 31 (by decide +kernel) (by decide) (fun c5 => ?_) (fun c5 => ?_)
      · rw [if_neg c5] at h
        refine sw_iconst (n := 0) (v := 0) (by decide +kernel) (by decide) ?_
        refine sw_lv [0, 2] rfl ?_
        exact sX10_hasBracket_L32 hK σ a2 0 h hk
      · rw [if_pos c5] at h
        refine sw_lv [0, 2] rfl ?_
        exact sX10_hasBracket_L27 hK σ a2 h hk
set_option maxRecDepth 20000 in
theorem sX10_hasBracket {l : Launch} {E : sw_E} {K : Nat} (hK : 0 ≤ K) (σ : sw_M) {res : Int32} (h : fX10_hasBracket σ = some res) : sw_Ct l E K yX10_hasBracket cX10_hasBracket 3 (some .boolean) [.ref 49] σ (some (.int res)) σ := by
  obtain ⟨t, hk, h⟩ : ∃ t, t = res ∧ fX10_hasBracket σ = some t := ⟨res, rfl, h⟩
  unfold fX10_hasBracket at h
  refine sw_enter2 (own := RX10) (lv := [(0, .ref 49)]) (by decide +kernel) (Nat.le_of_ble_eq_true rfl) rfl rfl ?_
  refine sw_iconst (n := 0) (v := 0) (by decide +kernel) (by decide) ?_
  refine sw_istore_n (k0 := 1) (lv' := [(1, .int 0), (0, .ref 49)]) (by decide +kernel) rfl (by decide) rfl ?_
  refine sw_iconst (n := 0) (v := 0) (by decide +kernel) (by decide) ?_
  refine sw_istore_n (k0 := 2) (lv' := [(2, .int 0), (1, .int 0), (0, .ref 49)]) (by decide +kernel) rfl (by decide) rfl ?_
  refine sw_lv [2, 1, 0] rfl ?_
  exact sw_wh_e (fun s : Int32 × Int32 => sw_Go l E K RX10 cX10_hasBracket 3 (some .boolean) 4 [(0, .ref 49), (1, .int s.1), (2, .int s.2)] [] σ (some (.int res)) σ) (fun q => q = res) (fun s => fX10_hasBracket_L4 σ s.1 s.2) (fun s t hb hk => sX10_hasBracket_L4 hK σ s.1 s.2 hb hk) _ _ _ h hk
