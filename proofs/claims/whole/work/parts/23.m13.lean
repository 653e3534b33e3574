def fX10_readAllOf_L25 (P1 : Nat) (σ : sw_M) (a2 : Int32) : Option ((sw_M) ⊕ (sw_M)) :=
  if (σ.1 49 2) = 0 then
    if (fX10_isName σ) = 0 then
      some (.inr (σ))
    else
      sw_b1 (fX10_readSome P1 σ a2) fun m3 =>
      some (.inl m3)
  else
    some (.inr (σ))
def fX10_readAllOf_L2 (P1 : Nat) (σ : sw_M) (a2 : Int32) (a3 : Int32) : Option ((Int32 × sw_M) ⊕ (sw_M)) :=
  if 5 ≤ a3 then
    sw_b1 (fX10_readSome P1 σ a2) fun m2 =>
    sw_up (sw_wh sw_F (fun s => fX10_readAllOf_L25 P1 s a2) m2)
  else
    sw_gd (sw_in (a2 + a3) (sw_s P1).2) <|
    sw_let (sw_w σ P1 (a2 + a3).toNatClampNeg 0) fun m6 =>
    sw_let (a3 + 1) fun v8 =>
    some (.inl (v8, m6))
def fX10_readAllOf (P1 : Nat) (σ : sw_M) (a2 : Int32) : Option (sw_M) :=
  sw_wh sw_F (fun s => fX10_readAllOf_L2 P1 s.2 a2 s.1) (0, σ)
set_option maxRecDepth 20000 in
theorem sX10_readAllOf_L25 {l : Launch} {E : sw_E} {K : Nat} (hK : 4 ≤ K) (P1 : Nat) (hP1 : sw_isA 1 P1) (σ : sw_M) (a2 : Int32) {res : sw_M} {t : (sw_M) ⊕ (sw_M)} (h : fX10_readAllOf_L25 P1 σ a2 = some t) (hk : (Sum.elim (fun s : sw_M => sw_Go l E K RX10 cX10_readAllOf 4 none 25 [(0, .ref 49), (1, .ref P1), (2, .int a2)] [] s none res) (fun q => q = res)) t) : sw_Go l E K RX10 cX10_readAllOf 4 none 25 [(0, .ref 49), (1, .ref P1), (2, .int a2)] [] σ none res := by
  unfold fX10_readAllOf_L25 at h
  refine sw_aload_n (k0 := 0) 0 rfl (by decide +kernel) rfl ?_
  refine gf_X10_158 (i := 49) (by decide) rfl (by decide +kernel) ?_
  refine sw_if_ne (off := 19) 48 (by decide +kernel) (by decide) (fun c1 => ?_) (fun c1 => ?_)
  · rw [if_neg c1] at h
    cases h
    obtain rfl : _ = res := hk
    exact sw_vret (by decide +kernel)
  · rw [if_pos c1] at h
    refine sw_aload_n (k0 := 0) 0 rfl (by decide +kernel) rfl ?_
    refine sw_callVi (ci := 10) (i := 49) [] (sX10_isName (K := K - 1) (by omega) σ rfl) rfl (by omega) rfl gs_X10_221 hy_X10_isName (by decide) (by decide) rfl rfl (Nat.le_of_ble_eq_true rfl) (by decide +kernel) ?_
    refine sw_if_eq (off := 12) 48 (by decide +kernel) (by decide) (fun c2 => ?_) (fun c2 => ?_)
    · rw [if_pos c2] at h
      cases h
      obtain rfl : _ = res := hk
      exact sw_vret (by decide +kernel)
    · rw [if_neg c2] at h
      refine sw_aload_n (k0 := 0) 0 rfl (by decide +kernel) rfl ?_
      refine sw_aload_n (k0 := 1) 1 rfl (by decide +kernel) rfl ?_
      refine sw_iload_n (k0 := 2) 2 rfl (by decide +kernel) rfl ?_
      obtain ⟨m3, w4, h⟩ := sw_b1_e h
      refine sw_callVv (ci := 10) (i := 49) [.ref P1, .int a2] (sX10_readSome (K := K - 1) (by omega) P1 hP1 σ a2 w4) rfl (by omega) rfl gs_X10_325 hy_X10_readSome (by decide) (by decide) rfl rfl (Nat.le_of_ble_eq_true rfl) (by decide +kernel) ?_
      refine sw_goto (off := (-20)) 25 (by decide +kernel) (by decide) ?_
      cases h
      exact hk
set_option maxRecDepth 20000 in
theorem sX10_readAllOf_L2 {l : Launch} {E : sw_E} {K : Nat} (hK : 4 ≤ K) (P1 : Nat) (hP1 : sw_isA 1 P1) (σ : sw_M) (a2 : Int32) (a3 : Int32) {res : sw_M} {t : (Int32 × sw_M) ⊕ (sw_M)} (h : fX10_readAllOf_L2 P1 σ a2 a3 = some t) (hk : (Sum.elim (fun s : Int32 × sw_M => sw_Go l E K RX10 cX10_readAllOf 4 none 2 [(0, .ref 49), (1, .ref P1), (2, .int a2), (3, .int s.1)] [] s.2 none res) (fun q => q = res)) t) : sw_Go l E K RX10 cX10_readAllOf 4 none 2 [(0, .ref 49), (1, .ref P1), (2, .int a2), (3, .int a3)] [] σ none res := by
  unfold fX10_readAllOf_L2 at h
  refine sw_iload_n (k0 := 3) 3 rfl (by decide +kernel) rfl ?_
  refine sw_iconst (n := 5) (v := 5) (by decide +kernel) (by decide) ?_
  refine sw_icmp_ge (off := 15) 19 (by decide +kernel) (by decide) (fun c1 => ?_) (fun c1 => ?_)
  · rw [if_pos c1] at h
    refine sw_aload_n (k0 := 0) 0 rfl (by decide +kernel) rfl ?_
    refine sw_aload_n (k0 := 1) 1 rfl (by decide +kernel) rfl ?_
    refine sw_iload_n (k0 := 2) 2 rfl (by decide +kernel) rfl ?_
    obtain ⟨m2, w3, h⟩ := sw_b1_e h
    refine sw_callVv (ci := 10) (i := 49) [.ref P1, .int a2] (sX10_readSome (K := K - 1) (by omega) P1 hP1 σ a2 w3) rfl (by omega) rfl gs_X10_325 hy_X10_readSome (by decide) (by decide) rfl rfl (Nat.le_of_ble_eq_true rfl) (by decide +kernel) ?_
    obtain ⟨q3, h3, rfl⟩ := sw_up_e h
    replace h := h3
    refine sw_lv [0, 1, 2] rfl ?_
    exact sw_wh_e (fun s : sw_M => sw_Go l E K RX10 cX10_readAllOf 4 none 25 [(0, .ref 49), (1, .ref P1), (2, .int a2)] [] s none res) (fun q => q = res) (fun s => fX10_readAllOf_L25 P1 s a2) (fun s t hb hk => sX10_readAllOf_L25 hK P1 hP1 s a2 hb hk) _ _ _ h hk
  · rw [if_neg c1] at h
    refine sw_aload_n (k0 := 1) 1 rfl (by decide +kernel) rfl ?_
    refine sw_iload_n (k0 := 2) 2 rfl (by decide +kernel) rfl ?_
    refine sw_iload_n (k0 := 3) 3 rfl (by decide +kernel) rfl ?_
    refine sw_iadd (by decide +kernel) ?_
    refine sw_iconst (n := 0) (v := 0) (by decide +kernel) (by decide) ?_
    obtain ⟨g5, h⟩ := sw_gd_e h
    obtain ⟨m6, e7, h⟩ := sw_let_e h
    refine sw_iastore (a := P1) hP1.1 hP1.s (sw_in_e g5) (by decide +kernel) ?_
    refine sw_mem e7 ?_
    obtain ⟨v8, e9, h⟩ := sw_let_e h
    refine sw_iincv (i := 3) (n := 1) (lv' := [(3, .int v8), (0, .ref 49), (1, .ref P1), (2, .int a2)]) 3 rfl e9 (by decide +kernel) (by decide) (by decide) rfl ?_
    refine sw_goto (off := (-14)) 2 (by decide +kernel) (by decide) ?_
    cases h
    refine sw_lv [1, 2, 3, 0] rfl ?_
    exact hk
set_option maxRecDepth 20000 in
theorem sX10_readAllOf {l : Launch} {E : sw_E} {K : Nat} (hK : 4 ≤ K) (P1 : Nat) (hP1 : sw_isA 1 P1) (σ : sw_M) (a2 : Int32) {res : sw_M} (h : fX10_readAllOf P1 σ a2 = some res) : sw_Ct l E K yX10_readAllOf cX10_readAllOf 4 none [.ref 49, .ref P1, .int a2] σ none res := by
  obtain ⟨t, hk, h⟩ : ∃ t, t = res ∧ fX10_readAllOf P1 σ a2 = some t := ⟨res, rfl, h⟩
  unfold fX10_readAllOf at h
  refine sw_enter2 (own := RX10) (lv := [(0, .ref 49), (1, .ref P1), (2, .int a2)]) (by decide +kernel) (Nat.le_of_ble_eq_true rfl) rfl rfl ?_
  refine sw_iconst (n := 0) (v := 0) (by decide +kernel) (by decide) ?_
  refine sw_istore_n (k0 := 3) (lv' := [(3, .int 0), (0, .ref 49), (1, .ref P1), (2, .int a2)]) (by decide +kernel) rfl (by decide) rfl ?_
  refine sw_lv [1, 2, 3, 0] rfl ?_
  exact sw_wh_e (fun s : Int32 × sw_M => sw_Go l E K RX10 cX10_readAllOf 4 none 2 [(0, .ref 49), (1, .ref P1), (2, .int a2), (3, .int s.1)] [] s.2 none res) (fun q => q = res) (fun s => fX10_readAllOf_L2 P1 s.2 a2 s.1) (fun s t hb hk => sX10_readAllOf_L2 hK P1 hP1 s.2 a2 s.1 hb hk) _ _ _ h hk
def fX10_readPerson (σ : sw_M) : Option (sw_M) :=
  sw_b1 (fX10_newName σ 5 (σ.1 49 34)) fun m1 =>
  sw_b1 (fX10_want m1 6840691) fun m3 =>
  sw_b1 (fX10_readAllOf 59 m3 (5 * (m3.1 49 34))) fun m5 =>
  if (m5.1 49 2) ≤ 0 then
    sw_let (sw_w m5 49 37 (m5.1 49 48)) fun m8 =>
    sw_let (sw_w m8 49 34 ((m8.1 49 34) + 1)) fun m10 =>
    some (m10)
  else
    some (m5)
set_option maxRecDepth 20000 in
theorem sX10_readPerson {l : Launch} {E : sw_E} {K : Nat} (hK : 5 ≤ K) (σ : sw_M) {res : sw_M} (h : fX10_readPerson σ = some res) : sw_Ct l E K yX10_readPerson cX10_readPerson 1 none [.ref 49] σ none res := by
  obtain ⟨t, hk, h⟩ : ∃ t, t = res ∧ fX10_readPerson σ = some t := ⟨res, rfl, h⟩
  unfold fX10_readPerson at h
  refine sw_enter2 (own := RX10) (lv := [(0, .ref 49)]) (by decide +kernel) (Nat.le_of_ble_eq_true rfl) rfl rfl ?_
  refine sw_aload_n (k0 := 0) 0 rfl (by decide +kernel) rfl ?_
  refine sw_iconst (n := 5) (v := 5) (by decide +kernel) (by decide) ?_
  refine sw_aload_n (k0 := 0) 0 rfl (by decide +kernel) rfl ?_
  refine gf_X10_329 (i := 49) (by decide) rfl (by decide +kernel) ?_
  obtain ⟨m1, w2, h⟩ := sw_b1_e h
  refine sw_callVv (ci := 10) (i := 49) [.int 5, .int (σ.1 49 34)] (sX10_newName (K := K - 1) (by omega) σ 5 (σ.1 49 34) w2) rfl (by omega) rfl gs_X10_316 hy_X10_newName (by decide) (by decide) rfl rfl (Nat.le_of_ble_eq_true rfl) (by decide +kernel) ?_
  refine sw_aload_n (k0 := 0) 0 rfl (by decide +kernel) rfl ?_
  refine sw_ldc2 kn_X10_165 (by decide +kernel) ?_
  obtain ⟨m3, w4, h⟩ := sw_b1_e h
  refine sw_callVv (ci := 10) (i := 49) [.long 6840691] (sX10_want (K := K - 1) (by omega) m1 6840691 w4) rfl (by omega) rfl gs_X10_213 hy_X10_want (by decide) (by decide) rfl rfl (Nat.le_of_ble_eq_true rfl) (by decide +kernel) ?_
  refine sw_aload_n (k0 := 0) 0 rfl (by decide +kernel) rfl ?_
  refine sw_aload_n (k0 := 0) 0 rfl (by decide +kernel) rfl ?_
  refine gf_X10_42 (i := 49) (by decide) rfl (by decide +kernel) ?_
  refine sw_refj 59 rfl ?_
  refine sw_iconst (n := 5) (v := 5) (by decide +kernel) (by decide) ?_
  refine sw_aload_n (k0 := 0) 0 rfl (by decide +kernel) rfl ?_
  refine gf_X10_329 (i := 49) (by decide) rfl (by decide +kernel) ?_
  refine sw_imul (by decide +kernel) ?_
  obtain ⟨m5, w6, h⟩ := sw_b1_e h
  refine sw_callVv (ci := 10) (i := 49) [.ref 59, .int (5 * (m3.1 49 34))] (sX10_readAllOf (K := K - 1) (by omega) 59 (sw_A_of (by decide) rfl) m3 (5 * (m3.1 49 34)) w6) rfl (by omega) rfl gs_X10_332 hy_X10_readAllOf (by decide) (by decide) rfl rfl (Nat.le_of_ble_eq_true rfl) (by decide +kernel) ?_
  refine sw_aload_n (k0 := 0) 0 rfl (by decide +kernel) rfl ?_
  refine gf_X10_158 (i := 49) (by decide) rfl (by decide +kernel) ?_
  refine sw_if_le (off := 4) 38 (by decide +kernel) (by decide) (fun c7 => ?_) (fun c7 => ?_)
  · rw [if_pos c7] at h
    refine sw_aload_n (k0 := 0) 0 rfl (by decide +kernel) rfl ?_
    refine sw_aload_n (k0 := 0) 0 rfl (by decide +kernel) rfl ?_
    refine gf_X10_322 (i := 49) (by decide) rfl (by decide +kernel) ?_
    obtain ⟨m8, e9, h⟩ := sw_let_e h
    refine pf_X10_335 (by decide) rfl (by decide +kernel) ?_
    refine sw_mem e9 ?_
    refine sw_aload_n (k0 := 0) 0 rfl (by decide +kernel) rfl ?_
    refine sw_dup (by decide +kernel) rfl ?_
    refine gf_X10_329 (i := 49) (by decide) rfl (by decide +kernel) ?_
    refine sw_iconst (n := 1) (v := 1) (by decide +kernel) (by decide) ?_
    refine sw_iadd (by decide +kernel) ?_
    obtain ⟨m10, e11, h⟩ := sw_let_e h
    refine pf_X10_329 (by decide) rfl (by decide +kernel) ?_
    refine sw_mem e11 ?_
    cases h
    obtain rfl : _ = res := hk
    exact sw_vret (by decide +kernel)
  · rw [if_neg c7] at h
    cases h
    obtain rfl : _ = res := hk
    exact sw_vret (by decide +kernel)
def fX10_readBasin (σ : sw_M) : Option (sw_M) :=
  sw_b1 (fX10_newName σ 12 (σ.1 49 35)) fun m1 =>
  sw_b1 (fX10_want m1 512735736947) fun m3 =>
  sw_b1 (fX10_readAllOf 60 m3 (5 * (m3.1 49 35))) fun m5 =>
  if (m5.1 49 2) = 0 then
    sw_let (sw_w m5 49 35 ((m5.1 49 35) + 1)) fun m8 =>
    some (m8)
  else
    some (m5)
set_option maxRecDepth 20000 in
theorem sX10_readBasin {l : Launch} {E : sw_E} {K : Nat} (hK : 5 ≤ K) (σ : sw_M) {res : sw_M} (h : fX10_readBasin σ = some res) : sw_Ct l E K yX10_readBasin cX10_readBasin 1 none [.ref 49] σ none res := by
  obtain ⟨t, hk, h⟩ : ∃ t, t = res ∧ fX10_readBasin σ = some t := ⟨res, rfl, h⟩
  unfold fX10_readBasin at h
  refine sw_enter2 (own := RX10) (lv := [(0, .ref 49)]) (by decide +kernel) (Nat.le_of_ble_eq_true rfl) rfl rfl ?_
  refine sw_aload_n (k0 := 0) 0 rfl (by decide +kernel) rfl ?_
  refine sw_bipush (n := 12) (v := 12) (by decide +kernel) (by decide) ?_
  refine sw_aload_n (k0 := 0) 0 rfl (by decide +kernel) rfl ?_
  refine gf_X10_338 (i := 49) (by decide) rfl (by decide +kernel) ?_
  obtain ⟨m1, w2, h⟩ := sw_b1_e h
  refine sw_callVv (ci := 10) (i := 49) [.int 12, .int (σ.1 49 35)] (sX10_newName (K := K - 1) (by omega) σ 12 (σ.1 49 35) w2) rfl (by omega) rfl gs_X10_316 hy_X10_newName (by decide) (by decide) rfl rfl (Nat.le_of_ble_eq_true rfl) (by decide +kernel) ?_
  refine sw_aload_n (k0 := 0) 0 rfl (by decide +kernel) rfl ?_
  refine sw_ldc2 kn_X10_173 (by decide +kernel) ?_
  obtain ⟨m3, w4, h⟩ := sw_b1_e h
  refine sw_callVv (ci := 10) (i := 49) [.long 512735736947] (sX10_want (K := K - 1) (by omega) m1 512735736947 w4) rfl (by omega) rfl gs_X10_213 hy_X10_want (by decide) (by decide) rfl rfl (Nat.le_of_ble_eq_true rfl) (by decide +kernel) ?_
  refine sw_aload_n (k0 := 0) 0 rfl (by decide +kernel) rfl ?_
  refine sw_aload_n (k0 := 0) 0 rfl (by decide +kernel) rfl ?_
  refine gf_X10_45 (i := 49) (by decide) rfl (by decide +kernel) ?_
  refine sw_refj 60 rfl ?_
  refine sw_iconst (n := 5) (v := 5) (by decide +kernel) (by decide) ?_
  refine sw_aload_n (k0 := 0) 0 rfl (by decide +kernel) rfl ?_
  refine gf_X10_338 (i := 49) (by decide) rfl (by decide +kernel) ?_
  refine sw_imul (by decide +kernel) ?_
  obtain ⟨m5, w6, h⟩ := sw_b1_e h
  refine sw_callVv (ci := 10) (i := 49) [.ref 60, .int (5 * (m3.1 49 35))] (sX10_readAllOf (K := K - 1) (by omega) 60 (sw_A_of (by decide) rfl) m3 (5 * (m3.1 49 35)) w6) rfl (by omega) rfl gs_X10_332 hy_X10_readAllOf (by decide) (by decide) rfl rfl (Nat.le_of_ble_eq_true rfl) (by decide +kernel) ?_
  refine sw_aload_n (k0 := 0) 0 rfl (by decide +kernel) rfl ?_
  refine gf_X10_158 (i := 49) (by decide) rfl (by decide +kernel) ?_
  refine sw_if_ne (off := 13) 48 (by decide +kernel) (by decide) (fun c7 => ?_) (fun c7 => ?_)
  · rw [if_neg c7] at h
    cases h
    obtain rfl : _ = res := hk
    exact sw_vret (by decide +kernel)
  · rw [if_pos c7] at h
    refine sw_aload_n (k0 := 0) 0 rfl (by decide +kernel) rfl ?_
    refine sw_dup (by decide +kernel) rfl ?_
    refine gf_X10_338 (i := 49) (by decide) rfl (by decide +kernel) ?_
    refine sw_iconst (n := 1) (v := 1) (by decide +kernel) (by decide) ?_
    refine sw_iadd (by decide +kernel) ?_
    obtain ⟨m8, e9, h⟩ := sw_let_e h
    refine pf_X10_338 (by decide) rfl (by decide +kernel) ?_
    refine sw_mem e9 ?_
    cases h
    obtain rfl : _ = res := hk
    exact sw_vret (by decide +kernel)
def fX10_readRule_L93 (σ : sw_M) : Option ((sw_M)) :=
  sw_b2 (fX10_toldNumber σ 1 9) fun r1 m2 =>
  sw_gd (sw_in ((4 * (σ.1 49 36)) + 3) 24) <|
  sw_let (sw_w m2 61 ((4 * (σ.1 49 36)) + 3).toNatClampNeg r1) fun m5 =>
  if (m5.1 49 2) = 0 then
    sw_let (sw_w m5 49 36 ((m5.1 49 36) + 1)) fun m8 =>
    some (m8)
  else
    some (m5)
def fX10_readRule_L58 (σ : sw_M) : Option ((sw_M)) :=
  sw_b1 (fX10_want σ 1768846447) fun m1 =>
  sw_b2 (fX10_oldKind m1) fun r3 m4 =>
  sw_gd (sw_in ((4 * (m1.1 49 36)) + 2) 24) <|
  sw_let (sw_w m4 61 ((4 * (m1.1 49 36)) + 2).toNatClampNeg r3) fun m7 =>
  if (m7.1 49 2) = 0 then
    sw_b1 (fX10_token m7) fun m10 =>
    fX10_readRule_L93 m10
  else
    fX10_readRule_L93 m7
def fX10_readRule_L30 (σ : sw_M) : Option ((sw_M)) :=
  sw_b2 (fX10_oldKind σ) fun r1 m2 =>
  sw_gd (sw_in ((4 * (σ.1 49 36)) + 1) 24) <|
  sw_let (sw_w m2 61 ((4 * (σ.1 49 36)) + 1).toNatClampNeg r1) fun m5 =>
  if (m5.1 49 2) = 0 then
    sw_b1 (fX10_token m5) fun m8 =>
    fX10_readRule_L58 m8
  else
    fX10_readRule_L58 m5
def fX10_readRule (σ : sw_M) : Option (sw_M) :=
  sw_b1 (fX10_token σ) fun m1 =>
  sw_b2 (fX10_oldKind m1) fun r3 m4 =>
  sw_gd (sw_in (4 * (m1.1 49 36)) 24) <|
  sw_let (sw_w m4 61 (4 * (m1.1 49 36)).toNatClampNeg r3) fun m7 =>
  if (m7.1 49 2) = 0 then
    sw_b1 (fX10_token m7) fun m10 =>
    fX10_readRule_L30 m10
  else
    fX10_readRule_L30 m7
set_option maxRecDepth 20000 in
theorem sX10_readRule_L93 {l : Launch} {E : sw_E} {K : Nat} (hK : 3 ≤ K) (σ : sw_M) {res : sw_M} {t : (sw_M)} (h : fX10_readRule_L93 σ = some t) (hk : (fun q => q = res) t) : sw_Go l E K RX10 cX10_readRule 1 none 93 [(0, .ref 49)] [] σ none res := by
  unfold fX10_readRule_L93 at h
  refine sw_aload_n (k0 := 0) 0 rfl (by decide +kernel) rfl ?_
  refine gf_X10_48 (i := 49) (by decide) rfl (by decide +kernel) ?_
  refine sw_refj 61 rfl ?_
  refine sw_iconst (n := 4) (v := 4) (by decide +kernel) (by decide) ?_
  refine sw_aload_n (k0 := 0) 0 rfl (by decide +kernel) rfl ?_
  refine gf_X10_341 (i := 49) (by decide) rfl (by decide +kernel) ?_
  refine sw_imul (by decide +kernel) ?_
  refine sw_iconst (n := 3) (v := 3) (by decide +kernel) (by decide) ?_
  refine sw_iadd (by decide +kernel) ?_
  refine sw_aload_n (k0 := 0) 0 rfl (by decide +kernel) rfl ?_
  refine sw_iconst (n := 1) (v := 1) (by decide +kernel) (by decide) ?_
  refine sw_bipush (n := 9) (v := 9) (by decide +kernel) (by decide) ?_
  obtain ⟨r1, m2, w3, h⟩ := sw_b2_e h
  refine sw_callVi (ci := 10) (i := 49) [.int 1, .int 9] (sX10_toldNumber (K := K - 1) (by omega) σ 1 9 w3) rfl (by omega) rfl gs_X10_217 hy_X10_toldNumber (by decide) (by decide) rfl rfl (Nat.le_of_ble_eq_true rfl) (by decide +kernel) ?_
  obtain ⟨g4, h⟩ := sw_gd_e h
  obtain ⟨m5, e6, h⟩ := sw_let_e h
  refine sw_iastore (a := 61) (by decide) rfl (sw_in_e g4) (by decide +kernel) ?_
  refine sw_mem e6 ?_
  refine sw_aload_n (k0 := 0) 0 rfl (by decide +kernel) rfl ?_
  refine gf_X10_158 (i := 49) (by decide) rfl (by decide +kernel) ?_
  refine sw_if_ne (off := 13) 130 (by decide +kernel) (by decide) (fun c7 => ?_) (fun c7 => ?_)
  · rw [if_neg c7] at h
    cases h
    obtain rfl : _ = res := hk
    exact sw_vret (by decide +kernel)
  · rw [if_pos c7] at h
    refine sw_aload_n (k0 := 0) 0 rfl (by decide +kernel) rfl ?_
    refine sw_dup (by decide +kernel) rfl ?_
    refine gf_X10_341 (i := 49) (by decide) rfl (by decide +kernel) ?_
    refine sw_iconst (n := 1) (v := 1) (by decide +kernel) (by decide) ?_
    refine sw_iadd (by decide +kernel) ?_
    obtain ⟨m8, e9, h⟩ := sw_let_e h
    refine pf_X10_341 (by decide) rfl (by decide +kernel) ?_
    refine sw_mem e9 ?_
    cases h
    obtain rfl : _ = res := hk
    exact sw_vret (by decide +kernel)
set_option maxRecDepth 20000 in
theorem sX10_readRule_L58 {l : Launch} {E : sw_E} {K : Nat} (hK : 3 ≤ K) (σ : sw_M) {res : sw_M} {t : (sw_M)} (h : fX10_readRule_L58 σ = some t) (hk : (fun q => q = res) t) : sw_Go l E K RX10 cX10_readRule 1 none 58 [(0, .ref 49)] [] σ none res := by
  unfold fX10_readRule_L58 at h
  refine sw_aload_n (k0 := 0) 0 rfl (by decide +kernel) rfl ?_
  refine sw_ldc2 kn_X10_169 (by decide +kernel) ?_
  obtain ⟨m1, w2, h⟩ := sw_b1_e h
  refine sw_callVv (ci := 10) (i := 49) [.long 1768846447] (sX10_want (K := K - 1) (by omega) σ 1768846447 w2) rfl (by omega) rfl gs_X10_213 hy_X10_want (by decide) (by decide) rfl rfl (Nat.le_of_ble_eq_true rfl) (by decide +kernel) ?_
  refine sw_aload_n (k0 := 0) 0 rfl (by decide +kernel) rfl ?_
  refine gf_X10_48 (i := 49) (by decide) rfl (by decide +kernel) ?_
  refine sw_refj 61 rfl ?_
  refine sw_iconst (n := 4) (v := 4) (by decide +kernel) (by decide) ?_
  refine sw_aload_n (k0 := 0) 0 rfl (by decide +kernel) rfl ?_
  refine gf_X10_341 (i := 49) (by decide) rfl (by decide +kernel) ?_
  refine sw_imul (by decide +kernel) ?_
  refine sw_iconst (n := 2) (v := 2) (by decide +kernel) (by decide) ?_
  refine sw_iadd (by decide +kernel) ?_
  refine sw_aload_n (k0 := 0) 0 rfl (by decide +kernel) rfl ?_
  obtain ⟨r3, m4, w5, h⟩ := sw_b2_e h
  refine sw_callVi (ci := 10) (i := 49) [] (sX10_oldKind (K := K - 1) (by omega) m1 w5) rfl (by omega) rfl gs_X10_319 hy_X10_oldKind (by decide) (by decide) rfl rfl (Nat.le_of_ble_eq_true rfl) (by decide +kernel) ?_
  obtain ⟨g6, h⟩ := sw_gd_e h
  obtain ⟨m7, e8, h⟩ := sw_let_e h
  refine sw_iastore (a := 61) (by decide) rfl (sw_in_e g6) (by decide +kernel) ?_
  refine sw_mem e8 ?_
  refine sw_aload_n (k0 := 0) 0 rfl (by decide +kernel) rfl ?_
  refine gf_X10_158 (i := 49) (by decide) rfl (by decide +kernel) ?_
  refine sw_if_ne (off := 7) 93 (by decide +kernel) (by decide) (fun c9 => ?_) (fun c9 => ?_)
  · rw [if_neg c9] at h
    exact sX10_readRule_L93 hK m7 h hk
  · rw [if_pos c9] at h
    refine sw_aload_n (k0 := 0) 0 rfl (by decide +kernel) rfl ?_
    obtain ⟨m10, w11, h⟩ := sw_b1_e h
    refine sw_callVv (ci := 10) (i := 49) [] (sX10_token (K := K - 1) (by omega) m7 w11) rfl (by omega) rfl gs_X10_210 hy_X10_token (by decide) (by decide) rfl rfl (Nat.le_of_ble_eq_true rfl) (by decide +kernel) ?_
    exact sX10_readRule_L93 hK m10 h hk
set_option maxRecDepth 20000 in
theorem sX10_readRule_L30 {l : Launch} {E : sw_E} {K : Nat} (hK : 3 ≤ K) (σ : sw_M) {res : sw_M} {t : (sw_M)} (h : fX10_readRule_L30 σ = some t) (hk : (fun q => q = res) t) : sw_Go l E K RX10 cX10_readRule 1 none 30 [(0, .ref 49)] [] σ none res := by
  unfold fX10_readRule_L30 at h
  refine sw_aload_n (k0 := 0) 0 rfl (by decide +kernel) rfl ?_
  refine gf_X10_48 (i := 49) (by decide) rfl (by decide +kernel) ?_
  refine sw_refj 61 rfl ?_
  refine sw_iconst (n := 4) (v := 4) (by decide +kernel) (by decide) ?_
  refine sw_aload_n (k0 := 0) 0 rfl (by decide +kernel) rfl ?_
  refine gf_X10_341 (i := 49) (by decide) rfl (by decide +kernel) ?_
  refine sw_imul (by decide +kernel) ?_
  refine sw_iconst (n := 1) (v := 1) (by decide +kernel) (by decide) ?_
  refine sw_iadd (by decide +kernel) ?_
  refine sw_aload_n (k0 := 0) 0 rfl (by decide +kernel) rfl ?_
  obtain ⟨r1, m2, w3, h⟩ := sw_b2_e h
  refine sw_callVi (ci := 10) (i := 49) [] (sX10_oldKind (K := K - 1) (by omega) σ w3) rfl (by omega) rfl gs_X10_319 hy_X10_oldKind (by decide) (by decide) rfl rfl (Nat.le_of_ble_eq_true rfl) (by decide +kernel) ?_
  obtain ⟨g4, h⟩ := sw_gd_e h
  obtain ⟨m5, e6, h⟩ := sw_let_e h
  refine sw_iastore (a := 61) (by decide) rfl (sw_in_e g4) (by decide +kernel) ?_
  refine sw_mem e6 ?_
  refine sw_aload_n (k0 := 0) 0 rfl (by decide +kernel) rfl ?_
  refine gf_X10_158 (i := 49) (by decide) rfl (by decide +kernel) ?_
  refine sw_if_ne (off := 7) 58 (by decide +kernel) (by decide) (fun c7 => ?_) (fun c7 => ?_)
  · rw [if_neg c7] at h
    exact sX10_readRule_L58 hK m5 h hk
  · rw [if_pos c7] at h
    refine sw_aload_n (k0 := 0) 0 rfl (by decide +kernel) rfl ?_
    obtain ⟨m8, w9, h⟩ := sw_b1_e h
    refine sw_callVv (ci := 10) (i := 49) [] (sX10_token (K := K - 1) (by omega) m5 w9) rfl (by omega) rfl gs_X10_210 hy_X10_token (by decide) (by decide) rfl rfl (Nat.le_of_ble_eq_true rfl) (by decide +kernel) ?_
    exact sX10_readRule_L58 hK m8 h hk
set_option maxRecDepth 20000 in
theorem sX10_readRule {l : Launch} {E : sw_E} {K : Nat} (hK : 3 ≤ K) (σ : sw_M) {res : sw_M} (h : fX10_readRule σ = some res) : sw_Ct l E K yX10_readRule cX10_readRule 1 none [.ref 49] σ none res := by
  obtain ⟨t, hk, h⟩ : ∃ t, t = res ∧ fX10_readRule σ = some t := ⟨res, rfl, h⟩
  unfold fX10_readRule at h
  refine sw_enter2 (own := RX10) (lv := [(0, .ref 49)]) (by decide +kernel) (Nat.le_of_ble_eq_true rfl) rfl rfl ?_
  refine sw_aload_n (k0 := 0) 0 rfl (by decide +kernel) rfl ?_
  obtain ⟨m1, w2, h⟩ := sw_b1_e h
  refine sw_callVv (ci := 10) (i := 49) [] (sX10_token (K := K - 1) (by omega) σ w2) rfl (by omega) rfl gs_X10_210 hy_X10_token (by decide) (by decide) rfl rfl (Nat.le_of_ble_eq_true rfl) (by decide +kernel) ?_
  refine sw_aload_n (k0 := 0) 0 rfl (by decide +kernel) rfl ?_
  refine gf_X10_48 (i := 49) (by decide) rfl (by decide +kernel) ?_
  refine sw_refj 61 rfl ?_
  refine sw_iconst (n := 4) (v := 4) (by decide +kernel) (by decide) ?_
  refine sw_aload_n (k0 := 0) 0 rfl (by decide +kernel) rfl ?_
  refine gf_X10_341 (i := 49) (by decide) rfl (by decide +kernel) ?_
  refine sw_imul (by decide +kernel) ?_
  refine sw_aload_n (k0 := 0) 0 rfl (by decide +kernel) rfl ?_
  obtain ⟨r3, m4, w5, h⟩ := sw_b2_e h
  refine sw_callVi (ci := 10) (i := 49) [] (sX10_oldKind (K := K - 1) (by omega) m1 w5) rfl (by omega) rfl gs_X10_319 hy_X10_oldKind (by decide) (by decide) rfl rfl (Nat.le_of_ble_eq_true rfl) (by decide +kernel) ?_
  obtain ⟨g6, h⟩ := sw_gd_e h
  obtain ⟨m7, e8, h⟩ := sw_let_e h
  refine sw_iastore (a := 61) (by decide) rfl (sw_in_e g6) (by decide +kernel) ?_
  refine sw_mem e8 ?_
  refine sw_aload_n (k0 := 0) 0 rfl (by decide +kernel) rfl ?_
  refine gf_X10_158 (i := 49) (by decide) rfl (by decide +kernel) ?_
  refine sw_if_ne (off := 7) 30 (by decide +kernel) (by decide) (fun c9 => ?_) (fun c9 => ?_)
  · rw [if_neg c9] at h
    exact sX10_readRule_L30 hK m7 h hk
  · rw [if_pos c9] at h
    refine sw_aload_n (k0 := 0) 0 rfl (by decide +kernel) rfl ?_
    obtain ⟨m10, w11, h⟩ := sw_b1_e h
    refine sw_callVv (ci := 10) (i := 49) [] (sX10_token (K := K - 1) (by omega) m7 w11) rfl (by omega) rfl gs_X10_210 hy_X10_token (by decide) (by decide) rfl rfl (Nat.le_of_ble_eq_true rfl) (by decide +kernel) ?_
    exact sX10_readRule_L30 hK m10 h hk
def fX10_readLine_L231 (σ : sw_M) : Option ((sw_M)) :=
  if (σ.1 49 2) = 0 then
    sw_b1 (fX10_token σ) fun m2 =>
    some (m2)
  else
    some (σ)
def fX10_readLine_L210 (σ : sw_M) : Option ((sw_M)) :=
  if (σ.1 49 2) = 0 then
    if (σ.1 49 6) = 59 then
      fX10_readLine_L231 σ
    else
      sw_b1 (fX10_wrong σ 2) fun m3 =>
      fX10_readLine_L231 m3
  else
    fX10_readLine_L231 σ
def fX10_readLine_L205 (σ : sw_M) : Option ((sw_M)) :=
  sw_b1 (fX10_wrong σ 2) fun m1 =>
  fX10_readLine_L210 m1
def fX10_readLine_L165 (σ : sw_M) : Option ((sw_M)) :=
  if (fX10_isWord σ 1685217655) = 0 then
    fX10_readLine_L205 σ
  else
    if (σ.1 49 47) = 0 then
      sw_let (sw_w σ 49 47 1) fun m3 =>
      sw_b2 (fX10_told m3 1685217655 0 999) fun r5 m6 =>
      sw_let (sw_w m6 49 39 r5) fun m8 =>
      fX10_readLine_L210 m8
    else
      fX10_readLine_L205 σ
def fX10_readLine_L126 (σ : sw_M) : Option ((sw_M)) :=
  if (fX10_isWord σ 1935897965) = 0 then
    fX10_readLine_L165 σ
  else
    if (σ.1 49 46) = 0 then
      sw_let (sw_w σ 49 46 1) fun m3 =>
      sw_b2 (fX10_told m3 1935897965 0 100) fun r5 m6 =>
      sw_let (sw_w m6 49 38 r5) fun m8 =>
      fX10_readLine_L210 m8
    else
      fX10_readLine_L165 σ
def fX10_readLine_L102 (σ : sw_M) : Option ((sw_M)) :=
  if (fX10_isWord σ 491395442035) = 0 then
    fX10_readLine_L126 σ
  else
    if (σ.1 49 24) = 0 then
      sw_b1 (fX10_formula σ) fun m3 =>
      fX10_readLine_L210 m3
    else
      fX10_readLine_L126 σ
def fX10_readLine_L77 (σ : sw_M) : Option ((sw_M)) :=
  if (fX10_isWord σ 422541748590) = 0 then
    fX10_readLine_L102 σ
  else
    if 4 ≤ (σ.1 49 35) then
      fX10_readLine_L102 σ
    else
      sw_b1 (fX10_readBasin σ) fun m3 =>
      fX10_readLine_L210 m3
def fX10_readLine_L51 (σ : sw_M) : Option ((sw_M)) :=
  if (fX10_isWord σ 422775975027) = 0 then
    fX10_readLine_L77 σ
  else
    if 6 ≤ (σ.1 49 36) then
      fX10_readLine_L77 σ
    else
      sw_b1 (fX10_readRule σ) fun m3 =>
      fX10_readLine_L210 m3
def fX10_readLine_L25 (σ : sw_M) : Option ((sw_M)) :=
  if (fX10_isWord σ 123581014175598) = 0 then
    fX10_readLine_L51 σ
  else
    if 7 ≤ (σ.1 49 34) then
      fX10_readLine_L51 σ
    else
      sw_b1 (fX10_readPerson σ) fun m3 =>
      fX10_readLine_L210 m3
def fX10_readLine (σ : sw_M) : Option (sw_M) :=
  if (fX10_isWord σ 1802071652) = 0 then
    fX10_readLine_L25 σ
  else
    if 5 ≤ (σ.1 49 33) then
      fX10_readLine_L25 σ
    else
      sw_b1 (fX10_readKind σ) fun m3 =>
      fX10_readLine_L210 m3
set_option maxRecDepth 20000 in
theorem sX10_readLine_L231 {l : Launch} {E : sw_E} {K : Nat} (hK : 6 ≤ K) (σ : sw_M) {res : sw_M} {t : (sw_M)} (h : fX10_readLine_L231 σ = some t) (hk : (fun q => q = res) t) : sw_Go l E K RX10 cX10_readLine 1 none 231 [(0, .ref 49)] [] σ none res := by
  unfold fX10_readLine_L231 at h
  refine sw_aload_n (k0 := 0) 0 rfl (by decide +kernel) rfl ?_
  refine gf_X10_158 (i := 49) (by decide) rfl (by decide +kernel) ?_
  refine sw_if_ne (off := 7) 242 (by decide +kernel) (by decide) (fun c1 => ?_) (fun c1 => ?_)
  · rw [if_neg c1] at h
    cases h
    obtain rfl : _ = res := hk
    exact sw_vret (by decide +kernel)
  · rw [if_pos c1] at h
    refine sw_aload_n (k0 := 0) 0 rfl (by decide +kernel) rfl ?_
    obtain ⟨m2, w3, h⟩ := sw_b1_e h
    refine sw_callVv (ci := 10) (i := 49) [] (sX10_token (K := K - 1) (by omega) σ w3) rfl (by omega) rfl gs_X10_210 hy_X10_token (by decide) (by decide) rfl rfl (Nat.le_of_ble_eq_true rfl) (by decide +kernel) ?_
    cases h
    obtain rfl : _ = res := hk
    exact sw_vret (by decide +kernel)
set_option maxRecDepth 20000 in
theorem sX10_readLine_L210 {l : Launch} {E : sw_E} {K : Nat} (hK : 6 ≤ K) (σ : sw_M) {res : sw_M} {t : (sw_M)} (h : fX10_readLine_L210 σ = some t) (hk : (fun q => q = res) t) : sw_Go l E K RX10 cX10_readLine 1 none 210 [(0, .ref 49)] [] σ none res := by
  unfold fX10_readLine_L210 at h
  refine sw_aload_n (k0 := 0) 0 rfl (by decide +kernel) rfl ?_
  refine gf_X10_158 (i := 49) (by decide) rfl (by decide +kernel) ?_
  refine sw_if_ne (off := 17) 231 (by decide +kernel) (by decide) (fun c1 => ?_) (fun c1 => ?_)
  · rw [if_neg c1] at h
    exact sX10_readLine_L231 hK σ h hk
  · rw [if_pos c1] at h
    refine sw_aload_n (k0 := 0) 0 rfl (by decide +kernel) rfl ?_
    refine gf_X10_145 (i := 49) (by decide) rfl (by decide +kernel) ?_
    refine sw_bipush (n := 59) (v := 59) (by decide +kernel) (by decide) ?_
    refine sw_icmp_eq (off := 8) 231 (by decide +kernel) (by decide) (fun c2 => ?_) (fun c2 => ?_)
    · rw [if_pos c2] at h
      exact sX10_readLine_L231 hK σ h hk
    · rw [if_neg c2] at h
      refine sw_aload_n (k0 := 0) 0 rfl (by decide +kernel) rfl ?_
      refine sw_iconst (n := 2) (v := 2) (by decide +kernel) (by decide) ?_
      obtain ⟨m3, w4, h⟩ := sw_b1_e h
      refine sw_callVv (ci := 10) (i := 49) [.int 2] (sX10_wrong (K := K - 1) (by omega) σ 2 w4) rfl (by omega) rfl gs_X10_207 hy_X10_wrong (by decide) (by decide) rfl rfl (Nat.le_of_ble_eq_true rfl) (by decide +kernel) ?_
      exact sX10_readLine_L231 hK m3 h hk
set_option maxRecDepth 20000 in
theorem sX10_readLine_L205 {l : Launch} {E : sw_E} {K : Nat} (hK : 6 ≤ K) (σ : sw_M) {res : sw_M} {t : (sw_M)} (h : fX10_readLine_L205 σ = some t) (hk : (fun q => q = res) t) : sw_Go l E K RX10 cX10_readLine 1 none 205 [(0, .ref 49)] [] σ none res := by
  unfold fX10_readLine_L205 at h
  refine sw_aload_n (k0 := 0) 0 rfl (by decide +kernel) rfl ?_
  refine sw_iconst (n := 2) (v := 2) (by decide +kernel) (by decide) ?_
  obtain ⟨m1, w2, h⟩ := sw_b1_e h
  refine sw_callVv (ci := 10) (i := 49) [.int 2] (sX10_wrong (K := K - 1) (by omega) σ 2 w2) rfl (by omega) rfl gs_X10_207 hy_X10_wrong (by decide) (by decide) rfl rfl (Nat.le_of_ble_eq_true rfl) (by decide +kernel) ?_
  exact sX10_readLine_L210 hK m1 h hk
set_option maxRecDepth 20000 in
theorem sX10_readLine_L165 {l : Launch} {E : sw_E} {K : Nat} (hK : 6 ≤ K) (σ : sw_M) {res : sw_M} {t : (sw_M)} (h : fX10_readLine_L165 σ = some t) (hk : (fun q => q = res) t) : sw_Go l E K RX10 cX10_readLine 1 none 165 [(0, .ref 49)] [] σ none res := by
  unfold fX10_readLine_L165 at h
  refine sw_aload_n (k0 := 0) 0 rfl (by decide +kernel) rfl ?_
  refine sw_ldc2 kn_X10_179 (by decide +kernel) ?_
  refine sw_callVi (ci := 10) (i := 49) [.long 1685217655] (sX10_isWord (K := K - 1) (by omega) σ 1685217655 rfl) rfl (by omega) rfl gs_X10_203 hy_X10_isWord (by decide) (by decide) rfl rfl (Nat.le_of_ble_eq_true rfl) (by decide +kernel) ?_
  refine sw_if_eq (off := 33) 205 (by decide +kernel) (by decide) (fun c1 => ?_) (fun c1 => ?_)
  · rw [if_pos c1] at h
    exact sX10_readLine_L205 hK σ h hk
  · rw [if_neg c1] at h
    refine sw_aload_n (k0 := 0) 0 rfl (by decide +kernel) rfl ?_
    refine gf_X10_369 (i := 49) (by decide) rfl (by decide +kernel) ?_
    refine sw_if_ne (off := 26) 205 (by decide +kernel) (by decide) (fun c2 => ?_) (fun c2 => ?_)
    · rw [if_neg c2] at h
      exact sX10_readLine_L205 hK σ h hk
    · rw [if_pos c2] at h
      refine sw_aload_n (k0 := 0) 0 rfl (by decide +kernel) rfl ?_
      refine sw_iconst (n := 1) (v := 1) (by decide +kernel) (by decide) ?_
      obtain ⟨m3, e4, h⟩ := sw_let_e h
      refine pf_X10_369 (Or.inr rfl) (by decide) rfl (by decide +kernel) ?_
      refine sw_mem e4 ?_
      refine sw_aload_n (k0 := 0) 0 rfl (by decide +kernel) rfl ?_
      refine sw_aload_n (k0 := 0) 0 rfl (by decide +kernel) rfl ?_
      refine sw_ldc2 kn_X10_179 (by decide +kernel) ?_
      refine sw_iconst (n := 0) (v := 0) (by decide +kernel) (by decide) ?_
      refine sw_sipush (n := 999) (v := 999) (by decide +kernel) (by decide) ?_
      obtain ⟨r5, m6, w7, h⟩ := sw_b2_e h
      refine sw_callVi (ci := 10) (i := 49) [.long 1685217655, .int 0, .int 999] (sX10_told (K := K - 1) (by omega) m3 1685217655 0 999 w7) rfl (by omega) rfl gs_X10_362 hy_X10_told (by decide) (by decide) rfl rfl (Nat.le_of_ble_eq_true rfl) (by decide +kernel) ?_
      obtain ⟨m8, e9, h⟩ := sw_let_e h
      refine pf_X10_372 (by decide) rfl (by decide +kernel) ?_
      refine sw_mem e9 ?_
      refine sw_goto (off := 8) 210 (by decide +kernel) (by decide) ?_
      exact sX10_readLine_L210 hK m8 h hk
set_option maxRecDepth 20000 in
theorem sX10_readLine_L126 {l : Launch} {E : sw_E} {K : Nat} (hK : 6 ≤ K) (σ : sw_M) {res : sw_M} {t : (sw_M)} (h : fX10_readLine_L126 σ = some t) (hk : (fun q => q = res) t) : sw_Go l E K RX10 cX10_readLine 1 none 126 [(0, .ref 49)] [] σ none res := by
  unfold fX10_readLine_L126 at h
  refine sw_aload_n (k0 := 0) 0 rfl (by decide +kernel) rfl ?_
  refine sw_ldc2 kn_X10_177 (by decide +kernel) ?_
  refine sw_callVi (ci := 10) (i := 49) [.long 1935897965] (sX10_isWord (K := K - 1) (by omega) σ 1935897965 rfl) rfl (by omega) rfl gs_X10_203 hy_X10_isWord (by decide) (by decide) rfl rfl (Nat.le_of_ble_eq_true rfl) (by decide +kernel) ?_
  refine sw_if_eq (off := 32) 165 (by decide +kernel) (by decide) (fun c1 => ?_) (fun c1 => ?_)
  · rw [if_pos c1] at h
    exact sX10_readLine_L165 hK σ h hk
  · rw [if_neg c1] at h
    refine sw_aload_n (k0 := 0) 0 rfl (by decide +kernel) rfl ?_
    refine gf_X10_359 (i := 49) (by decide) rfl (by decide +kernel) ?_
    refine sw_if_ne (off := 25) 165 (by decide +kernel) (by decide) (fun c2 => ?_) (fun c2 => ?_)
    · rw [if_neg c2] at h
      exact sX10_readLine_L165 hK σ h hk
    · rw [if_pos c2] at h
      refine sw_aload_n (k0 := 0) 0 rfl (by decide +kernel) rfl ?_
      refine sw_iconst (n := 1) (v := 1) (by decide +kernel) (by decide) ?_
      obtain ⟨m3, e4, h⟩ := sw_let_e h
      refine pf_X10_359 (Or.inr rfl) (by decide) rfl (by decide +kernel) ?_
      refine sw_mem e4 ?_
      refine sw_aload_n (k0 := 0) 0 rfl (by decide +kernel) rfl ?_
      refine sw_aload_n (k0 := 0) 0 rfl (by decide +kernel) rfl ?_
      refine sw_ldc2 kn_X10_177 (by decide +kernel) ?_
      refine sw_iconst (n := 0) (v := 0) (by decide +kernel) (by decide) ?_
      refine sw_bipush (n := 100) (v := 100) (by decide +kernel) (by decide) ?_
      obtain ⟨r5, m6, w7, h⟩ := sw_b2_e h
      refine sw_callVi (ci := 10) (i := 49) [.long 1935897965, .int 0, .int 100] (sX10_told (K := K - 1) (by omega) m3 1935897965 0 100 w7) rfl (by omega) rfl gs_X10_362 hy_X10_told (by decide) (by decide) rfl rfl (Nat.le_of_ble_eq_true rfl) (by decide +kernel) ?_
      obtain ⟨m8, e9, h⟩ := sw_let_e h
      refine pf_X10_366 (by decide) rfl (by decide +kernel) ?_
      refine sw_mem e9 ?_
      refine sw_goto (off := 48) 210 (by decide +kernel) (by decide) ?_
      exact sX10_readLine_L210 hK m8 h hk
set_option maxRecDepth 20000 in
theorem sX10_readLine_L102 {l : Launch} {E : sw_E} {K : Nat} (hK : 6 ≤ K) (σ : sw_M) {res : sw_M} {t : (sw_M)} (h : fX10_readLine_L102 σ = some t) (hk : (fun q => q = res) t) : sw_Go l E K RX10 cX10_readLine 1 none 102 [(0, .ref 49)] [] σ none res := by
  unfold fX10_readLine_L102 at h
  refine sw_aload_n (k0 := 0) 0 rfl (by decide +kernel) rfl ?_
  refine sw_ldc2 kn_X10_175 (by decide +kernel) ?_
  refine sw_callVi (ci := 10) (i := 49) [.long 491395442035] (sX10_isWord (K := K - 1) (by omega) σ 491395442035 rfl) rfl (by omega) rfl gs_X10_203 hy_X10_isWord (by decide) (by decide) rfl rfl (Nat.le_of_ble_eq_true rfl) (by decide +kernel) ?_
  refine sw_if_eq (off := 17) 126 (by decide +kernel) (by decide) (fun c1 => ?_) (fun c1 => ?_)
  · rw [if_pos c1] at h
    exact sX10_readLine_L126 hK σ h hk
  · rw [if_neg c1] at h
    refine sw_aload_n (k0 := 0) 0 rfl (by decide +kernel) rfl ?_
    refine gf_X10_268 (i := 49) (by decide) rfl (by decide +kernel) ?_
    refine sw_if_ne (off := 10) 126 (by decide +kernel) (by decide) (fun c2 => ?_) (fun c2 => ?_)
    · rw [if_neg c2] at h
      exact sX10_readLine_L126 hK σ h hk
    · rw [if_pos c2] at h
      refine sw_aload_n (k0 := 0) 0 rfl (by decide +kernel) rfl ?_
      obtain ⟨m3, w4, h⟩ := sw_b1_e h
      refine sw_callVv (ci := 10) (i := 49) [] (sX10_formula (K := K - 1) (by omega) σ w4) rfl (by omega) rfl gs_X10_356 hy_X10_formula (by decide) (by decide) rfl rfl (Nat.le_of_ble_eq_true rfl) (by decide +kernel) ?_
      refine sw_goto (off := 87) 210 (by decide +kernel) (by decide) ?_
      exact sX10_readLine_L210 hK m3 h hk
set_option maxRecDepth 20000 in
theorem sX10_readLine_L77 {l : Launch} {E : sw_E} {K : Nat} (hK : 6 ≤ K) (σ : sw_M) {res : sw_M} {t : (sw_M)} (h : fX10_readLine_L77 σ = some t) (hk : (fun q => q = res) t) : sw_Go l E K RX10 cX10_readLine 1 none 77 [(0, .ref 49)] [] σ none res := by
  unfold fX10_readLine_L77 at h
  refine sw_aload_n (k0 := 0) 0 rfl (by decide +kernel) rfl ?_
  refine sw_ldc2 kn_X10_171 (by decide +kernel) ?_
  refine sw_callVi (ci := 10) (i := 49) [.long 422541748590] (sX10_isWord (K := K - 1) (by omega) σ 422541748590 rfl) rfl (by omega) rfl gs_X10_203 hy_X10_isWord (by decide) (by decide) rfl rfl (Nat.le_of_ble_eq_true rfl) (by decide +kernel) ?_
  refine sw_if_eq (off := 18) 102 (by decide +kernel) (by decide) (fun c1 => ?_) (fun c1 => ?_)
  · rw [if_pos c1] at h
    exact sX10_readLine_L102 hK σ h hk
  · rw [if_neg c1] at h
    refine sw_aload_n (k0 := 0) 0 rfl (by decide +kernel) rfl ?_
    refine gf_X10_338 (i := 49) (by decide) rfl (by decide +kernel) ?_
    refine sw_iconst (n := 4) (v := 4) (by decide +kernel) (by decide) ?_
    refine sw_icmp_ge (off := 10) 102 (by decide +kernel) (by decide) (fun c2 => ?_) (fun c2 => ?_)
    · rw [if_pos c2] at h
      exact sX10_readLine_L102 hK σ h hk
    · rw [if_neg c2] at h
      refine sw_aload_n (k0 := 0) 0 rfl (by decide +kernel) rfl ?_
      obtain ⟨m3, w4, h⟩ := sw_b1_e h
      refine sw_callVv (ci := 10) (i := 49) [] (sX10_readBasin (K := K - 1) (by omega) σ w4) rfl (by omega) rfl gs_X10_353 hy_X10_readBasin (by decide) (by decide) rfl rfl (Nat.le_of_ble_eq_true rfl) (by decide +kernel) ?_
      refine sw_goto (off := 111) 210 (by decide +kernel) (by decide) ?_
      exact sX10_readLine_L210 hK m3 h hk
set_option maxRecDepth 20000 in
theorem sX10_readLine_L51 {l : Launch} {E : sw_E} {K : Nat} (hK : 6 ≤ K) (σ : sw_M) {res : sw_M} {t : (sw_M)} (h : fX10_readLine_L51 σ = some t) (hk : (fun q => q = res) t) : sw_Go l E K RX10 cX10_readLine 1 none 51 [(0, .ref 49)] [] σ none res := by
  unfold fX10_readLine_L51 at h
  refine sw_aload_n (k0 := 0) 0 rfl (by decide +kernel) rfl ?_
  refine sw_ldc2 kn_X10_167 (by decide +kernel) ?_
  refine sw_callVi (ci := 10) (i := 49) [.long 422775975027] (sX10_isWord (K := K - 1) (by omega) σ 422775975027 rfl) rfl (by omega) rfl gs_X10_203 hy_X10_isWord (by decide) (by decide) rfl rfl (Nat.le_of_ble_eq_true rfl) (by decide +kernel) ?_
  refine sw_if_eq (off := 19) 77 (by decide +kernel) (by decide) (fun c1 => ?_) (fun c1 => ?_)
  · rw [if_pos c1] at h
    exact sX10_readLine_L77 hK σ h hk
  · rw [if_neg c1] at h
    refine sw_aload_n (k0 := 0) 0 rfl (by decide +kernel) rfl ?_
    refine gf_X10_341 (i := 49) (by decide) rfl (by decide +kernel) ?_
    refine sw_bipush (n := 6) (v := 6) (by decide +kernel) (by decide) ?_
    refine sw_icmp_ge (off := 10) 77 (by decide +kernel) (by decide) (fun c2 => ?_) (fun c2 => ?_)
    · rw [if_pos c2] at h
      exact sX10_readLine_L77 hK σ h hk
    · rw [if_neg c2] at h
      refine sw_aload_n (k0 := 0) 0 rfl (by decide +kernel) rfl ?_
      obtain ⟨m3, w4, h⟩ := sw_b1_e h
      refine sw_callVv (ci := 10) (i := 49) [] (sX10_readRule (K := K - 1) (by omega) σ w4) rfl (by omega) rfl gs_X10_350 hy_X10_readRule (by decide) (by decide) rfl rfl (Nat.le_of_ble_eq_true rfl) (by decide +kernel) ?_
      refine sw_goto (off := 136) 210 (by decide +kernel) (by decide) ?_
      exact sX10_readLine_L210 hK m3 h hk
set_option maxRecDepth 20000 in
theorem sX10_readLine_L25 {l : Launch} {E : sw_E} {K : Nat} (hK : 6 ≤ K) (σ : sw_M) {res : sw_M} {t : (sw_M)} (h : fX10_readLine_L25 σ = some t) (hk : (fun q => q = res) t) : sw_Go l E K RX10 cX10_readLine 1 none 25 [(0, .ref 49)] [] σ none res := by
  unfold fX10_readLine_L25 at h
  refine sw_aload_n (k0 := 0) 0 rfl (by decide +kernel) rfl ?_
  refine sw_ldc2 kn_X10_163 (by decide +kernel) ?_
  refine sw_callVi (ci := 10) (i := 49) [.long 123581014175598] (sX10_isWord (K := K - 1) (by omega) σ 123581014175598 rfl) rfl (by omega) rfl gs_X10_203 hy_X10_isWord (by decide) (by decide) rfl rfl (Nat.le_of_ble_eq_true rfl) (by decide +kernel) ?_
  refine sw_if_eq (off := 19) 51 (by decide +kernel) (by decide) (fun c1 => ?_) (fun c1 => ?_)
  · rw [if_pos c1] at h
    exact sX10_readLine_L51 hK σ h hk
  · rw [if_neg c1] at h
    refine sw_aload_n (k0 := 0) 0 rfl (by decide +kernel) rfl ?_
    refine gf_X10_329 (i := 49) (by decide) rfl (by decide +kernel) ?_
    refine sw_bipush (n := 7) (v := 7) (by decide +kernel) (by decide) ?_
    refine sw_icmp_ge (off := 10) 51 (by decide +kernel) (by decide) (fun c2 => ?_) (fun c2 => ?_)
    · rw [if_pos c2] at h
      exact sX10_readLine_L51 hK σ h hk
    · rw [if_neg c2] at h
      refine sw_aload_n (k0 := 0) 0 rfl (by decide +kernel) rfl ?_
      obtain ⟨m3, w4, h⟩ := sw_b1_e h
      refine sw_callVv (ci := 10) (i := 49) [] (sX10_readPerson (K := K - 1) (by omega) σ w4) rfl (by omega) rfl gs_X10_347 hy_X10_readPerson (by decide) (by decide) rfl rfl (Nat.le_of_ble_eq_true rfl) (by decide +kernel) ?_
      refine sw_goto (off := 162) 210 (by decide +kernel) (by decide) ?_
      exact sX10_readLine_L210 hK m3 h hk
set_option maxRecDepth 20000 in
theorem sX10_readLine {l : Launch} {E : sw_E} {K : Nat} (hK : 6 ≤ K) (σ : sw_M) {res : sw_M} (h : fX10_readLine σ = some res) : sw_Ct l E K yX10_readLine cX10_readLine 1 none [.ref 49] σ none res := by
  obtain ⟨t, hk, h⟩ : ∃ t, t = res ∧ fX10_readLine σ = some t := ⟨res, rfl, h⟩
  unfold fX10_readLine at h
  refine sw_enter2 (own := RX10) (lv := [(0, .ref 49)]) (by decide +kernel) (Nat.le_of_ble_eq_true rfl) rfl rfl ?_
  refine sw_aload_n (k0 := 0) 0 rfl (by decide +kernel) rfl ?_
  refine sw_ldc2 kn_X10_161 (by decide +kernel) ?_
  refine sw_callVi (ci := 10) (i := 49) [.long 1802071652] (sX10_isWord (K := K - 1) (by omega) σ 1802071652 rfl) rfl (by omega) rfl gs_X10_203 hy_X10_isWord (by decide) (by decide) rfl rfl (Nat.le_of_ble_eq_true rfl) (by decide +kernel) ?_
  refine sw_if_eq (off := 18) 25 (by decide +kernel) (by decide) (fun c1 => ?_) (fun c1 => ?_)
  · rw [if_pos c1] at h
    exact sX10_readLine_L25 hK σ h hk
  · rw [if_neg c1] at h
    refine sw_aload_n (k0 := 0) 0 rfl (by decide +kernel) rfl ?_
    refine gf_X10_227 (i := 49) (by decide) rfl (by decide +kernel) ?_
    refine sw_iconst (n := 5) (v := 5) (by decide +kernel) (by decide) ?_
    refine sw_icmp_ge (off := 10) 25 (by decide +kernel) (by decide) (fun c2 => ?_) (fun c2 => ?_)
    · rw [if_pos c2] at h
      exact sX10_readLine_L25 hK σ h hk
    · rw [if_neg c2] at h
      refine sw_aload_n (k0 := 0) 0 rfl (by decide +kernel) rfl ?_
      obtain ⟨m3, w4, h⟩ := sw_b1_e h
      refine sw_callVv (ci := 10) (i := 49) [] (sX10_readKind (K := K - 1) (by omega) σ w4) rfl (by omega) rfl gs_X10_344 hy_X10_readKind (by decide) (by decide) rfl rfl (Nat.le_of_ble_eq_true rfl) (by decide +kernel) ?_
      refine sw_goto (off := 188) 210 (by decide +kernel) (by decide) ?_
      exact sX10_readLine_L210 hK m3 h hk
def fX10_readAll_L87 (σ : sw_M) : Option ((sw_M) ⊕ (sw_M)) :=
  if (σ.1 49 2) = 0 then
    if (σ.1 49 6) = 0 then
      some (.inr (σ))
    else
      sw_b1 (fX10_readLine σ) fun m3 =>
      some (.inl m3)
  else
    some (.inr (σ))
def fX10_readAll (σ : sw_M) : Option (sw_M) :=
  sw_let (sw_w σ 49 5 (σ.1 49 1)) fun m1 =>
  sw_let (sw_w m1 49 1 0) fun m3 =>
  sw_let (sw_w m3 49 4 0) fun m5 =>
  sw_let (sw_w m5 49 2 0) fun m7 =>
  sw_let (sw_w m7 49 3 (-1)) fun m9 =>
  sw_let (sw_w m9 49 33 0) fun m11 =>
  sw_let (sw_w m11 49 34 0) fun m13 =>
  sw_let (sw_w m13 49 35 0) fun m15 =>
  sw_let (sw_w m15 49 36 0) fun m17 =>
  sw_let (sw_w m17 49 37 0) fun m19 =>
  sw_let (sw_w m19 49 38 0) fun m21 =>
  sw_let (sw_w m21 49 39 0) fun m23 =>
  sw_let (sw_w m23 49 46 0) fun m25 =>
  sw_let (sw_w m25 49 47 0) fun m27 =>
  sw_let (sw_w m27 49 24 0) fun m29 =>
  sw_let (sw_w m29 49 20 0) fun m31 =>
  sw_b1 (fX10_token m31) fun m33 =>
  sw_wh sw_F (fun s => fX10_readAll_L87 s) m33
set_option maxRecDepth 20000 in
theorem sX10_readAll_L87 {l : Launch} {E : sw_E} {K : Nat} (hK : 7 ≤ K) (σ : sw_M) {res : sw_M} {t : (sw_M) ⊕ (sw_M)} (h : fX10_readAll_L87 σ = some t) (hk : (Sum.elim (fun s : sw_M => sw_Go l E K RX10 cX10_readAll 1 none 87 [(0, .ref 49)] [] s none res) (fun q => q = res)) t) : sw_Go l E K RX10 cX10_readAll 1 none 87 [(0, .ref 49)] [] σ none res := by
  unfold fX10_readAll_L87 at h
  refine sw_aload_n (k0 := 0) 0 rfl (by decide +kernel) rfl ?_
  refine gf_X10_158 (i := 49) (by decide) rfl (by decide +kernel) ?_
  refine sw_if_ne (off := 17) 108 (by decide +kernel) (by decide) (fun c1 => ?_) (fun c1 => ?_)
  · rw [if_neg c1] at h
    cases h
    obtain rfl : _ = res := hk
    exact sw_vret (by decide +kernel)
  · rw [if_pos c1] at h
    refine sw_aload_n (k0 := 0) 0 rfl (by decide +kernel) rfl ?_
    refine gf_X10_145 (i := 49) (by decide) rfl (by decide +kernel) ?_
    refine sw_if_eq (off := 10) 108 (by decide +kernel) (by decide) (fun c2 => ?_) (fun c2 => ?_)
    · rw [if_pos c2] at h
      cases h
      obtain rfl : _ = res := hk
      exact sw_vret (by decide +kernel)
    · rw [if_neg c2] at h
      refine sw_aload_n (k0 := 0) 0 rfl (by decide +kernel) rfl ?_
      obtain ⟨m3, w4, h⟩ := sw_b1_e h
      refine sw_callVv (ci := 10) (i := 49) [] (sX10_readLine (K := K - 1) (by omega) σ w4) rfl (by omega) rfl gs_X10_375 hy_X10_readLine (by decide) (by decide) rfl rfl (Nat.le_of_ble_eq_true rfl) (by decide +kernel) ?_
      refine sw_goto (off := (-18)) 87 (by decide +kernel) (by decide) ?_
      cases h
      exact hk
set_option maxRecDepth 20000 in
theorem sX10_readAll {l : Launch} {E : sw_E} {K : Nat} (hK : 7 ≤ K) (σ : sw_M) {res : sw_M} (h : fX10_readAll σ = some res) : sw_Ct l E K yX10_readAll cX10_readAll 1 none [.ref 49] σ none res := by
  obtain ⟨t, hk, h⟩ : ∃ t, t = res ∧ fX10_readAll σ = some t := ⟨res, rfl, h⟩
  unfold fX10_readAll at h
  refine sw_enter2 (own := RX10) (lv := [(0, .ref 49)]) (by decide +kernel) (Nat.le_of_ble_eq_true rfl) rfl rfl ?_
  refine sw_aload_n (k0 := 0) 0 rfl (by decide +kernel) rfl ?_
  refine sw_aload_n (k0 := 0) 0 rfl (by decide +kernel) rfl ?_
  refine gf_X10_118 (i := 49) (by decide) rfl (by decide +kernel) ?_
  obtain ⟨m1, e2, h⟩ := sw_let_e h
  refine pf_X10_128 (by decide) rfl (by decide +kernel) ?_
  refine sw_mem e2 ?_
  refine sw_aload_n (k0 := 0) 0 rfl (by decide +kernel) rfl ?_
  refine sw_iconst (n := 0) (v := 0) (by decide +kernel) (by decide) ?_
  obtain ⟨m3, e4, h⟩ := sw_let_e h
  refine pf_X10_118 (by decide) rfl (by decide +kernel) ?_
  refine sw_mem e4 ?_
  refine sw_aload_n (k0 := 0) 0 rfl (by decide +kernel) rfl ?_
  refine sw_iconst (n := 0) (v := 0) (by decide +kernel) (by decide) ?_
  obtain ⟨m5, e6, h⟩ := sw_let_e h
  refine pf_X10_125 (by decide) rfl (by decide +kernel) ?_
  refine sw_mem e6 ?_
  refine sw_aload_n (k0 := 0) 0 rfl (by decide +kernel) rfl ?_
  refine sw_iconst (n := 0) (v := 0) (by decide +kernel) (by decide) ?_
  obtain ⟨m7, e8, h⟩ := sw_let_e h
  refine pf_X10_158 (by decide) rfl (by decide +kernel) ?_
  refine sw_mem e8 ?_
  refine sw_aload_n (k0 := 0) 0 rfl (by decide +kernel) rfl ?_
  refine sw_iconst (n := (-1)) (v := (-1)) (by decide +kernel) (by decide) ?_
  obtain ⟨m9, e10, h⟩ := sw_let_e h
  refine pf_X10_13 (by decide) rfl (by decide +kernel) ?_
  refine sw_mem e10 ?_
  refine sw_aload_n (k0 := 0) 0 rfl (by decide +kernel) rfl ?_
  refine sw_iconst (n := 0) (v := 0) (by decide +kernel) (by decide) ?_
  obtain ⟨m11, e12, h⟩ := sw_let_e h
  refine pf_X10_227 (by decide) rfl (by decide +kernel) ?_
  refine sw_mem e12 ?_
  refine sw_aload_n (k0 := 0) 0 rfl (by decide +kernel) rfl ?_
  refine sw_iconst (n := 0) (v := 0) (by decide +kernel) (by decide) ?_
  obtain ⟨m13, e14, h⟩ := sw_let_e h
  refine pf_X10_329 (by decide) rfl (by decide +kernel) ?_
  refine sw_mem e14 ?_
  refine sw_aload_n (k0 := 0) 0 rfl (by decide +kernel) rfl ?_
  refine sw_iconst (n := 0) (v := 0) (by decide +kernel) (by decide) ?_
  obtain ⟨m15, e16, h⟩ := sw_let_e h
  refine pf_X10_338 (by decide) rfl (by decide +kernel) ?_
  refine sw_mem e16 ?_
  refine sw_aload_n (k0 := 0) 0 rfl (by decide +kernel) rfl ?_
  refine sw_iconst (n := 0) (v := 0) (by decide +kernel) (by decide) ?_
  obtain ⟨m17, e18, h⟩ := sw_let_e h
  refine pf_X10_341 (by decide) rfl (by decide +kernel) ?_
  refine sw_mem e18 ?_
  refine sw_aload_n (k0 := 0) 0 rfl (by decide +kernel) rfl ?_
  refine sw_iconst (n := 0) (v := 0) (by decide +kernel) (by decide) ?_
  obtain ⟨m19, e20, h⟩ := sw_let_e h
  refine pf_X10_335 (by decide) rfl (by decide +kernel) ?_
  refine sw_mem e20 ?_
  refine sw_aload_n (k0 := 0) 0 rfl (by decide +kernel) rfl ?_
  refine sw_iconst (n := 0) (v := 0) (by decide +kernel) (by decide) ?_
  obtain ⟨m21, e22, h⟩ := sw_let_e h
  refine pf_X10_366 (by decide) rfl (by decide +kernel) ?_
  refine sw_mem e22 ?_
  refine sw_aload_n (k0 := 0) 0 rfl (by decide +kernel) rfl ?_
  refine sw_iconst (n := 0) (v := 0) (by decide +kernel) (by decide) ?_
  obtain ⟨m23, e24, h⟩ := sw_let_e h
  refine pf_X10_372 (by decide) rfl (by decide +kernel) ?_
  refine sw_mem e24 ?_
  refine sw_aload_n (k0 := 0) 0 rfl (by decide +kernel) rfl ?_
  refine sw_iconst (n := 0) (v := 0) (by decide +kernel) (by decide) ?_
  obtain ⟨m25, e26, h⟩ := sw_let_e h
  refine pf_X10_359 (Or.inl rfl) (by decide) rfl (by decide +kernel) ?_
  refine sw_mem e26 ?_
  refine sw_aload_n (k0 := 0) 0 rfl (by decide +kernel) rfl ?_
  refine sw_iconst (n := 0) (v := 0) (by decide +kernel) (by decide) ?_
  obtain ⟨m27, e28, h⟩ := sw_let_e h
  refine pf_X10_369 (Or.inl rfl) (by decide) rfl (by decide +kernel) ?_
  refine sw_mem e28 ?_
  refine sw_aload_n (k0 := 0) 0 rfl (by decide +kernel) rfl ?_
  refine sw_iconst (n := 0) (v := 0) (by decide +kernel) (by decide) ?_
  obtain ⟨m29, e30, h⟩ := sw_let_e h
  refine pf_X10_268 (Or.inl rfl) (by decide) rfl (by decide +kernel) ?_
  refine sw_mem e30 ?_
  refine sw_aload_n (k0 := 0) 0 rfl (by decide +kernel) rfl ?_
  refine sw_iconst (n := 0) (v := 0) (by decide +kernel) (by decide) ?_
  obtain ⟨m31, e32, h⟩ := sw_let_e h
  refine pf_X10_246 (by decide) rfl (by decide +kernel) ?_
  refine sw_mem e32 ?_
  refine sw_aload_n (k0 := 0) 0 rfl (by decide +kernel) rfl ?_
  obtain ⟨m33, w34, h⟩ := sw_b1_e h
  refine sw_callVv (ci := 10) (i := 49) [] (sX10_token (K := K - 1) (by omega) m31 w34) rfl (by omega) rfl gs_X10_210 hy_X10_token (by decide) (by decide) rfl rfl (Nat.le_of_ble_eq_true rfl) (by decide +kernel) ?_
  exact sw_wh_e (fun s : sw_M => sw_Go l E K RX10 cX10_readAll 1 none 87 [(0, .ref 49)] [] s none res) (fun q => q = res) (fun s => fX10_readAll_L87 s) (fun s t hb hk => sX10_readAll_L87 hK s hb hk) _ _ _ h hk
