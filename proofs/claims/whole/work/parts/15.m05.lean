def fX5_readFormula_L49 (rec : Nat → sw_M → Int32 → Int32 → Option (Int32 × sw_M)) (σ : sw_M) (a1 : Int32) (a2 : Int32) (a3 : Int32) : Option ((Int32 × sw_M) ⊕ (Int32 × sw_M)) :=
  if 30 < a3 then
    some (.inr ((1, σ)))
  else
    sw_let (fX5_signOfLevel σ a1) fun v2 =>
    if v2 = 0 then
      some (.inr ((1, σ)))
    else
      sw_b1 (fX7_readNext σ) fun m5 =>
      sw_b2 (rec 0 m5 (a1 + 1) a2) fun r7 m8 =>
      if r7 = 0 then
        some (.inr ((0, m8)))
      else
        sw_b1 (fX2_add ((sw_pl (m8.2.2 1)) + 7) m8 (-v2)) fun m11 =>
        if a1 = 2 then
          some (.inr ((1, m11)))
        else
          sw_let (a3 + 1) fun v14 =>
          some (.inl (v14, m11))
def fX5_readFormula_L34 (rec : Nat → sw_M → Int32 → Int32 → Option (Int32 × sw_M)) (σ : sw_M) (a1 : Int32) (a2 : Int32) : Option ((Int32 × sw_M)) :=
  sw_b2 (rec 0 σ (a1 + 1) a2) fun r1 m2 =>
  if r1 = 0 then
    some ((0, m2))
  else
    sw_wh sw_F (fun s => fX5_readFormula_L49 rec s.2 a1 a2 s.1) (1, m2)
def fX5_readFormula (rec : Nat → sw_M → Int32 → Int32 → Option (Int32 × sw_M)) (σ : sw_M) (a1 : Int32) (a2 : Int32) : Option (Int32 × sw_M) :=
  if a1 < 5 then
    if a1 = 2 then
      if (σ.1 2 7) = 12 then
        sw_b2 (rec 1 σ a2 0) fun r4 m5 =>
        sw_gd (sw_bo r4) <|
        some ((r4, m5))
      else
        fX5_readFormula_L34 rec σ a1 a2
    else
      fX5_readFormula_L34 rec σ a1 a2
  else
    sw_b2 (rec 2 σ a2 0) fun r8 m9 =>
    sw_gd (sw_bo r8) <|
    some ((r8, m9))
set_option maxRecDepth 20000 in
theorem sX5_readFormula_L49 {l : Launch} {E : sw_E} {K : Nat} (hE : sw_RS l E) (hK : 12 ≤ K) (rec : Nat → sw_M → Int32 → Int32 → Option (Int32 × sw_M)) (hrec : (∀ (σ : sw_M) (a b : Int32) (res : Int32 × sw_M), rec 0 σ a b = some res → sw_Ct l E (K - 1) yX5_readFormula cX5_readFormula 5 (some .boolean) [.ref 1, .int a, .int b] σ (some (.int res.1)) res.2) ∧ (∀ (σ : sw_M) (a b : Int32) (res : Int32 × sw_M), rec 1 σ a b = some res → sw_Ct l E (K - 1) yX5_readNot cX5_readNot 2 (some .boolean) [.ref 1, .int a] σ (some (.int res.1)) res.2) ∧ (∀ (σ : sw_M) (a b : Int32) (res : Int32 × sw_M), rec 2 σ a b = some res → sw_Ct l E (K - 1) yX5_readUnit cX5_readUnit 3 (some .boolean) [.ref 1, .int a] σ (some (.int res.1)) res.2)) (σ : sw_M) (a1 : Int32) (a2 : Int32) (a3 : Int32) {res : Int32 × sw_M} {t : (Int32 × sw_M) ⊕ (Int32 × sw_M)} (h : fX5_readFormula_L49 rec σ a1 a2 a3 = some t) (hk : (Sum.elim (fun s : Int32 × sw_M => sw_Go l E K RX5 cX5_readFormula 5 (some .boolean) 49 [(0, .ref 1), (1, .int a1), (2, .int a2), (3, .int s.1)] [] s.2 (some (.int res.1)) res.2) (fun q => q = res)) t) : sw_Go l E K RX5 cX5_readFormula 5 (some .boolean) 49 [(0, .ref 1), (1, .int a1), (2, .int a2), (3, .int a3)] [] σ (some (.int res.1)) res.2 := by
  unfold fX5_readFormula_L49 at h
  refine sw_iload_n (k0 := 3) 3 rfl (by decide +kernel) rfl ?_
  refine sw_bipush (n := 30) (v := 30) (by decide +kernel) (by decide) ?_
  refine sw_icmp_gt (off := 63) 115 (by decide +kernel) (by decide) (fun c1 => ?_) (fun c1 => ?_)
  · rw [if_pos c1] at h
    refine sw_iconst (n := 1) (v := 1) (by decide +kernel) (by decide) ?_
    cases h
    obtain rfl : _ = res := hk
    exact sw_zret rfl (by decide +kernel)
  · rw [if_neg c1] at h
    refine sw_aload_n (k0 := 0) 0 rfl (by decide +kernel) rfl ?_
    refine sw_iload_n (k0 := 1) 1 rfl (by decide +kernel) rfl ?_
    refine sw_callVi (ci := 5) (i := 1) [.int a1] (sX5_signOfLevel (K := K - 1) (by omega) σ a1 rfl) rfl (by omega) rfl gs_X5_189 hy_X5_signOfLevel (by decide) (by decide) rfl rfl (Nat.le_of_ble_eq_true rfl) (by decide +kernel) ?_
    obtain ⟨v2, e3, h⟩ := sw_let_e h
    refine sw_topi e3 ?_
    refine sw_istore (i := 4) (lv' := [(4, .int v2), (0, .ref 1), (1, .int a1), (2, .int a2), (3, .int a3)]) (by decide +kernel) (by decide) rfl ?_
    refine sw_iload 0 rfl (by decide +kernel) ?_
    refine sw_if_ne (off := 5) 69 (by decide +kernel) (by decide) (fun c4 => ?_) (fun c4 => ?_)
    · rw [if_neg c4] at h
      refine sw_aload_n (k0 := 0) 1 rfl (by decide +kernel) rfl ?_
      refine gf_X5_12 (i := 1) (by decide) rfl (by decide +kernel) ?_
      refine sw_refj 2 rfl ?_
      obtain ⟨m5, w6, h⟩ := sw_b1_e h
      refine sw_callVv (ci := 7) (i := 2) [] (sX7_readNext (K := K - 1) hE (by omega) σ w6) rfl (by omega) rfl gs_X5_76 hy_X7_readNext (by decide) (by decide) rfl rfl (Nat.le_of_ble_eq_true rfl) (by decide +kernel) ?_
      refine sw_aload_n (k0 := 0) 1 rfl (by decide +kernel) rfl ?_
      refine sw_iload_n (k0 := 1) 2 rfl (by decide +kernel) rfl ?_
      refine sw_iconst (n := 1) (v := 1) (by decide +kernel) (by decide) ?_
      refine sw_iadd (by decide +kernel) ?_
      refine sw_iload_n (k0 := 2) 3 rfl (by decide +kernel) rfl ?_
      obtain ⟨r7, m8, w9, h⟩ := sw_b2_e h
      refine sw_callVi (ci := 5) (i := 1) [.int (a1 + 1), .int a2] (hrec.1 _ _ _ _ w9) rfl (by omega) rfl gs_X5_146 hy_X5_readFormula (by decide) (by decide) rfl rfl (Nat.le_of_ble_eq_true rfl) (by decide +kernel) ?_
      refine sw_if_ne (off := 5) 89 (by decide +kernel) (by decide) (fun c10 => ?_) (fun c10 => ?_)
      · rw [if_neg c10] at h
        refine sw_aload_n (k0 := 0) 1 rfl (by decide +kernel) rfl ?_
        refine gf_X5_21 (i := 1) (by decide) rfl (by decide +kernel) ?_
        refine gf_X5_137 (i := (sw_pl (m8.2.2 1))) (sw_pl_P _).o.1 (sw_pl_P _).o.2 (by decide +kernel) ?_
        refine sw_iload 0 rfl (by decide +kernel) ?_
        refine sw_ineg (by decide +kernel) ?_
        obtain ⟨m11, w12, h⟩ := sw_b1_e h
        refine sw_callVv (ci := 2) (i := ((sw_pl (m8.2.2 1)) + 7)) [.int (-v2)] (sX2_add (K := K - 1) (by omega) ((sw_pl (m8.2.2 1)) + 7) (sw_pl_P _).F m8 (-v2) w12) rfl (by omega) rfl gs_X5_193 hy_X2_add (by decide) (sw_pl_P _).F.o.1 (sw_pl_P _).F.o.2 rfl (Nat.le_of_ble_eq_true rfl) (by decide +kernel) ?_
        refine sw_iload_n (k0 := 1) 2 rfl (by decide +kernel) rfl ?_
        refine sw_iconst (n := 2) (v := 2) (by decide +kernel) (by decide) ?_
        refine sw_icmp_ne (off := 5) 109 (by decide +kernel) (by decide) (fun c13 => ?_) (fun c13 => ?_)
        · rw [if_neg c13] at h
          obtain ⟨v14, e15, h⟩ := sw_let_e h
          refine sw_iincv (i := 3) (n := 1) (lv' := [(3, .int v14), (4, .int v2), (0, .ref 1), (1, .int a1), (2, .int a2)]) 4 rfl e15 (by decide +kernel) (by decide) (by decide) rfl ?_
          refine sw_goto (off := (-63)) 49 (by decide +kernel) (by decide) ?_
          cases h
          refine sw_lv [2, 3, 4, 0] rfl ?_
          exact hk
        · rw [if_pos c13] at h
          refine sw_iconst (n := 1) (v := 1) (by decide +kernel) (by decide) ?_
          cases h
          obtain rfl : _ = res := hk
          exact sw_zret rfl (by decide +kernel)
      · rw [if_pos c10] at h
        refine sw_iconst (n := 0) (v := 0) (by decide +kernel) (by decide) ?_
        cases h
        obtain rfl : _ = res := hk
        exact sw_zret rfl (by decide +kernel)
    · rw [if_pos c4] at h
      refine sw_iconst (n := 1) (v := 1) (by decide +kernel) (by decide) ?_
      cases h
      obtain rfl : _ = res := hk
      exact sw_zret rfl (by decide +kernel)
set_option maxRecDepth 20000 in
theorem sX5_readFormula_L34 {l : Launch} {E : sw_E} {K : Nat} (hE : sw_RS l E) (hK : 12 ≤ K) (rec : Nat → sw_M → Int32 → Int32 → Option (Int32 × sw_M)) (hrec : (∀ (σ : sw_M) (a b : Int32) (res : Int32 × sw_M), rec 0 σ a b = some res → sw_Ct l E (K - 1) yX5_readFormula cX5_readFormula 5 (some .boolean) [.ref 1, .int a, .int b] σ (some (.int res.1)) res.2) ∧ (∀ (σ : sw_M) (a b : Int32) (res : Int32 × sw_M), rec 1 σ a b = some res → sw_Ct l E (K - 1) yX5_readNot cX5_readNot 2 (some .boolean) [.ref 1, .int a] σ (some (.int res.1)) res.2) ∧ (∀ (σ : sw_M) (a b : Int32) (res : Int32 × sw_M), rec 2 σ a b = some res → sw_Ct l E (K - 1) yX5_readUnit cX5_readUnit 3 (some .boolean) [.ref 1, .int a] σ (some (.int res.1)) res.2)) (σ : sw_M) (a1 : Int32) (a2 : Int32) {res : Int32 × sw_M} {t : (Int32 × sw_M)} (h : fX5_readFormula_L34 rec σ a1 a2 = some t) (hk : (fun q => q = res) t) : sw_Go l E K RX5 cX5_readFormula 5 (some .boolean) 34 [(0, .ref 1), (1, .int a1), (2, .int a2)] [] σ (some (.int res.1)) res.2 := by
  unfold fX5_readFormula_L34 at h
  refine sw_aload_n (k0 := 0) 0 rfl (by decide +kernel) rfl ?_
  refine sw_iload_n (k0 := 1) 1 rfl (by decide +kernel) rfl ?_
  refine sw_iconst (n := 1) (v := 1) (by decide +kernel) (by decide) ?_
  refine sw_iadd (by decide +kernel) ?_
  refine sw_iload_n (k0 := 2) 2 rfl (by decide +kernel) rfl ?_
  obtain ⟨r1, m2, w3, h⟩ := sw_b2_e h
  refine sw_callVi (ci := 5) (i := 1) [.int (a1 + 1), .int a2] (hrec.1 _ _ _ _ w3) rfl (by omega) rfl gs_X5_146 hy_X5_readFormula (by decide) (by decide) rfl rfl (Nat.le_of_ble_eq_true rfl) (by decide +kernel) ?_
  refine sw_if_ne (off := 5) 47 (by decide +kernel) (by decide) (fun c4 => ?_) (fun c4 => ?_)
  · rw [if_neg c4] at h
    refine sw_iconst (n := 1) (v := 1) (by decide +kernel) (by decide) ?_
    refine sw_istore_n (k0 := 3) (lv' := [(3, .int 1), (0, .ref 1), (1, .int a1), (2, .int a2)]) (by decide +kernel) rfl (by decide) rfl ?_
    refine sw_lv [1, 2, 3, 0] rfl ?_
    exact sw_wh_e (fun s : Int32 × sw_M => sw_Go l E K RX5 cX5_readFormula 5 (some .boolean) 49 [(0, .ref 1), (1, .int a1), (2, .int a2), (3, .int s.1)] [] s.2 (some (.int res.1)) res.2) (fun q => q = res) (fun s => fX5_readFormula_L49 rec s.2 a1 a2 s.1) (fun s t hb hk => sX5_readFormula_L49 hE hK rec hrec s.2 a1 a2 s.1 hb hk) _ _ _ h hk
  · rw [if_pos c4] at h
    refine sw_iconst (n := 0) (v := 0) (by decide +kernel) (by decide) ?_
    cases h
    obtain rfl : _ = res := hk
    exact sw_zret rfl (by decide +kernel)
set_option maxRecDepth 20000 in
theorem sX5_readFormula {l : Launch} {E : sw_E} {K : Nat} (hE : sw_RS l E) (hK : 12 ≤ K) (rec : Nat → sw_M → Int32 → Int32 → Option (Int32 × sw_M)) (hrec : (∀ (σ : sw_M) (a b : Int32) (res : Int32 × sw_M), rec 0 σ a b = some res → sw_Ct l E (K - 1) yX5_readFormula cX5_readFormula 5 (some .boolean) [.ref 1, .int a, .int b] σ (some (.int res.1)) res.2) ∧ (∀ (σ : sw_M) (a b : Int32) (res : Int32 × sw_M), rec 1 σ a b = some res → sw_Ct l E (K - 1) yX5_readNot cX5_readNot 2 (some .boolean) [.ref 1, .int a] σ (some (.int res.1)) res.2) ∧ (∀ (σ : sw_M) (a b : Int32) (res : Int32 × sw_M), rec 2 σ a b = some res → sw_Ct l E (K - 1) yX5_readUnit cX5_readUnit 3 (some .boolean) [.ref 1, .int a] σ (some (.int res.1)) res.2)) (σ : sw_M) (a1 : Int32) (a2 : Int32) {res : Int32 × sw_M} (h : fX5_readFormula rec σ a1 a2 = some res) : sw_Ct l E K yX5_readFormula cX5_readFormula 5 (some .boolean) [.ref 1, .int a1, .int a2] σ (some (.int res.1)) res.2 := by
  obtain ⟨t, hk, h⟩ : ∃ t, t = res ∧ fX5_readFormula rec σ a1 a2 = some t := ⟨res, rfl, h⟩
  unfold fX5_readFormula at h
  refine sw_enter2 (own := RX5) (lv := [(0, .ref 1), (1, .int a1), (2, .int a2)]) (by decide +kernel) (Nat.le_of_ble_eq_true rfl) rfl rfl ?_
  refine sw_iload_n (k0 := 1) 1 rfl (by decide +kernel) rfl ?_
  refine sw_iconst (n := 5) (v := 5) (by decide +kernel) (by decide) ?_
  refine sw_icmp_lt (off := 9) 11 (by decide +kernel) (by decide) (fun c1 => ?_) (fun c1 => ?_)
  · rw [if_pos c1] at h
    refine sw_iload_n (k0 := 1) 1 rfl (by decide +kernel) rfl ?_
    refine sw_iconst (n := 2) (v := 2) (by decide +kernel) (by decide) ?_
    refine sw_icmp_ne (off := 21) 34 (by decide +kernel) (by decide) (fun c2 => ?_) (fun c2 => ?_)
    · rw [if_neg c2] at h
      exact sX5_readFormula_L34 hE hK rec hrec σ a1 a2 h hk
    · rw [if_pos c2] at h
      refine sw_aload_n (k0 := 0) 0 rfl (by decide +kernel) rfl ?_
      refine gf_X5_12 (i := 1) (by decide) rfl (by decide +kernel) ?_
      refine sw_refj 2 rfl ?_
      refine gf_X5_41 (i := 2) (by decide) rfl (by decide +kernel) ?_
      refine sw_bipush (n := 12) (v := 12) (by decide +kernel) (by decide) ?_
      refine sw_icmp_ne (off := 9) 34 (by decide +kernel) (by decide) (fun c3 => ?_) (fun c3 => ?_)
      · rw [if_neg c3] at h
        exact sX5_readFormula_L34 hE hK rec hrec σ a1 a2 h hk
      · rw [if_pos c3] at h
        refine sw_aload_n (k0 := 0) 0 rfl (by decide +kernel) rfl ?_
        refine sw_iload_n (k0 := 2) 2 rfl (by decide +kernel) rfl ?_
        obtain ⟨r4, m5, w6, h⟩ := sw_b2_e h
        refine sw_callVi (ci := 5) (i := 1) [.int a2] (hrec.2.1 _ _ 0 _ w6) rfl (by omega) rfl gs_X5_186 hy_X5_readNot (by decide) (by decide) rfl rfl (Nat.le_of_ble_eq_true rfl) (by decide +kernel) ?_
        obtain ⟨g7, h⟩ := sw_gd_e h
        cases h
        obtain rfl : _ = res := hk
        exact sw_zret (sw_bo_n (sw_bo_e g7)) (by decide +kernel)
  · rw [if_neg c1] at h
    refine sw_aload_n (k0 := 0) 0 rfl (by decide +kernel) rfl ?_
    refine sw_iload_n (k0 := 2) 2 rfl (by decide +kernel) rfl ?_
    obtain ⟨r8, m9, w10, h⟩ := sw_b2_e h
    refine sw_callVi (ci := 5) (i := 1) [.int a2] (hrec.2.2 _ _ 0 _ w10) rfl (by omega) rfl gs_X5_183 hy_X5_readUnit (by decide) (by decide) rfl rfl (Nat.le_of_ble_eq_true rfl) (by decide +kernel) ?_
    obtain ⟨g11, h⟩ := sw_gd_e h
    cases h
    obtain rfl : _ = res := hk
    exact sw_zret (sw_bo_n (sw_bo_e g11)) (by decide +kernel)
def fX5_readNot (rec : Nat → sw_M → Int32 → Int32 → Option (Int32 × sw_M)) (σ : sw_M) (a1 : Int32) : Option (Int32 × sw_M) :=
  if a1 < 7 then
    sw_b1 (fX7_readNext σ) fun m2 =>
    sw_b2 (rec 0 m2 2 (a1 + 1)) fun r4 m5 =>
    if r4 = 0 then
      some ((0, m5))
    else
      sw_b1 (fX2_add ((sw_pl (m5.2.2 1)) + 7) m5 (-33)) fun m8 =>
      some ((1, m8))
  else
    sw_b2 (fX5_refuse σ 2) fun r10 m11 =>
    sw_gd (sw_bo r10) <|
    some ((r10, m11))
set_option maxRecDepth 20000 in
theorem sX5_readNot {l : Launch} {E : sw_E} {K : Nat} (hE : sw_RS l E) (hK : 12 ≤ K) (rec : Nat → sw_M → Int32 → Int32 → Option (Int32 × sw_M)) (hrec : (∀ (σ : sw_M) (a b : Int32) (res : Int32 × sw_M), rec 0 σ a b = some res → sw_Ct l E (K - 1) yX5_readFormula cX5_readFormula 5 (some .boolean) [.ref 1, .int a, .int b] σ (some (.int res.1)) res.2) ∧ (∀ (σ : sw_M) (a b : Int32) (res : Int32 × sw_M), rec 1 σ a b = some res → sw_Ct l E (K - 1) yX5_readNot cX5_readNot 2 (some .boolean) [.ref 1, .int a] σ (some (.int res.1)) res.2) ∧ (∀ (σ : sw_M) (a b : Int32) (res : Int32 × sw_M), rec 2 σ a b = some res → sw_Ct l E (K - 1) yX5_readUnit cX5_readUnit 3 (some .boolean) [.ref 1, .int a] σ (some (.int res.1)) res.2)) (σ : sw_M) (a1 : Int32) {res : Int32 × sw_M} (h : fX5_readNot rec σ a1 = some res) : sw_Ct l E K yX5_readNot cX5_readNot 2 (some .boolean) [.ref 1, .int a1] σ (some (.int res.1)) res.2 := by
  obtain ⟨t, hk, h⟩ : ∃ t, t = res ∧ fX5_readNot rec σ a1 = some t := ⟨res, rfl, h⟩
  unfold fX5_readNot at h
  refine sw_enter2 (own := RX5) (lv := [(0, .ref 1), (1, .int a1)]) (by decide +kernel) (Nat.le_of_ble_eq_true rfl) rfl rfl ?_
  refine sw_iload_n (k0 := 1) 1 rfl (by decide +kernel) rfl ?_
  refine sw_bipush (n := 7) (v := 7) (by decide +kernel) (by decide) ?_
  refine sw_icmp_lt (off := 9) 12 (by decide +kernel) (by decide) (fun c1 => ?_) (fun c1 => ?_)
  · rw [if_pos c1] at h
    refine sw_aload_n (k0 := 0) 0 rfl (by decide +kernel) rfl ?_
    refine gf_X5_12 (i := 1) (by decide) rfl (by decide +kernel) ?_
    refine sw_refj 2 rfl ?_
    obtain ⟨m2, w3, h⟩ := sw_b1_e h
    refine sw_callVv (ci := 7) (i := 2) [] (sX7_readNext (K := K - 1) hE (by omega) σ w3) rfl (by omega) rfl gs_X5_76 hy_X7_readNext (by decide) (by decide) rfl rfl (Nat.le_of_ble_eq_true rfl) (by decide +kernel) ?_
    refine sw_aload_n (k0 := 0) 0 rfl (by decide +kernel) rfl ?_
    refine sw_iconst (n := 2) (v := 2) (by decide +kernel) (by decide) ?_
    refine sw_iload_n (k0 := 1) 1 rfl (by decide +kernel) rfl ?_
    refine sw_iconst (n := 1) (v := 1) (by decide +kernel) (by decide) ?_
    refine sw_iadd (by decide +kernel) ?_
    obtain ⟨r4, m5, w6, h⟩ := sw_b2_e h
    refine sw_callVi (ci := 5) (i := 1) [.int 2, .int (a1 + 1)] (hrec.1 _ _ _ _ w6) rfl (by omega) rfl gs_X5_146 hy_X5_readFormula (by decide) (by decide) rfl rfl (Nat.le_of_ble_eq_true rfl) (by decide +kernel) ?_
    refine sw_if_ne (off := 5) 32 (by decide +kernel) (by decide) (fun c7 => ?_) (fun c7 => ?_)
    · rw [if_neg c7] at h
      refine sw_aload_n (k0 := 0) 0 rfl (by decide +kernel) rfl ?_
      refine gf_X5_21 (i := 1) (by decide) rfl (by decide +kernel) ?_
      refine gf_X5_137 (i := (sw_pl (m5.2.2 1))) (sw_pl_P _).o.1 (sw_pl_P _).o.2 (by decide +kernel) ?_
      refine sw_bipush (n := (-33)) (v := (-33)) (by decide +kernel) (by decide) ?_
      obtain ⟨m8, w9, h⟩ := sw_b1_e h
      refine sw_callVv (ci := 2) (i := ((sw_pl (m5.2.2 1)) + 7)) [.int (-33)] (sX2_add (K := K - 1) (by omega) ((sw_pl (m5.2.2 1)) + 7) (sw_pl_P _).F m5 (-33) w9) rfl (by omega) rfl gs_X5_193 hy_X2_add (by decide) (sw_pl_P _).F.o.1 (sw_pl_P _).F.o.2 rfl (Nat.le_of_ble_eq_true rfl) (by decide +kernel) ?_
      refine sw_iconst (n := 1) (v := 1) (by decide +kernel) (by decide) ?_
      cases h
      obtain rfl : _ = res := hk
      exact sw_zret rfl (by decide +kernel)
    · rw [if_pos c7] at h
      refine sw_iconst (n := 0) (v := 0) (by decide +kernel) (by decide) ?_
      cases h
      obtain rfl : _ = res := hk
      exact sw_zret rfl (by decide +kernel)
  · rw [if_neg c1] at h
    refine sw_aload_n (k0 := 0) 0 rfl (by decide +kernel) rfl ?_
    refine sw_iconst (n := 2) (v := 2) (by decide +kernel) (by decide) ?_
    obtain ⟨r10, m11, w12, h⟩ := sw_b2_e h
    refine sw_callVi (ci := 5) (i := 1) [.int 2] (sX5_refuse (K := K - 1) (by omega) σ 2 w12) rfl (by omega) rfl gs_X5_66 hy_X5_refuse (by decide) (by decide) rfl rfl (Nat.le_of_ble_eq_true rfl) (by decide +kernel) ?_
    obtain ⟨g13, h⟩ := sw_gd_e h
    cases h
    obtain rfl : _ = res := hk
    exact sw_zret (sw_bo_n (sw_bo_e g13)) (by decide +kernel)
def fX5_readUnit_L204 (rec : Nat → sw_M → Int32 → Int32 → Option (Int32 × sw_M)) (q1 : Nat) (σ : sw_M) (b0 : Int32) : Option ((Int32 × sw_M)) :=
  sw_b1 (fX2_add q1 σ b0) fun m1 =>
  sw_b1 (fX7_readNext m1) fun m3 =>
  some ((1, m3))
def fX5_readUnit_L96 (rec : Nat → sw_M → Int32 → Int32 → Option (Int32 × sw_M)) (σ : sw_M) (a1 : Int32) (a2 : Int32) : Option ((Int32 × sw_M)) :=
  sw_let (sw_w σ ((sw_pl (σ.2.2 1)) + 7) 0 ((σ.1 ((sw_pl (σ.2.2 1)) + 7) 0) + 1)) fun m1 =>
  if (m1.1 2 9) = 40 then
    sw_b1 (fX7_readNext m1) fun m5 =>
    sw_b2 (rec 0 m5 0 (a1 + 1)) fun r7 m8 =>
    if r7 = 0 then
      some ((0, m8))
    else
      if (m8.1 2 9) = 41 then
        sw_b1 (fX7_readNext m8) fun m12 =>
        some ((1, m12))
      else
        sw_b2 (fX5_refuse m8 2) fun r14 m15 =>
        sw_gd (sw_bo r14) <|
        some ((r14, m15))
  else
    if a2 = 0 then
      fX5_readUnit_L204 rec ((sw_pl (m1.2.2 1)) + 7) m1 (m1.1 2 8)
    else
      fX5_readUnit_L204 rec ((sw_pl (m1.2.2 1)) + 7) m1 ((-1) - ((m1.1 2 7) - 13))
def fX5_readUnit_L51 (rec : Nat → sw_M → Int32 → Int32 → Option (Int32 × sw_M)) (σ : sw_M) (a1 : Int32) (a2 : Int32) : Option ((Int32 × sw_M)) :=
  if (σ.1 ((sw_pl (σ.2.2 1)) + 7) 0) < 30 then
    if (σ.1 2 9) = 40 then
      if a1 < 7 then
        fX5_readUnit_L96 rec σ a1 a2
      else
        sw_b2 (fX5_refuse σ 2) fun r4 m5 =>
        sw_gd (sw_bo r4) <|
        some ((r4, m5))
    else
      fX5_readUnit_L96 rec σ a1 a2
  else
    sw_b2 (fX5_refuse σ 2) fun r8 m9 =>
    sw_gd (sw_bo r8) <|
    some ((r8, m9))
def fX5_readUnit_L17 (rec : Nat → sw_M → Int32 → Int32 → Option (Int32 × sw_M)) (σ : sw_M) (a1 : Int32) (b0 : Int32) : Option ((Int32 × sw_M)) :=
  if (σ.1 2 4) = 3 then
    fX5_readUnit_L51 rec σ a1 b0
  else
    if b0 = 0 then
      if (σ.1 2 9) = 40 then
        fX5_readUnit_L51 rec σ a1 b0
      else
        sw_b2 (fX5_refuse σ 2) fun r4 m5 =>
        sw_gd (sw_bo r4) <|
        some ((r4, m5))
    else
      fX5_readUnit_L51 rec σ a1 b0
def fX5_readUnit (rec : Nat → sw_M → Int32 → Int32 → Option (Int32 × sw_M)) (σ : sw_M) (a1 : Int32) : Option (Int32 × sw_M) :=
  if (σ.1 2 7) < 13 then
    fX5_readUnit_L17 rec σ a1 0
  else
    fX5_readUnit_L17 rec σ a1 1
set_option maxRecDepth 20000 in
theorem sX5_readUnit_L204 {l : Launch} {E : sw_E} {K : Nat} (hE : sw_RS l E) (hK : 12 ≤ K) (rec : Nat → sw_M → Int32 → Int32 → Option (Int32 × sw_M)) (hrec : (∀ (σ : sw_M) (a b : Int32) (res : Int32 × sw_M), rec 0 σ a b = some res → sw_Ct l E (K - 1) yX5_readFormula cX5_readFormula 5 (some .boolean) [.ref 1, .int a, .int b] σ (some (.int res.1)) res.2) ∧ (∀ (σ : sw_M) (a b : Int32) (res : Int32 × sw_M), rec 1 σ a b = some res → sw_Ct l E (K - 1) yX5_readNot cX5_readNot 2 (some .boolean) [.ref 1, .int a] σ (some (.int res.1)) res.2) ∧ (∀ (σ : sw_M) (a b : Int32) (res : Int32 × sw_M), rec 2 σ a b = some res → sw_Ct l E (K - 1) yX5_readUnit cX5_readUnit 3 (some .boolean) [.ref 1, .int a] σ (some (.int res.1)) res.2)) (q1 : Nat) (hq1 : sw_isF q1) (σ : sw_M) (b0 : Int32) {res : Int32 × sw_M} {t : (Int32 × sw_M)} (h : fX5_readUnit_L204 rec q1 σ b0 = some t) (hk : (fun q => q = res) t) : sw_Go l E K RX5 cX5_readUnit 3 (some .boolean) 204 [(0, .ref 1)] [.int b0, .ref q1] σ (some (.int res.1)) res.2 := by
  unfold fX5_readUnit_L204 at h
  obtain ⟨m1, w2, h⟩ := sw_b1_e h
  refine sw_callVv (ci := 2) (i := q1) [.int b0] (sX2_add (K := K - 1) (by omega) q1 hq1 σ b0 w2) rfl (by omega) rfl gs_X5_193 hy_X2_add (by decide) hq1.o.1 hq1.o.2 rfl (Nat.le_of_ble_eq_true rfl) (by decide +kernel) ?_
  refine sw_aload_n (k0 := 0) 0 rfl (by decide +kernel) rfl ?_
  refine gf_X5_12 (i := 1) (by decide) rfl (by decide +kernel) ?_
  refine sw_refj 2 rfl ?_
  obtain ⟨m3, w4, h⟩ := sw_b1_e h
  refine sw_callVv (ci := 7) (i := 2) [] (sX7_readNext (K := K - 1) hE (by omega) m1 w4) rfl (by omega) rfl gs_X5_76 hy_X7_readNext (by decide) (by decide) rfl rfl (Nat.le_of_ble_eq_true rfl) (by decide +kernel) ?_
  refine sw_iconst (n := 1) (v := 1) (by decide +kernel) (by decide) ?_
  cases h
  obtain rfl : _ = res := hk
  exact sw_zret rfl (by decide +kernel)
set_option maxRecDepth 20000 in
theorem sX5_readUnit_L96 {l : Launch} {E : sw_E} {K : Nat} (hE : sw_RS l E) (hK : 12 ≤ K) (rec : Nat → sw_M → Int32 → Int32 → Option (Int32 × sw_M)) (hrec : (∀ (σ : sw_M) (a b : Int32) (res : Int32 × sw_M), rec 0 σ a b = some res → sw_Ct l E (K - 1) yX5_readFormula cX5_readFormula 5 (some .boolean) [.ref 1, .int a, .int b] σ (some (.int res.1)) res.2) ∧ (∀ (σ : sw_M) (a b : Int32) (res : Int32 × sw_M), rec 1 σ a b = some res → sw_Ct l E (K - 1) yX5_readNot cX5_readNot 2 (some .boolean) [.ref 1, .int a] σ (some (.int res.1)) res.2) ∧ (∀ (σ : sw_M) (a b : Int32) (res : Int32 × sw_M), rec 2 σ a b = some res → sw_Ct l E (K - 1) yX5_readUnit cX5_readUnit 3 (some .boolean) [.ref 1, .int a] σ (some (.int res.1)) res.2)) (σ : sw_M) (a1 : Int32) (a2 : Int32) {res : Int32 × sw_M} {t : (Int32 × sw_M)} (h : fX5_readUnit_L96 rec σ a1 a2 = some t) (hk : (fun q => q = res) t) : sw_Go l E K RX5 cX5_readUnit 3 (some .boolean) 96 [(0, .ref 1), (1, .int a1), (2, .int a2)] [] σ (some (.int res.1)) res.2 := by
  unfold fX5_readUnit_L96 at h
  refine sw_aload_n (k0 := 0) 0 rfl (by decide +kernel) rfl ?_
  refine gf_X5_21 (i := 1) (by decide) rfl (by decide +kernel) ?_
  refine gf_X5_137 (i := (sw_pl (σ.2.2 1))) (sw_pl_P _).o.1 (sw_pl_P _).o.2 (by decide +kernel) ?_
  refine sw_dup (by decide +kernel) rfl ?_
  refine gf_X5_141 (i := ((sw_pl (σ.2.2 1)) + 7)) (sw_pl_P _).F.o.1 (sw_pl_P _).F.o.2 (by decide +kernel) ?_
  refine sw_iconst (n := 1) (v := 1) (by decide +kernel) (by decide) ?_
  refine sw_iadd (by decide +kernel) ?_
  obtain ⟨m1, e2, h⟩ := sw_let_e h
  refine pf_X5_141 (sw_pl_P _).F.o.1 (sw_pl_P _).F.o.2 (by decide +kernel) ?_
  refine sw_mem e2 ?_
  refine sw_aload_n (k0 := 0) 0 rfl (by decide +kernel) rfl ?_
  refine gf_X5_12 (i := 1) (by decide) rfl (by decide +kernel) ?_
  refine sw_refj 2 rfl ?_
  refine gf_X5_163 (i := 2) (by decide) rfl (by decide +kernel) ?_
  refine sw_bipush (n := 40) (v := 40) (by decide +kernel) (by decide) ?_
  refine sw_icmp_ne (off := 50) 171 (by decide +kernel) (by decide) (fun c3 => ?_) (fun c3 => ?_)
  · rw [if_neg c3] at h
    refine sw_aload_n (k0 := 0) 0 rfl (by decide +kernel) rfl ?_
    refine gf_X5_21 (i := 1) (by decide) rfl (by decide +kernel) ?_
    refine gf_X5_137 (i := (sw_pl (m1.2.2 1))) (sw_pl_P _).o.1 (sw_pl_P _).o.2 (by decide +kernel) ?_
    refine sw_iload_n (k0 := 2) 2 rfl (by decide +kernel) rfl ?_
    refine sw_if_eq (off := 18) 197 (by decide +kernel) (by decide) (fun c4 => ?_) (fun c4 => ?_)
    · rw [if_pos c4] at h
      refine sw_aload_n (k0 := 0) 0 rfl (by decide +kernel) rfl ?_
      refine gf_X5_12 (i := 1) (by decide) rfl (by decide +kernel) ?_
      refine sw_refj 2 rfl ?_
      refine gf_X5_180 (i := 2) (by decide) rfl (by decide +kernel) ?_
      refine sw_lv [0] rfl ?_
      exact sX5_readUnit_L204 hE hK rec hrec ((sw_pl (m1.2.2 1)) + 7) (sw_pl_P _).F m1 (m1.1 2 8) h hk
    · rw [if_neg c4] at h
      refine sw_iconst (n := (-1)) (v := (-1)) (by decide +kernel) (by decide) ?_
      refine sw_aload_n (k0 := 0) 0 rfl (by decide +kernel) rfl ?_
      refine gf_X5_12 (i := 1) (by decide) rfl (by decide +kernel) ?_
      refine sw_refj 2 rfl ?_
      refine gf_X5_41 (i := 2) (by decide) rfl (by decide +kernel) ?_
      refine sw_bipush (n := 13) (v := 13) (by decide +kernel) (by decide) ?_
      refine sw_isub (by decide +kernel) ?_
      refine sw_isub (by decide +kernel) ?_
      refine sw_goto (off := 10) 204 (by decide +kernel) (by decide) ?_
      refine sw_lv [0] rfl ?_
      exact sX5_readUnit_L204 hE hK rec hrec ((sw_pl (m1.2.2 1)) + 7) (sw_pl_P _).F m1 ((-1) - ((m1.1 2 7) - 13)) h hk
  · rw [if_pos c3] at h
    refine sw_aload_n (k0 := 0) 0 rfl (by decide +kernel) rfl ?_
    refine gf_X5_12 (i := 1) (by decide) rfl (by decide +kernel) ?_
    refine sw_refj 2 rfl ?_
    obtain ⟨m5, w6, h⟩ := sw_b1_e h
    refine sw_callVv (ci := 7) (i := 2) [] (sX7_readNext (K := K - 1) hE (by omega) m1 w6) rfl (by omega) rfl gs_X5_76 hy_X7_readNext (by decide) (by decide) rfl rfl (Nat.le_of_ble_eq_true rfl) (by decide +kernel) ?_
    refine sw_aload_n (k0 := 0) 0 rfl (by decide +kernel) rfl ?_
    refine sw_iconst (n := 0) (v := 0) (by decide +kernel) (by decide) ?_
    refine sw_iload_n (k0 := 1) 1 rfl (by decide +kernel) rfl ?_
    refine sw_iconst (n := 1) (v := 1) (by decide +kernel) (by decide) ?_
    refine sw_iadd (by decide +kernel) ?_
    obtain ⟨r7, m8, w9, h⟩ := sw_b2_e h
    refine sw_callVi (ci := 5) (i := 1) [.int 0, .int (a1 + 1)] (hrec.1 _ _ _ _ w9) rfl (by omega) rfl gs_X5_146 hy_X5_readFormula (by decide) (by decide) rfl rfl (Nat.le_of_ble_eq_true rfl) (by decide +kernel) ?_
    refine sw_if_ne (off := 5) 144 (by decide +kernel) (by decide) (fun c10 => ?_) (fun c10 => ?_)
    · rw [if_neg c10] at h
      refine sw_aload_n (k0 := 0) 0 rfl (by decide +kernel) rfl ?_
      refine gf_X5_12 (i := 1) (by decide) rfl (by decide +kernel) ?_
      refine sw_refj 2 rfl ?_
      refine gf_X5_163 (i := 2) (by decide) rfl (by decide +kernel) ?_
      refine sw_bipush (n := 41) (v := 41) (by decide +kernel) (by decide) ?_
      refine sw_icmp_eq (off := 9) 162 (by decide +kernel) (by decide) (fun c11 => ?_) (fun c11 => ?_)
      · rw [if_pos c11] at h
        refine sw_aload_n (k0 := 0) 0 rfl (by decide +kernel) rfl ?_
        refine gf_X5_12 (i := 1) (by decide) rfl (by decide +kernel) ?_
        refine sw_refj 2 rfl ?_
        obtain ⟨m12, w13, h⟩ := sw_b1_e h
        refine sw_callVv (ci := 7) (i := 2) [] (sX7_readNext (K := K - 1) hE (by omega) m8 w13) rfl (by omega) rfl gs_X5_76 hy_X7_readNext (by decide) (by decide) rfl rfl (Nat.le_of_ble_eq_true rfl) (by decide +kernel) ?_
        refine sw_iconst (n := 1) (v := 1) (by decide +kernel) (by decide) ?_
        cases h
        obtain rfl : _ = res := hk
        exact sw_zret rfl (by decide +kernel)
      · rw [if_neg c11] at h
        refine sw_aload_n (k0 := 0) 0 rfl (by decide +kernel) rfl ?_
        refine sw_iconst (n := 2) (v := 2) (by decide +kernel) (by decide) ?_
        obtain ⟨r14, m15, w16, h⟩ := sw_b2_e h
        refine sw_callVi (ci := 5) (i := 1) [.int 2] (sX5_refuse (K := K - 1) (by omega) m8 2 w16) rfl (by omega) rfl gs_X5_66 hy_X5_refuse (by decide) (by decide) rfl rfl (Nat.le_of_ble_eq_true rfl) (by decide +kernel) ?_
        obtain ⟨g17, h⟩ := sw_gd_e h
        cases h
        obtain rfl : _ = res := hk
        exact sw_zret (sw_bo_n (sw_bo_e g17)) (by decide +kernel)
    · rw [if_pos c10] at h
      refine sw_iconst (n := 0) (v := 0) (by decide +kernel) (by decide) ?_
      cases h
      obtain rfl : _ = res := hk
      exact sw_zret rfl (by decide +kernel)
set_option maxRecDepth 20000 in
theorem sX5_readUnit_L51 {l : Launch} {E : sw_E} {K : Nat} (hE : sw_RS l E) (hK : 12 ≤ K) (rec : Nat → sw_M → Int32 → Int32 → Option (Int32 × sw_M)) (hrec : (∀ (σ : sw_M) (a b : Int32) (res : Int32 × sw_M), rec 0 σ a b = some res → sw_Ct l E (K - 1) yX5_readFormula cX5_readFormula 5 (some .boolean) [.ref 1, .int a, .int b] σ (some (.int res.1)) res.2) ∧ (∀ (σ : sw_M) (a b : Int32) (res : Int32 × sw_M), rec 1 σ a b = some res → sw_Ct l E (K - 1) yX5_readNot cX5_readNot 2 (some .boolean) [.ref 1, .int a] σ (some (.int res.1)) res.2) ∧ (∀ (σ : sw_M) (a b : Int32) (res : Int32 × sw_M), rec 2 σ a b = some res → sw_Ct l E (K - 1) yX5_readUnit cX5_readUnit 3 (some .boolean) [.ref 1, .int a] σ (some (.int res.1)) res.2)) (σ : sw_M) (a1 : Int32) (a2 : Int32) {res : Int32 × sw_M} {t : (Int32 × sw_M)} (h : fX5_readUnit_L51 rec σ a1 a2 = some t) (hk : (fun q => q = res) t) : sw_Go l E K RX5 cX5_readUnit 3 (some .boolean) 51 [(0, .ref 1), (1, .int a1), (2, .int a2)] [] σ (some (.int res.1)) res.2 := by
  unfold fX5_readUnit_L51 at h
  refine sw_aload_n (k0 := 0) 0 rfl (by decide +kernel) rfl ?_
  refine gf_X5_21 (i := 1) (by decide) rfl (by decide +kernel) ?_
  refine gf_X5_137 (i := (sw_pl (σ.2.2 1))) (sw_pl_P _).o.1 (sw_pl_P _).o.2 (by decide +kernel) ?_
  refine gf_X5_141 (i := ((sw_pl (σ.2.2 1)) + 7)) (sw_pl_P _).F.o.1 (sw_pl_P _).F.o.2 (by decide +kernel) ?_
  refine sw_bipush (n := 30) (v := 30) (by decide +kernel) (by decide) ?_
  refine sw_icmp_lt (off := 9) 72 (by decide +kernel) (by decide) (fun c1 => ?_) (fun c1 => ?_)
  · rw [if_pos c1] at h
    refine sw_aload_n (k0 := 0) 0 rfl (by decide +kernel) rfl ?_
    refine gf_X5_12 (i := 1) (by decide) rfl (by decide +kernel) ?_
    refine sw_refj 2 rfl ?_
    refine gf_X5_163 (i := 2) (by decide) rfl (by decide +kernel) ?_
    refine sw_bipush (n := 40) (v := 40) (by decide +kernel) (by decide) ?_
    refine sw_icmp_ne (off := 15) 96 (by decide +kernel) (by decide) (fun c2 => ?_) (fun c2 => ?_)
    · rw [if_neg c2] at h
      exact sX5_readUnit_L96 hE hK rec hrec σ a1 a2 h hk
    · rw [if_pos c2] at h
      refine sw_iload_n (k0 := 1) 1 rfl (by decide +kernel) rfl ?_
      refine sw_bipush (n := 7) (v := 7) (by decide +kernel) (by decide) ?_
      refine sw_icmp_lt (off := 9) 96 (by decide +kernel) (by decide) (fun c3 => ?_) (fun c3 => ?_)
      · rw [if_pos c3] at h
        exact sX5_readUnit_L96 hE hK rec hrec σ a1 a2 h hk
      · rw [if_neg c3] at h
        refine sw_aload_n (k0 := 0) 0 rfl (by decide +kernel) rfl ?_
        refine sw_iconst (n := 2) (v := 2) (by decide +kernel) (by decide) ?_
        obtain ⟨r4, m5, w6, h⟩ := sw_b2_e h
        refine sw_callVi (ci := 5) (i := 1) [.int 2] (sX5_refuse (K := K - 1) (by omega) σ 2 w6) rfl (by omega) rfl gs_X5_66 hy_X5_refuse (by decide) (by decide) rfl rfl (Nat.le_of_ble_eq_true rfl) (by decide +kernel) ?_
        obtain ⟨g7, h⟩ := sw_gd_e h
        cases h
        obtain rfl : _ = res := hk
        exact sw_zret (sw_bo_n (sw_bo_e g7)) (by decide +kernel)
  · rw [if_neg c1] at h
    refine sw_aload_n (k0 := 0) 0 rfl (by decide +kernel) rfl ?_
    refine sw_iconst (n := 2) (v := 2) (by decide +kernel) (by decide) ?_
    obtain ⟨r8, m9, w10, h⟩ := sw_b2_e h
    refine sw_callVi (ci := 5) (i := 1) [.int 2] (sX5_refuse (K := K - 1) (by omega) σ 2 w10) rfl (by omega) rfl gs_X5_66 hy_X5_refuse (by decide) (by decide) rfl rfl (Nat.le_of_ble_eq_true rfl) (by decide +kernel) ?_
    obtain ⟨g11, h⟩ := sw_gd_e h
    cases h
    obtain rfl : _ = res := hk
    exact sw_zret (sw_bo_n (sw_bo_e g11)) (by decide +kernel)
set_option maxRecDepth 20000 in
theorem sX5_readUnit_L17 {l : Launch} {E : sw_E} {K : Nat} (hE : sw_RS l E) (hK : 12 ≤ K) (rec : Nat → sw_M → Int32 → Int32 → Option (Int32 × sw_M)) (hrec : (∀ (σ : sw_M) (a b : Int32) (res : Int32 × sw_M), rec 0 σ a b = some res → sw_Ct l E (K - 1) yX5_readFormula cX5_readFormula 5 (some .boolean) [.ref 1, .int a, .int b] σ (some (.int res.1)) res.2) ∧ (∀ (σ : sw_M) (a b : Int32) (res : Int32 × sw_M), rec 1 σ a b = some res → sw_Ct l E (K - 1) yX5_readNot cX5_readNot 2 (some .boolean) [.ref 1, .int a] σ (some (.int res.1)) res.2) ∧ (∀ (σ : sw_M) (a b : Int32) (res : Int32 × sw_M), rec 2 σ a b = some res → sw_Ct l E (K - 1) yX5_readUnit cX5_readUnit 3 (some .boolean) [.ref 1, .int a] σ (some (.int res.1)) res.2)) (σ : sw_M) (a1 : Int32) (b0 : Int32) {res : Int32 × sw_M} {t : (Int32 × sw_M)} (h : fX5_readUnit_L17 rec σ a1 b0 = some t) (hk : (fun q => q = res) t) : sw_Go l E K RX5 cX5_readUnit 3 (some .boolean) 17 [(0, .ref 1), (1, .int a1)] [.int b0] σ (some (.int res.1)) res.2 := by
  unfold fX5_readUnit_L17 at h
  refine sw_istore_n (k0 := 2) (lv' := [(2, .int b0), (0, .ref 1), (1, .int a1)]) (by decide +kernel) rfl (by decide) rfl ?_
  refine sw_aload_n (k0 := 0) 1 rfl (by decide +kernel) rfl ?_
  refine gf_X5_12 (i := 1) (by decide) rfl (by decide +kernel) ?_
  refine sw_refj 2 rfl ?_
  refine gf_X5_38 (i := 2) (by decide) rfl (by decide +kernel) ?_
  refine sw_iconst (n := 3) (v := 3) (by decide +kernel) (by decide) ?_
  refine sw_icmp_eq (off := 25) 51 (by decide +kernel) (by decide) (fun c1 => ?_) (fun c1 => ?_)
  · rw [if_pos c1] at h
    refine sw_lv [1, 2, 0] rfl ?_
    exact sX5_readUnit_L51 hE hK rec hrec σ a1 b0 h hk
  · rw [if_neg c1] at h
    refine sw_iload_n (k0 := 2) 0 rfl (by decide +kernel) rfl ?_
    refine sw_if_ne (off := 21) 51 (by decide +kernel) (by decide) (fun c2 => ?_) (fun c2 => ?_)
    · rw [if_neg c2] at h
      refine sw_lv [1, 2, 0] rfl ?_
      exact sX5_readUnit_L51 hE hK rec hrec σ a1 b0 h hk
    · rw [if_pos c2] at h
      refine sw_aload_n (k0 := 0) 1 rfl (by decide +kernel) rfl ?_
      refine gf_X5_12 (i := 1) (by decide) rfl (by decide +kernel) ?_
      refine sw_refj 2 rfl ?_
      refine gf_X5_163 (i := 2) (by decide) rfl (by decide +kernel) ?_
      refine sw_bipush (n := 40) (v := 40) (by decide +kernel) (by decide) ?_
      refine sw_icmp_eq (off := 9) 51 (by decide +kernel) (by decide) (fun c3 => ?_) (fun c3 => ?_)
      · rw [if_pos c3] at h
        refine sw_lv [1, 2, 0] rfl ?_
        exact sX5_readUnit_L51 hE hK rec hrec σ a1 b0 h hk
      · rw [if_neg c3] at h
        refine sw_aload_n (k0 := 0) 1 rfl (by decide +kernel) rfl ?_
        refine sw_iconst (n := 2) (v := 2) (by decide +kernel) (by decide) ?_
        obtain ⟨r4, m5, w6, h⟩ := sw_b2_e h
        refine sw_callVi (ci := 5) (i := 1) [.int 2] (sX5_refuse (K := K - 1) (by omega) σ 2 w6) rfl (by omega) rfl gs_X5_66 hy_X5_refuse (by decide) (by decide) rfl rfl (Nat.le_of_ble_eq_true rfl) (by decide +kernel) ?_
        obtain ⟨g7, h⟩ := sw_gd_e h
        cases h
        obtain rfl : _ = res := hk
        exact sw_zret (sw_bo_n (sw_bo_e g7)) (by decide +kernel)
set_option maxRecDepth 20000 in
theorem sX5_readUnit {l : Launch} {E : sw_E} {K : Nat} (hE : sw_RS l E) (hK : 12 ≤ K) (rec : Nat → sw_M → Int32 → Int32 → Option (Int32 × sw_M)) (hrec : (∀ (σ : sw_M) (a b : Int32) (res : Int32 × sw_M), rec 0 σ a b = some res → sw_Ct l E (K - 1) yX5_readFormula cX5_readFormula 5 (some .boolean) [.ref 1, .int a, .int b] σ (some (.int res.1)) res.2) ∧ (∀ (σ : sw_M) (a b : Int32) (res : Int32 × sw_M), rec 1 σ a b = some res → sw_Ct l E (K - 1) yX5_readNot cX5_readNot 2 (some .boolean) [.ref 1, .int a] σ (some (.int res.1)) res.2) ∧ (∀ (σ : sw_M) (a b : Int32) (res : Int32 × sw_M), rec 2 σ a b = some res → sw_Ct l E (K - 1) yX5_readUnit cX5_readUnit 3 (some .boolean) [.ref 1, .int a] σ (some (.int res.1)) res.2)) (σ : sw_M) (a1 : Int32) {res : Int32 × sw_M} (h : fX5_readUnit rec σ a1 = some res) : sw_Ct l E K yX5_readUnit cX5_readUnit 3 (some .boolean) [.ref 1, .int a1] σ (some (.int res.1)) res.2 := by
  obtain ⟨t, hk, h⟩ : ∃ t, t = res ∧ fX5_readUnit rec σ a1 = some t := ⟨res, rfl, h⟩
  unfold fX5_readUnit at h
  refine sw_enter2 (own := RX5) (lv := [(0, .ref 1), (1, .int a1)]) (by decide +kernel) (Nat.le_of_ble_eq_true rfl) rfl rfl ?_
  refine sw_aload_n (k0 := 0) 0 rfl (by decide +kernel) rfl ?_
  refine gf_X5_12 (i := 1) (by decide) rfl (by decide +kernel) ?_
  refine sw_refj 2 rfl ?_
  refine gf_X5_41 (i := 2) (by decide) rfl (by decide +kernel) ?_
  refine sw_bipush (n := 13) (v := 13) (by decide +kernel) (by decide) ?_
  refine sw_icmp_lt (off := 7) 16 (by decide +kernel) (by decide) (fun c1 => ?_) (fun c1 => ?_)
  · rw [if_pos c1] at h
    refine sw_iconst (n := 0) (v := 0) (by decide +kernel) (by decide) ?_
    exact sX5_readUnit_L17 hE hK rec hrec σ a1 0 h hk
  · rw [if_neg c1] at h
    refine sw_iconst (n := 1) (v := 1) (by decide +kernel) (by decide) ?_
    refine sw_goto (off := 4) 17 (by decide +kernel) (by decide) ?_
    exact sX5_readUnit_L17 hE hK rec hrec σ a1 1 h hk
def sw_rd : Nat → Nat → sw_M → Int32 → Int32 → Option (Int32 × sw_M)
  | 0, _, _, _, _ => none
  | n + 1, k, σ, a, b => if k = 0 then fX5_readFormula (sw_rd n) σ a b else if k = 1 then fX5_readNot (sw_rd n) σ a else fX5_readUnit (sw_rd n) σ a
theorem sw_rd_ok {l : Launch} {E : sw_E} (hE : sw_RS l E) : ∀ (n K : Nat), n + 12 ≤ K → (∀ (σ : sw_M) (a b : Int32) (res : Int32 × sw_M), sw_rd n 0 σ a b = some res → sw_Ct l E K yX5_readFormula cX5_readFormula 5 (some .boolean) [.ref 1, .int a, .int b] σ (some (.int res.1)) res.2) ∧ (∀ (σ : sw_M) (a b : Int32) (res : Int32 × sw_M), sw_rd n 1 σ a b = some res → sw_Ct l E K yX5_readNot cX5_readNot 2 (some .boolean) [.ref 1, .int a] σ (some (.int res.1)) res.2) ∧ (∀ (σ : sw_M) (a b : Int32) (res : Int32 × sw_M), sw_rd n 2 σ a b = some res → sw_Ct l E K yX5_readUnit cX5_readUnit 3 (some .boolean) [.ref 1, .int a] σ (some (.int res.1)) res.2)
  := by
  intro n
  induction n with
  | zero => intro K _; exact ⟨fun _ _ _ _ h => (by cases h), fun _ _ _ _ h => (by cases h), fun _ _ _ _ h => (by cases h)⟩
  | succ n ih =>
    intro K hK
    have ih := ih (K - 1) (by omega)
    refine ⟨fun σ a b res h => ?_, fun σ a b res h => ?_, fun σ a b res h => ?_⟩
    · unfold sw_rd at h; rw [if_pos rfl] at h
      exact sX5_readFormula hE (by omega) (sw_rd n) ih σ a b h
    · unfold sw_rd at h; rw [if_neg (by decide), if_pos rfl] at h
      exact sX5_readNot hE (by omega) (sw_rd n) ih σ a h
    · unfold sw_rd at h; rw [if_neg (by decide), if_neg (by decide)] at h
      exact sX5_readUnit hE (by omega) (sw_rd n) ih σ a h
def fX5_readRises (σ : sw_M) : Option (Int32 × sw_M) :=
  if (σ.1 ((sw_pl (σ.2.2 1)) + 7) 0) ≤ 0 then
    sw_b1 (fX7_readNext σ) fun m2 =>
    sw_b2 (sw_rd 64 0 m2 0 0) fun r4 m5 =>
    if r4 = 0 then
      some ((0, m5))
    else
      sw_b2 (fX5_readSign m5 59) fun r8 m9 =>
      if r8 = 0 then
        some ((0, m9))
      else
        some ((1, m9))
  else
    sw_b2 (fX5_refuse σ 2) fun r12 m13 =>
    sw_gd (sw_bo r12) <|
    some ((r12, m13))
set_option maxRecDepth 20000 in
theorem sX5_readRises {l : Launch} {E : sw_E} {K : Nat} (hE : sw_RS l E) (hK : 77 ≤ K) (σ : sw_M) {res : Int32 × sw_M} (h : fX5_readRises σ = some res) : sw_Ct l E K yX5_readRises cX5_readRises 1 (some .boolean) [.ref 1] σ (some (.int res.1)) res.2 := by
  obtain ⟨t, hk, h⟩ : ∃ t, t = res ∧ fX5_readRises σ = some t := ⟨res, rfl, h⟩
  unfold fX5_readRises at h
  refine sw_enter2 (own := RX5) (lv := [(0, .ref 1)]) (by decide +kernel) (Nat.le_of_ble_eq_true rfl) rfl rfl ?_
  refine sw_aload_n (k0 := 0) 0 rfl (by decide +kernel) rfl ?_
  refine gf_X5_21 (i := 1) (by decide) rfl (by decide +kernel) ?_
  refine gf_X5_137 (i := (sw_pl (σ.2.2 1))) (sw_pl_P _).o.1 (sw_pl_P _).o.2 (by decide +kernel) ?_
  refine gf_X5_141 (i := ((sw_pl (σ.2.2 1)) + 7)) (sw_pl_P _).F.o.1 (sw_pl_P _).F.o.2 (by decide +kernel) ?_
  refine sw_if_le (off := 9) 19 (by decide +kernel) (by decide) (fun c1 => ?_) (fun c1 => ?_)
  · rw [if_pos c1] at h
    refine sw_aload_n (k0 := 0) 0 rfl (by decide +kernel) rfl ?_
    refine gf_X5_12 (i := 1) (by decide) rfl (by decide +kernel) ?_
    refine sw_refj 2 rfl ?_
    obtain ⟨m2, w3, h⟩ := sw_b1_e h
    refine sw_callVv (ci := 7) (i := 2) [] (sX7_readNext (K := K - 1) hE (by omega) σ w3) rfl (by omega) rfl gs_X5_76 hy_X7_readNext (by decide) (by decide) rfl rfl (Nat.le_of_ble_eq_true rfl) (by decide +kernel) ?_
    refine sw_aload_n (k0 := 0) 0 rfl (by decide +kernel) rfl ?_
    refine sw_iconst (n := 0) (v := 0) (by decide +kernel) (by decide) ?_
    refine sw_iconst (n := 0) (v := 0) (by decide +kernel) (by decide) ?_
    obtain ⟨r4, m5, w6, h⟩ := sw_b2_e h
    refine sw_callVi (ci := 5) (i := 1) [.int 0, .int 0] ((sw_rd_ok hE 64 (K - 1) (by omega)).1 _ _ _ _ w6) rfl (by omega) rfl gs_X5_146 hy_X5_readFormula (by decide) (by decide) rfl rfl (Nat.le_of_ble_eq_true rfl) (by decide +kernel) ?_
    refine sw_if_eq (off := 16) 48 (by decide +kernel) (by decide) (fun c7 => ?_) (fun c7 => ?_)
    · rw [if_pos c7] at h
      refine sw_iconst (n := 0) (v := 0) (by decide +kernel) (by decide) ?_
      cases h
      obtain rfl : _ = res := hk
      exact sw_zret rfl (by decide +kernel)
    · rw [if_neg c7] at h
      refine sw_aload_n (k0 := 0) 0 rfl (by decide +kernel) rfl ?_
      refine sw_bipush (n := 59) (v := 59) (by decide +kernel) (by decide) ?_
      obtain ⟨r8, m9, w10, h⟩ := sw_b2_e h
      refine sw_callVi (ci := 5) (i := 1) [.int 59] (sX5_readSign (K := K - 1) hE (by omega) m5 59 w10) rfl (by omega) rfl gs_X5_87 hy_X5_readSign (by decide) (by decide) rfl rfl (Nat.le_of_ble_eq_true rfl) (by decide +kernel) ?_
      refine sw_if_eq (off := 7) 48 (by decide +kernel) (by decide) (fun c11 => ?_) (fun c11 => ?_)
      · rw [if_pos c11] at h
        refine sw_iconst (n := 0) (v := 0) (by decide +kernel) (by decide) ?_
        cases h
        obtain rfl : _ = res := hk
        exact sw_zret rfl (by decide +kernel)
      · rw [if_neg c11] at h
        refine sw_iconst (n := 1) (v := 1) (by decide +kernel) (by decide) ?_
        refine sw_goto (off := 4) 49 (by decide +kernel) (by decide) ?_
        cases h
        obtain rfl : _ = res := hk
        exact sw_zret rfl (by decide +kernel)
  · rw [if_neg c1] at h
    refine sw_aload_n (k0 := 0) 0 rfl (by decide +kernel) rfl ?_
    refine sw_iconst (n := 2) (v := 2) (by decide +kernel) (by decide) ?_
    obtain ⟨r12, m13, w14, h⟩ := sw_b2_e h
    refine sw_callVi (ci := 5) (i := 1) [.int 2] (sX5_refuse (K := K - 1) (by omega) σ 2 w14) rfl (by omega) rfl gs_X5_66 hy_X5_refuse (by decide) (by decide) rfl rfl (Nat.le_of_ble_eq_true rfl) (by decide +kernel) ?_
    obtain ⟨g15, h⟩ := sw_gd_e h
    cases h
    obtain rfl : _ = res := hk
    exact sw_zret (sw_bo_n (sw_bo_e g15)) (by decide +kernel)
def fX5_readScum (σ : sw_M) : Option (Int32 × sw_M) :=
  if (σ.1 (sw_pl (σ.2.2 1)) 6) = 0 then
    sw_b1 (fX7_readNext σ) fun m2 =>
    sw_b2 (fX5_readNumber m2 0 100) fun r4 m5 =>
    if r4 = (-1) then
      some ((0, m5))
    else
      sw_let (sw_w m5 (sw_pl (m5.2.2 1)) 4 r4) fun m8 =>
      sw_let (sw_w m8 (sw_pl (m8.2.2 1)) 6 1) fun m10 =>
      sw_b2 (fX5_readSign m10 59) fun r12 m13 =>
      sw_gd (sw_bo r12) <|
      some ((r12, m13))
  else
    sw_b2 (fX5_refuse σ 2) fun r16 m17 =>
    sw_gd (sw_bo r16) <|
    some ((r16, m17))
set_option maxRecDepth 20000 in
theorem sX5_readScum {l : Launch} {E : sw_E} {K : Nat} (hE : sw_RS l E) (hK : 11 ≤ K) (σ : sw_M) {res : Int32 × sw_M} (h : fX5_readScum σ = some res) : sw_Ct l E K yX5_readScum cX5_readScum 2 (some .boolean) [.ref 1] σ (some (.int res.1)) res.2 := by
  obtain ⟨t, hk, h⟩ : ∃ t, t = res ∧ fX5_readScum σ = some t := ⟨res, rfl, h⟩
  unfold fX5_readScum at h
  refine sw_enter2 (own := RX5) (lv := [(0, .ref 1)]) (by decide +kernel) (Nat.le_of_ble_eq_true rfl) rfl rfl ?_
  refine sw_aload_n (k0 := 0) 0 rfl (by decide +kernel) rfl ?_
  refine gf_X5_21 (i := 1) (by decide) rfl (by decide +kernel) ?_
  refine gf_X5_150 (i := (sw_pl (σ.2.2 1))) (sw_pl_P _).o.1 (sw_pl_P _).o.2 (by decide +kernel) ?_
  refine sw_if_eq (off := 9) 16 (by decide +kernel) (by decide) (fun c1 => ?_) (fun c1 => ?_)
  · rw [if_pos c1] at h
    refine sw_aload_n (k0 := 0) 0 rfl (by decide +kernel) rfl ?_
    refine gf_X5_12 (i := 1) (by decide) rfl (by decide +kernel) ?_
    refine sw_refj 2 rfl ?_
    obtain ⟨m2, w3, h⟩ := sw_b1_e h
    refine sw_callVv (ci := 7) (i := 2) [] (sX7_readNext (K := K - 1) hE (by omega) σ w3) rfl (by omega) rfl gs_X5_76 hy_X7_readNext (by decide) (by decide) rfl rfl (Nat.le_of_ble_eq_true rfl) (by decide +kernel) ?_
    refine sw_aload_n (k0 := 0) 0 rfl (by decide +kernel) rfl ?_
    refine sw_iconst (n := 0) (v := 0) (by decide +kernel) (by decide) ?_
    refine sw_bipush (n := 100) (v := 100) (by decide +kernel) (by decide) ?_
    obtain ⟨r4, m5, w6, h⟩ := sw_b2_e h
    refine sw_callVi (ci := 5) (i := 1) [.int 0, .int 100] (sX5_readNumber (K := K - 1) hE (by omega) m2 0 100 w6) rfl (by omega) rfl gs_X5_129 hy_X5_readNumber (by decide) (by decide) rfl rfl (Nat.le_of_ble_eq_true rfl) (by decide +kernel) ?_
    refine sw_istore_n (k0 := 1) (lv' := [(1, .int r4), (0, .ref 1)]) (by decide +kernel) rfl (by decide) rfl ?_
    refine sw_iload_n (k0 := 1) 0 rfl (by decide +kernel) rfl ?_
    refine sw_iconst (n := (-1)) (v := (-1)) (by decide +kernel) (by decide) ?_
    refine sw_icmp_ne (off := 5) 38 (by decide +kernel) (by decide) (fun c7 => ?_) (fun c7 => ?_)
    · rw [if_neg c7] at h
      refine sw_aload_n (k0 := 0) 1 rfl (by decide +kernel) rfl ?_
      refine gf_X5_21 (i := 1) (by decide) rfl (by decide +kernel) ?_
      refine sw_iload_n (k0 := 1) 0 rfl (by decide +kernel) rfl ?_
      obtain ⟨m8, e9, h⟩ := sw_let_e h
      refine pf_X5_154 (sw_pl_P _).o.1 (sw_pl_P _).o.2 (by decide +kernel) ?_
      refine sw_mem e9 ?_
      refine sw_aload_n (k0 := 0) 1 rfl (by decide +kernel) rfl ?_
      refine gf_X5_21 (i := 1) (by decide) rfl (by decide +kernel) ?_
      refine sw_iconst (n := 1) (v := 1) (by decide +kernel) (by decide) ?_
      obtain ⟨m10, e11, h⟩ := sw_let_e h
      refine pf_X5_150 (Or.inr rfl) (sw_pl_P _).o.1 (sw_pl_P _).o.2 (by decide +kernel) ?_
      refine sw_mem e11 ?_
      refine sw_aload_n (k0 := 0) 1 rfl (by decide +kernel) rfl ?_
      refine sw_bipush (n := 59) (v := 59) (by decide +kernel) (by decide) ?_
      obtain ⟨r12, m13, w14, h⟩ := sw_b2_e h
      refine sw_callVi (ci := 5) (i := 1) [.int 59] (sX5_readSign (K := K - 1) hE (by omega) m10 59 w14) rfl (by omega) rfl gs_X5_87 hy_X5_readSign (by decide) (by decide) rfl rfl (Nat.le_of_ble_eq_true rfl) (by decide +kernel) ?_
      obtain ⟨g15, h⟩ := sw_gd_e h
      cases h
      obtain rfl : _ = res := hk
      exact sw_zret (sw_bo_n (sw_bo_e g15)) (by decide +kernel)
    · rw [if_pos c7] at h
      refine sw_iconst (n := 0) (v := 0) (by decide +kernel) (by decide) ?_
      cases h
      obtain rfl : _ = res := hk
      exact sw_zret rfl (by decide +kernel)
  · rw [if_neg c1] at h
    refine sw_aload_n (k0 := 0) 0 rfl (by decide +kernel) rfl ?_
    refine sw_iconst (n := 2) (v := 2) (by decide +kernel) (by decide) ?_
    obtain ⟨r16, m17, w18, h⟩ := sw_b2_e h
    refine sw_callVi (ci := 5) (i := 1) [.int 2] (sX5_refuse (K := K - 1) (by omega) σ 2 w18) rfl (by omega) rfl gs_X5_66 hy_X5_refuse (by decide) (by decide) rfl rfl (Nat.le_of_ble_eq_true rfl) (by decide +kernel) ?_
    obtain ⟨g19, h⟩ := sw_gd_e h
    cases h
    obtain rfl : _ = res := hk
    exact sw_zret (sw_bo_n (sw_bo_e g19)) (by decide +kernel)
def fX5_readDraw (σ : sw_M) : Option (Int32 × sw_M) :=
  if (σ.1 (sw_pl (σ.2.2 1)) 7) = 0 then
    sw_b1 (fX7_readNext σ) fun m2 =>
    sw_b2 (fX5_readNumber m2 0 999) fun r4 m5 =>
    if r4 = (-1) then
      some ((0, m5))
    else
      sw_let (sw_w m5 (sw_pl (m5.2.2 1)) 5 r4) fun m8 =>
      sw_let (sw_w m8 (sw_pl (m8.2.2 1)) 7 1) fun m10 =>
      sw_b2 (fX5_readSign m10 59) fun r12 m13 =>
      sw_gd (sw_bo r12) <|
      some ((r12, m13))
  else
    sw_b2 (fX5_refuse σ 2) fun r16 m17 =>
    sw_gd (sw_bo r16) <|
    some ((r16, m17))
set_option maxRecDepth 20000 in
theorem sX5_readDraw {l : Launch} {E : sw_E} {K : Nat} (hE : sw_RS l E) (hK : 11 ≤ K) (σ : sw_M) {res : Int32 × sw_M} (h : fX5_readDraw σ = some res) : sw_Ct l E K yX5_readDraw cX5_readDraw 2 (some .boolean) [.ref 1] σ (some (.int res.1)) res.2 := by
  obtain ⟨t, hk, h⟩ : ∃ t, t = res ∧ fX5_readDraw σ = some t := ⟨res, rfl, h⟩
  unfold fX5_readDraw at h
  refine sw_enter2 (own := RX5) (lv := [(0, .ref 1)]) (by decide +kernel) (Nat.le_of_ble_eq_true rfl) rfl rfl ?_
  refine sw_aload_n (k0 := 0) 0 rfl (by decide +kernel) rfl ?_
  refine gf_X5_21 (i := 1) (by decide) rfl (by decide +kernel) ?_
  refine gf_X5_157 (i := (sw_pl (σ.2.2 1))) (sw_pl_P _).o.1 (sw_pl_P _).o.2 (by decide +kernel) ?_
  refine sw_if_eq (off := 9) 16 (by decide +kernel) (by decide) (fun c1 => ?_) (fun c1 => ?_)
  · rw [if_pos c1] at h
    refine sw_aload_n (k0 := 0) 0 rfl (by decide +kernel) rfl ?_
    refine gf_X5_12 (i := 1) (by decide) rfl (by decide +kernel) ?_
    refine sw_refj 2 rfl ?_
    obtain ⟨m2, w3, h⟩ := sw_b1_e h
    refine sw_callVv (ci := 7) (i := 2) [] (sX7_readNext (K := K - 1) hE (by omega) σ w3) rfl (by omega) rfl gs_X5_76 hy_X7_readNext (by decide) (by decide) rfl rfl (Nat.le_of_ble_eq_true rfl) (by decide +kernel) ?_
    refine sw_aload_n (k0 := 0) 0 rfl (by decide +kernel) rfl ?_
    refine sw_iconst (n := 0) (v := 0) (by decide +kernel) (by decide) ?_
    refine sw_sipush (n := 999) (v := 999) (by decide +kernel) (by decide) ?_
    obtain ⟨r4, m5, w6, h⟩ := sw_b2_e h
    refine sw_callVi (ci := 5) (i := 1) [.int 0, .int 999] (sX5_readNumber (K := K - 1) hE (by omega) m2 0 999 w6) rfl (by omega) rfl gs_X5_129 hy_X5_readNumber (by decide) (by decide) rfl rfl (Nat.le_of_ble_eq_true rfl) (by decide +kernel) ?_
    refine sw_istore_n (k0 := 1) (lv' := [(1, .int r4), (0, .ref 1)]) (by decide +kernel) rfl (by decide) rfl ?_
    refine sw_iload_n (k0 := 1) 0 rfl (by decide +kernel) rfl ?_
    refine sw_iconst (n := (-1)) (v := (-1)) (by decide +kernel) (by decide) ?_
    refine sw_icmp_ne (off := 5) 39 (by decide +kernel) (by decide) (fun c7 => ?_) (fun c7 => ?_)
    · rw [if_neg c7] at h
      refine sw_aload_n (k0 := 0) 1 rfl (by decide +kernel) rfl ?_
      refine gf_X5_21 (i := 1) (by decide) rfl (by decide +kernel) ?_
      refine sw_iload_n (k0 := 1) 0 rfl (by decide +kernel) rfl ?_
      obtain ⟨m8, e9, h⟩ := sw_let_e h
      refine pf_X5_160 (sw_pl_P _).o.1 (sw_pl_P _).o.2 (by decide +kernel) ?_
      refine sw_mem e9 ?_
      refine sw_aload_n (k0 := 0) 1 rfl (by decide +kernel) rfl ?_
      refine gf_X5_21 (i := 1) (by decide) rfl (by decide +kernel) ?_
      refine sw_iconst (n := 1) (v := 1) (by decide +kernel) (by decide) ?_
      obtain ⟨m10, e11, h⟩ := sw_let_e h
      refine pf_X5_157 (Or.inr rfl) (sw_pl_P _).o.1 (sw_pl_P _).o.2 (by decide +kernel) ?_
      refine sw_mem e11 ?_
      refine sw_aload_n (k0 := 0) 1 rfl (by decide +kernel) rfl ?_
      refine sw_bipush (n := 59) (v := 59) (by decide +kernel) (by decide) ?_
      obtain ⟨r12, m13, w14, h⟩ := sw_b2_e h
      refine sw_callVi (ci := 5) (i := 1) [.int 59] (sX5_readSign (K := K - 1) hE (by omega) m10 59 w14) rfl (by omega) rfl gs_X5_87 hy_X5_readSign (by decide) (by decide) rfl rfl (Nat.le_of_ble_eq_true rfl) (by decide +kernel) ?_
      obtain ⟨g15, h⟩ := sw_gd_e h
      cases h
      obtain rfl : _ = res := hk
      exact sw_zret (sw_bo_n (sw_bo_e g15)) (by decide +kernel)
    · rw [if_pos c7] at h
      refine sw_iconst (n := 0) (v := 0) (by decide +kernel) (by decide) ?_
      cases h
      obtain rfl : _ = res := hk
      exact sw_zret rfl (by decide +kernel)
  · rw [if_neg c1] at h
    refine sw_aload_n (k0 := 0) 0 rfl (by decide +kernel) rfl ?_
    refine sw_iconst (n := 2) (v := 2) (by decide +kernel) (by decide) ?_
    obtain ⟨r16, m17, w18, h⟩ := sw_b2_e h
    refine sw_callVi (ci := 5) (i := 1) [.int 2] (sX5_refuse (K := K - 1) (by omega) σ 2 w18) rfl (by omega) rfl gs_X5_66 hy_X5_refuse (by decide) (by decide) rfl rfl (Nat.le_of_ble_eq_true rfl) (by decide +kernel) ?_
    obtain ⟨g19, h⟩ := sw_gd_e h
    cases h
    obtain rfl : _ = res := hk
    exact sw_zret (sw_bo_n (sw_bo_e g19)) (by decide +kernel)
def fX5_readLine (σ : sw_M) : Option (Int32 × sw_M) :=
  sw_let (σ.1 2 7) fun v1 =>
  if v1 = 0 then
    sw_b2 (fX5_readKind σ) fun r4 m5 =>
    sw_gd (sw_bo r4) <|
    some ((r4, m5))
  else
    if v1 = 1 then
      sw_b2 (fX5_readPerson σ) fun r9 m10 =>
      sw_gd (sw_bo r9) <|
      some ((r9, m10))
    else
      if v1 = 2 then
        sw_b2 (fX5_readRule σ) fun r14 m15 =>
        sw_gd (sw_bo r14) <|
        some ((r14, m15))
      else
        if v1 = 3 then
          sw_b2 (fX5_readBasin σ) fun r19 m20 =>
          sw_gd (sw_bo r19) <|
          some ((r19, m20))
        else
          if v1 = 4 then
            sw_b2 (fX5_readRises σ) fun r24 m25 =>
            sw_gd (sw_bo r24) <|
            some ((r24, m25))
          else
            if v1 = 5 then
              sw_b2 (fX5_readScum σ) fun r29 m30 =>
              sw_gd (sw_bo r29) <|
              some ((r29, m30))
            else
              if v1 = 6 then
                sw_b2 (fX5_readDraw σ) fun r34 m35 =>
                sw_gd (sw_bo r34) <|
                some ((r34, m35))
              else
                sw_b2 (fX5_refuse σ 2) fun r38 m39 =>
                sw_gd (sw_bo r38) <|
                some ((r38, m39))
set_option maxRecDepth 20000 in
theorem sX5_readLine {l : Launch} {E : sw_E} {K : Nat} (hE : sw_RS l E) (hK : 78 ≤ K) (σ : sw_M) {res : Int32 × sw_M} (h : fX5_readLine σ = some res) : sw_Ct l E K yX5_readLine cX5_readLine 1 (some .boolean) [.ref 1] σ (some (.int res.1)) res.2 := by
  obtain ⟨t, hk, h⟩ : ∃ t, t = res ∧ fX5_readLine σ = some t := ⟨res, rfl, h⟩
  unfold fX5_readLine at h
  refine sw_enter2 (own := RX5) (lv := [(0, .ref 1)]) (by decide +kernel) (Nat.le_of_ble_eq_true rfl) rfl rfl ?_
  refine sw_aload_n (k0 := 0) 0 rfl (by decide +kernel) rfl ?_
  refine gf_X5_12 (i := 1) (by decide) rfl (by decide +kernel) ?_
  refine sw_refj 2 rfl ?_
  refine gf_X5_41 (i := 2) (by decide) rfl (by decide +kernel) ?_
  obtain ⟨v1, e2, h⟩ := sw_let_e h
  refine sw_topi e2 ?_
  by_cases c3 : v1 = 0
  · rw [if_pos c3] at h
    refine sw_tabIn (dflt := 76) (lo := 0) (hi := 6) (offs := #[41, 46, 51, 56, 61, 66, 71]) (len := 41) (off := 41) 48 (by decide +kernel) (by rw [c3]; decide) (by rw [c3]; decide) (by rw [c3]; decide) (by decide) ?_
    refine sw_aload_n (k0 := 0) 0 rfl (by decide +kernel) rfl ?_
    obtain ⟨r4, m5, w6, h⟩ := sw_b2_e h
    refine sw_callVi (ci := 5) (i := 1) [] (sX5_readKind (K := K - 1) hE (by omega) σ w6) rfl (by omega) rfl gs_X5_44 hy_X5_readKind (by decide) (by decide) rfl rfl (Nat.le_of_ble_eq_true rfl) (by decide +kernel) ?_
    obtain ⟨g7, h⟩ := sw_gd_e h
    cases h
    obtain rfl : _ = res := hk
    exact sw_zret (sw_bo_n (sw_bo_e g7)) (by decide +kernel)
  · rw [if_neg c3] at h
    by_cases c8 : v1 = 1
    · rw [if_pos c8] at h
      refine sw_tabIn (dflt := 76) (lo := 0) (hi := 6) (offs := #[41, 46, 51, 56, 61, 66, 71]) (len := 41) (off := 46) 53 (by decide +kernel) (by rw [c8]; decide) (by rw [c8]; decide) (by rw [c8]; decide) (by decide) ?_
      refine sw_aload_n (k0 := 0) 0 rfl (by decide +kernel) rfl ?_
      obtain ⟨r9, m10, w11, h⟩ := sw_b2_e h
      refine sw_callVi (ci := 5) (i := 1) [] (sX5_readPerson (K := K - 1) hE (by omega) σ w11) rfl (by omega) rfl gs_X5_48 hy_X5_readPerson (by decide) (by decide) rfl rfl (Nat.le_of_ble_eq_true rfl) (by decide +kernel) ?_
      obtain ⟨g12, h⟩ := sw_gd_e h
      cases h
      obtain rfl : _ = res := hk
      exact sw_zret (sw_bo_n (sw_bo_e g12)) (by decide +kernel)
    · rw [if_neg c8] at h
      by_cases c13 : v1 = 2
      · rw [if_pos c13] at h
        refine sw_tabIn (dflt := 76) (lo := 0) (hi := 6) (offs := #[41, 46, 51, 56, 61, 66, 71]) (len := 41) (off := 51) 58 (by decide +kernel) (by rw [c13]; decide) (by rw [c13]; decide) (by rw [c13]; decide) (by decide) ?_
        refine sw_aload_n (k0 := 0) 0 rfl (by decide +kernel) rfl ?_
        obtain ⟨r14, m15, w16, h⟩ := sw_b2_e h
        refine sw_callVi (ci := 5) (i := 1) [] (sX5_readRule (K := K - 1) hE (by omega) σ w16) rfl (by omega) rfl gs_X5_51 hy_X5_readRule (by decide) (by decide) rfl rfl (Nat.le_of_ble_eq_true rfl) (by decide +kernel) ?_
        obtain ⟨g17, h⟩ := sw_gd_e h
        cases h
        obtain rfl : _ = res := hk
        exact sw_zret (sw_bo_n (sw_bo_e g17)) (by decide +kernel)
      · rw [if_neg c13] at h
        by_cases c18 : v1 = 3
        · rw [if_pos c18] at h
          refine sw_tabIn (dflt := 76) (lo := 0) (hi := 6) (offs := #[41, 46, 51, 56, 61, 66, 71]) (len := 41) (off := 56) 63 (by decide +kernel) (by rw [c18]; decide) (by rw [c18]; decide) (by rw [c18]; decide) (by decide) ?_
          refine sw_aload_n (k0 := 0) 0 rfl (by decide +kernel) rfl ?_
          obtain ⟨r19, m20, w21, h⟩ := sw_b2_e h
          refine sw_callVi (ci := 5) (i := 1) [] (sX5_readBasin (K := K - 1) hE (by omega) σ w21) rfl (by omega) rfl gs_X5_54 hy_X5_readBasin (by decide) (by decide) rfl rfl (Nat.le_of_ble_eq_true rfl) (by decide +kernel) ?_
          obtain ⟨g22, h⟩ := sw_gd_e h
          cases h
          obtain rfl : _ = res := hk
          exact sw_zret (sw_bo_n (sw_bo_e g22)) (by decide +kernel)
        · rw [if_neg c18] at h
          by_cases c23 : v1 = 4
          · rw [if_pos c23] at h
            refine sw_tabIn (dflt := 76) (lo := 0) (hi := 6) (offs := #[41, 46, 51, 56, 61, 66, 71]) (len := 41) (off := 61) 68 (by decide +kernel) (by rw [c23]; decide) (by rw [c23]; decide) (by rw [c23]; decide) (by decide) ?_
            refine sw_aload_n (k0 := 0) 0 rfl (by decide +kernel) rfl ?_
            obtain ⟨r24, m25, w26, h⟩ := sw_b2_e h
            refine sw_callVi (ci := 5) (i := 1) [] (sX5_readRises (K := K - 1) hE (by omega) σ w26) rfl (by omega) rfl gs_X5_57 hy_X5_readRises (by decide) (by decide) rfl rfl (Nat.le_of_ble_eq_true rfl) (by decide +kernel) ?_
            obtain ⟨g27, h⟩ := sw_gd_e h
            cases h
            obtain rfl : _ = res := hk
            exact sw_zret (sw_bo_n (sw_bo_e g27)) (by decide +kernel)
          · rw [if_neg c23] at h
            by_cases c28 : v1 = 5
            · rw [if_pos c28] at h
              refine sw_tabIn (dflt := 76) (lo := 0) (hi := 6) (offs := #[41, 46, 51, 56, 61, 66, 71]) (len := 41) (off := 66) 73 (by decide +kernel) (by rw [c28]; decide) (by rw [c28]; decide) (by rw [c28]; decide) (by decide) ?_
              refine sw_aload_n (k0 := 0) 0 rfl (by decide +kernel) rfl ?_
              obtain ⟨r29, m30, w31, h⟩ := sw_b2_e h
              refine sw_callVi (ci := 5) (i := 1) [] (sX5_readScum (K := K - 1) hE (by omega) σ w31) rfl (by omega) rfl gs_X5_60 hy_X5_readScum (by decide) (by decide) rfl rfl (Nat.le_of_ble_eq_true rfl) (by decide +kernel) ?_
              obtain ⟨g32, h⟩ := sw_gd_e h
              cases h
              obtain rfl : _ = res := hk
              exact sw_zret (sw_bo_n (sw_bo_e g32)) (by decide +kernel)
            · rw [if_neg c28] at h
              by_cases c33 : v1 = 6
              · rw [if_pos c33] at h
                refine sw_tabIn (dflt := 76) (lo := 0) (hi := 6) (offs := #[41, 46, 51, 56, 61, 66, 71]) (len := 41) (off := 71) 78 (by decide +kernel) (by rw [c33]; decide) (by rw [c33]; decide) (by rw [c33]; decide) (by decide) ?_
                refine sw_aload_n (k0 := 0) 0 rfl (by decide +kernel) rfl ?_
                obtain ⟨r34, m35, w36, h⟩ := sw_b2_e h
                refine sw_callVi (ci := 5) (i := 1) [] (sX5_readDraw (K := K - 1) hE (by omega) σ w36) rfl (by omega) rfl gs_X5_63 hy_X5_readDraw (by decide) (by decide) rfl rfl (Nat.le_of_ble_eq_true rfl) (by decide +kernel) ?_
                obtain ⟨g37, h⟩ := sw_gd_e h
                cases h
                obtain rfl : _ = res := hk
                exact sw_zret (sw_bo_n (sw_bo_e g37)) (by decide +kernel)
              · rw [if_neg c33] at h
                have n0 := lv_neT (a := 0) c3 (by decide)
                have n1 := lv_neT (a := 1) c8 (by decide)
                have n2 := lv_neT (a := 2) c13 (by decide)
                have n3 := lv_neT (a := 3) c18 (by decide)
                have n4 := lv_neT (a := 4) c23 (by decide)
                have n5 := lv_neT (a := 5) c28 (by decide)
                have n6 := lv_neT (a := 6) c33 (by decide)
                refine sw_tabOut (dflt := 76) (lo := 0) (hi := 6) (offs := #[41, 46, 51, 56, 61, 66, 71]) (len := 41) 83 (by decide +kernel) (by omega) (by decide) ?_
                refine sw_aload_n (k0 := 0) 0 rfl (by decide +kernel) rfl ?_
                refine sw_iconst (n := 2) (v := 2) (by decide +kernel) (by decide) ?_
                obtain ⟨r38, m39, w40, h⟩ := sw_b2_e h
                refine sw_callVi (ci := 5) (i := 1) [.int 2] (sX5_refuse (K := K - 1) (by omega) σ 2 w40) rfl (by omega) rfl gs_X5_66 hy_X5_refuse (by decide) (by decide) rfl rfl (Nat.le_of_ble_eq_true rfl) (by decide +kernel) ?_
                obtain ⟨g41, h⟩ := sw_gd_e h
                cases h
                obtain rfl : _ = res := hk
                exact sw_zret (sw_bo_n (sw_bo_e g41)) (by decide +kernel)
def fX6_forget (σ : sw_M) : Option (sw_M) :=
  sw_let (sw_w σ 39 0 0) fun m1 =>
  sw_let (sw_w m1 39 9 0) fun m3 =>
  some (m3)
set_option maxRecDepth 20000 in
theorem sX6_forget {l : Launch} {E : sw_E} {K : Nat} (hK : 0 ≤ K) (σ : sw_M) {res : sw_M} (h : fX6_forget σ = some res) : sw_Ct l E K yX6_forget cX6_forget 1 none [.ref 39] σ none res := by
  obtain ⟨t, hk, h⟩ : ∃ t, t = res ∧ fX6_forget σ = some t := ⟨res, rfl, h⟩
  unfold fX6_forget at h
  refine sw_enter2 (own := RX6) (lv := [(0, .ref 39)]) (by decide +kernel) (Nat.le_of_ble_eq_true rfl) rfl rfl ?_
  refine sw_aload_n (k0 := 0) 0 rfl (by decide +kernel) rfl ?_
  refine sw_iconst (n := 0) (v := 0) (by decide +kernel) (by decide) ?_
  obtain ⟨m1, e2, h⟩ := sw_let_e h
  refine pf_X6_37 (by decide) rfl (by decide +kernel) ?_
  refine sw_mem e2 ?_
  refine sw_aload_n (k0 := 0) 0 rfl (by decide +kernel) rfl ?_
  refine sw_iconst (n := 0) (v := 0) (by decide +kernel) (by decide) ?_
  obtain ⟨m3, e4, h⟩ := sw_let_e h
  refine pf_X6_41 (Or.inl rfl) (by decide) rfl (by decide +kernel) ?_
  refine sw_mem e4 ?_
  cases h
  obtain rfl : _ = res := hk
  exact sw_vret (by decide +kernel)
def fX6_add (σ : sw_M) (a1 : Int32) (a2 : Int32) (a3 : Int32) (a4 : Int32) (a5 : Int32) : Option (Int32 × sw_M) :=
  if (σ.1 39 0) < 30 then
    sw_gd (sw_in (σ.1 39 0) 30) <|
    sw_let (sw_w σ 40 (σ.1 39 0).toNatClampNeg a1) fun m3 =>
    sw_gd (sw_in (m3.1 39 0) 30) <|
    sw_let (sw_w m3 41 (m3.1 39 0).toNatClampNeg a2) fun m6 =>
    sw_gd (sw_in (m6.1 39 0) 30) <|
    sw_let (sw_w m6 42 (m6.1 39 0).toNatClampNeg a3) fun m9 =>
    sw_gd (sw_in (m9.1 39 0) 30) <|
    sw_let (sw_w m9 43 (m9.1 39 0).toNatClampNeg (vp_nar .boolean a4)) fun m12 =>
    sw_gd (sw_in (m12.1 39 0) 30) <|
    sw_let (sw_w m12 44 (m12.1 39 0).toNatClampNeg a5) fun m15 =>
    sw_gd (sw_in (m15.1 39 0) 30) <|
    sw_let (sw_w m15 45 (m15.1 39 0).toNatClampNeg (-1)) fun m18 =>
    sw_let (sw_w m18 39 0 ((m18.1 39 0) + 1)) fun m20 =>
    some (((m20.1 39 0) - 1, m20))
  else
    some (((-1), σ))
set_option maxRecDepth 20000 in
theorem sX6_add {l : Launch} {E : sw_E} {K : Nat} (hK : 0 ≤ K) (σ : sw_M) (a1 : Int32) (a2 : Int32) (a3 : Int32) (a4 : Int32) (a5 : Int32) {res : Int32 × sw_M} (h : fX6_add σ a1 a2 a3 a4 a5 = some res) : sw_Ct l E K yX6_add cX6_add 6 (some .int) [.ref 39, .int a1, .int a2, .int a3, .int a4, .int a5] σ (some (.int res.1)) res.2 := by
  obtain ⟨t, hk, h⟩ : ∃ t, t = res ∧ fX6_add σ a1 a2 a3 a4 a5 = some t := ⟨res, rfl, h⟩
  unfold fX6_add at h
  refine sw_enter2 (own := RX6) (lv := [(0, .ref 39), (1, .int a1), (2, .int a2), (3, .int a3), (4, .int a4), (5, .int a5)]) (by decide +kernel) (Nat.le_of_ble_eq_true rfl) rfl rfl ?_
  refine sw_aload_n (k0 := 0) 0 rfl (by decide +kernel) rfl ?_
  refine gf_X6_37 (i := 39) (by decide) rfl (by decide +kernel) ?_
  refine sw_bipush (n := 30) (v := 30) (by decide +kernel) (by decide) ?_
  refine sw_icmp_lt (off := 5) 11 (by decide +kernel) (by decide) (fun c1 => ?_) (fun c1 => ?_)
  · rw [if_pos c1] at h
    refine sw_aload_n (k0 := 0) 0 rfl (by decide +kernel) rfl ?_
    refine gf_X6_11 (i := 39) (by decide) rfl (by decide +kernel) ?_
    refine sw_refj 40 rfl ?_
    refine sw_aload_n (k0 := 0) 0 rfl (by decide +kernel) rfl ?_
    refine gf_X6_37 (i := 39) (by decide) rfl (by decide +kernel) ?_
    refine sw_iload_n (k0 := 1) 1 rfl (by decide +kernel) rfl ?_
    obtain ⟨g2, h⟩ := sw_gd_e h
    obtain ⟨m3, e4, h⟩ := sw_let_e h
    refine sw_iastore (a := 40) (by decide) rfl (sw_in_e g2) (by decide +kernel) ?_
    refine sw_mem e4 ?_
    refine sw_aload_n (k0 := 0) 0 rfl (by decide +kernel) rfl ?_
    refine gf_X6_15 (i := 39) (by decide) rfl (by decide +kernel) ?_
    refine sw_refj 41 rfl ?_
    refine sw_aload_n (k0 := 0) 0 rfl (by decide +kernel) rfl ?_
    refine gf_X6_37 (i := 39) (by decide) rfl (by decide +kernel) ?_
    refine sw_iload_n (k0 := 2) 2 rfl (by decide +kernel) rfl ?_
    obtain ⟨g5, h⟩ := sw_gd_e h
    obtain ⟨m6, e7, h⟩ := sw_let_e h
    refine sw_iastore (a := 41) (by decide) rfl (sw_in_e g5) (by decide +kernel) ?_
    refine sw_mem e7 ?_
    refine sw_aload_n (k0 := 0) 0 rfl (by decide +kernel) rfl ?_
    refine gf_X6_18 (i := 39) (by decide) rfl (by decide +kernel) ?_
    refine sw_refj 42 rfl ?_
    refine sw_aload_n (k0 := 0) 0 rfl (by decide +kernel) rfl ?_
    refine gf_X6_37 (i := 39) (by decide) rfl (by decide +kernel) ?_
    refine sw_iload_n (k0 := 3) 3 rfl (by decide +kernel) rfl ?_
    obtain ⟨g8, h⟩ := sw_gd_e h
    obtain ⟨m9, e10, h⟩ := sw_let_e h
    refine sw_iastore (a := 42) (by decide) rfl (sw_in_e g8) (by decide +kernel) ?_
    refine sw_mem e10 ?_
    refine sw_aload_n (k0 := 0) 0 rfl (by decide +kernel) rfl ?_
    refine gf_X6_21 (i := 39) (by decide) rfl (by decide +kernel) ?_
    refine sw_refj 43 rfl ?_
    refine sw_aload_n (k0 := 0) 0 rfl (by decide +kernel) rfl ?_
    refine gf_X6_37 (i := 39) (by decide) rfl (by decide +kernel) ?_
    refine sw_iload 4 rfl (by decide +kernel) ?_
    obtain ⟨g11, h⟩ := sw_gd_e h
    obtain ⟨m12, e13, h⟩ := sw_let_e h
    refine sw_zastore (a := 43) (by decide) rfl (sw_in_e g11) (by decide +kernel) ?_
    refine sw_mem e13 ?_
    refine sw_aload_n (k0 := 0) 0 rfl (by decide +kernel) rfl ?_
    refine gf_X6_25 (i := 39) (by decide) rfl (by decide +kernel) ?_
    refine sw_refj 44 rfl ?_
    refine sw_aload_n (k0 := 0) 0 rfl (by decide +kernel) rfl ?_
    refine gf_X6_37 (i := 39) (by decide) rfl (by decide +kernel) ?_
    refine sw_iload 5 rfl (by decide +kernel) ?_
    obtain ⟨g14, h⟩ := sw_gd_e h
    obtain ⟨m15, e16, h⟩ := sw_let_e h
    refine sw_iastore (a := 44) (by decide) rfl (sw_in_e g14) (by decide +kernel) ?_
    refine sw_mem e16 ?_
    refine sw_aload_n (k0 := 0) 0 rfl (by decide +kernel) rfl ?_
    refine gf_X6_28 (i := 39) (by decide) rfl (by decide +kernel) ?_
    refine sw_refj 45 rfl ?_
    refine sw_aload_n (k0 := 0) 0 rfl (by decide +kernel) rfl ?_
    refine gf_X6_37 (i := 39) (by decide) rfl (by decide +kernel) ?_
    refine sw_iconst (n := (-1)) (v := (-1)) (by decide +kernel) (by decide) ?_
    obtain ⟨g17, h⟩ := sw_gd_e h
    obtain ⟨m18, e19, h⟩ := sw_let_e h
    refine sw_iastore (a := 45) (by decide) rfl (sw_in_e g17) (by decide +kernel) ?_
    refine sw_mem e19 ?_
    refine sw_aload_n (k0 := 0) 0 rfl (by decide +kernel) rfl ?_
    refine sw_dup (by decide +kernel) rfl ?_
    refine gf_X6_37 (i := 39) (by decide) rfl (by decide +kernel) ?_
    refine sw_iconst (n := 1) (v := 1) (by decide +kernel) (by decide) ?_
    refine sw_iadd (by decide +kernel) ?_
    obtain ⟨m20, e21, h⟩ := sw_let_e h
    refine pf_X6_37 (by decide) rfl (by decide +kernel) ?_
    refine sw_mem e21 ?_
    refine sw_aload_n (k0 := 0) 0 rfl (by decide +kernel) rfl ?_
    refine gf_X6_37 (i := 39) (by decide) rfl (by decide +kernel) ?_
    refine sw_iconst (n := 1) (v := 1) (by decide +kernel) (by decide) ?_
    refine sw_isub (by decide +kernel) ?_
    cases h
    obtain rfl : _ = res := hk
    exact sw_iret (by decide +kernel)
  · rw [if_neg c1] at h
    refine sw_iconst (n := (-1)) (v := (-1)) (by decide +kernel) (by decide) ?_
    cases h
    obtain rfl : _ = res := hk
    exact sw_iret (by decide +kernel)
def fX6_takeBack (σ : sw_M) (a1 : Int32) (a2 : Int32) : Option (Int32 × sw_M) :=
  if a1 < 0 then
    some ((0, σ))
  else
    if (σ.1 39 0) ≤ a1 then
      some ((0, σ))
    else
      sw_gd (sw_in a1 30) <|
      if (σ.1 45 a1.toNatClampNeg) = (-1) then
        sw_gd (sw_in a1 30) <|
        sw_let (sw_w σ 45 a1.toNatClampNeg a2) fun m6 =>
        some ((1, m6))
      else
        some ((0, σ))
set_option maxRecDepth 20000 in
theorem sX6_takeBack {l : Launch} {E : sw_E} {K : Nat} (hK : 0 ≤ K) (σ : sw_M) (a1 : Int32) (a2 : Int32) {res : Int32 × sw_M} (h : fX6_takeBack σ a1 a2 = some res) : sw_Ct l E K yX6_takeBack cX6_takeBack 3 (some .boolean) [.ref 39, .int a1, .int a2] σ (some (.int res.1)) res.2 := by
  obtain ⟨t, hk, h⟩ : ∃ t, t = res ∧ fX6_takeBack σ a1 a2 = some t := ⟨res, rfl, h⟩
  unfold fX6_takeBack at h
  refine sw_enter2 (own := RX6) (lv := [(0, .ref 39), (1, .int a1), (2, .int a2)]) (by decide +kernel) (Nat.le_of_ble_eq_true rfl) rfl rfl ?_
  refine sw_iload_n (k0 := 1) 1 rfl (by decide +kernel) rfl ?_
  refine sw_if_lt (off := 21) 22 (by decide +kernel) (by decide) (fun c1 => ?_) (fun c1 => ?_)
  · rw [if_pos c1] at h
    refine sw_iconst (n := 0) (v := 0) (by decide +kernel) (by decide) ?_
    cases h
    obtain rfl : _ = res := hk
    exact sw_zret rfl (by decide +kernel)
  · rw [if_neg c1] at h
    refine sw_iload_n (k0 := 1) 1 rfl (by decide +kernel) rfl ?_
    refine sw_aload_n (k0 := 0) 0 rfl (by decide +kernel) rfl ?_
    refine gf_X6_37 (i := 39) (by decide) rfl (by decide +kernel) ?_
    refine sw_icmp_ge (off := 13) 22 (by decide +kernel) (by decide) (fun c2 => ?_) (fun c2 => ?_)
    · rw [if_pos c2] at h
      refine sw_iconst (n := 0) (v := 0) (by decide +kernel) (by decide) ?_
      cases h
      obtain rfl : _ = res := hk
      exact sw_zret rfl (by decide +kernel)
    · rw [if_neg c2] at h
      refine sw_aload_n (k0 := 0) 0 rfl (by decide +kernel) rfl ?_
      refine gf_X6_28 (i := 39) (by decide) rfl (by decide +kernel) ?_
      refine sw_refj 45 rfl ?_
      refine sw_iload_n (k0 := 1) 1 rfl (by decide +kernel) rfl ?_
      obtain ⟨g3, h⟩ := sw_gd_e h
      refine sw_iaload (a := 45) (by decide) rfl (sw_in_e g3) (by decide +kernel) ?_
      refine sw_iconst (n := (-1)) (v := (-1)) (by decide +kernel) (by decide) ?_
      refine sw_icmp_eq (off := 5) 24 (by decide +kernel) (by decide) (fun c4 => ?_) (fun c4 => ?_)
      · rw [if_pos c4] at h
        refine sw_aload_n (k0 := 0) 0 rfl (by decide +kernel) rfl ?_
        refine gf_X6_28 (i := 39) (by decide) rfl (by decide +kernel) ?_
        refine sw_refj 45 rfl ?_
        refine sw_iload_n (k0 := 1) 1 rfl (by decide +kernel) rfl ?_
        refine sw_iload_n (k0 := 2) 2 rfl (by decide +kernel) rfl ?_
        obtain ⟨g5, h⟩ := sw_gd_e h
        obtain ⟨m6, e7, h⟩ := sw_let_e h
        refine sw_iastore (a := 45) (by decide) rfl (sw_in_e g5) (by decide +kernel) ?_
        refine sw_mem e7 ?_
        refine sw_iconst (n := 1) (v := 1) (by decide +kernel) (by decide) ?_
        cases h
        obtain rfl : _ = res := hk
        exact sw_zret rfl (by decide +kernel)
      · rw [if_neg c4] at h
        refine sw_iconst (n := 0) (v := 0) (by decide +kernel) (by decide) ?_
        cases h
        obtain rfl : _ = res := hk
        exact sw_zret rfl (by decide +kernel)
def fX6_tellAll_L10 (P1 : Nat) (σ : sw_M) (a2 : Int32) (a3 : Int32) : Option ((Int32 × sw_M) ⊕ (sw_M)) :=
  if (σ.1 P1 1) ≤ a3 then
    sw_let (σ.1 P1 8) fun v2 =>
    sw_gd (sw_in v2 5) <|
    sw_b1 (fX4_has P1 σ ((σ.1 P1 1) - 1) (σ.1 P1 8)) fun r5 =>
    sw_gd (sw_in v2 5) <|
    sw_let (sw_w σ 46 v2.toNatClampNeg ((σ.1 46 v2.toNatClampNeg) + (a2 - r5))) fun m8 =>
    some (.inr (m8))
  else
    sw_b1 (fX4_pour P1 46 σ a3) fun m10 =>
    sw_let (a3 + 1) fun v12 =>
    some (.inl (v12, m10))
def fX6_tellAll (P1 : Nat) (σ : sw_M) (a2 : Int32) : Option (sw_M) :=
  sw_b1 (fJ7_fill_53178 46 σ 0) fun m1 =>
  sw_wh sw_F (fun s => fX6_tellAll_L10 P1 s.2 a2 s.1) (0, m1)
set_option maxRecDepth 20000 in
theorem sX6_tellAll_L10 {l : Launch} {E : sw_E} {K : Nat} (hK : 2 ≤ K) (P1 : Nat) (hP1 : sw_isP P1) (σ : sw_M) (a2 : Int32) (a3 : Int32) {res : sw_M} {t : (Int32 × sw_M) ⊕ (sw_M)} (h : fX6_tellAll_L10 P1 σ a2 a3 = some t) (hk : (Sum.elim (fun s : Int32 × sw_M => sw_Go l E K RX6 cX6_tellAll 4 none 10 [(0, .ref 39), (1, .ref P1), (2, .int a2), (3, .int s.1)] [] s.2 none res) (fun q => q = res)) t) : sw_Go l E K RX6 cX6_tellAll 4 none 10 [(0, .ref 39), (1, .ref P1), (2, .int a2), (3, .int a3)] [] σ none res := by
  unfold fX6_tellAll_L10 at h
  refine sw_iload_n (k0 := 3) 3 rfl (by decide +kernel) rfl ?_
  refine sw_aload_n (k0 := 1) 1 rfl (by decide +kernel) rfl ?_
  refine gf_X6_45 (i := P1) hP1.o.1 hP1.o.2 (by decide +kernel) ?_
  refine sw_icmp_ge (off := 18) 33 (by decide +kernel) (by decide) (fun c1 => ?_) (fun c1 => ?_)
  · rw [if_pos c1] at h
    refine sw_aload_n (k0 := 0) 0 rfl (by decide +kernel) rfl ?_
    refine gf_X6_31 (i := 39) (by decide) rfl (by decide +kernel) ?_
    refine sw_refj 46 rfl ?_
    refine sw_aload_n (k0 := 1) 1 rfl (by decide +kernel) rfl ?_
    refine gf_X6_97 (i := P1) hP1.o.1 hP1.o.2 (by decide +kernel) ?_
    obtain ⟨v2, e3, h⟩ := sw_let_e h
    refine sw_topi e3 ?_
    refine sw_dup2 (by decide +kernel) rfl rfl ?_
    obtain ⟨g4, h⟩ := sw_gd_e h
    refine sw_iaload (a := 46) (by decide) rfl (sw_in_e g4) (by decide +kernel) ?_
    refine sw_iload_n (k0 := 2) 2 rfl (by decide +kernel) rfl ?_
    refine sw_aload_n (k0 := 1) 1 rfl (by decide +kernel) rfl ?_
    refine sw_aload_n (k0 := 1) 1 rfl (by decide +kernel) rfl ?_
    refine gf_X6_45 (i := P1) hP1.o.1 hP1.o.2 (by decide +kernel) ?_
    refine sw_iconst (n := 1) (v := 1) (by decide +kernel) (by decide) ?_
    refine sw_isub (by decide +kernel) ?_
    refine sw_aload_n (k0 := 1) 1 rfl (by decide +kernel) rfl ?_
    refine gf_X6_97 (i := P1) hP1.o.1 hP1.o.2 (by decide +kernel) ?_
    obtain ⟨r5, w6, h⟩ := sw_b1_e h
    refine sw_callVi (ci := 4) (i := P1) [.int ((σ.1 P1 1) - 1), .int (σ.1 P1 8)] (sX4_has (K := K - 1) (by omega) P1 hP1 σ ((σ.1 P1 1) - 1) (σ.1 P1 8) w6) rfl (by omega) rfl gs_X6_100 hy_X4_has (by decide) hP1.o.1 hP1.o.2 rfl (Nat.le_of_ble_eq_true rfl) (by decide +kernel) ?_
    refine sw_isub (by decide +kernel) ?_
    refine sw_iadd (by decide +kernel) ?_
    obtain ⟨g7, h⟩ := sw_gd_e h
    obtain ⟨m8, e9, h⟩ := sw_let_e h
    refine sw_iastore (a := 46) (by decide) rfl (sw_in_e g7) (by decide +kernel) ?_
    refine sw_mem e9 ?_
    cases h
    obtain rfl : _ = res := hk
    exact sw_vret (by decide +kernel)
  · rw [if_neg c1] at h
    refine sw_aload_n (k0 := 1) 1 rfl (by decide +kernel) rfl ?_
    refine sw_aload_n (k0 := 0) 0 rfl (by decide +kernel) rfl ?_
    refine gf_X6_31 (i := 39) (by decide) rfl (by decide +kernel) ?_
    refine sw_refj 46 rfl ?_
    refine sw_iload_n (k0 := 3) 3 rfl (by decide +kernel) rfl ?_
    obtain ⟨m10, w11, h⟩ := sw_b1_e h
    refine sw_callVv (ci := 4) (i := P1) [.ref 46, .int a3] (sX4_pour (K := K - 1) (by omega) P1 46 hP1 (sw_A_of (by decide) rfl) σ a3 w11) rfl (by omega) rfl gs_X6_94 hy_X4_pour (by decide) hP1.o.1 hP1.o.2 rfl (Nat.le_of_ble_eq_true rfl) (by decide +kernel) ?_
    obtain ⟨v12, e13, h⟩ := sw_let_e h
    refine sw_iincv (i := 3) (n := 1) (lv' := [(3, .int v12), (0, .ref 39), (1, .ref P1), (2, .int a2)]) 3 rfl e13 (by decide +kernel) (by decide) (by decide) rfl ?_
    refine sw_goto (off := (-20)) 10 (by decide +kernel) (by decide) ?_
    cases h
    refine sw_lv [1, 2, 3, 0] rfl ?_
    exact hk
set_option maxRecDepth 20000 in
theorem sX6_tellAll {l : Launch} {E : sw_E} {K : Nat} (hK : 2 ≤ K) (P1 : Nat) (hP1 : sw_isP P1) (σ : sw_M) (a2 : Int32) {res : sw_M} (h : fX6_tellAll P1 σ a2 = some res) : sw_Ct l E K yX6_tellAll cX6_tellAll 4 none [.ref 39, .ref P1, .int a2] σ none res := by
  obtain ⟨t, hk, h⟩ : ∃ t, t = res ∧ fX6_tellAll P1 σ a2 = some t := ⟨res, rfl, h⟩
  unfold fX6_tellAll at h
  refine sw_enter2 (own := RX6) (lv := [(0, .ref 39), (1, .ref P1), (2, .int a2)]) (by decide +kernel) (Nat.le_of_ble_eq_true rfl) rfl rfl ?_
  refine sw_aload_n (k0 := 0) 0 rfl (by decide +kernel) rfl ?_
  refine gf_X6_31 (i := 39) (by decide) rfl (by decide +kernel) ?_
  refine sw_refj 46 rfl ?_
  refine sw_iconst (n := 0) (v := 0) (by decide +kernel) (by decide) ?_
  obtain ⟨m1, w2, h⟩ := sw_b1_e h
  refine sw_callSv [.ref 46, .int 0] (sJ7_fill_53178 (K := K - 1) (by omega) 46 (sw_A_of (by decide) rfl) σ 0 w2) rfl (by omega) gs_X6_88 hy_J7_fill_53178 (by decide) rfl (Nat.le_of_ble_eq_true rfl) (by decide +kernel) ?_
  refine sw_iconst (n := 0) (v := 0) (by decide +kernel) (by decide) ?_
  refine sw_istore_n (k0 := 3) (lv' := [(3, .int 0), (0, .ref 39), (1, .ref P1), (2, .int a2)]) (by decide +kernel) rfl (by decide) rfl ?_
  refine sw_lv [1, 2, 3, 0] rfl ?_
  exact sw_wh_e (fun s : Int32 × sw_M => sw_Go l E K RX6 cX6_tellAll 4 none 10 [(0, .ref 39), (1, .ref P1), (2, .int a2), (3, .int s.1)] [] s.2 none res) (fun q => q = res) (fun s => fX6_tellAll_L10 P1 s.2 a2 s.1) (fun s t hb hk => sX6_tellAll_L10 hK P1 hP1 s.2 a2 s.1 hb hk) _ _ _ h hk
def fX6_cell (a0 : Int32) (a1 : Int32) : Int32 :=
  ((a0 * 13) + a1) * 5
set_option maxRecDepth 20000 in
theorem sX6_cell {l : Launch} {E : sw_E} {K : Nat} (hK : 0 ≤ K) (σ : sw_M) (a0 : Int32) (a1 : Int32) {res : Int32} (h : fX6_cell a0 a1 = res) : sw_Ct l E K yX6_cell cX6_cell 2 (some .int) [.int a0, .int a1] σ (some (.int res)) σ := by
  obtain ⟨t, hk, h⟩ : ∃ t, t = res ∧ fX6_cell a0 a1 = t := ⟨res, rfl, h⟩
  unfold fX6_cell at h
  refine sw_enter2 (own := RX6) (lv := [(0, .int a0), (1, .int a1)]) (by decide +kernel) (Nat.le_of_ble_eq_true rfl) rfl rfl ?_
  refine sw_iload_n (k0 := 0) 0 rfl (by decide +kernel) rfl ?_
  refine sw_bipush (n := 13) (v := 13) (by decide +kernel) (by decide) ?_
  refine sw_imul (by decide +kernel) ?_
  refine sw_iload_n (k0 := 1) 1 rfl (by decide +kernel) rfl ?_
  refine sw_iadd (by decide +kernel) ?_
  refine sw_iconst (n := 5) (v := 5) (by decide +kernel) (by decide) ?_
  refine sw_imul (by decide +kernel) ?_
  subst h
  obtain rfl : _ = res := hk
  exact sw_iret (by decide +kernel)
def fX6_followCourses_L42 (P1 : Nat) (σ : sw_M) (a2 : Int32) (a3 : Int32) : Option ((Int32 × sw_M) ⊕ ((Int32 × sw_M) ⊕ (sw_M))) :=
  if 12 < a3 then
    sw_let (a2 + 1) fun v2 =>
    some (.inr (.inl (v2, σ)))
  else
    sw_b2 (fX4_boilRules P1 46 σ) fun r4 m5 =>
    sw_gd (sw_cg 0 (fX6_cell a2 a3) 5 5 2015) <|
    sw_let (sw_wA m5 47 (va_cpy (m5.1 46) (m5.1 47) (0 : Int32).toNatClampNeg (fX6_cell a2 a3).toNatClampNeg (5 : Int32).toNatClampNeg)) fun m8 =>
    sw_let (a3 + 1) fun v10 =>
    some (.inl (v10, m8))
def fX6_followCourses_L10 (P1 : Nat) (σ : sw_M) (a2 : Int32) : Option ((Int32 × sw_M) ⊕ (sw_M)) :=
  if 30 < a2 then
    sw_let (sw_w σ 39 9 1) fun m2 =>
    some (.inr (m2))
  else
    sw_b1 (fX6_tellAll P1 σ a2) fun m4 =>
    sw_gd (sw_cg 0 (fX6_cell a2 0) 5 5 2015) <|
    sw_let (sw_wA m4 47 (va_cpy (m4.1 46) (m4.1 47) (0 : Int32).toNatClampNeg (fX6_cell a2 0).toNatClampNeg (5 : Int32).toNatClampNeg)) fun m7 =>
    sw_wh sw_F (fun s => fX6_followCourses_L42 P1 s.2 a2 s.1) (1, m7)
def fX6_followCourses (P1 : Nat) (σ : sw_M) : Option (sw_M) :=
  if (σ.1 39 9) = 0 then
    sw_wh sw_F (fun s => fX6_followCourses_L10 P1 s.2 s.1) (0, σ)
  else
    some (σ)
set_option maxRecDepth 20000 in
theorem sX6_followCourses_L42 {l : Launch} {E : sw_E} {K : Nat} (hK : 4 ≤ K) (P1 : Nat) (hP1 : sw_isP P1) (σ : sw_M) (a2 : Int32) (a3 : Int32) {res : sw_M} {t : (Int32 × sw_M) ⊕ ((Int32 × sw_M) ⊕ (sw_M))} (h : fX6_followCourses_L42 P1 σ a2 a3 = some t) (hk : (Sum.elim (fun s : Int32 × sw_M => sw_Go l E K RX6 cX6_followCourses 4 none 42 [(0, .ref 39), (1, .ref P1), (2, .int a2), (3, .int s.1)] [] s.2 none res) (Sum.elim (fun s : Int32 × sw_M => sw_Go l E K RX6 cX6_followCourses 4 none 10 [(0, .ref 39), (1, .ref P1), (2, .int s.1)] [] s.2 none res) (fun q => q = res))) t) : sw_Go l E K RX6 cX6_followCourses 4 none 42 [(0, .ref 39), (1, .ref P1), (2, .int a2), (3, .int a3)] [] σ none res := by
  unfold fX6_followCourses_L42 at h
  refine sw_iload_n (k0 := 3) 3 rfl (by decide +kernel) rfl ?_
  refine sw_bipush (n := 12) (v := 12) (by decide +kernel) (by decide) ?_
  refine sw_icmp_gt (off := 36) 81 (by decide +kernel) (by decide) (fun c1 => ?_) (fun c1 => ?_)
  · rw [if_pos c1] at h
    obtain ⟨v2, e3, h⟩ := sw_let_e h
    refine sw_iincv (i := 2) (n := 1) (lv' := [(2, .int v2), (0, .ref 39), (1, .ref P1), (3, .int a3)]) 2 rfl e3 (by decide +kernel) (by decide) (by decide) rfl ?_
    refine sw_goto (off := (-74)) 10 (by decide +kernel) (by decide) ?_
    cases h
    refine sw_lv [1, 2, 0] rfl ?_
    exact hk
  · rw [if_neg c1] at h
    refine sw_aload_n (k0 := 1) 1 rfl (by decide +kernel) rfl ?_
    refine sw_aload_n (k0 := 0) 0 rfl (by decide +kernel) rfl ?_
    refine gf_X6_31 (i := 39) (by decide) rfl (by decide +kernel) ?_
    refine sw_refj 46 rfl ?_
    obtain ⟨r4, m5, w6, h⟩ := sw_b2_e h
    refine sw_callVi (ci := 4) (i := P1) [.ref 46] (sX4_boilRules (K := K - 1) (by omega) P1 46 hP1 (sw_A_of (by decide) rfl) σ w6) rfl (by omega) rfl gs_X6_84 hy_X4_boilRules (by decide) hP1.o.1 hP1.o.2 rfl (Nat.le_of_ble_eq_true rfl) (by decide +kernel) ?_
    refine sw_pop (by decide +kernel) rfl ?_
    refine sw_aload_n (k0 := 0) 0 rfl (by decide +kernel) rfl ?_
    refine gf_X6_31 (i := 39) (by decide) rfl (by decide +kernel) ?_
    refine sw_refj 46 rfl ?_
    refine sw_iconst (n := 0) (v := 0) (by decide +kernel) (by decide) ?_
    refine sw_aload_n (k0 := 0) 0 rfl (by decide +kernel) rfl ?_
    refine gf_X6_34 (i := 39) (by decide) rfl (by decide +kernel) ?_
    refine sw_refj 47 rfl ?_
    refine sw_iload_n (k0 := 2) 2 rfl (by decide +kernel) rfl ?_
    refine sw_iload_n (k0 := 3) 3 rfl (by decide +kernel) rfl ?_
    refine sw_callSi [.int a2, .int a3] (sX6_cell (K := K - 1) (by omega) m5 a2 a3 rfl) rfl (by omega) gs_X6_68 hy_X6_cell (by decide) rfl (Nat.le_of_ble_eq_true rfl) (by decide +kernel) ?_
    refine sw_iconst (n := 5) (v := 5) (by decide +kernel) (by decide) ?_
    obtain ⟨g7, h⟩ := sw_gd_e h
    obtain ⟨m8, e9, h⟩ := sw_let_e h
    refine sw_acopy (a0 := 46) (a := 47) ac_X6_78 ac_nat ac_sta ac_ini (by decide) rfl (by decide) rfl (sw_cg_e g7).1 (sw_cg_e g7).2.1 (sw_cg_e g7).2.2.1 (sw_cg_e g7).2.2.2.1 (sw_cg_e g7).2.2.2.2 (by omega) (by decide) (by decide +kernel) ?_
    refine sw_mem e9 ?_
    obtain ⟨v10, e11, h⟩ := sw_let_e h
    refine sw_iincv (i := 3) (n := 1) (lv' := [(3, .int v10), (0, .ref 39), (1, .ref P1), (2, .int a2)]) 3 rfl e11 (by decide +kernel) (by decide) (by decide) rfl ?_
    refine sw_goto (off := (-36)) 42 (by decide +kernel) (by decide) ?_
    cases h
    refine sw_lv [1, 2, 3, 0] rfl ?_
    exact hk
set_option maxRecDepth 20000 in
theorem sX6_followCourses_L10 {l : Launch} {E : sw_E} {K : Nat} (hK : 4 ≤ K) (P1 : Nat) (hP1 : sw_isP P1) (σ : sw_M) (a2 : Int32) {res : sw_M} {t : (Int32 × sw_M) ⊕ (sw_M)} (h : fX6_followCourses_L10 P1 σ a2 = some t) (hk : (Sum.elim (fun s : Int32 × sw_M => sw_Go l E K RX6 cX6_followCourses 4 none 10 [(0, .ref 39), (1, .ref P1), (2, .int s.1)] [] s.2 none res) (fun q => q = res)) t) : sw_Go l E K RX6 cX6_followCourses 4 none 10 [(0, .ref 39), (1, .ref P1), (2, .int a2)] [] σ none res := by
  unfold fX6_followCourses_L10 at h
  refine sw_iload_n (k0 := 2) 2 rfl (by decide +kernel) rfl ?_
  refine sw_bipush (n := 30) (v := 30) (by decide +kernel) (by decide) ?_
  refine sw_icmp_gt (off := 74) 87 (by decide +kernel) (by decide) (fun c1 => ?_) (fun c1 => ?_)
  · rw [if_pos c1] at h
    refine sw_aload_n (k0 := 0) 0 rfl (by decide +kernel) rfl ?_
    refine sw_iconst (n := 1) (v := 1) (by decide +kernel) (by decide) ?_
    obtain ⟨m2, e3, h⟩ := sw_let_e h
    refine pf_X6_41 (Or.inr rfl) (by decide) rfl (by decide +kernel) ?_
    refine sw_mem e3 ?_
    cases h
    obtain rfl : _ = res := hk
    exact sw_vret (by decide +kernel)
  · rw [if_neg c1] at h
    refine sw_aload_n (k0 := 0) 0 rfl (by decide +kernel) rfl ?_
    refine sw_aload_n (k0 := 1) 1 rfl (by decide +kernel) rfl ?_
    refine sw_iload_n (k0 := 2) 2 rfl (by decide +kernel) rfl ?_
    obtain ⟨m4, w5, h⟩ := sw_b1_e h
    refine sw_callVv (ci := 6) (i := 39) [.ref P1, .int a2] (sX6_tellAll (K := K - 1) (by omega) P1 hP1 σ a2 w5) rfl (by omega) rfl gs_X6_74 hy_X6_tellAll (by decide) (by decide) rfl rfl (Nat.le_of_ble_eq_true rfl) (by decide +kernel) ?_
    refine sw_aload_n (k0 := 0) 0 rfl (by decide +kernel) rfl ?_
    refine gf_X6_31 (i := 39) (by decide) rfl (by decide +kernel) ?_
    refine sw_refj 46 rfl ?_
    refine sw_iconst (n := 0) (v := 0) (by decide +kernel) (by decide) ?_
    refine sw_aload_n (k0 := 0) 0 rfl (by decide +kernel) rfl ?_
    refine gf_X6_34 (i := 39) (by decide) rfl (by decide +kernel) ?_
    refine sw_refj 47 rfl ?_
    refine sw_iload_n (k0 := 2) 2 rfl (by decide +kernel) rfl ?_
    refine sw_iconst (n := 0) (v := 0) (by decide +kernel) (by decide) ?_
    refine sw_callSi [.int a2, .int 0] (sX6_cell (K := K - 1) (by omega) m4 a2 0 rfl) rfl (by omega) gs_X6_68 hy_X6_cell (by decide) rfl (Nat.le_of_ble_eq_true rfl) (by decide +kernel) ?_
    refine sw_iconst (n := 5) (v := 5) (by decide +kernel) (by decide) ?_
    obtain ⟨g6, h⟩ := sw_gd_e h
    obtain ⟨m7, e8, h⟩ := sw_let_e h
    refine sw_acopy (a0 := 46) (a := 47) ac_X6_78 ac_nat ac_sta ac_ini (by decide) rfl (by decide) rfl (sw_cg_e g6).1 (sw_cg_e g6).2.1 (sw_cg_e g6).2.2.1 (sw_cg_e g6).2.2.2.1 (sw_cg_e g6).2.2.2.2 (by omega) (by decide) (by decide +kernel) ?_
    refine sw_mem e8 ?_
    refine sw_iconst (n := 1) (v := 1) (by decide +kernel) (by decide) ?_
    refine sw_istore_n (k0 := 3) (lv' := [(3, .int 1), (0, .ref 39), (1, .ref P1), (2, .int a2)]) (by decide +kernel) rfl (by decide) rfl ?_
    refine sw_lv [1, 2, 3, 0] rfl ?_
    exact sw_wh_e (fun s : Int32 × sw_M => sw_Go l E K RX6 cX6_followCourses 4 none 42 [(0, .ref 39), (1, .ref P1), (2, .int a2), (3, .int s.1)] [] s.2 none res) (Sum.elim (fun s : Int32 × sw_M => sw_Go l E K RX6 cX6_followCourses 4 none 10 [(0, .ref 39), (1, .ref P1), (2, .int s.1)] [] s.2 none res) (fun q => q = res)) (fun s => fX6_followCourses_L42 P1 s.2 a2 s.1) (fun s t hb hk => sX6_followCourses_L42 hK P1 hP1 s.2 a2 s.1 hb hk) _ _ _ h hk
set_option maxRecDepth 20000 in
theorem sX6_followCourses {l : Launch} {E : sw_E} {K : Nat} (hK : 4 ≤ K) (P1 : Nat) (hP1 : sw_isP P1) (σ : sw_M) {res : sw_M} (h : fX6_followCourses P1 σ = some res) : sw_Ct l E K yX6_followCourses cX6_followCourses 4 none [.ref 39, .ref P1] σ none res := by
  obtain ⟨t, hk, h⟩ : ∃ t, t = res ∧ fX6_followCourses P1 σ = some t := ⟨res, rfl, h⟩
  unfold fX6_followCourses at h
  refine sw_enter2 (own := RX6) (lv := [(0, .ref 39), (1, .ref P1)]) (by decide +kernel) (Nat.le_of_ble_eq_true rfl) rfl rfl ?_
  refine sw_aload_n (k0 := 0) 0 rfl (by decide +kernel) rfl ?_
  refine gf_X6_41 (i := 39) (by decide) rfl (by decide +kernel) ?_
  refine sw_if_eq (off := 4) 8 (by decide +kernel) (by decide) (fun c1 => ?_) (fun c1 => ?_)
  · rw [if_pos c1] at h
    refine sw_iconst (n := 0) (v := 0) (by decide +kernel) (by decide) ?_
    refine sw_istore_n (k0 := 2) (lv' := [(2, .int 0), (0, .ref 39), (1, .ref P1)]) (by decide +kernel) rfl (by decide) rfl ?_
    refine sw_lv [1, 2, 0] rfl ?_
    exact sw_wh_e (fun s : Int32 × sw_M => sw_Go l E K RX6 cX6_followCourses 4 none 10 [(0, .ref 39), (1, .ref P1), (2, .int s.1)] [] s.2 none res) (fun q => q = res) (fun s => fX6_followCourses_L10 P1 s.2 s.1) (fun s t hb hk => sX6_followCourses_L10 hK P1 hP1 s.2 s.1 hb hk) _ _ _ h hk
  · rw [if_neg c1] at h
    cases h
    obtain rfl : _ = res := hk
    exact sw_vret (by decide +kernel)
