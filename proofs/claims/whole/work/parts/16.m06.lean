def fX6_counts (σ : sw_M) (a1 : Int32) (a2 : Int32) : Option (Int32) :=
  sw_gd (sw_in a1 30) <|
  if (σ.1 44 a1.toNatClampNeg) ≤ a2 then
    sw_gd (sw_in a1 30) <|
    if (σ.1 45 a1.toNatClampNeg) = (-1) then
      some (1)
    else
      sw_gd (sw_in a1 30) <|
      if (σ.1 45 a1.toNatClampNeg) ≤ a2 then
        some (0)
      else
        some (1)
  else
    some (0)
set_option maxRecDepth 20000 in
theorem sX6_counts {l : Launch} {E : sw_E} {K : Nat} (hK : 0 ≤ K) (σ : sw_M) (a1 : Int32) (a2 : Int32) {res : Int32} (h : fX6_counts σ a1 a2 = some res) : sw_Ct l E K yX6_counts cX6_counts 3 (some .boolean) [.ref 39, .int a1, .int a2] σ (some (.int res)) σ := by
  obtain ⟨t, hk, h⟩ : ∃ t, t = res ∧ fX6_counts σ a1 a2 = some t := ⟨res, rfl, h⟩
  unfold fX6_counts at h
  refine sw_enter2 (own := RX6) (lv := [(0, .ref 39), (1, .int a1), (2, .int a2)]) (by decide +kernel) (Nat.le_of_ble_eq_true rfl) rfl rfl ?_
  refine sw_aload_n (k0 := 0) 0 rfl (by decide +kernel) rfl ?_
  refine gf_X6_25 (i := 39) (by decide) rfl (by decide +kernel) ?_
  refine sw_refj 44 rfl ?_
  refine sw_iload_n (k0 := 1) 1 rfl (by decide +kernel) rfl ?_
  obtain ⟨g1, h⟩ := sw_gd_e h
  refine sw_iaload (a := 44) (by decide) rfl (sw_in_e g1) (by decide +kernel) ?_
  refine sw_iload_n (k0 := 2) 2 rfl (by decide +kernel) rfl ?_
  refine sw_icmp_le (off := 5) 12 (by decide +kernel) (by decide) (fun c2 => ?_) (fun c2 => ?_)
  · rw [if_pos c2] at h
    refine sw_aload_n (k0 := 0) 0 rfl (by decide +kernel) rfl ?_
    refine gf_X6_28 (i := 39) (by decide) rfl (by decide +kernel) ?_
    refine sw_refj 45 rfl ?_
    refine sw_iload_n (k0 := 1) 1 rfl (by decide +kernel) rfl ?_
    obtain ⟨g3, h⟩ := sw_gd_e h
    refine sw_iaload (a := 45) (by decide) rfl (sw_in_e g3) (by decide +kernel) ?_
    refine sw_iconst (n := (-1)) (v := (-1)) (by decide +kernel) (by decide) ?_
    refine sw_icmp_eq (off := 13) 32 (by decide +kernel) (by decide) (fun c4 => ?_) (fun c4 => ?_)
    · rw [if_pos c4] at h
      refine sw_iconst (n := 1) (v := 1) (by decide +kernel) (by decide) ?_
      refine sw_goto (off := 4) 37 (by decide +kernel) (by decide) ?_
      cases h
      obtain rfl : _ = res := hk
      exact sw_zret rfl (by decide +kernel)
    · rw [if_neg c4] at h
      refine sw_aload_n (k0 := 0) 0 rfl (by decide +kernel) rfl ?_
      refine gf_X6_28 (i := 39) (by decide) rfl (by decide +kernel) ?_
      refine sw_refj 45 rfl ?_
      refine sw_iload_n (k0 := 1) 1 rfl (by decide +kernel) rfl ?_
      obtain ⟨g5, h⟩ := sw_gd_e h
      refine sw_iaload (a := 45) (by decide) rfl (sw_in_e g5) (by decide +kernel) ?_
      refine sw_iload_n (k0 := 2) 2 rfl (by decide +kernel) rfl ?_
      refine sw_icmp_le (off := 7) 36 (by decide +kernel) (by decide) (fun c6 => ?_) (fun c6 => ?_)
      · rw [if_pos c6] at h
        refine sw_iconst (n := 0) (v := 0) (by decide +kernel) (by decide) ?_
        cases h
        obtain rfl : _ = res := hk
        exact sw_zret rfl (by decide +kernel)
      · rw [if_neg c6] at h
        refine sw_iconst (n := 1) (v := 1) (by decide +kernel) (by decide) ?_
        refine sw_goto (off := 4) 37 (by decide +kernel) (by decide) ?_
        cases h
        obtain rfl : _ = res := hk
        exact sw_zret rfl (by decide +kernel)
  · rw [if_neg c2] at h
    refine sw_iconst (n := 0) (v := 0) (by decide +kernel) (by decide) ?_
    cases h
    obtain rfl : _ = res := hk
    exact sw_zret rfl (by decide +kernel)
def fX6_isBorneOut_L73 (σ : sw_M) (a1 : Int32) (a2 : Int32) (a3 : Int32) : Option ((Int32) ⊕ (Int32)) :=
  sw_let (a3 + 1) fun v1 =>
  some (.inl v1)
def fX6_isBorneOut_L58 (σ : sw_M) (a1 : Int32) (a2 : Int32) (a3 : Int32) (b0 : Int32) : Option ((Int32) ⊕ (Int32)) :=
  sw_gd (sw_in a3 30) <|
  if b0 = (σ.1 43 a3.toNatClampNeg) then
    fX6_isBorneOut_L73 σ a1 a2 a3
  else
    some (.inr (0))
def fX6_isBorneOut_L2 (σ : sw_M) (a1 : Int32) (a2 : Int32) (a3 : Int32) : Option ((Int32) ⊕ (Int32)) :=
  if (σ.1 39 0) ≤ a3 then
    some (.inr (1))
  else
    sw_b1 (fX6_counts σ a3 a2) fun r2 =>
    if r2 = 0 then
      fX6_isBorneOut_L73 σ a1 a2 a3
    else
      sw_gd (sw_in a3 30) <|
      sw_gd (sw_in a3 30) <|
      sw_gd (sw_in ((fX6_cell a1 (σ.1 40 a3.toNatClampNeg)) + (σ.1 41 a3.toNatClampNeg)) 2015) <|
      sw_gd (sw_in a3 30) <|
      if (σ.1 47 ((fX6_cell a1 (σ.1 40 a3.toNatClampNeg)) + (σ.1 41 a3.toNatClampNeg)).toNatClampNeg) < (σ.1 42 a3.toNatClampNeg) then
        fX6_isBorneOut_L58 σ a1 a2 a3 0
      else
        fX6_isBorneOut_L58 σ a1 a2 a3 1
def fX6_isBorneOut (σ : sw_M) (a1 : Int32) (a2 : Int32) : Option (Int32) :=
  sw_wh sw_F (fun s => fX6_isBorneOut_L2 σ a1 a2 s) 0
set_option maxRecDepth 20000 in
theorem sX6_isBorneOut_L73 {l : Launch} {E : sw_E} {K : Nat} (hK : 1 ≤ K) (σ : sw_M) (a1 : Int32) (a2 : Int32) (a3 : Int32) {res : Int32} {t : (Int32) ⊕ (Int32)} (h : fX6_isBorneOut_L73 σ a1 a2 a3 = some t) (hk : (Sum.elim (fun s : Int32 => sw_Go l E K RX6 cX6_isBorneOut 5 (some .boolean) 2 [(0, .ref 39), (1, .int a1), (2, .int a2), (3, .int s)] [] σ (some (.int res)) σ) (fun q => q = res)) t) : sw_Go l E K RX6 cX6_isBorneOut 5 (some .boolean) 73 [(0, .ref 39), (1, .int a1), (2, .int a2), (3, .int a3)] [] σ (some (.int res)) σ := by
  unfold fX6_isBorneOut_L73 at h
  obtain ⟨v1, e2, h⟩ := sw_let_e h
  refine sw_iincv (i := 3) (n := 1) (lv' := [(3, .int v1), (0, .ref 39), (1, .int a1), (2, .int a2)]) 3 rfl e2 (by decide +kernel) (by decide) (by decide) rfl ?_
  refine sw_goto (off := (-74)) 2 (by decide +kernel) (by decide) ?_
  cases h
  refine sw_lv [1, 2, 3, 0] rfl ?_
  exact hk
set_option maxRecDepth 20000 in
theorem sX6_isBorneOut_L58 {l : Launch} {E : sw_E} {K : Nat} (hK : 1 ≤ K) (σ : sw_M) (a1 : Int32) (a2 : Int32) (a3 : Int32) (b0 : Int32) {res : Int32} {t : (Int32) ⊕ (Int32)} (h : fX6_isBorneOut_L58 σ a1 a2 a3 b0 = some t) (hk : (Sum.elim (fun s : Int32 => sw_Go l E K RX6 cX6_isBorneOut 5 (some .boolean) 2 [(0, .ref 39), (1, .int a1), (2, .int a2), (3, .int s)] [] σ (some (.int res)) σ) (fun q => q = res)) t) : sw_Go l E K RX6 cX6_isBorneOut 5 (some .boolean) 58 [(0, .ref 39), (1, .int a1), (2, .int a2), (3, .int a3)] [.int b0] σ (some (.int res)) σ := by
  unfold fX6_isBorneOut_L58 at h
  refine sw_istore (i := 4) (lv' := [(4, .int b0), (0, .ref 39), (1, .int a1), (2, .int a2), (3, .int a3)]) (by decide +kernel) (by decide) rfl ?_
  refine sw_iload 0 rfl (by decide +kernel) ?_
  refine sw_aload_n (k0 := 0) 1 rfl (by decide +kernel) rfl ?_
  refine gf_X6_21 (i := 39) (by decide) rfl (by decide +kernel) ?_
  refine sw_refj 43 rfl ?_
  refine sw_iload_n (k0 := 3) 4 rfl (by decide +kernel) rfl ?_
  obtain ⟨g1, h⟩ := sw_gd_e h
  refine sw_zaload (a := 43) (by decide) rfl (sw_in_e g1) (by decide +kernel) ?_
  refine sw_icmp_eq (off := 5) 73 (by decide +kernel) (by decide) (fun c2 => ?_) (fun c2 => ?_)
  · rw [if_pos c2] at h
    refine sw_lv [1, 2, 3, 4] rfl ?_
    exact sX6_isBorneOut_L73 hK σ a1 a2 a3 h hk
  · rw [if_neg c2] at h
    refine sw_iconst (n := 0) (v := 0) (by decide +kernel) (by decide) ?_
    cases h
    obtain rfl : _ = res := hk
    exact sw_zret rfl (by decide +kernel)
set_option maxRecDepth 20000 in
theorem sX6_isBorneOut_L2 {l : Launch} {E : sw_E} {K : Nat} (hK : 1 ≤ K) (σ : sw_M) (a1 : Int32) (a2 : Int32) (a3 : Int32) {res : Int32} {t : (Int32) ⊕ (Int32)} (h : fX6_isBorneOut_L2 σ a1 a2 a3 = some t) (hk : (Sum.elim (fun s : Int32 => sw_Go l E K RX6 cX6_isBorneOut 5 (some .boolean) 2 [(0, .ref 39), (1, .int a1), (2, .int a2), (3, .int s)] [] σ (some (.int res)) σ) (fun q => q = res)) t) : sw_Go l E K RX6 cX6_isBorneOut 5 (some .boolean) 2 [(0, .ref 39), (1, .int a1), (2, .int a2), (3, .int a3)] [] σ (some (.int res)) σ := by
  unfold fX6_isBorneOut_L2 at h
  refine sw_iload_n (k0 := 3) 3 rfl (by decide +kernel) rfl ?_
  refine sw_aload_n (k0 := 0) 0 rfl (by decide +kernel) rfl ?_
  refine gf_X6_37 (i := 39) (by decide) rfl (by decide +kernel) ?_
  refine sw_icmp_ge (off := 72) 79 (by decide +kernel) (by decide) (fun c1 => ?_) (fun c1 => ?_)
  · rw [if_pos c1] at h
    refine sw_iconst (n := 1) (v := 1) (by decide +kernel) (by decide) ?_
    cases h
    obtain rfl : _ = res := hk
    exact sw_zret rfl (by decide +kernel)
  · rw [if_neg c1] at h
    refine sw_aload_n (k0 := 0) 0 rfl (by decide +kernel) rfl ?_
    refine sw_iload_n (k0 := 3) 3 rfl (by decide +kernel) rfl ?_
    refine sw_iload_n (k0 := 2) 2 rfl (by decide +kernel) rfl ?_
    obtain ⟨r2, w3, h⟩ := sw_b1_e h
    refine sw_callVi (ci := 6) (i := 39) [.int a3, .int a2] (sX6_counts (K := K - 1) (by omega) σ a3 a2 w3) rfl (by omega) rfl gs_X6_71 hy_X6_counts (by decide) (by decide) rfl rfl (Nat.le_of_ble_eq_true rfl) (by decide +kernel) ?_
    refine sw_if_ne (off := 6) 22 (by decide +kernel) (by decide) (fun c4 => ?_) (fun c4 => ?_)
    · rw [if_neg c4] at h
      refine sw_aload_n (k0 := 0) 0 rfl (by decide +kernel) rfl ?_
      refine gf_X6_34 (i := 39) (by decide) rfl (by decide +kernel) ?_
      refine sw_refj 47 rfl ?_
      refine sw_iload_n (k0 := 1) 1 rfl (by decide +kernel) rfl ?_
      refine sw_aload_n (k0 := 0) 0 rfl (by decide +kernel) rfl ?_
      refine gf_X6_11 (i := 39) (by decide) rfl (by decide +kernel) ?_
      refine sw_refj 40 rfl ?_
      refine sw_iload_n (k0 := 3) 3 rfl (by decide +kernel) rfl ?_
      obtain ⟨g5, h⟩ := sw_gd_e h
      refine sw_iaload (a := 40) (by decide) rfl (sw_in_e g5) (by decide +kernel) ?_
      refine sw_callSi [.int a1, .int (σ.1 40 a3.toNatClampNeg)] (sX6_cell (K := K - 1) (by omega) σ a1 (σ.1 40 a3.toNatClampNeg) rfl) rfl (by omega) gs_X6_68 hy_X6_cell (by decide) rfl (Nat.le_of_ble_eq_true rfl) (by decide +kernel) ?_
      refine sw_aload_n (k0 := 0) 0 rfl (by decide +kernel) rfl ?_
      refine gf_X6_15 (i := 39) (by decide) rfl (by decide +kernel) ?_
      refine sw_refj 41 rfl ?_
      refine sw_iload_n (k0 := 3) 3 rfl (by decide +kernel) rfl ?_
      obtain ⟨g6, h⟩ := sw_gd_e h
      refine sw_iaload (a := 41) (by decide) rfl (sw_in_e g6) (by decide +kernel) ?_
      refine sw_iadd (by decide +kernel) ?_
      obtain ⟨g7, h⟩ := sw_gd_e h
      refine sw_iaload (a := 47) (by decide) rfl (sw_in_e g7) (by decide +kernel) ?_
      refine sw_aload_n (k0 := 0) 0 rfl (by decide +kernel) rfl ?_
      refine gf_X6_18 (i := 39) (by decide) rfl (by decide +kernel) ?_
      refine sw_refj 42 rfl ?_
      refine sw_iload_n (k0 := 3) 3 rfl (by decide +kernel) rfl ?_
      obtain ⟨g8, h⟩ := sw_gd_e h
      refine sw_iaload (a := 42) (by decide) rfl (sw_in_e g8) (by decide +kernel) ?_
      refine sw_icmp_lt (off := 7) 57 (by decide +kernel) (by decide) (fun c9 => ?_) (fun c9 => ?_)
      · rw [if_pos c9] at h
        refine sw_iconst (n := 0) (v := 0) (by decide +kernel) (by decide) ?_
        exact sX6_isBorneOut_L58 hK σ a1 a2 a3 0 h hk
      · rw [if_neg c9] at h
        refine sw_iconst (n := 1) (v := 1) (by decide +kernel) (by decide) ?_
        refine sw_goto (off := 4) 58 (by decide +kernel) (by decide) ?_
        exact sX6_isBorneOut_L58 hK σ a1 a2 a3 1 h hk
    · rw [if_pos c4] at h
      refine sw_goto (off := 54) 73 (by decide +kernel) (by decide) ?_
      exact sX6_isBorneOut_L73 hK σ a1 a2 a3 h hk
set_option maxRecDepth 20000 in
theorem sX6_isBorneOut {l : Launch} {E : sw_E} {K : Nat} (hK : 1 ≤ K) (σ : sw_M) (a1 : Int32) (a2 : Int32) {res : Int32} (h : fX6_isBorneOut σ a1 a2 = some res) : sw_Ct l E K yX6_isBorneOut cX6_isBorneOut 5 (some .boolean) [.ref 39, .int a1, .int a2] σ (some (.int res)) σ := by
  obtain ⟨t, hk, h⟩ : ∃ t, t = res ∧ fX6_isBorneOut σ a1 a2 = some t := ⟨res, rfl, h⟩
  unfold fX6_isBorneOut at h
  refine sw_enter2 (own := RX6) (lv := [(0, .ref 39), (1, .int a1), (2, .int a2)]) (by decide +kernel) (Nat.le_of_ble_eq_true rfl) rfl rfl ?_
  refine sw_iconst (n := 0) (v := 0) (by decide +kernel) (by decide) ?_
  refine sw_istore_n (k0 := 3) (lv' := [(3, .int 0), (0, .ref 39), (1, .int a1), (2, .int a2)]) (by decide +kernel) rfl (by decide) rfl ?_
  refine sw_lv [1, 2, 3, 0] rfl ?_
  exact sw_wh_e (fun s : Int32 => sw_Go l E K RX6 cX6_isBorneOut 5 (some .boolean) 2 [(0, .ref 39), (1, .int a1), (2, .int a2), (3, .int s)] [] σ (some (.int res)) σ) (fun q => q = res) (fun s => fX6_isBorneOut_L2 σ a1 a2 s) (fun s t hb hk => sX6_isBorneOut_L2 hK σ a1 a2 s hb hk) _ _ _ h hk
def fX6_fitting_L43 (P1 : Nat) (σ : sw_M) (a2 : Int32) (a3 : Int32) (a4 : Int32) : Option ((Int32 × Int32) ⊕ (Int32 × sw_M)) :=
  sw_let (a4 + 1) fun v1 =>
  some (.inl (a3, v1))
def fX6_fitting_L19 (P1 : Nat) (σ : sw_M) (a2 : Int32) (a3 : Int32) (a4 : Int32) : Option ((Int32 × Int32) ⊕ (Int32 × sw_M)) :=
  if 30 < a4 then
    some (.inr ((a3, σ)))
  else
    sw_b1 (fX6_isBorneOut σ a4 a2) fun r2 =>
    if r2 = 0 then
      fX6_fitting_L43 P1 σ a2 a3 a4
    else
      sw_let (a3 ||| (1 <<< (a4 &&& 31))) fun v5 =>
      fX6_fitting_L43 P1 σ a2 v5 a4
def fX6_fitting (P1 : Nat) (σ : sw_M) (a2 : Int32) : Option (Int32 × sw_M) :=
  if (σ.1 P1 1) = 0 then
    some ((0, σ))
  else
    sw_b1 (fX6_followCourses P1 σ) fun m2 =>
    sw_wh sw_F (fun s => fX6_fitting_L19 P1 m2 a2 s.1 s.2) (0, 0)
set_option maxRecDepth 20000 in
theorem sX6_fitting_L43 {l : Launch} {E : sw_E} {K : Nat} (hK : 5 ≤ K) (P1 : Nat) (hP1 : sw_isP P1) (σ : sw_M) (a2 : Int32) (a3 : Int32) (a4 : Int32) {res : Int32 × sw_M} {t : (Int32 × Int32) ⊕ (Int32 × sw_M)} (h : fX6_fitting_L43 P1 σ a2 a3 a4 = some t) (hk : (Sum.elim (fun s : Int32 × Int32 => sw_Go l E K RX6 cX6_fitting 5 (some .int) 19 [(0, .ref 39), (2, .int a2), (3, .int s.1), (4, .int s.2)] [] σ (some (.int res.1)) res.2) (fun q => q = res)) t) : sw_Go l E K RX6 cX6_fitting 5 (some .int) 43 [(0, .ref 39), (2, .int a2), (3, .int a3), (4, .int a4)] [] σ (some (.int res.1)) res.2 := by
  unfold fX6_fitting_L43 at h
  obtain ⟨v1, e2, h⟩ := sw_let_e h
  refine sw_iincv (i := 4) (n := 1) (lv' := [(4, .int v1), (0, .ref 39), (2, .int a2), (3, .int a3)]) 3 rfl e2 (by decide +kernel) (by decide) (by decide) rfl ?_
  refine sw_goto (off := (-27)) 19 (by decide +kernel) (by decide) ?_
  cases h
  refine sw_lv [1, 2, 3, 0] rfl ?_
  exact hk
set_option maxRecDepth 20000 in
theorem sX6_fitting_L19 {l : Launch} {E : sw_E} {K : Nat} (hK : 5 ≤ K) (P1 : Nat) (hP1 : sw_isP P1) (σ : sw_M) (a2 : Int32) (a3 : Int32) (a4 : Int32) {res : Int32 × sw_M} {t : (Int32 × Int32) ⊕ (Int32 × sw_M)} (h : fX6_fitting_L19 P1 σ a2 a3 a4 = some t) (hk : (Sum.elim (fun s : Int32 × Int32 => sw_Go l E K RX6 cX6_fitting 5 (some .int) 19 [(0, .ref 39), (2, .int a2), (3, .int s.1), (4, .int s.2)] [] σ (some (.int res.1)) res.2) (fun q => q = res)) t) : sw_Go l E K RX6 cX6_fitting 5 (some .int) 19 [(0, .ref 39), (2, .int a2), (3, .int a3), (4, .int a4)] [] σ (some (.int res.1)) res.2 := by
  unfold fX6_fitting_L19 at h
  refine sw_iload 3 rfl (by decide +kernel) ?_
  refine sw_bipush (n := 30) (v := 30) (by decide +kernel) (by decide) ?_
  refine sw_icmp_gt (off := 26) 49 (by decide +kernel) (by decide) (fun c1 => ?_) (fun c1 => ?_)
  · rw [if_pos c1] at h
    refine sw_iload_n (k0 := 3) 2 rfl (by decide +kernel) rfl ?_
    cases h
    obtain rfl : _ = res := hk
    exact sw_iret (by decide +kernel)
  · rw [if_neg c1] at h
    refine sw_aload_n (k0 := 0) 0 rfl (by decide +kernel) rfl ?_
    refine sw_iload 3 rfl (by decide +kernel) ?_
    refine sw_iload_n (k0 := 2) 1 rfl (by decide +kernel) rfl ?_
    obtain ⟨r2, w3, h⟩ := sw_b1_e h
    refine sw_callVi (ci := 6) (i := 39) [.int a4, .int a2] (sX6_isBorneOut (K := K - 1) (by omega) σ a4 a2 w3) rfl (by omega) rfl gs_X6_54 hy_X6_isBorneOut (by decide) (by decide) rfl rfl (Nat.le_of_ble_eq_true rfl) (by decide +kernel) ?_
    refine sw_if_eq (off := 10) 43 (by decide +kernel) (by decide) (fun c4 => ?_) (fun c4 => ?_)
    · rw [if_pos c4] at h
      exact sX6_fitting_L43 hK P1 hP1 σ a2 a3 a4 h hk
    · rw [if_neg c4] at h
      refine sw_iload_n (k0 := 3) 2 rfl (by decide +kernel) rfl ?_
      refine sw_iconst (n := 1) (v := 1) (by decide +kernel) (by decide) ?_
      refine sw_iload 3 rfl (by decide +kernel) ?_
      refine sw_ishl (by decide +kernel) ?_
      refine sw_ior (by decide +kernel) ?_
      obtain ⟨v5, e6, h⟩ := sw_let_e h
      refine sw_topi e6 ?_
      refine sw_istore_n (k0 := 3) (lv' := [(3, .int v5), (0, .ref 39), (2, .int a2), (4, .int a4)]) (by decide +kernel) rfl (by decide) rfl ?_
      refine sw_lv [1, 2, 0, 3] rfl ?_
      exact sX6_fitting_L43 hK P1 hP1 σ a2 v5 a4 h hk
set_option maxRecDepth 20000 in
theorem sX6_fitting {l : Launch} {E : sw_E} {K : Nat} (hK : 5 ≤ K) (P1 : Nat) (hP1 : sw_isP P1) (σ : sw_M) (a2 : Int32) {res : Int32 × sw_M} (h : fX6_fitting P1 σ a2 = some res) : sw_Ct l E K yX6_fitting cX6_fitting 5 (some .int) [.ref 39, .ref P1, .int a2] σ (some (.int res.1)) res.2 := by
  obtain ⟨t, hk, h⟩ : ∃ t, t = res ∧ fX6_fitting P1 σ a2 = some t := ⟨res, rfl, h⟩
  unfold fX6_fitting at h
  refine sw_enter2 (own := RX6) (lv := [(0, .ref 39), (1, .ref P1), (2, .int a2)]) (by decide +kernel) (Nat.le_of_ble_eq_true rfl) rfl rfl ?_
  refine sw_aload_n (k0 := 1) 1 rfl (by decide +kernel) rfl ?_
  refine gf_X6_45 (i := P1) hP1.o.1 hP1.o.2 (by decide +kernel) ?_
  refine sw_if_ne (off := 5) 9 (by decide +kernel) (by decide) (fun c1 => ?_) (fun c1 => ?_)
  · rw [if_neg c1] at h
    refine sw_aload_n (k0 := 0) 0 rfl (by decide +kernel) rfl ?_
    refine sw_aload_n (k0 := 1) 1 rfl (by decide +kernel) rfl ?_
    obtain ⟨m2, w3, h⟩ := sw_b1_e h
    refine sw_callVv (ci := 6) (i := 39) [.ref P1] (sX6_followCourses (K := K - 1) (by omega) P1 hP1 σ w3) rfl (by omega) rfl gs_X6_50 hy_X6_followCourses (by decide) (by decide) rfl rfl (Nat.le_of_ble_eq_true rfl) (by decide +kernel) ?_
    refine sw_iconst (n := 0) (v := 0) (by decide +kernel) (by decide) ?_
    refine sw_istore_n (k0 := 3) (lv' := [(3, .int 0), (0, .ref 39), (1, .ref P1), (2, .int a2)]) (by decide +kernel) rfl (by decide) rfl ?_
    refine sw_iconst (n := 0) (v := 0) (by decide +kernel) (by decide) ?_
    refine sw_istore (i := 4) (lv' := [(4, .int 0), (3, .int 0), (0, .ref 39), (1, .ref P1), (2, .int a2)]) (by decide +kernel) (by decide) rfl ?_
    refine sw_lv [2, 4, 1, 0] rfl ?_
    exact sw_wh_e (fun s : Int32 × Int32 => sw_Go l E K RX6 cX6_fitting 5 (some .int) 19 [(0, .ref 39), (2, .int a2), (3, .int s.1), (4, .int s.2)] [] m2 (some (.int res.1)) res.2) (fun q => q = res) (fun s => fX6_fitting_L19 P1 m2 a2 s.1 s.2) (fun s t hb hk => sX6_fitting_L19 hK P1 hP1 m2 a2 s.1 s.2 hb hk) _ _ _ h hk
  · rw [if_pos c1] at h
    refine sw_iconst (n := 0) (v := 0) (by decide +kernel) (by decide) ?_
    cases h
    obtain rfl : _ = res := hk
    exact sw_iret (by decide +kernel)
def fX6_alike_L59 (σ : sw_M) (a1 : Int32) (a2 : Int32) (a3 : Int32) (a5 : Int32) (a6 : Int32) (a7 : Int32) : Option ((Int32 × Int32) ⊕ (Int32)) :=
  sw_let (a7 + 1) fun v1 =>
  some (.inl (a6, v1))
def fX6_alike_L21 (σ : sw_M) (a1 : Int32) (a2 : Int32) (a3 : Int32) (a5 : Int32) (a6 : Int32) (a7 : Int32) : Option ((Int32 × Int32) ⊕ (Int32)) :=
  if 30 < a7 then
    some (.inr (a6))
  else
    if ((a1 >>> (a7 &&& 31)) &&& 1) = 1 then
      sw_gd (sw_in ((fX6_cell a7 a2) + a3) 2015) <|
      if (σ.1 47 ((fX6_cell a7 a2) + a3).toNatClampNeg) = a5 then
        sw_let (a6 + 1) fun v5 =>
        fX6_alike_L59 σ a1 a2 a3 a5 v5 a7
      else
        fX6_alike_L59 σ a1 a2 a3 a5 a6 a7
    else
      fX6_alike_L59 σ a1 a2 a3 a5 a6 a7
def fX6_alike (σ : sw_M) (a1 : Int32) (a2 : Int32) (a3 : Int32) (a4 : Int32) : Option (Int32) :=
  sw_gd (sw_in ((fX6_cell a4 a2) + a3) 2015) <|
  sw_let (σ.1 47 ((fX6_cell a4 a2) + a3).toNatClampNeg) fun v2 =>
  sw_wh sw_F (fun s => fX6_alike_L21 σ a1 a2 a3 v2 s.1 s.2) (0, 0)
set_option maxRecDepth 20000 in
theorem sX6_alike_L59 {l : Launch} {E : sw_E} {K : Nat} (hK : 1 ≤ K) (σ : sw_M) (a1 : Int32) (a2 : Int32) (a3 : Int32) (a5 : Int32) (a6 : Int32) (a7 : Int32) {res : Int32} {t : (Int32 × Int32) ⊕ (Int32)} (h : fX6_alike_L59 σ a1 a2 a3 a5 a6 a7 = some t) (hk : (Sum.elim (fun s : Int32 × Int32 => sw_Go l E K RX6 cX6_alike 8 (some .int) 21 [(0, .ref 39), (1, .int a1), (2, .int a2), (3, .int a3), (5, .int a5), (6, .int s.1), (7, .int s.2)] [] σ (some (.int res)) σ) (fun q => q = res)) t) : sw_Go l E K RX6 cX6_alike 8 (some .int) 59 [(0, .ref 39), (1, .int a1), (2, .int a2), (3, .int a3), (5, .int a5), (6, .int a6), (7, .int a7)] [] σ (some (.int res)) σ := by
  unfold fX6_alike_L59 at h
  obtain ⟨v1, e2, h⟩ := sw_let_e h
  refine sw_iincv (i := 7) (n := 1) (lv' := [(7, .int v1), (0, .ref 39), (1, .int a1), (2, .int a2), (3, .int a3), (5, .int a5), (6, .int a6)]) 6 rfl e2 (by decide +kernel) (by decide) (by decide) rfl ?_
  refine sw_goto (off := (-41)) 21 (by decide +kernel) (by decide) ?_
  cases h
  refine sw_lv [1, 2, 3, 4, 5, 6, 0] rfl ?_
  exact hk
set_option maxRecDepth 20000 in
theorem sX6_alike_L21 {l : Launch} {E : sw_E} {K : Nat} (hK : 1 ≤ K) (σ : sw_M) (a1 : Int32) (a2 : Int32) (a3 : Int32) (a5 : Int32) (a6 : Int32) (a7 : Int32) {res : Int32} {t : (Int32 × Int32) ⊕ (Int32)} (h : fX6_alike_L21 σ a1 a2 a3 a5 a6 a7 = some t) (hk : (Sum.elim (fun s : Int32 × Int32 => sw_Go l E K RX6 cX6_alike 8 (some .int) 21 [(0, .ref 39), (1, .int a1), (2, .int a2), (3, .int a3), (5, .int a5), (6, .int s.1), (7, .int s.2)] [] σ (some (.int res)) σ) (fun q => q = res)) t) : sw_Go l E K RX6 cX6_alike 8 (some .int) 21 [(0, .ref 39), (1, .int a1), (2, .int a2), (3, .int a3), (5, .int a5), (6, .int a6), (7, .int a7)] [] σ (some (.int res)) σ := by
  unfold fX6_alike_L21 at h
  refine sw_iload 6 rfl (by decide +kernel) ?_
  refine sw_bipush (n := 30) (v := 30) (by decide +kernel) (by decide) ?_
  refine sw_icmp_gt (off := 40) 65 (by decide +kernel) (by decide) (fun c1 => ?_) (fun c1 => ?_)
  · rw [if_pos c1] at h
    refine sw_iload 5 rfl (by decide +kernel) ?_
    cases h
    obtain rfl : _ = res := hk
    exact sw_iret (by decide +kernel)
  · rw [if_neg c1] at h
    refine sw_iload_n (k0 := 1) 1 rfl (by decide +kernel) rfl ?_
    refine sw_iload 6 rfl (by decide +kernel) ?_
    refine sw_ishr (by decide +kernel) ?_
    refine sw_iconst (n := 1) (v := 1) (by decide +kernel) (by decide) ?_
    refine sw_iand (by decide +kernel) ?_
    refine sw_iconst (n := 1) (v := 1) (by decide +kernel) (by decide) ?_
    refine sw_icmp_ne (off := 24) 59 (by decide +kernel) (by decide) (fun c2 => ?_) (fun c2 => ?_)
    · rw [if_neg c2] at h
      exact sX6_alike_L59 hK σ a1 a2 a3 a5 a6 a7 h hk
    · rw [if_pos c2] at h
      refine sw_aload_n (k0 := 0) 0 rfl (by decide +kernel) rfl ?_
      refine gf_X6_34 (i := 39) (by decide) rfl (by decide +kernel) ?_
      refine sw_refj 47 rfl ?_
      refine sw_iload 6 rfl (by decide +kernel) ?_
      refine sw_iload_n (k0 := 2) 2 rfl (by decide +kernel) rfl ?_
      refine sw_callSi [.int a7, .int a2] (sX6_cell (K := K - 1) (by omega) σ a7 a2 rfl) rfl (by omega) gs_X6_68 hy_X6_cell (by decide) rfl (Nat.le_of_ble_eq_true rfl) (by decide +kernel) ?_
      refine sw_iload_n (k0 := 3) 3 rfl (by decide +kernel) rfl ?_
      refine sw_iadd (by decide +kernel) ?_
      obtain ⟨g3, h⟩ := sw_gd_e h
      refine sw_iaload (a := 47) (by decide) rfl (sw_in_e g3) (by decide +kernel) ?_
      refine sw_iload 4 rfl (by decide +kernel) ?_
      refine sw_icmp_ne (off := 6) 59 (by decide +kernel) (by decide) (fun c4 => ?_) (fun c4 => ?_)
      · rw [if_neg c4] at h
        exact sX6_alike_L59 hK σ a1 a2 a3 a5 a6 a7 h hk
      · rw [if_pos c4] at h
        obtain ⟨v5, e6, h⟩ := sw_let_e h
        refine sw_iincv (i := 6) (n := 1) (lv' := [(6, .int v5), (0, .ref 39), (1, .int a1), (2, .int a2), (3, .int a3), (5, .int a5), (7, .int a7)]) 5 rfl e6 (by decide +kernel) (by decide) (by decide) rfl ?_
        refine sw_lv [1, 2, 3, 4, 5, 0, 6] rfl ?_
        exact sX6_alike_L59 hK σ a1 a2 a3 a5 v5 a7 h hk
set_option maxRecDepth 20000 in
theorem sX6_alike {l : Launch} {E : sw_E} {K : Nat} (hK : 1 ≤ K) (σ : sw_M) (a1 : Int32) (a2 : Int32) (a3 : Int32) (a4 : Int32) {res : Int32} (h : fX6_alike σ a1 a2 a3 a4 = some res) : sw_Ct l E K yX6_alike cX6_alike 8 (some .int) [.ref 39, .int a1, .int a2, .int a3, .int a4] σ (some (.int res)) σ := by
  obtain ⟨t, hk, h⟩ : ∃ t, t = res ∧ fX6_alike σ a1 a2 a3 a4 = some t := ⟨res, rfl, h⟩
  unfold fX6_alike at h
  refine sw_enter2 (own := RX6) (lv := [(0, .ref 39), (1, .int a1), (2, .int a2), (3, .int a3), (4, .int a4)]) (by decide +kernel) (Nat.le_of_ble_eq_true rfl) rfl rfl ?_
  refine sw_aload_n (k0 := 0) 0 rfl (by decide +kernel) rfl ?_
  refine gf_X6_34 (i := 39) (by decide) rfl (by decide +kernel) ?_
  refine sw_refj 47 rfl ?_
  refine sw_iload 4 rfl (by decide +kernel) ?_
  refine sw_iload_n (k0 := 2) 2 rfl (by decide +kernel) rfl ?_
  refine sw_callSi [.int a4, .int a2] (sX6_cell (K := K - 1) (by omega) σ a4 a2 rfl) rfl (by omega) gs_X6_68 hy_X6_cell (by decide) rfl (Nat.le_of_ble_eq_true rfl) (by decide +kernel) ?_
  refine sw_iload_n (k0 := 3) 3 rfl (by decide +kernel) rfl ?_
  refine sw_iadd (by decide +kernel) ?_
  obtain ⟨g1, h⟩ := sw_gd_e h
  refine sw_iaload (a := 47) (by decide) rfl (sw_in_e g1) (by decide +kernel) ?_
  obtain ⟨v2, e3, h⟩ := sw_let_e h
  refine sw_topi e3 ?_
  refine sw_istore (i := 5) (lv' := [(5, .int v2), (0, .ref 39), (1, .int a1), (2, .int a2), (3, .int a3), (4, .int a4)]) (by decide +kernel) (by decide) rfl ?_
  refine sw_iconst (n := 0) (v := 0) (by decide +kernel) (by decide) ?_
  refine sw_istore (i := 6) (lv' := [(6, .int 0), (5, .int v2), (0, .ref 39), (1, .int a1), (2, .int a2), (3, .int a3), (4, .int a4)]) (by decide +kernel) (by decide) rfl ?_
  refine sw_iconst (n := 0) (v := 0) (by decide +kernel) (by decide) ?_
  refine sw_istore (i := 7) (lv' := [(7, .int 0), (6, .int 0), (5, .int v2), (0, .ref 39), (1, .int a1), (2, .int a2), (3, .int a3), (4, .int a4)]) (by decide +kernel) (by decide) rfl ?_
  refine sw_lv [3, 4, 5, 6, 2, 1, 0] rfl ?_
  exact sw_wh_e (fun s : Int32 × Int32 => sw_Go l E K RX6 cX6_alike 8 (some .int) 21 [(0, .ref 39), (1, .int a1), (2, .int a2), (3, .int a3), (5, .int v2), (6, .int s.1), (7, .int s.2)] [] σ (some (.int res)) σ) (fun q => q = res) (fun s => fX6_alike_L21 σ a1 a2 a3 v2 s.1 s.2) (fun s t hb hk => sX6_alike_L21 hK σ a1 a2 a3 v2 s.1 s.2 hb hk) _ _ _ h hk
def fX6_leftAtMost_L39 (σ : sw_M) (a1 : Int32) (a2 : Int32) (a3 : Int32) (a4 : Int32) (a5 : Int32) : Option ((Int32 × Int32) ⊕ (Int32)) :=
  sw_let (a5 + 1) fun v1 =>
  some (.inl (a4, v1))
def fX6_leftAtMost_L6 (σ : sw_M) (a1 : Int32) (a2 : Int32) (a3 : Int32) (a4 : Int32) (a5 : Int32) : Option ((Int32 × Int32) ⊕ (Int32)) :=
  if 30 < a5 then
    some (.inr (a4))
  else
    if ((a1 >>> (a5 &&& 31)) &&& 1) = 1 then
      sw_b1 (fX6_alike σ a1 a2 a3 a5) fun r3 =>
      sw_let (sw_max a4 r3) fun v5 =>
      fX6_leftAtMost_L39 σ a1 a2 a3 v5 a5
    else
      fX6_leftAtMost_L39 σ a1 a2 a3 a4 a5
def fX6_leftAtMost (σ : sw_M) (a1 : Int32) (a2 : Int32) (a3 : Int32) : Option (Int32) :=
  sw_wh sw_F (fun s => fX6_leftAtMost_L6 σ a1 a2 a3 s.1 s.2) (0, 0)
set_option maxRecDepth 20000 in
theorem sX6_leftAtMost_L39 {l : Launch} {E : sw_E} {K : Nat} (hK : 2 ≤ K) (σ : sw_M) (a1 : Int32) (a2 : Int32) (a3 : Int32) (a4 : Int32) (a5 : Int32) {res : Int32} {t : (Int32 × Int32) ⊕ (Int32)} (h : fX6_leftAtMost_L39 σ a1 a2 a3 a4 a5 = some t) (hk : (Sum.elim (fun s : Int32 × Int32 => sw_Go l E K RX6 cX6_leftAtMost 6 (some .int) 6 [(0, .ref 39), (1, .int a1), (2, .int a2), (3, .int a3), (4, .int s.1), (5, .int s.2)] [] σ (some (.int res)) σ) (fun q => q = res)) t) : sw_Go l E K RX6 cX6_leftAtMost 6 (some .int) 39 [(0, .ref 39), (1, .int a1), (2, .int a2), (3, .int a3), (4, .int a4), (5, .int a5)] [] σ (some (.int res)) σ := by
  unfold fX6_leftAtMost_L39 at h
  obtain ⟨v1, e2, h⟩ := sw_let_e h
  refine sw_iincv (i := 5) (n := 1) (lv' := [(5, .int v1), (0, .ref 39), (1, .int a1), (2, .int a2), (3, .int a3), (4, .int a4)]) 5 rfl e2 (by decide +kernel) (by decide) (by decide) rfl ?_
  refine sw_goto (off := (-36)) 6 (by decide +kernel) (by decide) ?_
  cases h
  refine sw_lv [1, 2, 3, 4, 5, 0] rfl ?_
  exact hk
set_option maxRecDepth 20000 in
theorem sX6_leftAtMost_L6 {l : Launch} {E : sw_E} {K : Nat} (hK : 2 ≤ K) (σ : sw_M) (a1 : Int32) (a2 : Int32) (a3 : Int32) (a4 : Int32) (a5 : Int32) {res : Int32} {t : (Int32 × Int32) ⊕ (Int32)} (h : fX6_leftAtMost_L6 σ a1 a2 a3 a4 a5 = some t) (hk : (Sum.elim (fun s : Int32 × Int32 => sw_Go l E K RX6 cX6_leftAtMost 6 (some .int) 6 [(0, .ref 39), (1, .int a1), (2, .int a2), (3, .int a3), (4, .int s.1), (5, .int s.2)] [] σ (some (.int res)) σ) (fun q => q = res)) t) : sw_Go l E K RX6 cX6_leftAtMost 6 (some .int) 6 [(0, .ref 39), (1, .int a1), (2, .int a2), (3, .int a3), (4, .int a4), (5, .int a5)] [] σ (some (.int res)) σ := by
  unfold fX6_leftAtMost_L6 at h
  refine sw_iload 5 rfl (by decide +kernel) ?_
  refine sw_bipush (n := 30) (v := 30) (by decide +kernel) (by decide) ?_
  refine sw_icmp_gt (off := 35) 45 (by decide +kernel) (by decide) (fun c1 => ?_) (fun c1 => ?_)
  · rw [if_pos c1] at h
    refine sw_iload 4 rfl (by decide +kernel) ?_
    cases h
    obtain rfl : _ = res := hk
    exact sw_iret (by decide +kernel)
  · rw [if_neg c1] at h
    refine sw_iload_n (k0 := 1) 1 rfl (by decide +kernel) rfl ?_
    refine sw_iload 5 rfl (by decide +kernel) ?_
    refine sw_ishr (by decide +kernel) ?_
    refine sw_iconst (n := 1) (v := 1) (by decide +kernel) (by decide) ?_
    refine sw_iand (by decide +kernel) ?_
    refine sw_iconst (n := 1) (v := 1) (by decide +kernel) (by decide) ?_
    refine sw_icmp_ne (off := 19) 39 (by decide +kernel) (by decide) (fun c2 => ?_) (fun c2 => ?_)
    · rw [if_neg c2] at h
      exact sX6_leftAtMost_L39 hK σ a1 a2 a3 a4 a5 h hk
    · rw [if_pos c2] at h
      refine sw_iload 4 rfl (by decide +kernel) ?_
      refine sw_aload_n (k0 := 0) 0 rfl (by decide +kernel) rfl ?_
      refine sw_iload_n (k0 := 1) 1 rfl (by decide +kernel) rfl ?_
      refine sw_iload_n (k0 := 2) 2 rfl (by decide +kernel) rfl ?_
      refine sw_iload_n (k0 := 3) 3 rfl (by decide +kernel) rfl ?_
      refine sw_iload 5 rfl (by decide +kernel) ?_
      obtain ⟨r3, w4, h⟩ := sw_b1_e h
      refine sw_callVi (ci := 6) (i := 39) [.int a1, .int a2, .int a3, .int a5] (sX6_alike (K := K - 1) (by omega) σ a1 a2 a3 a5 w4) rfl (by omega) rfl gs_X6_58 hy_X6_alike (by decide) (by decide) rfl rfl (Nat.le_of_ble_eq_true rfl) (by decide +kernel) ?_
      refine sw_mmax mx_X6_62 mx_max_s mx_i mx_max_c (by omega) (Nat.le_of_ble_eq_true rfl) (by decide +kernel) ?_
      obtain ⟨v5, e6, h⟩ := sw_let_e h
      refine sw_topi e6 ?_
      refine sw_istore (i := 4) (lv' := [(4, .int v5), (0, .ref 39), (1, .int a1), (2, .int a2), (3, .int a3), (5, .int a5)]) (by decide +kernel) (by decide) rfl ?_
      refine sw_lv [1, 2, 3, 4, 0, 5] rfl ?_
      exact sX6_leftAtMost_L39 hK σ a1 a2 a3 v5 a5 h hk
set_option maxRecDepth 20000 in
theorem sX6_leftAtMost {l : Launch} {E : sw_E} {K : Nat} (hK : 2 ≤ K) (σ : sw_M) (a1 : Int32) (a2 : Int32) (a3 : Int32) {res : Int32} (h : fX6_leftAtMost σ a1 a2 a3 = some res) : sw_Ct l E K yX6_leftAtMost cX6_leftAtMost 6 (some .int) [.ref 39, .int a1, .int a2, .int a3] σ (some (.int res)) σ := by
  obtain ⟨t, hk, h⟩ : ∃ t, t = res ∧ fX6_leftAtMost σ a1 a2 a3 = some t := ⟨res, rfl, h⟩
  unfold fX6_leftAtMost at h
  refine sw_enter2 (own := RX6) (lv := [(0, .ref 39), (1, .int a1), (2, .int a2), (3, .int a3)]) (by decide +kernel) (Nat.le_of_ble_eq_true rfl) rfl rfl ?_
  refine sw_iconst (n := 0) (v := 0) (by decide +kernel) (by decide) ?_
  refine sw_istore (i := 4) (lv' := [(4, .int 0), (0, .ref 39), (1, .int a1), (2, .int a2), (3, .int a3)]) (by decide +kernel) (by decide) rfl ?_
  refine sw_iconst (n := 0) (v := 0) (by decide +kernel) (by decide) ?_
  refine sw_istore (i := 5) (lv' := [(5, .int 0), (4, .int 0), (0, .ref 39), (1, .int a1), (2, .int a2), (3, .int a3)]) (by decide +kernel) (by decide) rfl ?_
  refine sw_lv [2, 3, 4, 5, 1, 0] rfl ?_
  exact sw_wh_e (fun s : Int32 × Int32 => sw_Go l E K RX6 cX6_leftAtMost 6 (some .int) 6 [(0, .ref 39), (1, .int a1), (2, .int a2), (3, .int a3), (4, .int s.1), (5, .int s.2)] [] σ (some (.int res)) σ) (fun q => q = res) (fun s => fX6_leftAtMost_L6 σ a1 a2 a3 s.1 s.2) (fun s t hb hk => sX6_leftAtMost_L6 hK σ a1 a2 a3 s.1 s.2 hb hk) _ _ _ h hk
def fX7_append_L3 (σ : sw_M) (a1 : Int32) (a2 : Int32) : Option ((Int32 × sw_M) ⊕ (sw_M)) :=
  if a2 < 0 then
    some (.inr (σ))
  else
    if 1600 ≤ (σ.1 2 1) then
      some (.inr (σ))
    else
      sw_gd (sw_in (σ.1 2 1) 1600) <|
      sw_let (sw_w σ 3 (σ.1 2 1).toNatClampNeg (vp_nar .byte ((a1 >>> (a2 &&& 31)).toInt8.toInt32))) fun m4 =>
      sw_let (sw_w m4 2 1 ((m4.1 2 1) + 1)) fun m6 =>
      sw_let (a2 + (-8)) fun v8 =>
      some (.inl (v8, m6))
def fX7_append (σ : sw_M) (a1 : Int32) : Option (sw_M) :=
  sw_wh sw_F (fun s => fX7_append_L3 s.2 a1 s.1) (24, σ)
set_option maxRecDepth 20000 in
theorem sX7_append_L3 {l : Launch} {E : sw_E} {K : Nat} (hK : 0 ≤ K) (σ : sw_M) (a1 : Int32) (a2 : Int32) {res : sw_M} {t : (Int32 × sw_M) ⊕ (sw_M)} (h : fX7_append_L3 σ a1 a2 = some t) (hk : (Sum.elim (fun s : Int32 × sw_M => sw_Go l E K RX7 cX7_append 3 none 3 [(0, .ref 2), (1, .int a1), (2, .int s.1)] [] s.2 none res) (fun q => q = res)) t) : sw_Go l E K RX7 cX7_append 3 none 3 [(0, .ref 2), (1, .int a1), (2, .int a2)] [] σ none res := by
  unfold fX7_append_L3 at h
  refine sw_iload_n (k0 := 2) 2 rfl (by decide +kernel) rfl ?_
  refine sw_if_lt (off := 42) 46 (by decide +kernel) (by decide) (fun c1 => ?_) (fun c1 => ?_)
  · rw [if_pos c1] at h
    cases h
    obtain rfl : _ = res := hk
    exact sw_vret (by decide +kernel)
  · rw [if_neg c1] at h
    refine sw_aload_n (k0 := 0) 0 rfl (by decide +kernel) rfl ?_
    refine gf_X7_25 (i := 2) (by decide) rfl (by decide +kernel) ?_
    refine sw_sipush (n := 1600) (v := 1600) (by decide +kernel) (by decide) ?_
    refine sw_icmp_ge (off := 32) 46 (by decide +kernel) (by decide) (fun c2 => ?_) (fun c2 => ?_)
    · rw [if_pos c2] at h
      cases h
      obtain rfl : _ = res := hk
      exact sw_vret (by decide +kernel)
    · rw [if_neg c2] at h
      refine sw_aload_n (k0 := 0) 0 rfl (by decide +kernel) rfl ?_
      refine gf_X7_9 (i := 2) (by decide) rfl (by decide +kernel) ?_
      refine sw_refj 3 rfl ?_
      refine sw_aload_n (k0 := 0) 0 rfl (by decide +kernel) rfl ?_
      refine gf_X7_25 (i := 2) (by decide) rfl (by decide +kernel) ?_
      refine sw_iload_n (k0 := 1) 1 rfl (by decide +kernel) rfl ?_
      refine sw_iload_n (k0 := 2) 2 rfl (by decide +kernel) rfl ?_
      refine sw_ishr (by decide +kernel) ?_
      refine sw_i2b (by decide +kernel) ?_
      obtain ⟨g3, h⟩ := sw_gd_e h
      obtain ⟨m4, e5, h⟩ := sw_let_e h
      refine sw_bastore (a := 3) (by decide) rfl (sw_in_e g3) (by decide +kernel) ?_
      refine sw_mem e5 ?_
      refine sw_aload_n (k0 := 0) 0 rfl (by decide +kernel) rfl ?_
      refine sw_dup (by decide +kernel) rfl ?_
      refine gf_X7_25 (i := 2) (by decide) rfl (by decide +kernel) ?_
      refine sw_iconst (n := 1) (v := 1) (by decide +kernel) (by decide) ?_
      refine sw_iadd (by decide +kernel) ?_
      obtain ⟨m6, e7, h⟩ := sw_let_e h
      refine pf_X7_25 (by decide) rfl (by decide +kernel) ?_
      refine sw_mem e7 ?_
      obtain ⟨v8, e9, h⟩ := sw_let_e h
      refine sw_iincv (i := 2) (n := (-8)) (lv' := [(2, .int v8), (0, .ref 2), (1, .int a1)]) 2 rfl e9 (by decide +kernel) (by decide) (by decide) rfl ?_
      refine sw_goto (off := (-40)) 3 (by decide +kernel) (by decide) ?_
      cases h
      refine sw_lv [1, 2, 0] rfl ?_
      exact hk
set_option maxRecDepth 20000 in
theorem sX7_append {l : Launch} {E : sw_E} {K : Nat} (hK : 0 ≤ K) (σ : sw_M) (a1 : Int32) {res : sw_M} (h : fX7_append σ a1 = some res) : sw_Ct l E K yX7_append cX7_append 3 none [.ref 2, .int a1] σ none res := by
  obtain ⟨t, hk, h⟩ : ∃ t, t = res ∧ fX7_append σ a1 = some t := ⟨res, rfl, h⟩
  unfold fX7_append at h
  refine sw_enter2 (own := RX7) (lv := [(0, .ref 2), (1, .int a1)]) (by decide +kernel) (Nat.le_of_ble_eq_true rfl) rfl rfl ?_
  refine sw_bipush (n := 24) (v := 24) (by decide +kernel) (by decide) ?_
  refine sw_istore_n (k0 := 2) (lv' := [(2, .int 24), (0, .ref 2), (1, .int a1)]) (by decide +kernel) rfl (by decide) rfl ?_
  refine sw_lv [1, 2, 0] rfl ?_
  exact sw_wh_e (fun s : Int32 × sw_M => sw_Go l E K RX7 cX7_append 3 none 3 [(0, .ref 2), (1, .int a1), (2, .int s.1)] [] s.2 none res) (fun q => q = res) (fun s => fX7_append_L3 s.2 a1 s.1) (fun s t hb hk => sX7_append_L3 hK s.2 a1 s.1 hb hk) _ _ _ h hk
def fX8_begin (P0 : Nat) (σ : sw_M) (a1 : Int32) : Option (sw_M) :=
  sw_b1 (fJ7_fill_53178 (P0 + 1) σ 0) fun m1 =>
  sw_let (sw_w m1 P0 1 0) fun m3 =>
  sw_let (sw_w m3 P0 2 0) fun m5 =>
  sw_let (sw_w m5 P0 3 0) fun m7 =>
  sw_let (sw_w m7 P0 4 0) fun m9 =>
  sw_let (sw_w m9 P0 5 a1) fun m11 =>
  some (m11)
set_option maxRecDepth 20000 in
theorem sX8_begin {l : Launch} {E : sw_E} {K : Nat} (hK : 1 ≤ K) (P0 : Nat) (hP0 : sw_isV P0) (σ : sw_M) (a1 : Int32) {res : sw_M} (h : fX8_begin P0 σ a1 = some res) : sw_Ct l E K yX8_begin cX8_begin 2 none [.ref P0, .int a1] σ none res := by
  obtain ⟨t, hk, h⟩ : ∃ t, t = res ∧ fX8_begin P0 σ a1 = some t := ⟨res, rfl, h⟩
  unfold fX8_begin at h
  refine sw_enter2 (own := RX8) (lv := [(0, .ref P0), (1, .int a1)]) (by decide +kernel) (Nat.le_of_ble_eq_true rfl) rfl rfl ?_
  refine sw_aload_n (k0 := 0) 0 rfl (by decide +kernel) rfl ?_
  refine gf_X8_9 (i := P0) hP0.o.1 hP0.o.2 (by decide +kernel) ?_
  refine sw_iconst (n := 0) (v := 0) (by decide +kernel) (by decide) ?_
  obtain ⟨m1, w2, h⟩ := sw_b1_e h
  refine sw_callSv [.ref (P0 + 1), .int 0] (sJ7_fill_53178 (K := K - 1) (by omega) (P0 + 1) (sw_A_of hP0.p1.1 hP0.p1.2) σ 0 w2) rfl (by omega) gs_X8_15 hy_J7_fill_53178 (by decide) rfl (Nat.le_of_ble_eq_true rfl) (by decide +kernel) ?_
  refine sw_aload_n (k0 := 0) 0 rfl (by decide +kernel) rfl ?_
  refine sw_iconst (n := 0) (v := 0) (by decide +kernel) (by decide) ?_
  obtain ⟨m3, e4, h⟩ := sw_let_e h
  refine pf_X8_21 hP0.o.1 hP0.o.2 (by decide +kernel) ?_
  refine sw_mem e4 ?_
  refine sw_aload_n (k0 := 0) 0 rfl (by decide +kernel) rfl ?_
  refine sw_iconst (n := 0) (v := 0) (by decide +kernel) (by decide) ?_
  obtain ⟨m5, e6, h⟩ := sw_let_e h
  refine pf_X8_25 hP0.o.1 hP0.o.2 (by decide +kernel) ?_
  refine sw_mem e6 ?_
  refine sw_aload_n (k0 := 0) 0 rfl (by decide +kernel) rfl ?_
  refine sw_iconst (n := 0) (v := 0) (by decide +kernel) (by decide) ?_
  obtain ⟨m7, e8, h⟩ := sw_let_e h
  refine pf_X8_28 hP0.o.1 hP0.o.2 (by decide +kernel) ?_
  refine sw_mem e8 ?_
  refine sw_aload_n (k0 := 0) 0 rfl (by decide +kernel) rfl ?_
  refine sw_iconst (n := 0) (v := 0) (by decide +kernel) (by decide) ?_
  obtain ⟨m9, e10, h⟩ := sw_let_e h
  refine pf_X8_31 hP0.o.1 hP0.o.2 (by decide +kernel) ?_
  refine sw_mem e10 ?_
  refine sw_aload_n (k0 := 0) 0 rfl (by decide +kernel) rfl ?_
  refine sw_iload_n (k0 := 1) 1 rfl (by decide +kernel) rfl ?_
  obtain ⟨m11, e12, h⟩ := sw_let_e h
  refine pf_X8_34 hP0.o.1 hP0.o.2 (by decide +kernel) ?_
  refine sw_mem e12 ?_
  cases h
  obtain rfl : _ = res := hk
  exact sw_vret (by decide +kernel)
def fX9_feed (σ : sw_M) (a1 : Int32) (a2 : Int32) (a3 : Int32) (a4 : Int32) (a5 : Int32) : Option (Int32 × sw_M) :=
  if ((σ.1 2 1) + 20) ≤ 1600 then
    sw_b1 (fX7_append σ a1) fun m2 =>
    sw_b1 (fX7_append m2 a2) fun m4 =>
    sw_b1 (fX7_append m4 a3) fun m6 =>
    sw_b1 (fX7_append m6 a4) fun m8 =>
    sw_b1 (fX7_append m8 a5) fun m10 =>
    some ((m10.1 2 1, m10))
  else
    some (((-1), σ))
set_option maxRecDepth 20000 in
theorem sX9_feed {l : Launch} {E : sw_E} {K : Nat} (hK : 1 ≤ K) (σ : sw_M) (a1 : Int32) (a2 : Int32) (a3 : Int32) (a4 : Int32) (a5 : Int32) {res : Int32 × sw_M} (h : fX9_feed σ a1 a2 a3 a4 a5 = some res) : sw_Ct l E K yX9_feed cX9_feed 7 (some .int) [.ref 0, .int a1, .int a2, .int a3, .int a4, .int a5] σ (some (.int res.1)) res.2 := by
  obtain ⟨t, hk, h⟩ : ∃ t, t = res ∧ fX9_feed σ a1 a2 a3 a4 a5 = some t := ⟨res, rfl, h⟩
  unfold fX9_feed at h
  refine sw_enter2 (own := RX9) (lv := [(0, .ref 0), (1, .int a1), (2, .int a2), (3, .int a3), (4, .int a4), (5, .int a5)]) (by decide +kernel) (Nat.le_of_ble_eq_true rfl) rfl rfl ?_
  refine sw_aload_n (k0 := 0) 0 rfl (by decide +kernel) rfl ?_
  refine gf_X9_10 (i := 0) (by decide) rfl (by decide +kernel) ?_
  refine sw_refj 1 rfl ?_
  refine gf_X9_62 (i := 1) (by decide) rfl (by decide +kernel) ?_
  refine sw_refj 2 rfl ?_
  refine sw_astore (i := 6) (lv' := [(6, .ref 2), (0, .ref 0), (1, .int a1), (2, .int a2), (3, .int a3), (4, .int a4), (5, .int a5)]) (by decide +kernel) (by decide) rfl ?_
  refine sw_aload 0 rfl (by decide +kernel) ?_
  refine gf_X9_66 (i := 2) (by decide) rfl (by decide +kernel) ?_
  refine sw_bipush (n := 20) (v := 20) (by decide +kernel) (by decide) ?_
  refine sw_iadd (by decide +kernel) ?_
  refine sw_sipush (n := 1600) (v := 1600) (by decide +kernel) (by decide) ?_
  refine sw_icmp_le (off := 5) 25 (by decide +kernel) (by decide) (fun c1 => ?_) (fun c1 => ?_)
  · rw [if_pos c1] at h
    refine sw_aload 0 rfl (by decide +kernel) ?_
    refine sw_iload_n (k0 := 1) 2 rfl (by decide +kernel) rfl ?_
    obtain ⟨m2, w3, h⟩ := sw_b1_e h
    refine sw_callVv (ci := 7) (i := 2) [.int a1] (sX7_append (K := K - 1) (by omega) σ a1 w3) rfl (by omega) rfl gs_X9_72 hy_X7_append (by decide) (by decide) rfl rfl (Nat.le_of_ble_eq_true rfl) (by decide +kernel) ?_
    refine sw_aload 0 rfl (by decide +kernel) ?_
    refine sw_iload_n (k0 := 2) 3 rfl (by decide +kernel) rfl ?_
    obtain ⟨m4, w5, h⟩ := sw_b1_e h
    refine sw_callVv (ci := 7) (i := 2) [.int a2] (sX7_append (K := K - 1) (by omega) m2 a2 w5) rfl (by omega) rfl gs_X9_72 hy_X7_append (by decide) (by decide) rfl rfl (Nat.le_of_ble_eq_true rfl) (by decide +kernel) ?_
    refine sw_aload 0 rfl (by decide +kernel) ?_
    refine sw_iload_n (k0 := 3) 4 rfl (by decide +kernel) rfl ?_
    obtain ⟨m6, w7, h⟩ := sw_b1_e h
    refine sw_callVv (ci := 7) (i := 2) [.int a3] (sX7_append (K := K - 1) (by omega) m4 a3 w7) rfl (by omega) rfl gs_X9_72 hy_X7_append (by decide) (by decide) rfl rfl (Nat.le_of_ble_eq_true rfl) (by decide +kernel) ?_
    refine sw_aload 0 rfl (by decide +kernel) ?_
    refine sw_iload 5 rfl (by decide +kernel) ?_
    obtain ⟨m8, w9, h⟩ := sw_b1_e h
    refine sw_callVv (ci := 7) (i := 2) [.int a4] (sX7_append (K := K - 1) (by omega) m6 a4 w9) rfl (by omega) rfl gs_X9_72 hy_X7_append (by decide) (by decide) rfl rfl (Nat.le_of_ble_eq_true rfl) (by decide +kernel) ?_
    refine sw_aload 0 rfl (by decide +kernel) ?_
    refine sw_iload 6 rfl (by decide +kernel) ?_
    obtain ⟨m10, w11, h⟩ := sw_b1_e h
    refine sw_callVv (ci := 7) (i := 2) [.int a5] (sX7_append (K := K - 1) (by omega) m8 a5 w11) rfl (by omega) rfl gs_X9_72 hy_X7_append (by decide) (by decide) rfl rfl (Nat.le_of_ble_eq_true rfl) (by decide +kernel) ?_
    refine sw_aload 0 rfl (by decide +kernel) ?_
    refine gf_X9_66 (i := 2) (by decide) rfl (by decide +kernel) ?_
    cases h
    obtain rfl : _ = res := hk
    exact sw_iret (by decide +kernel)
  · rw [if_neg c1] at h
    refine sw_iconst (n := (-1)) (v := (-1)) (by decide +kernel) (by decide) ?_
    cases h
    obtain rfl : _ = res := hk
    exact sw_iret (by decide +kernel)
def fX9_end (σ : sw_M) (a1 : Int32) : Option (Int32 × sw_M) :=
  if a1 < 0 then
    some (((-1), σ))
  else
    if a1 ≤ (σ.1 2 1) then
      sw_let (sw_w σ 2 1 a1) fun m3 =>
      some ((a1, m3))
    else
      some (((-1), σ))
set_option maxRecDepth 20000 in
theorem sX9_end {l : Launch} {E : sw_E} {K : Nat} (hK : 0 ≤ K) (σ : sw_M) (a1 : Int32) {res : Int32 × sw_M} (h : fX9_end σ a1 = some res) : sw_Ct l E K yX9_end cX9_end 2 (some .int) [.ref 0, .int a1] σ (some (.int res.1)) res.2 := by
  obtain ⟨t, hk, h⟩ : ∃ t, t = res ∧ fX9_end σ a1 = some t := ⟨res, rfl, h⟩
  unfold fX9_end at h
  refine sw_enter2 (own := RX9) (lv := [(0, .ref 0), (1, .int a1)]) (by decide +kernel) (Nat.le_of_ble_eq_true rfl) rfl rfl ?_
  refine sw_iload_n (k0 := 1) 1 rfl (by decide +kernel) rfl ?_
  refine sw_if_lt (off := 17) 18 (by decide +kernel) (by decide) (fun c1 => ?_) (fun c1 => ?_)
  · rw [if_pos c1] at h
    refine sw_iconst (n := (-1)) (v := (-1)) (by decide +kernel) (by decide) ?_
    cases h
    obtain rfl : _ = res := hk
    exact sw_iret (by decide +kernel)
  · rw [if_neg c1] at h
    refine sw_iload_n (k0 := 1) 1 rfl (by decide +kernel) rfl ?_
    refine sw_aload_n (k0 := 0) 0 rfl (by decide +kernel) rfl ?_
    refine gf_X9_10 (i := 0) (by decide) rfl (by decide +kernel) ?_
    refine sw_refj 1 rfl ?_
    refine gf_X9_62 (i := 1) (by decide) rfl (by decide +kernel) ?_
    refine sw_refj 2 rfl ?_
    refine gf_X9_66 (i := 2) (by decide) rfl (by decide +kernel) ?_
    refine sw_icmp_le (off := 5) 20 (by decide +kernel) (by decide) (fun c2 => ?_) (fun c2 => ?_)
    · rw [if_pos c2] at h
      refine sw_aload_n (k0 := 0) 0 rfl (by decide +kernel) rfl ?_
      refine gf_X9_10 (i := 0) (by decide) rfl (by decide +kernel) ?_
      refine sw_refj 1 rfl ?_
      refine gf_X9_62 (i := 1) (by decide) rfl (by decide +kernel) ?_
      refine sw_refj 2 rfl ?_
      refine sw_iload_n (k0 := 1) 1 rfl (by decide +kernel) rfl ?_
      obtain ⟨m3, e4, h⟩ := sw_let_e h
      refine pf_X9_66 (by decide) rfl (by decide +kernel) ?_
      refine sw_mem e4 ?_
      refine sw_iload_n (k0 := 1) 1 rfl (by decide +kernel) rfl ?_
      cases h
      obtain rfl : _ = res := hk
      exact sw_iret (by decide +kernel)
    · rw [if_neg c2] at h
      refine sw_iconst (n := (-1)) (v := (-1)) (by decide +kernel) (by decide) ?_
      cases h
      obtain rfl : _ = res := hk
      exact sw_iret (by decide +kernel)
def fX9_works_L46 (σ : sw_M) (a1 : Int32) : Option ((Int32 × sw_M)) :=
  sw_let (sw_w σ 2 1 0) fun m1 =>
  if a1 = 0 then
    some (((-1), m1))
  else
    sw_let (sw_wP m1 0 (sw_pl (m1.2.2 1))) fun m4 =>
    sw_let (sw_wP m4 1 (sw_pl (m1.2.2 0))) fun m6 =>
    sw_b1 (fX8_begin 27 m6 (m6.1 (sw_pl (m6.2.2 0)) 5)) fun m8 =>
    sw_b1 (fX0_forget m8) fun m10 =>
    sw_b1 (fX1_forget m10) fun m12 =>
    sw_b1 (fX6_forget m12) fun m14 =>
    sw_let (sw_w m14 0 8 0) fun m16 =>
    some ((m16.1 (sw_pl (m16.2.2 0)) 1, m16))
def fX9_works_L11 (σ : sw_M) (a1 : Int32) (a2 : Int32) : Option ((Int32 × Int32 × sw_M) ⊕ (Int32 × sw_M)) :=
  if 1600 ≤ a2 then
    sw_up (fX9_works_L46 σ a1)
  else
    if a1 = 0 then
      sw_up (fX9_works_L46 σ a1)
    else
      if (fX5_isAtEnd σ) = 0 then
        sw_b2 (fX5_readLine σ) fun r7 m8 =>
        sw_let (a2 + 1) fun v10 =>
        some (.inl (r7, v10, m8))
      else
        sw_up (fX9_works_L46 σ a1)
def fX9_works (σ : sw_M) : Option (Int32 × sw_M) :=
  sw_b1 (fX5_begin σ) fun m1 =>
  sw_wh sw_F (fun s => fX9_works_L11 s.2.2 s.1 s.2.1) (1, 0, m1)
set_option maxRecDepth 20000 in
theorem sX9_works_L46 {l : Launch} {E : sw_E} {K : Nat} (hE : sw_RS l E) (hK : 79 ≤ K) (σ : sw_M) (a1 : Int32) {res : Int32 × sw_M} {t : (Int32 × sw_M)} (h : fX9_works_L46 σ a1 = some t) (hk : (fun q => q = res) t) : sw_Go l E K RX9 cX9_works 3 (some .int) 46 [(0, .ref 0), (1, .int a1)] [] σ (some (.int res.1)) res.2 := by
  unfold fX9_works_L46 at h
  refine sw_aload_n (k0 := 0) 0 rfl (by decide +kernel) rfl ?_
  refine gf_X9_10 (i := 0) (by decide) rfl (by decide +kernel) ?_
  refine sw_refj 1 rfl ?_
  refine gf_X9_62 (i := 1) (by decide) rfl (by decide +kernel) ?_
  refine sw_refj 2 rfl ?_
  refine sw_iconst (n := 0) (v := 0) (by decide +kernel) (by decide) ?_
  obtain ⟨m1, e2, h⟩ := sw_let_e h
  refine pf_X9_66 (by decide) rfl (by decide +kernel) ?_
  refine sw_mem e2 ?_
  refine sw_iload_n (k0 := 1) 1 rfl (by decide +kernel) rfl ?_
  refine sw_if_ne (off := 5) 63 (by decide +kernel) (by decide) (fun c3 => ?_) (fun c3 => ?_)
  · rw [if_neg c3] at h
    refine sw_aload_n (k0 := 0) 0 rfl (by decide +kernel) rfl ?_
    refine gf_X9_19 (i := 0) (by decide) rfl (by decide +kernel) ?_
    refine sw_astore_n (k0 := 2) (lv' := [(2, .ref (sw_pl (m1.2.2 0))), (0, .ref 0), (1, .int a1)]) (by decide +kernel) rfl (by decide) rfl ?_
    refine sw_aload_n (k0 := 0) 1 rfl (by decide +kernel) rfl ?_
    refine sw_aload_n (k0 := 0) 1 rfl (by decide +kernel) rfl ?_
    refine gf_X9_10 (i := 0) (by decide) rfl (by decide +kernel) ?_
    refine sw_refj 1 rfl ?_
    refine gf_X9_86 (i := 1) (by decide) rfl (by decide +kernel) ?_
    obtain ⟨m4, e5, h⟩ := sw_let_e h
    refine pf_X9_19 (sw_pl_P _) (by decide +kernel) ?_
    refine sw_mem e5 ?_
    refine sw_aload_n (k0 := 0) 1 rfl (by decide +kernel) rfl ?_
    refine gf_X9_10 (i := 0) (by decide) rfl (by decide +kernel) ?_
    refine sw_refj 1 rfl ?_
    refine sw_aload_n (k0 := 2) 0 rfl (by decide +kernel) rfl ?_
    obtain ⟨m6, e7, h⟩ := sw_let_e h
    refine pf_X9_86 (sw_pl_P _) (by decide +kernel) ?_
    refine sw_mem e7 ?_
    refine sw_aload_n (k0 := 0) 1 rfl (by decide +kernel) rfl ?_
    refine gf_X9_26 (i := 0) (by decide) rfl (by decide +kernel) ?_
    refine sw_refj 27 rfl ?_
    refine sw_aload_n (k0 := 0) 1 rfl (by decide +kernel) rfl ?_
    refine gf_X9_19 (i := 0) (by decide) rfl (by decide +kernel) ?_
    refine gf_X9_87 (i := (sw_pl (m6.2.2 0))) (sw_pl_P _).o.1 (sw_pl_P _).o.2 (by decide +kernel) ?_
    obtain ⟨m8, w9, h⟩ := sw_b1_e h
    refine sw_callVv (ci := 8) (i := 27) [.int (m6.1 (sw_pl (m6.2.2 0)) 5)] (sX8_begin (K := K - 1) (by omega) 27 (Or.inl rfl) m6 (m6.1 (sw_pl (m6.2.2 0)) 5) w9) rfl (by omega) rfl gs_X9_90 hy_X8_begin (by decide) (by decide) rfl rfl (Nat.le_of_ble_eq_true rfl) (by decide +kernel) ?_
    refine sw_aload_n (k0 := 0) 1 rfl (by decide +kernel) rfl ?_
    refine gf_X9_33 (i := 0) (by decide) rfl (by decide +kernel) ?_
    refine sw_refj 29 rfl ?_
    obtain ⟨m10, w11, h⟩ := sw_b1_e h
    refine sw_callVv (ci := 0) (i := 29) [] (sX0_forget (K := K - 1) (by omega) m8 w11) rfl (by omega) rfl gs_X9_92 hy_X0_forget (by decide) (by decide) rfl rfl (Nat.le_of_ble_eq_true rfl) (by decide +kernel) ?_
    refine sw_aload_n (k0 := 0) 1 rfl (by decide +kernel) rfl ?_
    refine gf_X9_40 (i := 0) (by decide) rfl (by decide +kernel) ?_
    refine sw_refj 31 rfl ?_
    obtain ⟨m12, w13, h⟩ := sw_b1_e h
    refine sw_callVv (ci := 1) (i := 31) [] (sX1_forget (K := K - 1) (by omega) m10 w13) rfl (by omega) rfl gs_X9_95 hy_X1_forget (by decide) (by decide) rfl rfl (Nat.le_of_ble_eq_true rfl) (by decide +kernel) ?_
    refine sw_aload_n (k0 := 0) 1 rfl (by decide +kernel) rfl ?_
    refine gf_X9_54 (i := 0) (by decide) rfl (by decide +kernel) ?_
    refine sw_refj 39 rfl ?_
    obtain ⟨m14, w15, h⟩ := sw_b1_e h
    refine sw_callVv (ci := 6) (i := 39) [] (sX6_forget (K := K - 1) (by omega) m12 w15) rfl (by omega) rfl gs_X9_96 hy_X6_forget (by decide) (by decide) rfl rfl (Nat.le_of_ble_eq_true rfl) (by decide +kernel) ?_
    refine sw_aload_n (k0 := 0) 1 rfl (by decide +kernel) rfl ?_
    refine sw_iconst (n := 0) (v := 0) (by decide +kernel) (by decide) ?_
    obtain ⟨m16, e17, h⟩ := sw_let_e h
    refine pf_X9_97 (by decide) rfl (by decide +kernel) ?_
    refine sw_mem e17 ?_
    refine sw_aload_n (k0 := 0) 1 rfl (by decide +kernel) rfl ?_
    refine gf_X9_19 (i := 0) (by decide) rfl (by decide +kernel) ?_
    refine gf_X9_100 (i := (sw_pl (m16.2.2 0))) (sw_pl_P _).o.1 (sw_pl_P _).o.2 (by decide +kernel) ?_
    cases h
    obtain rfl : _ = res := hk
    exact sw_iret (by decide +kernel)
  · rw [if_pos c3] at h
    refine sw_iconst (n := (-1)) (v := (-1)) (by decide +kernel) (by decide) ?_
    cases h
    obtain rfl : _ = res := hk
    exact sw_iret (by decide +kernel)
set_option maxRecDepth 20000 in
theorem sX9_works_L11 {l : Launch} {E : sw_E} {K : Nat} (hE : sw_RS l E) (hK : 79 ≤ K) (σ : sw_M) (a1 : Int32) (a2 : Int32) {res : Int32 × sw_M} {t : (Int32 × Int32 × sw_M) ⊕ (Int32 × sw_M)} (h : fX9_works_L11 σ a1 a2 = some t) (hk : (Sum.elim (fun s : Int32 × Int32 × sw_M => sw_Go l E K RX9 cX9_works 3 (some .int) 11 [(0, .ref 0), (1, .int s.1), (2, .int s.2.1)] [] s.2.2 (some (.int res.1)) res.2) (fun q => q = res)) t) : sw_Go l E K RX9 cX9_works 3 (some .int) 11 [(0, .ref 0), (1, .int a1), (2, .int a2)] [] σ (some (.int res.1)) res.2 := by
  unfold fX9_works_L11 at h
  refine sw_iload_n (k0 := 2) 2 rfl (by decide +kernel) rfl ?_
  refine sw_sipush (n := 1600) (v := 1600) (by decide +kernel) (by decide) ?_
  refine sw_icmp_ge (off := 31) 46 (by decide +kernel) (by decide) (fun c1 => ?_) (fun c1 => ?_)
  · rw [if_pos c1] at h
    obtain ⟨q1, h1, rfl⟩ := sw_up_e h
    replace h := h1
    refine sw_lv [0, 1] rfl ?_
    exact sX9_works_L46 hE hK σ a1 h hk
  · rw [if_neg c1] at h
    refine sw_iload_n (k0 := 1) 1 rfl (by decide +kernel) rfl ?_
    refine sw_if_eq (off := 27) 46 (by decide +kernel) (by decide) (fun c3 => ?_) (fun c3 => ?_)
    · rw [if_pos c3] at h
      obtain ⟨q3, h3, rfl⟩ := sw_up_e h
      replace h := h3
      refine sw_lv [0, 1] rfl ?_
      exact sX9_works_L46 hE hK σ a1 h hk
    · rw [if_neg c3] at h
      refine sw_aload_n (k0 := 0) 0 rfl (by decide +kernel) rfl ?_
      refine gf_X9_10 (i := 0) (by decide) rfl (by decide +kernel) ?_
      refine sw_refj 1 rfl ?_
      refine sw_callVi (ci := 5) (i := 1) [] (sX5_isAtEnd (K := K - 1) (by omega) σ rfl) rfl (by omega) rfl gs_X9_79 hy_X5_isAtEnd (by decide) (by decide) rfl rfl (Nat.le_of_ble_eq_true rfl) (by decide +kernel) ?_
      refine sw_if_ne (off := 17) 46 (by decide +kernel) (by decide) (fun c5 => ?_) (fun c5 => ?_)
      · rw [if_neg c5] at h
        obtain ⟨q5, h5, rfl⟩ := sw_up_e h
        replace h := h5
        refine sw_lv [0, 1] rfl ?_
        exact sX9_works_L46 hE hK σ a1 h hk
      · rw [if_pos c5] at h
        refine sw_aload_n (k0 := 0) 0 rfl (by decide +kernel) rfl ?_
        refine gf_X9_10 (i := 0) (by decide) rfl (by decide +kernel) ?_
        refine sw_refj 1 rfl ?_
        obtain ⟨r7, m8, w9, h⟩ := sw_b2_e h
        refine sw_callVi (ci := 5) (i := 1) [] (sX5_readLine (K := K - 1) hE (by omega) σ w9) rfl (by omega) rfl gs_X9_83 hy_X5_readLine (by decide) (by decide) rfl rfl (Nat.le_of_ble_eq_true rfl) (by decide +kernel) ?_
        refine sw_istore_n (k0 := 1) (lv' := [(1, .int r7), (0, .ref 0), (2, .int a2)]) (by decide +kernel) rfl (by decide) rfl ?_
        obtain ⟨v10, e11, h⟩ := sw_let_e h
        refine sw_iincv (i := 2) (n := 1) (lv' := [(2, .int v10), (1, .int r7), (0, .ref 0)]) 2 rfl e11 (by decide +kernel) (by decide) (by decide) rfl ?_
        refine sw_goto (off := (-32)) 11 (by decide +kernel) (by decide) ?_
        cases h
        refine sw_lv [2, 1, 0] rfl ?_
        exact hk
set_option maxRecDepth 20000 in
theorem sX9_works {l : Launch} {E : sw_E} {K : Nat} (hE : sw_RS l E) (hK : 79 ≤ K) (σ : sw_M) {res : Int32 × sw_M} (h : fX9_works σ = some res) : sw_Ct l E K yX9_works cX9_works 3 (some .int) [.ref 0] σ (some (.int res.1)) res.2 := by
  obtain ⟨t, hk, h⟩ : ∃ t, t = res ∧ fX9_works σ = some t := ⟨res, rfl, h⟩
  unfold fX9_works at h
  refine sw_enter2 (own := RX9) (lv := [(0, .ref 0)]) (by decide +kernel) (Nat.le_of_ble_eq_true rfl) rfl rfl ?_
  refine sw_aload_n (k0 := 0) 0 rfl (by decide +kernel) rfl ?_
  refine gf_X9_10 (i := 0) (by decide) rfl (by decide +kernel) ?_
  refine sw_refj 1 rfl ?_
  obtain ⟨m1, w2, h⟩ := sw_b1_e h
  refine sw_callVv (ci := 5) (i := 1) [] (sX5_begin (K := K - 1) hE (by omega) σ w2) rfl (by omega) rfl gs_X9_76 hy_X5_begin (by decide) (by decide) rfl rfl (Nat.le_of_ble_eq_true rfl) (by decide +kernel) ?_
  refine sw_iconst (n := 1) (v := 1) (by decide +kernel) (by decide) ?_
  refine sw_istore_n (k0 := 1) (lv' := [(1, .int 1), (0, .ref 0)]) (by decide +kernel) rfl (by decide) rfl ?_
  refine sw_iconst (n := 0) (v := 0) (by decide +kernel) (by decide) ?_
  refine sw_istore_n (k0 := 2) (lv' := [(2, .int 0), (1, .int 1), (0, .ref 0)]) (by decide +kernel) rfl (by decide) rfl ?_
  refine sw_lv [2, 1, 0] rfl ?_
  exact sw_wh_e (fun s : Int32 × Int32 × sw_M => sw_Go l E K RX9 cX9_works 3 (some .int) 11 [(0, .ref 0), (1, .int s.1), (2, .int s.2.1)] [] s.2.2 (some (.int res.1)) res.2) (fun q => q = res) (fun s => fX9_works_L11 s.2.2 s.1 s.2.1) (fun s t hb hk => sX9_works_L11 hE hK s.2.2 s.1 s.2.1 hb hk) _ _ _ h hk
def fX9_fault (σ : sw_M) (a1 : Int32) : Int32 :=
  if a1 = 0 then
    σ.1 1 2
  else
    if a1 = 1 then
      σ.1 1 3
    else
      (-1)
set_option maxRecDepth 20000 in
theorem sX9_fault {l : Launch} {E : sw_E} {K : Nat} (hK : 0 ≤ K) (σ : sw_M) (a1 : Int32) {res : Int32} (h : fX9_fault σ a1 = res) : sw_Ct l E K yX9_fault cX9_fault 2 (some .int) [.ref 0, .int a1] σ (some (.int res)) σ := by
  obtain ⟨t, hk, h⟩ : ∃ t, t = res ∧ fX9_fault σ a1 = t := ⟨res, rfl, h⟩
  unfold fX9_fault at h
  refine sw_enter2 (own := RX9) (lv := [(0, .ref 0), (1, .int a1)]) (by decide +kernel) (Nat.le_of_ble_eq_true rfl) rfl rfl ?_
  refine sw_iload_n (k0 := 1) 1 rfl (by decide +kernel) rfl ?_
  refine sw_if_ne (off := 11) 12 (by decide +kernel) (by decide) (fun c1 => ?_) (fun c1 => ?_)
  · rw [if_neg c1] at h
    refine sw_iload_n (k0 := 1) 1 rfl (by decide +kernel) rfl ?_
    refine sw_iconst (n := 1) (v := 1) (by decide +kernel) (by decide) ?_
    refine sw_icmp_ne (off := 11) 25 (by decide +kernel) (by decide) (fun c2 => ?_) (fun c2 => ?_)
    · rw [if_neg c2] at h
      refine sw_iconst (n := (-1)) (v := (-1)) (by decide +kernel) (by decide) ?_
      subst h
      obtain rfl : _ = res := hk
      exact sw_iret (by decide +kernel)
    · rw [if_pos c2] at h
      refine sw_aload_n (k0 := 0) 0 rfl (by decide +kernel) rfl ?_
      refine gf_X9_10 (i := 0) (by decide) rfl (by decide +kernel) ?_
      refine sw_refj 1 rfl ?_
      refine gf_X9_106 (i := 1) (by decide) rfl (by decide +kernel) ?_
      subst h
      obtain rfl : _ = res := hk
      exact sw_iret (by decide +kernel)
  · rw [if_pos c1] at h
    refine sw_aload_n (k0 := 0) 0 rfl (by decide +kernel) rfl ?_
    refine gf_X9_10 (i := 0) (by decide) rfl (by decide +kernel) ?_
    refine sw_refj 1 rfl ?_
    refine gf_X9_103 (i := 1) (by decide) rfl (by decide +kernel) ?_
    subst h
    obtain rfl : _ = res := hk
    exact sw_iret (by decide +kernel)
def fX9_vat (σ : sw_M) (a1 : Int32) : Option (Int32) :=
  if (fX4_isKind (sw_pl (σ.2.2 0)) σ a1) = 0 then
    some ((-1))
  else
    sw_gd (sw_in a1 5) <|
    some (σ.1 28 a1.toNatClampNeg)
set_option maxRecDepth 20000 in
theorem sX9_vat {l : Launch} {E : sw_E} {K : Nat} (hK : 1 ≤ K) (σ : sw_M) (a1 : Int32) {res : Int32} (h : fX9_vat σ a1 = some res) : sw_Ct l E K yX9_vat cX9_vat 2 (some .int) [.ref 0, .int a1] σ (some (.int res)) σ := by
  obtain ⟨t, hk, h⟩ : ∃ t, t = res ∧ fX9_vat σ a1 = some t := ⟨res, rfl, h⟩
  unfold fX9_vat at h
  refine sw_enter2 (own := RX9) (lv := [(0, .ref 0), (1, .int a1)]) (by decide +kernel) (Nat.le_of_ble_eq_true rfl) rfl rfl ?_
  refine sw_aload_n (k0 := 0) 0 rfl (by decide +kernel) rfl ?_
  refine gf_X9_19 (i := 0) (by decide) rfl (by decide +kernel) ?_
  refine sw_iload_n (k0 := 1) 1 rfl (by decide +kernel) rfl ?_
  refine sw_callVi (ci := 4) (i := (sw_pl (σ.2.2 0))) [.int a1] (sX4_isKind (K := K - 1) (by omega) (sw_pl (σ.2.2 0)) (sw_pl_P _) σ a1 rfl) rfl (by omega) rfl gs_X9_109 hy_X4_isKind (by decide) (sw_pl_P _).o.1 (sw_pl_P _).o.2 rfl (Nat.le_of_ble_eq_true rfl) (by decide +kernel) ?_
  refine sw_if_eq (off := 15) 23 (by decide +kernel) (by decide) (fun c1 => ?_) (fun c1 => ?_)
  · rw [if_pos c1] at h
    refine sw_iconst (n := (-1)) (v := (-1)) (by decide +kernel) (by decide) ?_
    cases h
    obtain rfl : _ = res := hk
    exact sw_iret (by decide +kernel)
  · rw [if_neg c1] at h
    refine sw_aload_n (k0 := 0) 0 rfl (by decide +kernel) rfl ?_
    refine gf_X9_26 (i := 0) (by decide) rfl (by decide +kernel) ?_
    refine sw_refj 27 rfl ?_
    refine gf_X9_113 (i := 27) (by decide) rfl (by decide +kernel) ?_
    refine sw_refj 28 rfl ?_
    refine sw_iload_n (k0 := 1) 1 rfl (by decide +kernel) rfl ?_
    obtain ⟨g2, h⟩ := sw_gd_e h
    refine sw_iaload (a := 28) (by decide) rfl (sw_in_e g2) (by decide +kernel) ?_
    refine sw_goto (off := 4) 24 (by decide +kernel) (by decide) ?_
    cases h
    obtain rfl : _ = res := hk
    exact sw_iret (by decide +kernel)
def fX9_mind (σ : sw_M) (a1 : Int32) (a2 : Int32) : Option (Int32) :=
  if (fX4_isPerson (sw_pl (σ.2.2 0)) σ a1) = 0 then
    some ((-1))
  else
    if (fX4_isKind (sw_pl (σ.2.2 0)) σ a2) = 0 then
      some ((-1))
    else
      sw_b1 (fX4_has (sw_pl (σ.2.2 0)) σ a1 a2) fun r3 =>
      some (r3)
set_option maxRecDepth 20000 in
theorem sX9_mind {l : Launch} {E : sw_E} {K : Nat} (hK : 1 ≤ K) (σ : sw_M) (a1 : Int32) (a2 : Int32) {res : Int32} (h : fX9_mind σ a1 a2 = some res) : sw_Ct l E K yX9_mind cX9_mind 3 (some .int) [.ref 0, .int a1, .int a2] σ (some (.int res)) σ := by
  obtain ⟨t, hk, h⟩ : ∃ t, t = res ∧ fX9_mind σ a1 a2 = some t := ⟨res, rfl, h⟩
  unfold fX9_mind at h
  refine sw_enter2 (own := RX9) (lv := [(0, .ref 0), (1, .int a1), (2, .int a2)]) (by decide +kernel) (Nat.le_of_ble_eq_true rfl) rfl rfl ?_
  refine sw_aload_n (k0 := 0) 0 rfl (by decide +kernel) rfl ?_
  refine gf_X9_19 (i := 0) (by decide) rfl (by decide +kernel) ?_
  refine sw_iload_n (k0 := 1) 1 rfl (by decide +kernel) rfl ?_
  refine sw_callVi (ci := 4) (i := (sw_pl (σ.2.2 0))) [.int a1] (sX4_isPerson (K := K - 1) (by omega) (sw_pl (σ.2.2 0)) (sw_pl_P _) σ a1 rfl) rfl (by omega) rfl gs_X9_116 hy_X4_isPerson (by decide) (sw_pl_P _).o.1 (sw_pl_P _).o.2 rfl (Nat.le_of_ble_eq_true rfl) (by decide +kernel) ?_
  refine sw_if_eq (off := 26) 34 (by decide +kernel) (by decide) (fun c1 => ?_) (fun c1 => ?_)
  · rw [if_pos c1] at h
    refine sw_iconst (n := (-1)) (v := (-1)) (by decide +kernel) (by decide) ?_
    cases h
    obtain rfl : _ = res := hk
    exact sw_iret (by decide +kernel)
  · rw [if_neg c1] at h
    refine sw_aload_n (k0 := 0) 0 rfl (by decide +kernel) rfl ?_
    refine gf_X9_19 (i := 0) (by decide) rfl (by decide +kernel) ?_
    refine sw_iload_n (k0 := 2) 2 rfl (by decide +kernel) rfl ?_
    refine sw_callVi (ci := 4) (i := (sw_pl (σ.2.2 0))) [.int a2] (sX4_isKind (K := K - 1) (by omega) (sw_pl (σ.2.2 0)) (sw_pl_P _) σ a2 rfl) rfl (by omega) rfl gs_X9_109 hy_X4_isKind (by decide) (sw_pl_P _).o.1 (sw_pl_P _).o.2 rfl (Nat.le_of_ble_eq_true rfl) (by decide +kernel) ?_
    refine sw_if_eq (off := 15) 34 (by decide +kernel) (by decide) (fun c2 => ?_) (fun c2 => ?_)
    · rw [if_pos c2] at h
      refine sw_iconst (n := (-1)) (v := (-1)) (by decide +kernel) (by decide) ?_
      cases h
      obtain rfl : _ = res := hk
      exact sw_iret (by decide +kernel)
    · rw [if_neg c2] at h
      refine sw_aload_n (k0 := 0) 0 rfl (by decide +kernel) rfl ?_
      refine gf_X9_19 (i := 0) (by decide) rfl (by decide +kernel) ?_
      refine sw_iload_n (k0 := 1) 1 rfl (by decide +kernel) rfl ?_
      refine sw_iload_n (k0 := 2) 2 rfl (by decide +kernel) rfl ?_
      obtain ⟨r3, w4, h⟩ := sw_b1_e h
      refine sw_callVi (ci := 4) (i := (sw_pl (σ.2.2 0))) [.int a1, .int a2] (sX4_has (K := K - 1) (by omega) (sw_pl (σ.2.2 0)) (sw_pl_P _) σ a1 a2 w4) rfl (by omega) rfl gs_X9_119 hy_X4_has (by decide) (sw_pl_P _).o.1 (sw_pl_P _).o.2 rfl (Nat.le_of_ble_eq_true rfl) (by decide +kernel) ?_
      refine sw_goto (off := 4) 35 (by decide +kernel) (by decide) ?_
      cases h
      obtain rfl : _ = res := hk
      exact sw_iret (by decide +kernel)
def fX9_wants (σ : sw_M) (a1 : Int32) (a2 : Int32) : Option (Int32) :=
  if (fX4_isBasin (sw_pl (σ.2.2 0)) σ a1) = 0 then
    some ((-1))
  else
    if (fX4_isKind (sw_pl (σ.2.2 0)) σ a2) = 0 then
      some ((-1))
    else
      sw_b1 (fX4_needs (sw_pl (σ.2.2 0)) σ a1 a2) fun r3 =>
      some (r3)
set_option maxRecDepth 20000 in
theorem sX9_wants {l : Launch} {E : sw_E} {K : Nat} (hK : 1 ≤ K) (σ : sw_M) (a1 : Int32) (a2 : Int32) {res : Int32} (h : fX9_wants σ a1 a2 = some res) : sw_Ct l E K yX9_wants cX9_wants 3 (some .int) [.ref 0, .int a1, .int a2] σ (some (.int res)) σ := by
  obtain ⟨t, hk, h⟩ : ∃ t, t = res ∧ fX9_wants σ a1 a2 = some t := ⟨res, rfl, h⟩
  unfold fX9_wants at h
  refine sw_enter2 (own := RX9) (lv := [(0, .ref 0), (1, .int a1), (2, .int a2)]) (by decide +kernel) (Nat.le_of_ble_eq_true rfl) rfl rfl ?_
  refine sw_aload_n (k0 := 0) 0 rfl (by decide +kernel) rfl ?_
  refine gf_X9_19 (i := 0) (by decide) rfl (by decide +kernel) ?_
  refine sw_iload_n (k0 := 1) 1 rfl (by decide +kernel) rfl ?_
  refine sw_callVi (ci := 4) (i := (sw_pl (σ.2.2 0))) [.int a1] (sX4_isBasin (K := K - 1) (by omega) (sw_pl (σ.2.2 0)) (sw_pl_P _) σ a1 rfl) rfl (by omega) rfl gs_X9_123 hy_X4_isBasin (by decide) (sw_pl_P _).o.1 (sw_pl_P _).o.2 rfl (Nat.le_of_ble_eq_true rfl) (by decide +kernel) ?_
  refine sw_if_eq (off := 26) 34 (by decide +kernel) (by decide) (fun c1 => ?_) (fun c1 => ?_)
  · rw [if_pos c1] at h
    refine sw_iconst (n := (-1)) (v := (-1)) (by decide +kernel) (by decide) ?_
    cases h
    obtain rfl : _ = res := hk
    exact sw_iret (by decide +kernel)
  · rw [if_neg c1] at h
    refine sw_aload_n (k0 := 0) 0 rfl (by decide +kernel) rfl ?_
    refine gf_X9_19 (i := 0) (by decide) rfl (by decide +kernel) ?_
    refine sw_iload_n (k0 := 2) 2 rfl (by decide +kernel) rfl ?_
    refine sw_callVi (ci := 4) (i := (sw_pl (σ.2.2 0))) [.int a2] (sX4_isKind (K := K - 1) (by omega) (sw_pl (σ.2.2 0)) (sw_pl_P _) σ a2 rfl) rfl (by omega) rfl gs_X9_109 hy_X4_isKind (by decide) (sw_pl_P _).o.1 (sw_pl_P _).o.2 rfl (Nat.le_of_ble_eq_true rfl) (by decide +kernel) ?_
    refine sw_if_eq (off := 15) 34 (by decide +kernel) (by decide) (fun c2 => ?_) (fun c2 => ?_)
    · rw [if_pos c2] at h
      refine sw_iconst (n := (-1)) (v := (-1)) (by decide +kernel) (by decide) ?_
      cases h
      obtain rfl : _ = res := hk
      exact sw_iret (by decide +kernel)
    · rw [if_neg c2] at h
      refine sw_aload_n (k0 := 0) 0 rfl (by decide +kernel) rfl ?_
      refine gf_X9_19 (i := 0) (by decide) rfl (by decide +kernel) ?_
      refine sw_iload_n (k0 := 1) 1 rfl (by decide +kernel) rfl ?_
      refine sw_iload_n (k0 := 2) 2 rfl (by decide +kernel) rfl ?_
      obtain ⟨r3, w4, h⟩ := sw_b1_e h
      refine sw_callVi (ci := 4) (i := (sw_pl (σ.2.2 0))) [.int a1, .int a2] (sX4_needs (K := K - 1) (by omega) (sw_pl (σ.2.2 0)) (sw_pl_P _) σ a1 a2 w4) rfl (by omega) rfl gs_X9_126 hy_X4_needs (by decide) (sw_pl_P _).o.1 (sw_pl_P _).o.2 rfl (Nat.le_of_ble_eq_true rfl) (by decide +kernel) ?_
      refine sw_goto (off := 4) 35 (by decide +kernel) (by decide) ?_
      cases h
      obtain rfl : _ = res := hk
      exact sw_iret (by decide +kernel)
def fX9_rule (σ : sw_M) (a1 : Int32) (a2 : Int32) : Option (Int32) :=
  if a1 < 0 then
    some ((-1))
  else
    if (σ.1 (sw_pl (σ.2.2 0)) 2) ≤ a1 then
      some ((-1))
    else
      if a2 < 0 then
        some ((-1))
      else
        if a2 < 4 then
          sw_gd (sw_in ((a1 * 4) + a2) 24) <|
          some (σ.1 ((sw_pl (σ.2.2 0)) + 6) ((a1 * 4) + a2).toNatClampNeg)
        else
          some ((-1))
set_option maxRecDepth 20000 in
theorem sX9_rule {l : Launch} {E : sw_E} {K : Nat} (hK : 0 ≤ K) (σ : sw_M) (a1 : Int32) (a2 : Int32) {res : Int32} (h : fX9_rule σ a1 a2 = some res) : sw_Ct l E K yX9_rule cX9_rule 3 (some .int) [.ref 0, .int a1, .int a2] σ (some (.int res)) σ := by
  obtain ⟨t, hk, h⟩ : ∃ t, t = res ∧ fX9_rule σ a1 a2 = some t := ⟨res, rfl, h⟩
  unfold fX9_rule at h
  refine sw_enter2 (own := RX9) (lv := [(0, .ref 0), (1, .int a1), (2, .int a2)]) (by decide +kernel) (Nat.le_of_ble_eq_true rfl) rfl rfl ?_
  refine sw_iload_n (k0 := 1) 1 rfl (by decide +kernel) rfl ?_
  refine sw_if_lt (off := 23) 24 (by decide +kernel) (by decide) (fun c1 => ?_) (fun c1 => ?_)
  · rw [if_pos c1] at h
    refine sw_iconst (n := (-1)) (v := (-1)) (by decide +kernel) (by decide) ?_
    cases h
    obtain rfl : _ = res := hk
    exact sw_iret (by decide +kernel)
  · rw [if_neg c1] at h
    refine sw_iload_n (k0 := 1) 1 rfl (by decide +kernel) rfl ?_
    refine sw_aload_n (k0 := 0) 0 rfl (by decide +kernel) rfl ?_
    refine gf_X9_19 (i := 0) (by decide) rfl (by decide +kernel) ?_
    refine gf_X9_129 (i := (sw_pl (σ.2.2 0))) (sw_pl_P _).o.1 (sw_pl_P _).o.2 (by decide +kernel) ?_
    refine sw_icmp_ge (off := 12) 24 (by decide +kernel) (by decide) (fun c2 => ?_) (fun c2 => ?_)
    · rw [if_pos c2] at h
      refine sw_iconst (n := (-1)) (v := (-1)) (by decide +kernel) (by decide) ?_
      cases h
      obtain rfl : _ = res := hk
      exact sw_iret (by decide +kernel)
    · rw [if_neg c2] at h
      refine sw_iload_n (k0 := 2) 2 rfl (by decide +kernel) rfl ?_
      refine sw_if_lt (off := 8) 24 (by decide +kernel) (by decide) (fun c3 => ?_) (fun c3 => ?_)
      · rw [if_pos c3] at h
        refine sw_iconst (n := (-1)) (v := (-1)) (by decide +kernel) (by decide) ?_
        cases h
        obtain rfl : _ = res := hk
        exact sw_iret (by decide +kernel)
      · rw [if_neg c3] at h
        refine sw_iload_n (k0 := 2) 2 rfl (by decide +kernel) rfl ?_
        refine sw_iconst (n := 4) (v := 4) (by decide +kernel) (by decide) ?_
        refine sw_icmp_lt (off := 5) 26 (by decide +kernel) (by decide) (fun c4 => ?_) (fun c4 => ?_)
        · rw [if_pos c4] at h
          refine sw_aload_n (k0 := 0) 0 rfl (by decide +kernel) rfl ?_
          refine gf_X9_19 (i := 0) (by decide) rfl (by decide +kernel) ?_
          refine gf_X9_132 (i := (sw_pl (σ.2.2 0))) (sw_pl_P _).o.1 (sw_pl_P _).o.2 (by decide +kernel) ?_
          refine sw_iload_n (k0 := 1) 1 rfl (by decide +kernel) rfl ?_
          refine sw_iconst (n := 4) (v := 4) (by decide +kernel) (by decide) ?_
          refine sw_imul (by decide +kernel) ?_
          refine sw_iload_n (k0 := 2) 2 rfl (by decide +kernel) rfl ?_
          refine sw_iadd (by decide +kernel) ?_
          obtain ⟨g5, h⟩ := sw_gd_e h
          refine sw_iaload (a := ((sw_pl (σ.2.2 0)) + 6)) (sw_pl_P _).p6.1 (sw_pl_P _).p6.2 (sw_in_e g5) (by decide +kernel) ?_
          cases h
          obtain rfl : _ = res := hk
          exact sw_iret (by decide +kernel)
        · rw [if_neg c4] at h
          refine sw_iconst (n := (-1)) (v := (-1)) (by decide +kernel) (by decide) ?_
          cases h
          obtain rfl : _ = res := hk
          exact sw_iret (by decide +kernel)
def fX9_isSilent (σ : sw_M) (a1 : Int32) : Int32 :=
  if (fX4_isPerson (sw_pl (σ.2.2 0)) σ a1) = 0 then
    0
  else
    if (((σ.1 27 1) >>> (a1 &&& 31)) &&& 1) = 0 then
      1
    else
      0
set_option maxRecDepth 20000 in
theorem sX9_isSilent {l : Launch} {E : sw_E} {K : Nat} (hK : 1 ≤ K) (σ : sw_M) (a1 : Int32) {res : Int32} (h : fX9_isSilent σ a1 = res) : sw_Ct l E K yX9_isSilent cX9_isSilent 2 (some .boolean) [.ref 0, .int a1] σ (some (.int res)) σ := by
  obtain ⟨t, hk, h⟩ : ∃ t, t = res ∧ fX9_isSilent σ a1 = t := ⟨res, rfl, h⟩
  unfold fX9_isSilent at h
  refine sw_enter2 (own := RX9) (lv := [(0, .ref 0), (1, .int a1)]) (by decide +kernel) (Nat.le_of_ble_eq_true rfl) rfl rfl ?_
  refine sw_aload_n (k0 := 0) 0 rfl (by decide +kernel) rfl ?_
  refine gf_X9_19 (i := 0) (by decide) rfl (by decide +kernel) ?_
  refine sw_iload_n (k0 := 1) 1 rfl (by decide +kernel) rfl ?_
  refine sw_callVi (ci := 4) (i := (sw_pl (σ.2.2 0))) [.int a1] (sX4_isPerson (K := K - 1) (by omega) (sw_pl (σ.2.2 0)) (sw_pl_P _) σ a1 rfl) rfl (by omega) rfl gs_X9_116 hy_X4_isPerson (by decide) (sw_pl_P _).o.1 (sw_pl_P _).o.2 rfl (Nat.le_of_ble_eq_true rfl) (by decide +kernel) ?_
  refine sw_if_eq (off := 21) 29 (by decide +kernel) (by decide) (fun c1 => ?_) (fun c1 => ?_)
  · rw [if_pos c1] at h
    refine sw_iconst (n := 0) (v := 0) (by decide +kernel) (by decide) ?_
    subst h
    obtain rfl : _ = res := hk
    exact sw_zret rfl (by decide +kernel)
  · rw [if_neg c1] at h
    refine sw_aload_n (k0 := 0) 0 rfl (by decide +kernel) rfl ?_
    refine gf_X9_26 (i := 0) (by decide) rfl (by decide +kernel) ?_
    refine sw_refj 27 rfl ?_
    refine gf_X9_296 (i := 27) (by decide) rfl (by decide +kernel) ?_
    refine sw_iload_n (k0 := 1) 1 rfl (by decide +kernel) rfl ?_
    refine sw_ishr (by decide +kernel) ?_
    refine sw_iconst (n := 1) (v := 1) (by decide +kernel) (by decide) ?_
    refine sw_iand (by decide +kernel) ?_
    refine sw_if_ne (off := 7) 29 (by decide +kernel) (by decide) (fun c2 => ?_) (fun c2 => ?_)
    · rw [if_neg c2] at h
      refine sw_iconst (n := 0) (v := 0) (by decide +kernel) (by decide) ?_
      subst h
      obtain rfl : _ = res := hk
      exact sw_zret rfl (by decide +kernel)
    · rw [if_pos c2] at h
      refine sw_iconst (n := 1) (v := 1) (by decide +kernel) (by decide) ?_
      refine sw_goto (off := 4) 30 (by decide +kernel) (by decide) ?_
      subst h
      obtain rfl : _ = res := hk
      exact sw_zret rfl (by decide +kernel)
theorem bX9_isSilent (σ : sw_M) (a1 : Int32) : fX9_isSilent σ a1 = 0 ∨ fX9_isSilent σ a1 = 1 := by
  simp only [fX9_isSilent, sw_let]
  repeat' (first | exact Or.inl rfl | exact Or.inr rfl | refine sw_ite_bo ?_ ?_)
def fX9_confess (σ : sw_M) (a1 : Int32) : Option (Int32 × sw_M) :=
  if (fX9_isSilent σ a1) = 0 then
    some (((-1), σ))
  else
    sw_b1 (fX0_keep 27 σ) fun m2 =>
    sw_b1 (fX4_tell (sw_pl (m2.2.2 0)) 27 m2 (1 <<< (a1 &&& 31))) fun m4 =>
    sw_b1 (fX8_all 27 m4) fun r6 =>
    some ((r6, m4))
set_option maxRecDepth 20000 in
theorem sX9_confess {l : Launch} {E : sw_E} {K : Nat} (hK : 3 ≤ K) (σ : sw_M) (a1 : Int32) {res : Int32 × sw_M} (h : fX9_confess σ a1 = some res) : sw_Ct l E K yX9_confess cX9_confess 2 (some .int) [.ref 0, .int a1] σ (some (.int res.1)) res.2 := by
  obtain ⟨t, hk, h⟩ : ∃ t, t = res ∧ fX9_confess σ a1 = some t := ⟨res, rfl, h⟩
  unfold fX9_confess at h
  refine sw_enter2 (own := RX9) (lv := [(0, .ref 0), (1, .int a1)]) (by decide +kernel) (Nat.le_of_ble_eq_true rfl) rfl rfl ?_
  refine sw_aload_n (k0 := 0) 0 rfl (by decide +kernel) rfl ?_
  refine sw_iload_n (k0 := 1) 1 rfl (by decide +kernel) rfl ?_
  refine sw_callVi (ci := 9) (i := 0) [.int a1] (sX9_isSilent (K := K - 1) (by omega) σ a1 rfl) rfl (by omega) rfl gs_X9_135 hy_X9_isSilent (by decide) (by decide) rfl rfl (Nat.le_of_ble_eq_true rfl) (by decide +kernel) ?_
  refine sw_if_ne (off := 5) 10 (by decide +kernel) (by decide) (fun c1 => ?_) (fun c1 => ?_)
  · rw [if_neg c1] at h
    refine sw_aload_n (k0 := 0) 0 rfl (by decide +kernel) rfl ?_
    refine gf_X9_33 (i := 0) (by decide) rfl (by decide +kernel) ?_
    refine sw_refj 29 rfl ?_
    refine sw_aload_n (k0 := 0) 0 rfl (by decide +kernel) rfl ?_
    refine gf_X9_26 (i := 0) (by decide) rfl (by decide +kernel) ?_
    refine sw_refj 27 rfl ?_
    obtain ⟨m2, w3, h⟩ := sw_b1_e h
    refine sw_callVv (ci := 0) (i := 29) [.ref 27] (sX0_keep (K := K - 1) (by omega) 27 (Or.inl rfl) σ w3) rfl (by omega) rfl gs_X9_138 hy_X0_keep (by decide) (by decide) rfl rfl (Nat.le_of_ble_eq_true rfl) (by decide +kernel) ?_
    refine sw_aload_n (k0 := 0) 0 rfl (by decide +kernel) rfl ?_
    refine gf_X9_19 (i := 0) (by decide) rfl (by decide +kernel) ?_
    refine sw_aload_n (k0 := 0) 0 rfl (by decide +kernel) rfl ?_
    refine gf_X9_26 (i := 0) (by decide) rfl (by decide +kernel) ?_
    refine sw_refj 27 rfl ?_
    refine sw_iconst (n := 1) (v := 1) (by decide +kernel) (by decide) ?_
    refine sw_iload_n (k0 := 1) 1 rfl (by decide +kernel) rfl ?_
    refine sw_ishl (by decide +kernel) ?_
    obtain ⟨m4, w5, h⟩ := sw_b1_e h
    refine sw_callVv (ci := 4) (i := (sw_pl (m2.2.2 0))) [.ref 27, .int (1 <<< (a1 &&& 31))] (sX4_tell (K := K - 1) (by omega) (sw_pl (m2.2.2 0)) 27 (sw_pl_P _) (Or.inl rfl) m2 (1 <<< (a1 &&& 31)) w5) rfl (by omega) rfl gs_X9_142 hy_X4_tell (by decide) (sw_pl_P _).o.1 (sw_pl_P _).o.2 rfl (Nat.le_of_ble_eq_true rfl) (by decide +kernel) ?_
    refine sw_aload_n (k0 := 0) 0 rfl (by decide +kernel) rfl ?_
    refine gf_X9_26 (i := 0) (by decide) rfl (by decide +kernel) ?_
    refine sw_refj 27 rfl ?_
    obtain ⟨r6, w7, h⟩ := sw_b1_e h
    refine sw_callVi (ci := 8) (i := 27) [] (sX8_all (K := K - 1) (by omega) 27 (Or.inl rfl) m4 w7) rfl (by omega) rfl gs_X9_146 hy_X8_all (by decide) (by decide) rfl rfl (Nat.le_of_ble_eq_true rfl) (by decide +kernel) ?_
    cases h
    obtain rfl : _ = res := hk
    exact sw_iret (by decide +kernel)
  · rw [if_pos c1] at h
    refine sw_iconst (n := (-1)) (v := (-1)) (by decide +kernel) (by decide) ?_
    cases h
    obtain rfl : _ = res := hk
    exact sw_iret (by decide +kernel)
def fX9_boil (σ : sw_M) : Option (Int32 × sw_M) :=
  if (σ.1 27 4) < 999 then
    sw_b1 (fX0_keep 27 σ) fun m2 =>
    sw_b2 (fX4_boilInEarnest (sw_pl (m2.2.2 0)) 27 m2 1) fun r4 m5 =>
    if r4 = 0 then
      some ((0, m5))
    else
      some ((1, m5))
  else
    some (((-1), σ))
set_option maxRecDepth 20000 in
theorem sX9_boil {l : Launch} {E : sw_E} {K : Nat} (hK : 5 ≤ K) (σ : sw_M) {res : Int32 × sw_M} (h : fX9_boil σ = some res) : sw_Ct l E K yX9_boil cX9_boil 1 (some .int) [.ref 0] σ (some (.int res.1)) res.2 := by
  obtain ⟨t, hk, h⟩ : ∃ t, t = res ∧ fX9_boil σ = some t := ⟨res, rfl, h⟩
  unfold fX9_boil at h
  refine sw_enter2 (own := RX9) (lv := [(0, .ref 0)]) (by decide +kernel) (Nat.le_of_ble_eq_true rfl) rfl rfl ?_
  refine sw_aload_n (k0 := 0) 0 rfl (by decide +kernel) rfl ?_
  refine gf_X9_26 (i := 0) (by decide) rfl (by decide +kernel) ?_
  refine sw_refj 27 rfl ?_
  refine gf_X9_150 (i := 27) (by decide) rfl (by decide +kernel) ?_
  refine sw_sipush (n := 999) (v := 999) (by decide +kernel) (by decide) ?_
  refine sw_icmp_lt (off := 5) 15 (by decide +kernel) (by decide) (fun c1 => ?_) (fun c1 => ?_)
  · rw [if_pos c1] at h
    refine sw_aload_n (k0 := 0) 0 rfl (by decide +kernel) rfl ?_
    refine gf_X9_33 (i := 0) (by decide) rfl (by decide +kernel) ?_
    refine sw_refj 29 rfl ?_
    refine sw_aload_n (k0 := 0) 0 rfl (by decide +kernel) rfl ?_
    refine gf_X9_26 (i := 0) (by decide) rfl (by decide +kernel) ?_
    refine sw_refj 27 rfl ?_
    obtain ⟨m2, w3, h⟩ := sw_b1_e h
    refine sw_callVv (ci := 0) (i := 29) [.ref 27] (sX0_keep (K := K - 1) (by omega) 27 (Or.inl rfl) σ w3) rfl (by omega) rfl gs_X9_138 hy_X0_keep (by decide) (by decide) rfl rfl (Nat.le_of_ble_eq_true rfl) (by decide +kernel) ?_
    refine sw_aload_n (k0 := 0) 0 rfl (by decide +kernel) rfl ?_
    refine gf_X9_19 (i := 0) (by decide) rfl (by decide +kernel) ?_
    refine sw_aload_n (k0 := 0) 0 rfl (by decide +kernel) rfl ?_
    refine gf_X9_26 (i := 0) (by decide) rfl (by decide +kernel) ?_
    refine sw_refj 27 rfl ?_
    refine sw_iconst (n := 1) (v := 1) (by decide +kernel) (by decide) ?_
    obtain ⟨r4, m5, w6, h⟩ := sw_b2_e h
    refine sw_callVi (ci := 4) (i := (sw_pl (m2.2.2 0))) [.ref 27, .int 1] (sX4_boilInEarnest (K := K - 1) (by omega) (sw_pl (m2.2.2 0)) 27 (sw_pl_P _) (Or.inl rfl) m2 1 w6) rfl (by omega) rfl gs_X9_153 hy_X4_boilInEarnest (by decide) (sw_pl_P _).o.1 (sw_pl_P _).o.2 rfl (Nat.le_of_ble_eq_true rfl) (by decide +kernel) ?_
    refine sw_if_eq (off := 7) 45 (by decide +kernel) (by decide) (fun c7 => ?_) (fun c7 => ?_)
    · rw [if_pos c7] at h
      refine sw_iconst (n := 0) (v := 0) (by decide +kernel) (by decide) ?_
      cases h
      obtain rfl : _ = res := hk
      exact sw_iret (by decide +kernel)
    · rw [if_neg c7] at h
      refine sw_iconst (n := 1) (v := 1) (by decide +kernel) (by decide) ?_
      refine sw_goto (off := 4) 46 (by decide +kernel) (by decide) ?_
      cases h
      obtain rfl : _ = res := hk
      exact sw_iret (by decide +kernel)
  · rw [if_neg c1] at h
    refine sw_iconst (n := (-1)) (v := (-1)) (by decide +kernel) (by decide) ?_
    cases h
    obtain rfl : _ = res := hk
    exact sw_iret (by decide +kernel)
def fX9_isEased (σ : sw_M) (a1 : Int32) : Int32 :=
  if (((σ.1 27 2) >>> (a1 &&& 31)) &&& 1) = 1 then
    1
  else
    0
set_option maxRecDepth 20000 in
theorem sX9_isEased {l : Launch} {E : sw_E} {K : Nat} (hK : 0 ≤ K) (σ : sw_M) (a1 : Int32) {res : Int32} (h : fX9_isEased σ a1 = res) : sw_Ct l E K yX9_isEased cX9_isEased 2 (some .boolean) [.ref 0, .int a1] σ (some (.int res)) σ := by
  obtain ⟨t, hk, h⟩ : ∃ t, t = res ∧ fX9_isEased σ a1 = t := ⟨res, rfl, h⟩
  unfold fX9_isEased at h
  refine sw_enter2 (own := RX9) (lv := [(0, .ref 0), (1, .int a1)]) (by decide +kernel) (Nat.le_of_ble_eq_true rfl) rfl rfl ?_
  refine sw_aload_n (k0 := 0) 0 rfl (by decide +kernel) rfl ?_
  refine gf_X9_26 (i := 0) (by decide) rfl (by decide +kernel) ?_
  refine sw_refj 27 rfl ?_
  refine gf_X9_167 (i := 27) (by decide) rfl (by decide +kernel) ?_
  refine sw_iload_n (k0 := 1) 1 rfl (by decide +kernel) rfl ?_
  refine sw_ishr (by decide +kernel) ?_
  refine sw_iconst (n := 1) (v := 1) (by decide +kernel) (by decide) ?_
  refine sw_iand (by decide +kernel) ?_
  refine sw_iconst (n := 1) (v := 1) (by decide +kernel) (by decide) ?_
  refine sw_icmp_ne (off := 7) 19 (by decide +kernel) (by decide) (fun c1 => ?_) (fun c1 => ?_)
  · rw [if_neg c1] at h
    refine sw_iconst (n := 0) (v := 0) (by decide +kernel) (by decide) ?_
    subst h
    obtain rfl : _ = res := hk
    exact sw_zret rfl (by decide +kernel)
  · rw [if_pos c1] at h
    refine sw_iconst (n := 1) (v := 1) (by decide +kernel) (by decide) ?_
    refine sw_goto (off := 4) 20 (by decide +kernel) (by decide) ?_
    subst h
    obtain rfl : _ = res := hk
    exact sw_zret rfl (by decide +kernel)
theorem bX9_isEased (σ : sw_M) (a1 : Int32) : fX9_isEased σ a1 = 0 ∨ fX9_isEased σ a1 = 1 := by
  simp only [fX9_isEased, sw_let]
  repeat' (first | exact Or.inl rfl | exact Or.inr rfl | refine sw_ite_bo ?_ ?_)
