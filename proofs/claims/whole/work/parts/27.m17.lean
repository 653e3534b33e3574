def fX10_nextRow_L86 (σ : sw_M) (a3 : Int32) (a4 : Int32) : Option ((Int32 × Int32 × sw_M) ⊕ (Int32 × sw_M)) :=
  if a4 ≤ a3 then
    some (.inr ((1, σ)))
  else
    sw_b1 (fX10_swap σ a3 a4) fun m2 =>
    sw_let (a3 + 1) fun v4 =>
    sw_let (a4 + (-1)) fun v6 =>
    some (.inl (v4, v6, m2))
def fX10_nextRow_L47 (σ : sw_M) (a1 : Int32) (a2 : Int32) : Option ((Int32) ⊕ (Int32 × sw_M)) :=
  sw_gd (sw_in a2 6) <|
  sw_gd (sw_in a1 6) <|
  if (σ.1 70 a1.toNatClampNeg) ≤ (σ.1 70 a2.toNatClampNeg) then
    sw_b1 (fX10_swap σ a1 a2) fun m4 =>
    sw_let (a1 + 1) fun v6 =>
    sw_let ((m4.1 49 43) - 1) fun v8 =>
    sw_up (sw_wh sw_F (fun s => fX10_nextRow_L86 s.2.2 s.1 s.2.1) (v6, v8, m4))
  else
    sw_let (a2 + (-1)) fun v11 =>
    some (.inl v11)
def fX10_nextRow_L34 (σ : sw_M) (a1 : Int32) : Option ((Int32 × sw_M)) :=
  if (0 : Int32) ≤ a1 then
    sw_let ((σ.1 49 43) - 1) fun v2 =>
    sw_wh sw_F (fun s => fX10_nextRow_L47 σ a1 s) v2
  else
    some ((0, σ))
def fX10_nextRow_L7 (σ : sw_M) (a1 : Int32) : Option ((Int32) ⊕ (Int32 × sw_M)) :=
  if a1 < 0 then
    sw_up (fX10_nextRow_L34 σ a1)
  else
    sw_gd (sw_in a1 6) <|
    sw_gd (sw_in (a1 + 1) 6) <|
    if (σ.1 70 a1.toNatClampNeg) ≤ (σ.1 70 (a1 + 1).toNatClampNeg) then
      sw_up (fX10_nextRow_L34 σ a1)
    else
      sw_let (a1 + (-1)) fun v7 =>
      some (.inl v7)
def fX10_nextRow (σ : sw_M) : Option (Int32 × sw_M) :=
  sw_let ((σ.1 49 43) - 2) fun v1 =>
  sw_wh sw_F (fun s => fX10_nextRow_L7 σ s) v1
set_option maxRecDepth 20000 in
theorem sX10_nextRow_L86 {l : Launch} {E : sw_E} {K : Nat} (hK : 1 ≤ K) (σ : sw_M) (a3 : Int32) (a4 : Int32) {res : Int32 × sw_M} {t : (Int32 × Int32 × sw_M) ⊕ (Int32 × sw_M)} (h : fX10_nextRow_L86 σ a3 a4 = some t) (hk : (Sum.elim (fun s : Int32 × Int32 × sw_M => sw_Go l E K RX10 cX10_nextRow 5 (some .boolean) 86 [(0, .ref 49), (3, .int s.1), (4, .int s.2.1)] [] s.2.2 (some (.int res.1)) res.2) (fun q => q = res)) t) : sw_Go l E K RX10 cX10_nextRow 5 (some .boolean) 86 [(0, .ref 49), (3, .int a3), (4, .int a4)] [] σ (some (.int res.1)) res.2 := by
  unfold fX10_nextRow_L86 at h
  refine sw_iload_n (k0 := 3) 1 rfl (by decide +kernel) rfl ?_
  refine sw_iload 2 rfl (by decide +kernel) ?_
  refine sw_icmp_ge (off := 19) 108 (by decide +kernel) (by decide) (fun c1 => ?_) (fun c1 => ?_)
  · rw [if_pos c1] at h
    refine sw_iconst (n := 1) (v := 1) (by decide +kernel) (by decide) ?_
    cases h
    obtain rfl : _ = res := hk
    exact sw_zret rfl (by decide +kernel)
  · rw [if_neg c1] at h
    refine sw_aload_n (k0 := 0) 0 rfl (by decide +kernel) rfl ?_
    refine sw_iload_n (k0 := 3) 1 rfl (by decide +kernel) rfl ?_
    refine sw_iload 2 rfl (by decide +kernel) ?_
    obtain ⟨m2, w3, h⟩ := sw_b1_e h
    refine sw_callVv (ci := 10) (i := 49) [.int a3, .int a4] (sX10_swap (K := K - 1) (by omega) σ a3 a4 w3) rfl (by omega) rfl gs_X10_485 hy_X10_swap (by decide) (by decide) rfl rfl (Nat.le_of_ble_eq_true rfl) (by decide +kernel) ?_
    obtain ⟨v4, e5, h⟩ := sw_let_e h
    refine sw_iincv (i := 3) (n := 1) (lv' := [(3, .int v4), (0, .ref 49), (4, .int a4)]) 1 rfl e5 (by decide +kernel) (by decide) (by decide) rfl ?_
    obtain ⟨v6, e7, h⟩ := sw_let_e h
    refine sw_iincv (i := 4) (n := (-1)) (lv' := [(4, .int v6), (3, .int v4), (0, .ref 49)]) 2 rfl e7 (by decide +kernel) (by decide) (by decide) rfl ?_
    refine sw_goto (off := (-19)) 86 (by decide +kernel) (by decide) ?_
    cases h
    refine sw_lv [2, 1, 0] rfl ?_
    exact hk
set_option maxRecDepth 20000 in
theorem sX10_nextRow_L47 {l : Launch} {E : sw_E} {K : Nat} (hK : 1 ≤ K) (σ : sw_M) (a1 : Int32) (a2 : Int32) {res : Int32 × sw_M} {t : (Int32) ⊕ (Int32 × sw_M)} (h : fX10_nextRow_L47 σ a1 a2 = some t) (hk : (Sum.elim (fun s : Int32 => sw_Go l E K RX10 cX10_nextRow 5 (some .boolean) 47 [(0, .ref 49), (1, .int a1), (2, .int s)] [] σ (some (.int res.1)) res.2) (fun q => q = res)) t) : sw_Go l E K RX10 cX10_nextRow 5 (some .boolean) 47 [(0, .ref 49), (1, .int a1), (2, .int a2)] [] σ (some (.int res.1)) res.2 := by
  unfold fX10_nextRow_L47 at h
  refine sw_aload_n (k0 := 0) 0 rfl (by decide +kernel) rfl ?_
  refine gf_X10_75 (i := 49) (by decide) rfl (by decide +kernel) ?_
  refine sw_refj 70 rfl ?_
  refine sw_iload_n (k0 := 2) 2 rfl (by decide +kernel) rfl ?_
  obtain ⟨g1, h⟩ := sw_gd_e h
  refine sw_iaload (a := 70) (by decide) rfl (sw_in_e g1) (by decide +kernel) ?_
  refine sw_aload_n (k0 := 0) 0 rfl (by decide +kernel) rfl ?_
  refine gf_X10_75 (i := 49) (by decide) rfl (by decide +kernel) ?_
  refine sw_refj 70 rfl ?_
  refine sw_iload_n (k0 := 1) 1 rfl (by decide +kernel) rfl ?_
  obtain ⟨g2, h⟩ := sw_gd_e h
  refine sw_iaload (a := 70) (by decide) rfl (sw_in_e g2) (by decide +kernel) ?_
  refine sw_icmp_ge (off := 9) 68 (by decide +kernel) (by decide) (fun c3 => ?_) (fun c3 => ?_)
  · rw [if_pos c3] at h
    refine sw_aload_n (k0 := 0) 0 rfl (by decide +kernel) rfl ?_
    refine sw_iload_n (k0 := 1) 1 rfl (by decide +kernel) rfl ?_
    refine sw_iload_n (k0 := 2) 2 rfl (by decide +kernel) rfl ?_
    obtain ⟨m4, w5, h⟩ := sw_b1_e h
    refine sw_callVv (ci := 10) (i := 49) [.int a1, .int a2] (sX10_swap (K := K - 1) (by omega) σ a1 a2 w5) rfl (by omega) rfl gs_X10_485 hy_X10_swap (by decide) (by decide) rfl rfl (Nat.le_of_ble_eq_true rfl) (by decide +kernel) ?_
    refine sw_iload_n (k0 := 1) 1 rfl (by decide +kernel) rfl ?_
    refine sw_iconst (n := 1) (v := 1) (by decide +kernel) (by decide) ?_
    refine sw_iadd (by decide +kernel) ?_
    obtain ⟨v6, e7, h⟩ := sw_let_e h
    refine sw_topi e7 ?_
    refine sw_istore_n (k0 := 3) (lv' := [(3, .int v6), (0, .ref 49), (1, .int a1), (2, .int a2)]) (by decide +kernel) rfl (by decide) rfl ?_
    refine sw_aload_n (k0 := 0) 1 rfl (by decide +kernel) rfl ?_
    refine gf_X10_387 (i := 49) (by decide) rfl (by decide +kernel) ?_
    refine sw_iconst (n := 1) (v := 1) (by decide +kernel) (by decide) ?_
    refine sw_isub (by decide +kernel) ?_
    obtain ⟨v8, e9, h⟩ := sw_let_e h
    refine sw_topi e9 ?_
    refine sw_istore (i := 4) (lv' := [(4, .int v8), (3, .int v6), (0, .ref 49), (1, .int a1), (2, .int a2)]) (by decide +kernel) (by decide) rfl ?_
    obtain ⟨q9, h9, rfl⟩ := sw_up_e h
    replace h := h9
    refine sw_lv [2, 1, 0] rfl ?_
    exact sw_wh_e (fun s : Int32 × Int32 × sw_M => sw_Go l E K RX10 cX10_nextRow 5 (some .boolean) 86 [(0, .ref 49), (3, .int s.1), (4, .int s.2.1)] [] s.2.2 (some (.int res.1)) res.2) (fun q => q = res) (fun s => fX10_nextRow_L86 s.2.2 s.1 s.2.1) (fun s t hb hk => sX10_nextRow_L86 hK s.2.2 s.1 s.2.1 hb hk) _ _ _ h hk
  · rw [if_neg c3] at h
    obtain ⟨v11, e12, h⟩ := sw_let_e h
    refine sw_iincv (i := 2) (n := (-1)) (lv' := [(2, .int v11), (0, .ref 49), (1, .int a1)]) 2 rfl e12 (by decide +kernel) (by decide) (by decide) rfl ?_
    refine sw_goto (off := (-18)) 47 (by decide +kernel) (by decide) ?_
    cases h
    refine sw_lv [1, 2, 0] rfl ?_
    exact hk
set_option maxRecDepth 20000 in
theorem sX10_nextRow_L34 {l : Launch} {E : sw_E} {K : Nat} (hK : 1 ≤ K) (σ : sw_M) (a1 : Int32) {res : Int32 × sw_M} {t : (Int32 × sw_M)} (h : fX10_nextRow_L34 σ a1 = some t) (hk : (fun q => q = res) t) : sw_Go l E K RX10 cX10_nextRow 5 (some .boolean) 34 [(0, .ref 49), (1, .int a1)] [] σ (some (.int res.1)) res.2 := by
  unfold fX10_nextRow_L34 at h
  refine sw_iload_n (k0 := 1) 1 rfl (by decide +kernel) rfl ?_
  refine sw_if_ge (off := 5) 40 (by decide +kernel) (by decide) (fun c1 => ?_) (fun c1 => ?_)
  · rw [if_pos c1] at h
    refine sw_aload_n (k0 := 0) 0 rfl (by decide +kernel) rfl ?_
    refine gf_X10_387 (i := 49) (by decide) rfl (by decide +kernel) ?_
    refine sw_iconst (n := 1) (v := 1) (by decide +kernel) (by decide) ?_
    refine sw_isub (by decide +kernel) ?_
    obtain ⟨v2, e3, h⟩ := sw_let_e h
    refine sw_topi e3 ?_
    refine sw_istore_n (k0 := 2) (lv' := [(2, .int v2), (0, .ref 49), (1, .int a1)]) (by decide +kernel) rfl (by decide) rfl ?_
    refine sw_lv [1, 2, 0] rfl ?_
    exact sw_wh_e (fun s : Int32 => sw_Go l E K RX10 cX10_nextRow 5 (some .boolean) 47 [(0, .ref 49), (1, .int a1), (2, .int s)] [] σ (some (.int res.1)) res.2) (fun q => q = res) (fun s => fX10_nextRow_L47 σ a1 s) (fun s t hb hk => sX10_nextRow_L47 hK σ a1 s hb hk) _ _ _ h hk
  · rw [if_neg c1] at h
    refine sw_iconst (n := 0) (v := 0) (by decide +kernel) (by decide) ?_
    cases h
    obtain rfl : _ = res := hk
    exact sw_zret rfl (by decide +kernel)
set_option maxRecDepth 20000 in
theorem sX10_nextRow_L7 {l : Launch} {E : sw_E} {K : Nat} (hK : 1 ≤ K) (σ : sw_M) (a1 : Int32) {res : Int32 × sw_M} {t : (Int32) ⊕ (Int32 × sw_M)} (h : fX10_nextRow_L7 σ a1 = some t) (hk : (Sum.elim (fun s : Int32 => sw_Go l E K RX10 cX10_nextRow 5 (some .boolean) 7 [(0, .ref 49), (1, .int s)] [] σ (some (.int res.1)) res.2) (fun q => q = res)) t) : sw_Go l E K RX10 cX10_nextRow 5 (some .boolean) 7 [(0, .ref 49), (1, .int a1)] [] σ (some (.int res.1)) res.2 := by
  unfold fX10_nextRow_L7 at h
  refine sw_iload_n (k0 := 1) 1 rfl (by decide +kernel) rfl ?_
  refine sw_if_lt (off := 26) 34 (by decide +kernel) (by decide) (fun c1 => ?_) (fun c1 => ?_)
  · rw [if_pos c1] at h
    obtain ⟨q1, h1, rfl⟩ := sw_up_e h
    replace h := h1
    exact sX10_nextRow_L34 hK σ a1 h hk
  · rw [if_neg c1] at h
    refine sw_aload_n (k0 := 0) 0 rfl (by decide +kernel) rfl ?_
    refine gf_X10_75 (i := 49) (by decide) rfl (by decide +kernel) ?_
    refine sw_refj 70 rfl ?_
    refine sw_iload_n (k0 := 1) 1 rfl (by decide +kernel) rfl ?_
    obtain ⟨g3, h⟩ := sw_gd_e h
    refine sw_iaload (a := 70) (by decide) rfl (sw_in_e g3) (by decide +kernel) ?_
    refine sw_aload_n (k0 := 0) 0 rfl (by decide +kernel) rfl ?_
    refine gf_X10_75 (i := 49) (by decide) rfl (by decide +kernel) ?_
    refine sw_refj 70 rfl ?_
    refine sw_iload_n (k0 := 1) 1 rfl (by decide +kernel) rfl ?_
    refine sw_iconst (n := 1) (v := 1) (by decide +kernel) (by decide) ?_
    refine sw_iadd (by decide +kernel) ?_
    obtain ⟨g4, h⟩ := sw_gd_e h
    refine sw_iaload (a := 70) (by decide) rfl (sw_in_e g4) (by decide +kernel) ?_
    refine sw_icmp_le (off := 9) 34 (by decide +kernel) (by decide) (fun c5 => ?_) (fun c5 => ?_)
    · rw [if_pos c5] at h
      obtain ⟨q5, h5, rfl⟩ := sw_up_e h
      replace h := h5
      exact sX10_nextRow_L34 hK σ a1 h hk
    · rw [if_neg c5] at h
      obtain ⟨v7, e8, h⟩ := sw_let_e h
      refine sw_iincv (i := 1) (n := (-1)) (lv' := [(1, .int v7), (0, .ref 49)]) 1 rfl e8 (by decide +kernel) (by decide) (by decide) rfl ?_
      refine sw_goto (off := (-24)) 7 (by decide +kernel) (by decide) ?_
      cases h
      refine sw_lv [1, 0] rfl ?_
      exact hk
set_option maxRecDepth 20000 in
theorem sX10_nextRow {l : Launch} {E : sw_E} {K : Nat} (hK : 1 ≤ K) (σ : sw_M) {res : Int32 × sw_M} (h : fX10_nextRow σ = some res) : sw_Ct l E K yX10_nextRow cX10_nextRow 5 (some .boolean) [.ref 49] σ (some (.int res.1)) res.2 := by
  obtain ⟨t, hk, h⟩ : ∃ t, t = res ∧ fX10_nextRow σ = some t := ⟨res, rfl, h⟩
  unfold fX10_nextRow at h
  refine sw_enter2 (own := RX10) (lv := [(0, .ref 49)]) (by decide +kernel) (Nat.le_of_ble_eq_true rfl) rfl rfl ?_
  refine sw_aload_n (k0 := 0) 0 rfl (by decide +kernel) rfl ?_
  refine gf_X10_387 (i := 49) (by decide) rfl (by decide +kernel) ?_
  refine sw_iconst (n := 2) (v := 2) (by decide +kernel) (by decide) ?_
  refine sw_isub (by decide +kernel) ?_
  obtain ⟨v1, e2, h⟩ := sw_let_e h
  refine sw_topi e2 ?_
  refine sw_istore_n (k0 := 1) (lv' := [(1, .int v1), (0, .ref 49)]) (by decide +kernel) rfl (by decide) rfl ?_
  refine sw_lv [1, 0] rfl ?_
  exact sw_wh_e (fun s : Int32 => sw_Go l E K RX10 cX10_nextRow 5 (some .boolean) 7 [(0, .ref 49), (1, .int s)] [] σ (some (.int res.1)) res.2) (fun q => q = res) (fun s => fX10_nextRow_L7 σ s) (fun s t hb hk => sX10_nextRow_L7 hK σ s hb hk) _ _ _ h hk
def fX10_order_L144 (σ : sw_M) (a1 : Int32) (a2 : Int32) : Option ((Int32 × Int32 × sw_M) ⊕ (Int32 × sw_M)) :=
  sw_b2 (fX10_nextRow σ) fun r1 m2 =>
  some (.inl (a2, r1, m2))
def fX10_order_L115 (σ : sw_M) (a1 : Int32) (a2 : Int32) (a4 : Int32) : Option ((Int32 × sw_M) ⊕ ((Int32 × Int32 × sw_M) ⊕ (Int32 × sw_M))) :=
  if (σ.1 49 43) ≤ a4 then
    sw_up (fX10_order_L144 σ a1 a2)
  else
    sw_gd (sw_in a4 6) <|
    sw_gd (sw_in a4 6) <|
    sw_let (sw_w σ 69 a4.toNatClampNeg (σ.1 70 a4.toNatClampNeg)) fun m5 =>
    sw_let (a4 + 1) fun v7 =>
    some (.inl (v7, m5))
def fX10_order_L53 (σ : sw_M) (a1 : Int32) (a2 : Int32) (a4 : Int32) : Option ((Int32 × sw_M) ⊕ ((Int32 × Int32 × sw_M) ⊕ (Int32 × sw_M))) :=
  if (σ.1 49 43) ≤ a4 then
    sw_gd (sw_in a1 10) <|
    if (σ.1 66 a1.toNatClampNeg) ≤ a2 then
      sw_up (fX10_order_L144 σ a1 a2)
    else
      sw_gd (sw_in a1 10) <|
      sw_let (σ.1 66 a1.toNatClampNeg) fun v6 =>
      sw_up (sw_wh sw_F (fun s => fX10_order_L115 s.2 a1 v6 s.1) (0, σ))
  else
    sw_gd (sw_in a4 6) <|
    sw_gd (sw_in a4 6) <|
    sw_gd (sw_in ((4 * (σ.1 70 a4.toNatClampNeg)) + 3) 24) <|
    sw_b1 (fX10_boilBy σ (σ.1 70 a4.toNatClampNeg) (σ.1 64 ((4 * (σ.1 70 a4.toNatClampNeg)) + 3).toNatClampNeg)) fun m12 =>
    sw_let (a4 + 1) fun v14 =>
    some (.inl (v14, m12))
def fX10_order_L42 (σ : sw_M) (a1 : Int32) (a2 : Int32) (a3 : Int32) : Option ((Int32 × Int32 × sw_M) ⊕ (Int32 × sw_M)) :=
  if a3 = 0 then
    sw_let (sw_w σ 49 57 (σ.1 49 43)) fun m2 =>
    some (.inr ((a2, m2)))
  else
    sw_b1 (fX10_fill σ) fun m4 =>
    sw_wh sw_F (fun s => fX10_order_L53 s.2 a1 a2 s.1) (0, m4)
def fX10_order_L17 (σ : sw_M) (a1 : Int32) (a2 : Int32) : Option ((Int32 × sw_M) ⊕ (Int32 × sw_M)) :=
  if (σ.1 49 43) ≤ a2 then
    sw_up (sw_wh sw_F (fun s => fX10_order_L42 s.2.2 a1 s.1 s.2.1) ((-1), 1, σ))
  else
    sw_gd (sw_in a2 6) <|
    sw_let (sw_w σ 70 a2.toNatClampNeg a2) fun m4 =>
    sw_let (a2 + 1) fun v6 =>
    some (.inl (v6, m4))
def fX10_order (σ : sw_M) (a1 : Int32) : Option (Int32 × sw_M) :=
  sw_let (sw_w σ 49 57 0) fun m1 =>
  if (fX10_isKind m1 a1) = 0 then
    some (((-1), m1))
  else
    sw_wh sw_F (fun s => fX10_order_L17 s.2 a1 s.1) (0, m1)
set_option maxRecDepth 20000 in
theorem sX10_order_L144 {l : Launch} {E : sw_E} {K : Nat} (hK : 3 ≤ K) (σ : sw_M) (a1 : Int32) (a2 : Int32) {res : Int32 × sw_M} {t : (Int32 × Int32 × sw_M) ⊕ (Int32 × sw_M)} (h : fX10_order_L144 σ a1 a2 = some t) (hk : (Sum.elim (fun s : Int32 × Int32 × sw_M => sw_Go l E K RX10 cX10_order 5 (some .int) 42 [(0, .ref 49), (1, .int a1), (2, .int s.1), (3, .int s.2.1)] [] s.2.2 (some (.int res.1)) res.2) (fun q => q = res)) t) : sw_Go l E K RX10 cX10_order 5 (some .int) 144 [(0, .ref 49), (1, .int a1), (2, .int a2)] [] σ (some (.int res.1)) res.2 := by
  unfold fX10_order_L144 at h
  refine sw_aload_n (k0 := 0) 0 rfl (by decide +kernel) rfl ?_
  obtain ⟨r1, m2, w3, h⟩ := sw_b2_e h
  refine sw_callVi (ci := 10) (i := 49) [] (sX10_nextRow (K := K - 1) (by omega) σ w3) rfl (by omega) rfl gs_X10_488 hy_X10_nextRow (by decide) (by decide) rfl rfl (Nat.le_of_ble_eq_true rfl) (by decide +kernel) ?_
  refine sw_istore_n (k0 := 3) (lv' := [(3, .int r1), (0, .ref 49), (1, .int a1), (2, .int a2)]) (by decide +kernel) rfl (by decide) rfl ?_
  refine sw_goto (off := (-107)) 42 (by decide +kernel) (by decide) ?_
  cases h
  refine sw_lv [1, 2, 3, 0] rfl ?_
  exact hk
set_option maxRecDepth 20000 in
theorem sX10_order_L115 {l : Launch} {E : sw_E} {K : Nat} (hK : 3 ≤ K) (σ : sw_M) (a1 : Int32) (a2 : Int32) (a4 : Int32) {res : Int32 × sw_M} {t : (Int32 × sw_M) ⊕ ((Int32 × Int32 × sw_M) ⊕ (Int32 × sw_M))} (h : fX10_order_L115 σ a1 a2 a4 = some t) (hk : (Sum.elim (fun s : Int32 × sw_M => sw_Go l E K RX10 cX10_order 5 (some .int) 115 [(0, .ref 49), (1, .int a1), (2, .int a2), (4, .int s.1)] [] s.2 (some (.int res.1)) res.2) (Sum.elim (fun s : Int32 × Int32 × sw_M => sw_Go l E K RX10 cX10_order 5 (some .int) 42 [(0, .ref 49), (1, .int a1), (2, .int s.1), (3, .int s.2.1)] [] s.2.2 (some (.int res.1)) res.2) (fun q => q = res))) t) : sw_Go l E K RX10 cX10_order 5 (some .int) 115 [(0, .ref 49), (1, .int a1), (2, .int a2), (4, .int a4)] [] σ (some (.int res.1)) res.2 := by
  unfold fX10_order_L115 at h
  refine sw_iload 3 rfl (by decide +kernel) ?_
  refine sw_aload_n (k0 := 0) 0 rfl (by decide +kernel) rfl ?_
  refine gf_X10_387 (i := 49) (by decide) rfl (by decide +kernel) ?_
  refine sw_icmp_ge (off := 23) 144 (by decide +kernel) (by decide) (fun c1 => ?_) (fun c1 => ?_)
  · rw [if_pos c1] at h
    obtain ⟨q1, h1, rfl⟩ := sw_up_e h
    replace h := h1
    refine sw_lv [0, 1, 2] rfl ?_
    exact sX10_order_L144 hK σ a1 a2 h hk
  · rw [if_neg c1] at h
    refine sw_aload_n (k0 := 0) 0 rfl (by decide +kernel) rfl ?_
    refine gf_X10_72 (i := 49) (by decide) rfl (by decide +kernel) ?_
    refine sw_refj 69 rfl ?_
    refine sw_iload 3 rfl (by decide +kernel) ?_
    refine sw_aload_n (k0 := 0) 0 rfl (by decide +kernel) rfl ?_
    refine gf_X10_75 (i := 49) (by decide) rfl (by decide +kernel) ?_
    refine sw_refj 70 rfl ?_
    refine sw_iload 3 rfl (by decide +kernel) ?_
    obtain ⟨g3, h⟩ := sw_gd_e h
    refine sw_iaload (a := 70) (by decide) rfl (sw_in_e g3) (by decide +kernel) ?_
    obtain ⟨g4, h⟩ := sw_gd_e h
    obtain ⟨m5, e6, h⟩ := sw_let_e h
    refine sw_iastore (a := 69) (by decide) rfl (sw_in_e g4) (by decide +kernel) ?_
    refine sw_mem e6 ?_
    obtain ⟨v7, e8, h⟩ := sw_let_e h
    refine sw_iincv (i := 4) (n := 1) (lv' := [(4, .int v7), (0, .ref 49), (1, .int a1), (2, .int a2)]) 3 rfl e8 (by decide +kernel) (by decide) (by decide) rfl ?_
    refine sw_goto (off := (-26)) 115 (by decide +kernel) (by decide) ?_
    cases h
    refine sw_lv [1, 2, 3, 0] rfl ?_
    exact hk
set_option maxRecDepth 20000 in
theorem sX10_order_L53 {l : Launch} {E : sw_E} {K : Nat} (hK : 3 ≤ K) (σ : sw_M) (a1 : Int32) (a2 : Int32) (a4 : Int32) {res : Int32 × sw_M} {t : (Int32 × sw_M) ⊕ ((Int32 × Int32 × sw_M) ⊕ (Int32 × sw_M))} (h : fX10_order_L53 σ a1 a2 a4 = some t) (hk : (Sum.elim (fun s : Int32 × sw_M => sw_Go l E K RX10 cX10_order 5 (some .int) 53 [(0, .ref 49), (1, .int a1), (2, .int a2), (4, .int s.1)] [] s.2 (some (.int res.1)) res.2) (Sum.elim (fun s : Int32 × Int32 × sw_M => sw_Go l E K RX10 cX10_order 5 (some .int) 42 [(0, .ref 49), (1, .int a1), (2, .int s.1), (3, .int s.2.1)] [] s.2.2 (some (.int res.1)) res.2) (fun q => q = res))) t) : sw_Go l E K RX10 cX10_order 5 (some .int) 53 [(0, .ref 49), (1, .int a1), (2, .int a2), (4, .int a4)] [] σ (some (.int res.1)) res.2 := by
  unfold fX10_order_L53 at h
  refine sw_iload 3 rfl (by decide +kernel) ?_
  refine sw_aload_n (k0 := 0) 0 rfl (by decide +kernel) rfl ?_
  refine gf_X10_387 (i := 49) (by decide) rfl (by decide +kernel) ?_
  refine sw_icmp_ge (off := 36) 95 (by decide +kernel) (by decide) (fun c1 => ?_) (fun c1 => ?_)
  · rw [if_pos c1] at h
    refine sw_aload_n (k0 := 0) 0 rfl (by decide +kernel) rfl ?_
    refine gf_X10_63 (i := 49) (by decide) rfl (by decide +kernel) ?_
    refine sw_refj 66 rfl ?_
    refine sw_iload_n (k0 := 1) 1 rfl (by decide +kernel) rfl ?_
    obtain ⟨g2, h⟩ := sw_gd_e h
    refine sw_iaload (a := 66) (by decide) rfl (sw_in_e g2) (by decide +kernel) ?_
    refine sw_iload_n (k0 := 2) 2 rfl (by decide +kernel) rfl ?_
    refine sw_icmp_le (off := 42) 144 (by decide +kernel) (by decide) (fun c3 => ?_) (fun c3 => ?_)
    · rw [if_pos c3] at h
      obtain ⟨q3, h3, rfl⟩ := sw_up_e h
      replace h := h3
      refine sw_lv [0, 1, 2] rfl ?_
      exact sX10_order_L144 hK σ a1 a2 h hk
    · rw [if_neg c3] at h
      refine sw_aload_n (k0 := 0) 0 rfl (by decide +kernel) rfl ?_
      refine gf_X10_63 (i := 49) (by decide) rfl (by decide +kernel) ?_
      refine sw_refj 66 rfl ?_
      refine sw_iload_n (k0 := 1) 1 rfl (by decide +kernel) rfl ?_
      obtain ⟨g5, h⟩ := sw_gd_e h
      refine sw_iaload (a := 66) (by decide) rfl (sw_in_e g5) (by decide +kernel) ?_
      obtain ⟨v6, e7, h⟩ := sw_let_e h
      refine sw_topi e7 ?_
      refine sw_istore_n (k0 := 2) (lv' := [(2, .int v6), (0, .ref 49), (1, .int a1), (4, .int a4)]) (by decide +kernel) rfl (by decide) rfl ?_
      refine sw_iconst (n := 0) (v := 0) (by decide +kernel) (by decide) ?_
      refine sw_istore (i := 4) (lv' := [(4, .int 0), (2, .int v6), (0, .ref 49), (1, .int a1)]) (by decide +kernel) (by decide) rfl ?_
      obtain ⟨q7, h7, rfl⟩ := sw_up_e h
      replace h := h7
      refine sw_lv [2, 3, 1, 0] rfl ?_
      exact sw_wh_e (fun s : Int32 × sw_M => sw_Go l E K RX10 cX10_order 5 (some .int) 115 [(0, .ref 49), (1, .int a1), (2, .int v6), (4, .int s.1)] [] s.2 (some (.int res.1)) res.2) (Sum.elim (fun s : Int32 × Int32 × sw_M => sw_Go l E K RX10 cX10_order 5 (some .int) 42 [(0, .ref 49), (1, .int a1), (2, .int s.1), (3, .int s.2.1)] [] s.2.2 (some (.int res.1)) res.2) (fun q => q = res)) (fun s => fX10_order_L115 s.2 a1 v6 s.1) (fun s t hb hk => sX10_order_L115 hK s.2 a1 v6 s.1 hb hk) _ _ _ h hk
  · rw [if_neg c1] at h
    refine sw_aload_n (k0 := 0) 0 rfl (by decide +kernel) rfl ?_
    refine sw_aload_n (k0 := 0) 0 rfl (by decide +kernel) rfl ?_
    refine gf_X10_75 (i := 49) (by decide) rfl (by decide +kernel) ?_
    refine sw_refj 70 rfl ?_
    refine sw_iload 3 rfl (by decide +kernel) ?_
    obtain ⟨g9, h⟩ := sw_gd_e h
    refine sw_iaload (a := 70) (by decide) rfl (sw_in_e g9) (by decide +kernel) ?_
    refine sw_aload_n (k0 := 0) 0 rfl (by decide +kernel) rfl ?_
    refine gf_X10_57 (i := 49) (by decide) rfl (by decide +kernel) ?_
    refine sw_refj 64 rfl ?_
    refine sw_iconst (n := 4) (v := 4) (by decide +kernel) (by decide) ?_
    refine sw_aload_n (k0 := 0) 0 rfl (by decide +kernel) rfl ?_
    refine gf_X10_75 (i := 49) (by decide) rfl (by decide +kernel) ?_
    refine sw_refj 70 rfl ?_
    refine sw_iload 3 rfl (by decide +kernel) ?_
    obtain ⟨g10, h⟩ := sw_gd_e h
    refine sw_iaload (a := 70) (by decide) rfl (sw_in_e g10) (by decide +kernel) ?_
    refine sw_imul (by decide +kernel) ?_
    refine sw_iconst (n := 3) (v := 3) (by decide +kernel) (by decide) ?_
    refine sw_iadd (by decide +kernel) ?_
    obtain ⟨g11, h⟩ := sw_gd_e h
    refine sw_iaload (a := 64) (by decide) rfl (sw_in_e g11) (by decide +kernel) ?_
    obtain ⟨m12, w13, h⟩ := sw_b1_e h
    refine sw_callVv (ci := 10) (i := 49) [.int (σ.1 70 a4.toNatClampNeg), .int (σ.1 64 ((4 * (σ.1 70 a4.toNatClampNeg)) + 3).toNatClampNeg)] (sX10_boilBy (K := K - 1) (by omega) σ (σ.1 70 a4.toNatClampNeg) (σ.1 64 ((4 * (σ.1 70 a4.toNatClampNeg)) + 3).toNatClampNeg) w13) rfl (by omega) rfl gs_X10_421 hy_X10_boilBy (by decide) (by decide) rfl rfl (Nat.le_of_ble_eq_true rfl) (by decide +kernel) ?_
    obtain ⟨v14, e15, h⟩ := sw_let_e h
    refine sw_iincv (i := 4) (n := 1) (lv' := [(4, .int v14), (0, .ref 49), (1, .int a1), (2, .int a2)]) 3 rfl e15 (by decide +kernel) (by decide) (by decide) rfl ?_
    refine sw_goto (off := (-39)) 53 (by decide +kernel) (by decide) ?_
    cases h
    refine sw_lv [1, 2, 3, 0] rfl ?_
    exact hk
set_option maxRecDepth 20000 in
theorem sX10_order_L42 {l : Launch} {E : sw_E} {K : Nat} (hK : 3 ≤ K) (σ : sw_M) (a1 : Int32) (a2 : Int32) (a3 : Int32) {res : Int32 × sw_M} {t : (Int32 × Int32 × sw_M) ⊕ (Int32 × sw_M)} (h : fX10_order_L42 σ a1 a2 a3 = some t) (hk : (Sum.elim (fun s : Int32 × Int32 × sw_M => sw_Go l E K RX10 cX10_order 5 (some .int) 42 [(0, .ref 49), (1, .int a1), (2, .int s.1), (3, .int s.2.1)] [] s.2.2 (some (.int res.1)) res.2) (fun q => q = res)) t) : sw_Go l E K RX10 cX10_order 5 (some .int) 42 [(0, .ref 49), (1, .int a1), (2, .int a2), (3, .int a3)] [] σ (some (.int res.1)) res.2 := by
  unfold fX10_order_L42 at h
  refine sw_iload_n (k0 := 3) 3 rfl (by decide +kernel) rfl ?_
  refine sw_if_eq (off := 109) 152 (by decide +kernel) (by decide) (fun c1 => ?_) (fun c1 => ?_)
  · rw [if_pos c1] at h
    refine sw_aload_n (k0 := 0) 0 rfl (by decide +kernel) rfl ?_
    refine sw_aload_n (k0 := 0) 0 rfl (by decide +kernel) rfl ?_
    refine gf_X10_387 (i := 49) (by decide) rfl (by decide +kernel) ?_
    obtain ⟨m2, e3, h⟩ := sw_let_e h
    refine pf_X10_408 (by decide) rfl (by decide +kernel) ?_
    refine sw_mem e3 ?_
    refine sw_iload_n (k0 := 2) 2 rfl (by decide +kernel) rfl ?_
    cases h
    obtain rfl : _ = res := hk
    exact sw_iret (by decide +kernel)
  · rw [if_neg c1] at h
    refine sw_aload_n (k0 := 0) 0 rfl (by decide +kernel) rfl ?_
    obtain ⟨m4, w5, h⟩ := sw_b1_e h
    refine sw_callVv (ci := 10) (i := 49) [] (sX10_fill (K := K - 1) (by omega) σ w5) rfl (by omega) rfl gs_X10_445 hy_X10_fill (by decide) (by decide) rfl rfl (Nat.le_of_ble_eq_true rfl) (by decide +kernel) ?_
    refine sw_iconst (n := 0) (v := 0) (by decide +kernel) (by decide) ?_
    refine sw_istore (i := 4) (lv' := [(4, .int 0), (0, .ref 49), (1, .int a1), (2, .int a2), (3, .int a3)]) (by decide +kernel) (by decide) rfl ?_
    refine sw_lv [1, 2, 3, 0] rfl ?_
    exact sw_wh_e (fun s : Int32 × sw_M => sw_Go l E K RX10 cX10_order 5 (some .int) 53 [(0, .ref 49), (1, .int a1), (2, .int a2), (4, .int s.1)] [] s.2 (some (.int res.1)) res.2) (Sum.elim (fun s : Int32 × Int32 × sw_M => sw_Go l E K RX10 cX10_order 5 (some .int) 42 [(0, .ref 49), (1, .int a1), (2, .int s.1), (3, .int s.2.1)] [] s.2.2 (some (.int res.1)) res.2) (fun q => q = res)) (fun s => fX10_order_L53 s.2 a1 a2 s.1) (fun s t hb hk => sX10_order_L53 hK s.2 a1 a2 s.1 hb hk) _ _ _ h hk
set_option maxRecDepth 20000 in
theorem sX10_order_L17 {l : Launch} {E : sw_E} {K : Nat} (hK : 3 ≤ K) (σ : sw_M) (a1 : Int32) (a2 : Int32) {res : Int32 × sw_M} {t : (Int32 × sw_M) ⊕ (Int32 × sw_M)} (h : fX10_order_L17 σ a1 a2 = some t) (hk : (Sum.elim (fun s : Int32 × sw_M => sw_Go l E K RX10 cX10_order 5 (some .int) 17 [(0, .ref 49), (1, .int a1), (2, .int s.1)] [] s.2 (some (.int res.1)) res.2) (fun q => q = res)) t) : sw_Go l E K RX10 cX10_order 5 (some .int) 17 [(0, .ref 49), (1, .int a1), (2, .int a2)] [] σ (some (.int res.1)) res.2 := by
  unfold fX10_order_L17 at h
  refine sw_iload_n (k0 := 2) 2 rfl (by decide +kernel) rfl ?_
  refine sw_aload_n (k0 := 0) 0 rfl (by decide +kernel) rfl ?_
  refine gf_X10_387 (i := 49) (by decide) rfl (by decide +kernel) ?_
  refine sw_icmp_ge (off := 16) 38 (by decide +kernel) (by decide) (fun c1 => ?_) (fun c1 => ?_)
  · rw [if_pos c1] at h
    refine sw_iconst (n := (-1)) (v := (-1)) (by decide +kernel) (by decide) ?_
    refine sw_istore_n (k0 := 2) (lv' := [(2, .int (-1)), (0, .ref 49), (1, .int a1)]) (by decide +kernel) rfl (by decide) rfl ?_
    refine sw_iconst (n := 1) (v := 1) (by decide +kernel) (by decide) ?_
    refine sw_istore_n (k0 := 3) (lv' := [(3, .int 1), (2, .int (-1)), (0, .ref 49), (1, .int a1)]) (by decide +kernel) rfl (by decide) rfl ?_
    obtain ⟨q1, h1, rfl⟩ := sw_up_e h
    replace h := h1
    refine sw_lv [2, 3, 1, 0] rfl ?_
    exact sw_wh_e (fun s : Int32 × Int32 × sw_M => sw_Go l E K RX10 cX10_order 5 (some .int) 42 [(0, .ref 49), (1, .int a1), (2, .int s.1), (3, .int s.2.1)] [] s.2.2 (some (.int res.1)) res.2) (fun q => q = res) (fun s => fX10_order_L42 s.2.2 a1 s.1 s.2.1) (fun s t hb hk => sX10_order_L42 hK s.2.2 a1 s.1 s.2.1 hb hk) _ _ _ h hk
  · rw [if_neg c1] at h
    refine sw_aload_n (k0 := 0) 0 rfl (by decide +kernel) rfl ?_
    refine gf_X10_75 (i := 49) (by decide) rfl (by decide +kernel) ?_
    refine sw_refj 70 rfl ?_
    refine sw_iload_n (k0 := 2) 2 rfl (by decide +kernel) rfl ?_
    refine sw_iload_n (k0 := 2) 2 rfl (by decide +kernel) rfl ?_
    obtain ⟨g3, h⟩ := sw_gd_e h
    obtain ⟨m4, e5, h⟩ := sw_let_e h
    refine sw_iastore (a := 70) (by decide) rfl (sw_in_e g3) (by decide +kernel) ?_
    refine sw_mem e5 ?_
    obtain ⟨v6, e7, h⟩ := sw_let_e h
    refine sw_iincv (i := 2) (n := 1) (lv' := [(2, .int v6), (0, .ref 49), (1, .int a1)]) 2 rfl e7 (by decide +kernel) (by decide) (by decide) rfl ?_
    refine sw_goto (off := (-18)) 17 (by decide +kernel) (by decide) ?_
    cases h
    refine sw_lv [1, 2, 0] rfl ?_
    exact hk
set_option maxRecDepth 20000 in
theorem sX10_order {l : Launch} {E : sw_E} {K : Nat} (hK : 3 ≤ K) (σ : sw_M) (a1 : Int32) {res : Int32 × sw_M} (h : fX10_order σ a1 = some res) : sw_Ct l E K yX10_order cX10_order 5 (some .int) [.ref 49, .int a1] σ (some (.int res.1)) res.2 := by
  obtain ⟨t, hk, h⟩ : ∃ t, t = res ∧ fX10_order σ a1 = some t := ⟨res, rfl, h⟩
  unfold fX10_order at h
  refine sw_enter2 (own := RX10) (lv := [(0, .ref 49), (1, .int a1)]) (by decide +kernel) (Nat.le_of_ble_eq_true rfl) rfl rfl ?_
  refine sw_aload_n (k0 := 0) 0 rfl (by decide +kernel) rfl ?_
  refine sw_iconst (n := 0) (v := 0) (by decide +kernel) (by decide) ?_
  obtain ⟨m1, e2, h⟩ := sw_let_e h
  refine pf_X10_408 (by decide) rfl (by decide +kernel) ?_
  refine sw_mem e2 ?_
  refine sw_aload_n (k0 := 0) 0 rfl (by decide +kernel) rfl ?_
  refine sw_iload_n (k0 := 1) 1 rfl (by decide +kernel) rfl ?_
  refine sw_callVi (ci := 10) (i := 49) [.int a1] (sX10_isKind (K := K - 1) (by omega) m1 a1 rfl) rfl (by omega) rfl gs_X10_433 hy_X10_isKind (by decide) (by decide) rfl rfl (Nat.le_of_ble_eq_true rfl) (by decide +kernel) ?_
  refine sw_if_ne (off := 5) 15 (by decide +kernel) (by decide) (fun c3 => ?_) (fun c3 => ?_)
  · rw [if_neg c3] at h
    refine sw_iconst (n := 0) (v := 0) (by decide +kernel) (by decide) ?_
    refine sw_istore_n (k0 := 2) (lv' := [(2, .int 0), (0, .ref 49), (1, .int a1)]) (by decide +kernel) rfl (by decide) rfl ?_
    refine sw_lv [1, 2, 0] rfl ?_
    exact sw_wh_e (fun s : Int32 × sw_M => sw_Go l E K RX10 cX10_order 5 (some .int) 17 [(0, .ref 49), (1, .int a1), (2, .int s.1)] [] s.2 (some (.int res.1)) res.2) (fun q => q = res) (fun s => fX10_order_L17 s.2 a1 s.1) (fun s t hb hk => sX10_order_L17 hK s.2 a1 s.1 hb hk) _ _ _ h hk
  · rw [if_pos c3] at h
    refine sw_iconst (n := (-1)) (v := (-1)) (by decide +kernel) (by decide) ?_
    cases h
    obtain rfl : _ = res := hk
    exact sw_iret (by decide +kernel)
def fX10_comesOf_L61 (σ : sw_M) (a1 : Int32) (a2 : Int32) (a3 : Int32) : Option ((Int32 × Int32) ⊕ (Int32)) :=
  sw_let (a3 + 1) fun v1 =>
  some (.inl (a2, v1))
def fX10_comesOf_L46 (σ : sw_M) (a1 : Int32) (a2 : Int32) (a3 : Int32) : Option ((Int32 × Int32) ⊕ (Int32)) :=
  sw_gd (sw_in ((4 * a3) + 2) 24) <|
  sw_let (a2 ||| (1 <<< ((σ.1 64 ((4 * a3) + 2).toNatClampNeg) &&& 31))) fun v2 =>
  fX10_comesOf_L61 σ a1 v2 a3
def fX10_comesOf_L4 (σ : sw_M) (a1 : Int32) (a2 : Int32) (a3 : Int32) : Option ((Int32 × Int32) ⊕ (Int32)) :=
  if (σ.1 49 43) ≤ a3 then
    some (.inr (a2))
  else
    sw_gd (sw_in (4 * a3) 24) <|
    if ((a1 >>> ((σ.1 64 (4 * a3).toNatClampNeg) &&& 31)) &&& 1) = 1 then
      fX10_comesOf_L46 σ a1 a2 a3
    else
      sw_gd (sw_in ((4 * a3) + 1) 24) <|
      if ((a1 >>> ((σ.1 64 ((4 * a3) + 1).toNatClampNeg) &&& 31)) &&& 1) = 1 then
        fX10_comesOf_L46 σ a1 a2 a3
      else
        fX10_comesOf_L61 σ a1 a2 a3
def fX10_comesOf (σ : sw_M) (a1 : Int32) : Option (Int32) :=
  sw_wh sw_F (fun s => fX10_comesOf_L4 σ a1 s.1 s.2) (0, 0)
set_option maxRecDepth 20000 in
theorem sX10_comesOf_L61 {l : Launch} {E : sw_E} {K : Nat} (hK : 0 ≤ K) (σ : sw_M) (a1 : Int32) (a2 : Int32) (a3 : Int32) {res : Int32} {t : (Int32 × Int32) ⊕ (Int32)} (h : fX10_comesOf_L61 σ a1 a2 a3 = some t) (hk : (Sum.elim (fun s : Int32 × Int32 => sw_Go l E K RX10 cX10_comesOf 4 (some .int) 4 [(0, .ref 49), (1, .int a1), (2, .int s.1), (3, .int s.2)] [] σ (some (.int res)) σ) (fun q => q = res)) t) : sw_Go l E K RX10 cX10_comesOf 4 (some .int) 61 [(0, .ref 49), (1, .int a1), (2, .int a2), (3, .int a3)] [] σ (some (.int res)) σ := by
  unfold fX10_comesOf_L61 at h
  obtain ⟨v1, e2, h⟩ := sw_let_e h
  refine sw_iincv (i := 3) (n := 1) (lv' := [(3, .int v1), (0, .ref 49), (1, .int a1), (2, .int a2)]) 3 rfl e2 (by decide +kernel) (by decide) (by decide) rfl ?_
  refine sw_goto (off := (-60)) 4 (by decide +kernel) (by decide) ?_
  cases h
  refine sw_lv [1, 2, 3, 0] rfl ?_
  exact hk
set_option maxRecDepth 20000 in
theorem sX10_comesOf_L46 {l : Launch} {E : sw_E} {K : Nat} (hK : 0 ≤ K) (σ : sw_M) (a1 : Int32) (a2 : Int32) (a3 : Int32) {res : Int32} {t : (Int32 × Int32) ⊕ (Int32)} (h : fX10_comesOf_L46 σ a1 a2 a3 = some t) (hk : (Sum.elim (fun s : Int32 × Int32 => sw_Go l E K RX10 cX10_comesOf 4 (some .int) 4 [(0, .ref 49), (1, .int a1), (2, .int s.1), (3, .int s.2)] [] σ (some (.int res)) σ) (fun q => q = res)) t) : sw_Go l E K RX10 cX10_comesOf 4 (some .int) 46 [(0, .ref 49), (1, .int a1), (2, .int a2), (3, .int a3)] [] σ (some (.int res)) σ := by
  unfold fX10_comesOf_L46 at h
  refine sw_iload_n (k0 := 2) 2 rfl (by decide +kernel) rfl ?_
  refine sw_iconst (n := 1) (v := 1) (by decide +kernel) (by decide) ?_
  refine sw_aload_n (k0 := 0) 0 rfl (by decide +kernel) rfl ?_
  refine gf_X10_57 (i := 49) (by decide) rfl (by decide +kernel) ?_
  refine sw_refj 64 rfl ?_
  refine sw_iconst (n := 4) (v := 4) (by decide +kernel) (by decide) ?_
  refine sw_iload_n (k0 := 3) 3 rfl (by decide +kernel) rfl ?_
  refine sw_imul (by decide +kernel) ?_
  refine sw_iconst (n := 2) (v := 2) (by decide +kernel) (by decide) ?_
  refine sw_iadd (by decide +kernel) ?_
  obtain ⟨g1, h⟩ := sw_gd_e h
  refine sw_iaload (a := 64) (by decide) rfl (sw_in_e g1) (by decide +kernel) ?_
  refine sw_ishl (by decide +kernel) ?_
  refine sw_ior (by decide +kernel) ?_
  obtain ⟨v2, e3, h⟩ := sw_let_e h
  refine sw_topi e3 ?_
  refine sw_istore_n (k0 := 2) (lv' := [(2, .int v2), (0, .ref 49), (1, .int a1), (3, .int a3)]) (by decide +kernel) rfl (by decide) rfl ?_
  refine sw_lv [1, 2, 0, 3] rfl ?_
  exact sX10_comesOf_L61 hK σ a1 v2 a3 h hk
set_option maxRecDepth 20000 in
theorem sX10_comesOf_L4 {l : Launch} {E : sw_E} {K : Nat} (hK : 0 ≤ K) (σ : sw_M) (a1 : Int32) (a2 : Int32) (a3 : Int32) {res : Int32} {t : (Int32 × Int32) ⊕ (Int32)} (h : fX10_comesOf_L4 σ a1 a2 a3 = some t) (hk : (Sum.elim (fun s : Int32 × Int32 => sw_Go l E K RX10 cX10_comesOf 4 (some .int) 4 [(0, .ref 49), (1, .int a1), (2, .int s.1), (3, .int s.2)] [] σ (some (.int res)) σ) (fun q => q = res)) t) : sw_Go l E K RX10 cX10_comesOf 4 (some .int) 4 [(0, .ref 49), (1, .int a1), (2, .int a2), (3, .int a3)] [] σ (some (.int res)) σ := by
  unfold fX10_comesOf_L4 at h
  refine sw_iload_n (k0 := 3) 3 rfl (by decide +kernel) rfl ?_
  refine sw_aload_n (k0 := 0) 0 rfl (by decide +kernel) rfl ?_
  refine gf_X10_387 (i := 49) (by decide) rfl (by decide +kernel) ?_
  refine sw_icmp_ge (off := 58) 67 (by decide +kernel) (by decide) (fun c1 => ?_) (fun c1 => ?_)
  · rw [if_pos c1] at h
    refine sw_iload_n (k0 := 2) 2 rfl (by decide +kernel) rfl ?_
    cases h
    obtain rfl : _ = res := hk
    exact sw_iret (by decide +kernel)
  · rw [if_neg c1] at h
    refine sw_iload_n (k0 := 1) 1 rfl (by decide +kernel) rfl ?_
    refine sw_aload_n (k0 := 0) 0 rfl (by decide +kernel) rfl ?_
    refine gf_X10_57 (i := 49) (by decide) rfl (by decide +kernel) ?_
    refine sw_refj 64 rfl ?_
    refine sw_iconst (n := 4) (v := 4) (by decide +kernel) (by decide) ?_
    refine sw_iload_n (k0 := 3) 3 rfl (by decide +kernel) rfl ?_
    refine sw_imul (by decide +kernel) ?_
    obtain ⟨g2, h⟩ := sw_gd_e h
    refine sw_iaload (a := 64) (by decide) rfl (sw_in_e g2) (by decide +kernel) ?_
    refine sw_ishr (by decide +kernel) ?_
    refine sw_iconst (n := 1) (v := 1) (by decide +kernel) (by decide) ?_
    refine sw_iand (by decide +kernel) ?_
    refine sw_iconst (n := 1) (v := 1) (by decide +kernel) (by decide) ?_
    refine sw_icmp_eq (off := 21) 46 (by decide +kernel) (by decide) (fun c3 => ?_) (fun c3 => ?_)
    · rw [if_pos c3] at h
      exact sX10_comesOf_L46 hK σ a1 a2 a3 h hk
    · rw [if_neg c3] at h
      refine sw_iload_n (k0 := 1) 1 rfl (by decide +kernel) rfl ?_
      refine sw_aload_n (k0 := 0) 0 rfl (by decide +kernel) rfl ?_
      refine gf_X10_57 (i := 49) (by decide) rfl (by decide +kernel) ?_
      refine sw_refj 64 rfl ?_
      refine sw_iconst (n := 4) (v := 4) (by decide +kernel) (by decide) ?_
      refine sw_iload_n (k0 := 3) 3 rfl (by decide +kernel) rfl ?_
      refine sw_imul (by decide +kernel) ?_
      refine sw_iconst (n := 1) (v := 1) (by decide +kernel) (by decide) ?_
      refine sw_iadd (by decide +kernel) ?_
      obtain ⟨g4, h⟩ := sw_gd_e h
      refine sw_iaload (a := 64) (by decide) rfl (sw_in_e g4) (by decide +kernel) ?_
      refine sw_ishr (by decide +kernel) ?_
      refine sw_iconst (n := 1) (v := 1) (by decide +kernel) (by decide) ?_
      refine sw_iand (by decide +kernel) ?_
      refine sw_iconst (n := 1) (v := 1) (by decide +kernel) (by decide) ?_
      refine sw_icmp_ne (off := 18) 61 (by decide +kernel) (by decide) (fun c5 => ?_) (fun c5 => ?_)
      · rw [if_neg c5] at h
        exact sX10_comesOf_L61 hK σ a1 a2 a3 h hk
      · rw [if_pos c5] at h
        exact sX10_comesOf_L46 hK σ a1 a2 a3 h hk
set_option maxRecDepth 20000 in
theorem sX10_comesOf {l : Launch} {E : sw_E} {K : Nat} (hK : 0 ≤ K) (σ : sw_M) (a1 : Int32) {res : Int32} (h : fX10_comesOf σ a1 = some res) : sw_Ct l E K yX10_comesOf cX10_comesOf 4 (some .int) [.ref 49, .int a1] σ (some (.int res)) σ := by
  obtain ⟨t, hk, h⟩ : ∃ t, t = res ∧ fX10_comesOf σ a1 = some t := ⟨res, rfl, h⟩
  unfold fX10_comesOf at h
  refine sw_enter2 (own := RX10) (lv := [(0, .ref 49), (1, .int a1)]) (by decide +kernel) (Nat.le_of_ble_eq_true rfl) rfl rfl ?_
  refine sw_iconst (n := 0) (v := 0) (by decide +kernel) (by decide) ?_
  refine sw_istore_n (k0 := 2) (lv' := [(2, .int 0), (0, .ref 49), (1, .int a1)]) (by decide +kernel) rfl (by decide) rfl ?_
  refine sw_iconst (n := 0) (v := 0) (by decide +kernel) (by decide) ?_
  refine sw_istore_n (k0 := 3) (lv' := [(3, .int 0), (2, .int 0), (0, .ref 49), (1, .int a1)]) (by decide +kernel) rfl (by decide) rfl ?_
  refine sw_lv [2, 3, 1, 0] rfl ?_
  exact sw_wh_e (fun s : Int32 × Int32 => sw_Go l E K RX10 cX10_comesOf 4 (some .int) 4 [(0, .ref 49), (1, .int a1), (2, .int s.1), (3, .int s.2)] [] σ (some (.int res)) σ) (fun q => q = res) (fun s => fX10_comesOf_L4 σ a1 s.1 s.2) (fun s t hb hk => sX10_comesOf_L4 hK σ a1 s.1 s.2 hb hk) _ _ _ h hk
def fX10_comes_L20 (σ : sw_M) (a2 : Int32) (a3 : Int32) : Option ((Int32 × Int32) ⊕ (Int32)) :=
  if 5 ≤ a3 then
    some (.inr (a2))
  else
    sw_b1 (fX10_comesOf σ a2) fun r2 =>
    sw_let (a2 ||| r2) fun v4 =>
    sw_let (a3 + 1) fun v6 =>
    some (.inl (v4, v6))
def fX10_comes (σ : sw_M) (a1 : Int32) : Option (Int32) :=
  if (fX10_isKind σ a1) = 0 then
    some ((-1))
  else
    sw_b1 (fX10_comesOf σ (1 <<< (a1 &&& 31))) fun r2 =>
    sw_wh sw_F (fun s => fX10_comes_L20 σ s.1 s.2) (r2, 0)
set_option maxRecDepth 20000 in
theorem sX10_comes_L20 {l : Launch} {E : sw_E} {K : Nat} (hK : 2 ≤ K) (σ : sw_M) (a2 : Int32) (a3 : Int32) {res : Int32} {t : (Int32 × Int32) ⊕ (Int32)} (h : fX10_comes_L20 σ a2 a3 = some t) (hk : (Sum.elim (fun s : Int32 × Int32 => sw_Go l E K RX10 cX10_comes 4 (some .int) 20 [(0, .ref 49), (2, .int s.1), (3, .int s.2)] [] σ (some (.int res)) σ) (fun q => q = res)) t) : sw_Go l E K RX10 cX10_comes 4 (some .int) 20 [(0, .ref 49), (2, .int a2), (3, .int a3)] [] σ (some (.int res)) σ := by
  unfold fX10_comes_L20 at h
  refine sw_iload_n (k0 := 3) 2 rfl (by decide +kernel) rfl ?_
  refine sw_iconst (n := 5) (v := 5) (by decide +kernel) (by decide) ?_
  refine sw_icmp_ge (off := 17) 39 (by decide +kernel) (by decide) (fun c1 => ?_) (fun c1 => ?_)
  · rw [if_pos c1] at h
    refine sw_iload_n (k0 := 2) 1 rfl (by decide +kernel) rfl ?_
    cases h
    obtain rfl : _ = res := hk
    exact sw_iret (by decide +kernel)
  · rw [if_neg c1] at h
    refine sw_iload_n (k0 := 2) 1 rfl (by decide +kernel) rfl ?_
    refine sw_aload_n (k0 := 0) 0 rfl (by decide +kernel) rfl ?_
    refine sw_iload_n (k0 := 2) 1 rfl (by decide +kernel) rfl ?_
    obtain ⟨r2, w3, h⟩ := sw_b1_e h
    refine sw_callVi (ci := 10) (i := 49) [.int a2] (sX10_comesOf (K := K - 1) (by omega) σ a2 w3) rfl (by omega) rfl gs_X10_491 hy_X10_comesOf (by decide) (by decide) rfl rfl (Nat.le_of_ble_eq_true rfl) (by decide +kernel) ?_
    refine sw_ior (by decide +kernel) ?_
    obtain ⟨v4, e5, h⟩ := sw_let_e h
    refine sw_topi e5 ?_
    refine sw_istore_n (k0 := 2) (lv' := [(2, .int v4), (0, .ref 49), (3, .int a3)]) (by decide +kernel) rfl (by decide) rfl ?_
    obtain ⟨v6, e7, h⟩ := sw_let_e h
    refine sw_iincv (i := 3) (n := 1) (lv' := [(3, .int v6), (2, .int v4), (0, .ref 49)]) 2 rfl e7 (by decide +kernel) (by decide) (by decide) rfl ?_
    refine sw_goto (off := (-16)) 20 (by decide +kernel) (by decide) ?_
    cases h
    refine sw_lv [2, 1, 0] rfl ?_
    exact hk
set_option maxRecDepth 20000 in
theorem sX10_comes {l : Launch} {E : sw_E} {K : Nat} (hK : 2 ≤ K) (σ : sw_M) (a1 : Int32) {res : Int32} (h : fX10_comes σ a1 = some res) : sw_Ct l E K yX10_comes cX10_comes 4 (some .int) [.ref 49, .int a1] σ (some (.int res)) σ := by
  obtain ⟨t, hk, h⟩ : ∃ t, t = res ∧ fX10_comes σ a1 = some t := ⟨res, rfl, h⟩
  unfold fX10_comes at h
  refine sw_enter2 (own := RX10) (lv := [(0, .ref 49), (1, .int a1)]) (by decide +kernel) (Nat.le_of_ble_eq_true rfl) rfl rfl ?_
  refine sw_aload_n (k0 := 0) 0 rfl (by decide +kernel) rfl ?_
  refine sw_iload_n (k0 := 1) 1 rfl (by decide +kernel) rfl ?_
  refine sw_callVi (ci := 10) (i := 49) [.int a1] (sX10_isKind (K := K - 1) (by omega) σ a1 rfl) rfl (by omega) rfl gs_X10_433 hy_X10_isKind (by decide) (by decide) rfl rfl (Nat.le_of_ble_eq_true rfl) (by decide +kernel) ?_
  refine sw_if_ne (off := 5) 10 (by decide +kernel) (by decide) (fun c1 => ?_) (fun c1 => ?_)
  · rw [if_neg c1] at h
    refine sw_aload_n (k0 := 0) 0 rfl (by decide +kernel) rfl ?_
    refine sw_iconst (n := 1) (v := 1) (by decide +kernel) (by decide) ?_
    refine sw_iload_n (k0 := 1) 1 rfl (by decide +kernel) rfl ?_
    refine sw_ishl (by decide +kernel) ?_
    obtain ⟨r2, w3, h⟩ := sw_b1_e h
    refine sw_callVi (ci := 10) (i := 49) [.int (1 <<< (a1 &&& 31))] (sX10_comesOf (K := K - 1) (by omega) σ (1 <<< (a1 &&& 31)) w3) rfl (by omega) rfl gs_X10_491 hy_X10_comesOf (by decide) (by decide) rfl rfl (Nat.le_of_ble_eq_true rfl) (by decide +kernel) ?_
    refine sw_istore_n (k0 := 2) (lv' := [(2, .int r2), (0, .ref 49), (1, .int a1)]) (by decide +kernel) rfl (by decide) rfl ?_
    refine sw_iconst (n := 0) (v := 0) (by decide +kernel) (by decide) ?_
    refine sw_istore_n (k0 := 3) (lv' := [(3, .int 0), (2, .int r2), (0, .ref 49), (1, .int a1)]) (by decide +kernel) rfl (by decide) rfl ?_
    refine sw_lv [2, 1, 0] rfl ?_
    exact sw_wh_e (fun s : Int32 × Int32 => sw_Go l E K RX10 cX10_comes 4 (some .int) 20 [(0, .ref 49), (2, .int s.1), (3, .int s.2)] [] σ (some (.int res)) σ) (fun q => q = res) (fun s => fX10_comes_L20 σ s.1 s.2) (fun s t hb hk => sX10_comes_L20 hK σ s.1 s.2 hb hk) _ _ _ h hk
  · rw [if_pos c1] at h
    refine sw_iconst (n := (-1)) (v := (-1)) (by decide +kernel) (by decide) ?_
    cases h
    obtain rfl : _ = res := hk
    exact sw_iret (by decide +kernel)
def fX10_steps_L25 (σ : sw_M) (a2 : Int32) (a3 : Int32) (a4 : Int32) : Option ((Int32 × Int32) ⊕ (Int32)) :=
  if 5 < a4 then
    some (.inr ((-1)))
  else
    if ((a3 >>> (a2 &&& 31)) &&& 1) = 1 then
      some (.inr (a4))
    else
      sw_b1 (fX10_comesOf σ a3) fun r3 =>
      sw_let (a3 ||| r3) fun v5 =>
      sw_let (a4 + 1) fun v7 =>
      some (.inl (v5, v7))
def fX10_steps (σ : sw_M) (a1 : Int32) (a2 : Int32) : Option (Int32) :=
  if (fX10_isKind σ a1) = 0 then
    some ((-1))
  else
    if (fX10_isKind σ a2) = 0 then
      some ((-1))
    else
      sw_let (1 <<< (a1 &&& 31)) fun v3 =>
      sw_wh sw_F (fun s => fX10_steps_L25 σ a2 s.1 s.2) (v3, 0)
set_option maxRecDepth 20000 in
theorem sX10_steps_L25 {l : Launch} {E : sw_E} {K : Nat} (hK : 2 ≤ K) (σ : sw_M) (a2 : Int32) (a3 : Int32) (a4 : Int32) {res : Int32} {t : (Int32 × Int32) ⊕ (Int32)} (h : fX10_steps_L25 σ a2 a3 a4 = some t) (hk : (Sum.elim (fun s : Int32 × Int32 => sw_Go l E K RX10 cX10_steps 5 (some .int) 25 [(0, .ref 49), (2, .int a2), (3, .int s.1), (4, .int s.2)] [] σ (some (.int res)) σ) (fun q => q = res)) t) : sw_Go l E K RX10 cX10_steps 5 (some .int) 25 [(0, .ref 49), (2, .int a2), (3, .int a3), (4, .int a4)] [] σ (some (.int res)) σ := by
  unfold fX10_steps_L25 at h
  refine sw_iload 3 rfl (by decide +kernel) ?_
  refine sw_iconst (n := 5) (v := 5) (by decide +kernel) (by decide) ?_
  refine sw_icmp_gt (off := 29) 57 (by decide +kernel) (by decide) (fun c1 => ?_) (fun c1 => ?_)
  · rw [if_pos c1] at h
    refine sw_iconst (n := (-1)) (v := (-1)) (by decide +kernel) (by decide) ?_
    cases h
    obtain rfl : _ = res := hk
    exact sw_iret (by decide +kernel)
  · rw [if_neg c1] at h
    refine sw_iload_n (k0 := 3) 2 rfl (by decide +kernel) rfl ?_
    refine sw_iload_n (k0 := 2) 1 rfl (by decide +kernel) rfl ?_
    refine sw_ishr (by decide +kernel) ?_
    refine sw_iconst (n := 1) (v := 1) (by decide +kernel) (by decide) ?_
    refine sw_iand (by decide +kernel) ?_
    refine sw_iconst (n := 1) (v := 1) (by decide +kernel) (by decide) ?_
    refine sw_icmp_ne (off := 6) 43 (by decide +kernel) (by decide) (fun c2 => ?_) (fun c2 => ?_)
    · rw [if_neg c2] at h
      refine sw_iload_n (k0 := 3) 2 rfl (by decide +kernel) rfl ?_
      refine sw_aload_n (k0 := 0) 0 rfl (by decide +kernel) rfl ?_
      refine sw_iload_n (k0 := 3) 2 rfl (by decide +kernel) rfl ?_
      obtain ⟨r3, w4, h⟩ := sw_b1_e h
      refine sw_callVi (ci := 10) (i := 49) [.int a3] (sX10_comesOf (K := K - 1) (by omega) σ a3 w4) rfl (by omega) rfl gs_X10_491 hy_X10_comesOf (by decide) (by decide) rfl rfl (Nat.le_of_ble_eq_true rfl) (by decide +kernel) ?_
      refine sw_ior (by decide +kernel) ?_
      obtain ⟨v5, e6, h⟩ := sw_let_e h
      refine sw_topi e6 ?_
      refine sw_istore_n (k0 := 3) (lv' := [(3, .int v5), (0, .ref 49), (2, .int a2), (4, .int a4)]) (by decide +kernel) rfl (by decide) rfl ?_
      obtain ⟨v7, e8, h⟩ := sw_let_e h
      refine sw_iincv (i := 4) (n := 1) (lv' := [(4, .int v7), (3, .int v5), (0, .ref 49), (2, .int a2)]) 3 rfl e8 (by decide +kernel) (by decide) (by decide) rfl ?_
      refine sw_goto (off := (-29)) 25 (by decide +kernel) (by decide) ?_
      cases h
      refine sw_lv [2, 3, 1, 0] rfl ?_
      exact hk
    · rw [if_pos c2] at h
      refine sw_iload 3 rfl (by decide +kernel) ?_
      cases h
      obtain rfl : _ = res := hk
      exact sw_iret (by decide +kernel)
set_option maxRecDepth 20000 in
theorem sX10_steps {l : Launch} {E : sw_E} {K : Nat} (hK : 2 ≤ K) (σ : sw_M) (a1 : Int32) (a2 : Int32) {res : Int32} (h : fX10_steps σ a1 a2 = some res) : sw_Ct l E K yX10_steps cX10_steps 5 (some .int) [.ref 49, .int a1, .int a2] σ (some (.int res)) σ := by
  obtain ⟨t, hk, h⟩ : ∃ t, t = res ∧ fX10_steps σ a1 a2 = some t := ⟨res, rfl, h⟩
  unfold fX10_steps at h
  refine sw_enter2 (own := RX10) (lv := [(0, .ref 49), (1, .int a1), (2, .int a2)]) (by decide +kernel) (Nat.le_of_ble_eq_true rfl) rfl rfl ?_
  refine sw_aload_n (k0 := 0) 0 rfl (by decide +kernel) rfl ?_
  refine sw_iload_n (k0 := 1) 1 rfl (by decide +kernel) rfl ?_
  refine sw_callVi (ci := 10) (i := 49) [.int a1] (sX10_isKind (K := K - 1) (by omega) σ a1 rfl) rfl (by omega) rfl gs_X10_433 hy_X10_isKind (by decide) (by decide) rfl rfl (Nat.le_of_ble_eq_true rfl) (by decide +kernel) ?_
  refine sw_if_eq (off := 11) 16 (by decide +kernel) (by decide) (fun c1 => ?_) (fun c1 => ?_)
  · rw [if_pos c1] at h
    refine sw_iconst (n := (-1)) (v := (-1)) (by decide +kernel) (by decide) ?_
    cases h
    obtain rfl : _ = res := hk
    exact sw_iret (by decide +kernel)
  · rw [if_neg c1] at h
    refine sw_aload_n (k0 := 0) 0 rfl (by decide +kernel) rfl ?_
    refine sw_iload_n (k0 := 2) 2 rfl (by decide +kernel) rfl ?_
    refine sw_callVi (ci := 10) (i := 49) [.int a2] (sX10_isKind (K := K - 1) (by omega) σ a2 rfl) rfl (by omega) rfl gs_X10_433 hy_X10_isKind (by decide) (by decide) rfl rfl (Nat.le_of_ble_eq_true rfl) (by decide +kernel) ?_
    refine sw_if_ne (off := 5) 18 (by decide +kernel) (by decide) (fun c2 => ?_) (fun c2 => ?_)
    · rw [if_neg c2] at h
      refine sw_iconst (n := 1) (v := 1) (by decide +kernel) (by decide) ?_
      refine sw_iload_n (k0 := 1) 1 rfl (by decide +kernel) rfl ?_
      refine sw_ishl (by decide +kernel) ?_
      obtain ⟨v3, e4, h⟩ := sw_let_e h
      refine sw_topi e4 ?_
      refine sw_istore_n (k0 := 3) (lv' := [(3, .int v3), (0, .ref 49), (1, .int a1), (2, .int a2)]) (by decide +kernel) rfl (by decide) rfl ?_
      refine sw_iconst (n := 0) (v := 0) (by decide +kernel) (by decide) ?_
      refine sw_istore (i := 4) (lv' := [(4, .int 0), (3, .int v3), (0, .ref 49), (1, .int a1), (2, .int a2)]) (by decide +kernel) (by decide) rfl ?_
      refine sw_lv [2, 4, 1, 0] rfl ?_
      exact sw_wh_e (fun s : Int32 × Int32 => sw_Go l E K RX10 cX10_steps 5 (some .int) 25 [(0, .ref 49), (2, .int a2), (3, .int s.1), (4, .int s.2)] [] σ (some (.int res)) σ) (fun q => q = res) (fun s => fX10_steps_L25 σ a2 s.1 s.2) (fun s t hb hk => sX10_steps_L25 hK σ a2 s.1 s.2 hb hk) _ _ _ h hk
    · rw [if_pos c2] at h
      refine sw_iconst (n := (-1)) (v := (-1)) (by decide +kernel) (by decide) ?_
      cases h
      obtain rfl : _ = res := hk
      exact sw_iret (by decide +kernel)
def fX10_mindOf_L4 (σ : sw_M) (a1 : Int32) (a2 : Int32) (a3 : Int32) : Option ((Int32 × Int32) ⊕ (Int32)) :=
  if (σ.1 49 40) ≤ a3 then
    some (.inr (a2))
  else
    sw_gd (sw_in ((5 * a1) + a3) 35) <|
    sw_let (a2 + (σ.1 62 ((5 * a1) + a3).toNatClampNeg)) fun v3 =>
    sw_let (a3 + 1) fun v5 =>
    some (.inl (v3, v5))
def fX10_mindOf (σ : sw_M) (a1 : Int32) : Option (Int32) :=
  sw_wh sw_F (fun s => fX10_mindOf_L4 σ a1 s.1 s.2) (0, 0)
set_option maxRecDepth 20000 in
theorem sX10_mindOf_L4 {l : Launch} {E : sw_E} {K : Nat} (hK : 0 ≤ K) (σ : sw_M) (a1 : Int32) (a2 : Int32) (a3 : Int32) {res : Int32} {t : (Int32 × Int32) ⊕ (Int32)} (h : fX10_mindOf_L4 σ a1 a2 a3 = some t) (hk : (Sum.elim (fun s : Int32 × Int32 => sw_Go l E K RX10 cX10_mindOf 4 (some .int) 4 [(0, .ref 49), (1, .int a1), (2, .int s.1), (3, .int s.2)] [] σ (some (.int res)) σ) (fun q => q = res)) t) : sw_Go l E K RX10 cX10_mindOf 4 (some .int) 4 [(0, .ref 49), (1, .int a1), (2, .int a2), (3, .int a3)] [] σ (some (.int res)) σ := by
  unfold fX10_mindOf_L4 at h
  refine sw_iload_n (k0 := 3) 3 rfl (by decide +kernel) rfl ?_
  refine sw_aload_n (k0 := 0) 0 rfl (by decide +kernel) rfl ?_
  refine gf_X10_291 (i := 49) (by decide) rfl (by decide +kernel) ?_
  refine sw_icmp_ge (off := 22) 31 (by decide +kernel) (by decide) (fun c1 => ?_) (fun c1 => ?_)
  · rw [if_pos c1] at h
    refine sw_iload_n (k0 := 2) 2 rfl (by decide +kernel) rfl ?_
    cases h
    obtain rfl : _ = res := hk
    exact sw_iret (by decide +kernel)
  · rw [if_neg c1] at h
    refine sw_iload_n (k0 := 2) 2 rfl (by decide +kernel) rfl ?_
    refine sw_aload_n (k0 := 0) 0 rfl (by decide +kernel) rfl ?_
    refine gf_X10_51 (i := 49) (by decide) rfl (by decide +kernel) ?_
    refine sw_refj 62 rfl ?_
    refine sw_iconst (n := 5) (v := 5) (by decide +kernel) (by decide) ?_
    refine sw_iload_n (k0 := 1) 1 rfl (by decide +kernel) rfl ?_
    refine sw_imul (by decide +kernel) ?_
    refine sw_iload_n (k0 := 3) 3 rfl (by decide +kernel) rfl ?_
    refine sw_iadd (by decide +kernel) ?_
    obtain ⟨g2, h⟩ := sw_gd_e h
    refine sw_iaload (a := 62) (by decide) rfl (sw_in_e g2) (by decide +kernel) ?_
    refine sw_iadd (by decide +kernel) ?_
    obtain ⟨v3, e4, h⟩ := sw_let_e h
    refine sw_topi e4 ?_
    refine sw_istore_n (k0 := 2) (lv' := [(2, .int v3), (0, .ref 49), (1, .int a1), (3, .int a3)]) (by decide +kernel) rfl (by decide) rfl ?_
    obtain ⟨v5, e6, h⟩ := sw_let_e h
    refine sw_iincv (i := 3) (n := 1) (lv' := [(3, .int v5), (2, .int v3), (0, .ref 49), (1, .int a1)]) 3 rfl e6 (by decide +kernel) (by decide) (by decide) rfl ?_
    refine sw_goto (off := (-24)) 4 (by decide +kernel) (by decide) ?_
    cases h
    refine sw_lv [2, 3, 1, 0] rfl ?_
    exact hk
set_option maxRecDepth 20000 in
theorem sX10_mindOf {l : Launch} {E : sw_E} {K : Nat} (hK : 0 ≤ K) (σ : sw_M) (a1 : Int32) {res : Int32} (h : fX10_mindOf σ a1 = some res) : sw_Ct l E K yX10_mindOf cX10_mindOf 4 (some .int) [.ref 49, .int a1] σ (some (.int res)) σ := by
  obtain ⟨t, hk, h⟩ : ∃ t, t = res ∧ fX10_mindOf σ a1 = some t := ⟨res, rfl, h⟩
  unfold fX10_mindOf at h
  refine sw_enter2 (own := RX10) (lv := [(0, .ref 49), (1, .int a1)]) (by decide +kernel) (Nat.le_of_ble_eq_true rfl) rfl rfl ?_
  refine sw_iconst (n := 0) (v := 0) (by decide +kernel) (by decide) ?_
  refine sw_istore_n (k0 := 2) (lv' := [(2, .int 0), (0, .ref 49), (1, .int a1)]) (by decide +kernel) rfl (by decide) rfl ?_
  refine sw_iconst (n := 0) (v := 0) (by decide +kernel) (by decide) ?_
  refine sw_istore_n (k0 := 3) (lv' := [(3, .int 0), (2, .int 0), (0, .ref 49), (1, .int a1)]) (by decide +kernel) rfl (by decide) rfl ?_
  refine sw_lv [2, 3, 1, 0] rfl ?_
  exact sw_wh_e (fun s : Int32 × Int32 => sw_Go l E K RX10 cX10_mindOf 4 (some .int) 4 [(0, .ref 49), (1, .int a1), (2, .int s.1), (3, .int s.2)] [] σ (some (.int res)) σ) (fun q => q = res) (fun s => fX10_mindOf_L4 σ a1 s.1 s.2) (fun s t hb hk => sX10_mindOf_L4 hK σ a1 s.1 s.2 hb hk) _ _ _ h hk
def fX10_duel_L219 (σ : sw_M) (a3 : Int32) (a4 : Int32) : Option ((Int32 × Int32 × sw_M) ⊕ (Int32 × sw_M)) :=
  sw_let (a4 + 1) fun v1 =>
  some (.inl (a3, v1, σ))
def fX10_duel_L216 (σ : sw_M) (a3 : Int32) (a4 : Int32) : Option ((Int32 × Int32 × sw_M) ⊕ (Int32 × sw_M)) :=
  sw_let (a3 + 1) fun v1 =>
  fX10_duel_L219 σ v1 a4
def fX10_duel_L129 (σ : sw_M) (a3 : Int32) (a4 : Int32) : Option ((Int32 × Int32 × sw_M) ⊕ (Int32 × sw_M)) :=
  if 4 ≤ a4 then
    some (.inr ((a3, σ)))
  else
    sw_gd (sw_in ((a4 + 2) - (a4 + 2) / 4 * 4) 4) <|
    sw_gd (sw_in a4 4) <|
    if (σ.1 71 a4.toNatClampNeg) < (σ.1 71 ((a4 + 2) - (a4 + 2) / 4 * 4).toNatClampNeg) then
      fX10_duel_L219 σ a3 a4
    else
      sw_gd (sw_in ((((a4 / 2) * 2) + 1) - (a4 - a4 / 2 * 2)) 4) <|
      sw_gd (sw_in a4 4) <|
      if (σ.1 72 ((((a4 / 2) * 2) + 1) - (a4 - a4 / 2 * 2)).toNatClampNeg) ≤ (σ.1 72 a4.toNatClampNeg) then
        if a3 = 0 then
          sw_let (sw_w σ 69 0 (a4 / 2)) fun m9 =>
          sw_let (sw_w m9 69 1 (a4 - a4 / 2 * 2)) fun m11 =>
          sw_let (sw_w m11 49 57 2) fun m13 =>
          fX10_duel_L216 m13 a3 a4
        else
          fX10_duel_L216 σ a3 a4
      else
        fX10_duel_L219 σ a3 a4
def fX10_duel_L117 (σ : sw_M) (a1 : Int32) (a2 : Int32) (a3 : Int32) (b0 : Int32) (b1 : Int32) : Option ((Int32 × sw_M) ⊕ (Int32 × sw_M)) :=
  sw_gd (sw_in b1 4) <|
  sw_let (sw_w σ 72 b1.toNatClampNeg b0) fun m2 =>
  sw_let (a3 + 1) fun v4 =>
  some (.inl (v4, m2))
def fX10_duel_L92 (σ : sw_M) (a1 : Int32) (a2 : Int32) (a3 : Int32) (a4 : Int32) (b0 : Int32) (b1 : Int32) : Option ((Int32 × sw_M) ⊕ (Int32 × sw_M)) :=
  sw_gd (sw_in b1 4) <|
  sw_let (sw_w σ 71 b1.toNatClampNeg b0) fun m2 =>
  if a4 = 0 then
    sw_b1 (fX10_mindOf m2 a2) fun r5 =>
    fX10_duel_L117 m2 a1 a2 a3 ((a3 - a3 / 2 * 2) * r5) a3
  else
    fX10_duel_L117 m2 a1 a2 a3 (-5) a3
def fX10_duel_L46 (σ : sw_M) (a1 : Int32) (a2 : Int32) (a3 : Int32) : Option ((Int32 × sw_M) ⊕ (Int32 × sw_M)) :=
  if 4 ≤ a3 then
    sw_up (sw_wh sw_F (fun s => fX10_duel_L129 s.2.2 s.1 s.2.1) (0, 0, σ))
  else
    sw_b2 (fX10_risesWith σ (((a3 / 2) <<< (a1 &&& 31)) ||| ((a3 - a3 / 2 * 2) <<< (a2 &&& 31)))) fun r3 m4 =>
    if r3 = 0 then
      sw_b1 (fX10_mindOf m4 a1) fun r7 =>
      fX10_duel_L92 m4 a1 a2 a3 r3 ((a3 / 2) * r7) a3
    else
      fX10_duel_L92 m4 a1 a2 a3 r3 (-5) a3
def fX10_duel (σ : sw_M) (a1 : Int32) (a2 : Int32) : Option (Int32 × sw_M) :=
  sw_let (sw_w σ 49 57 0) fun m1 =>
  if (fX10_isPerson m1 a1) = 0 then
    some (((-1), m1))
  else
    if (fX10_isPerson m1 a2) = 0 then
      some (((-1), m1))
    else
      if a1 = a2 then
        some (((-1), m1))
      else
        if (fX10_hasTold m1 a1) = 0 then
          if (fX10_hasTold m1 a2) = 0 then
            sw_wh sw_F (fun s => fX10_duel_L46 s.2 a1 a2 s.1) (0, m1)
          else
            some (((-1), m1))
        else
          some (((-1), m1))
set_option maxRecDepth 20000 in
theorem sX10_duel_L219 {l : Launch} {E : sw_E} {K : Nat} (hK : 6 ≤ K) (σ : sw_M) (a3 : Int32) (a4 : Int32) {res : Int32 × sw_M} {t : (Int32 × Int32 × sw_M) ⊕ (Int32 × sw_M)} (h : fX10_duel_L219 σ a3 a4 = some t) (hk : (Sum.elim (fun s : Int32 × Int32 × sw_M => sw_Go l E K RX10 cX10_duel 5 (some .int) 129 [(0, .ref 49), (3, .int s.1), (4, .int s.2.1)] [] s.2.2 (some (.int res.1)) res.2) (fun q => q = res)) t) : sw_Go l E K RX10 cX10_duel 5 (some .int) 219 [(0, .ref 49), (3, .int a3), (4, .int a4)] [] σ (some (.int res.1)) res.2 := by
  unfold fX10_duel_L219 at h
  obtain ⟨v1, e2, h⟩ := sw_let_e h
  refine sw_iincv (i := 4) (n := 1) (lv' := [(4, .int v1), (0, .ref 49), (3, .int a3)]) 2 rfl e2 (by decide +kernel) (by decide) (by decide) rfl ?_
  refine sw_goto (off := (-93)) 129 (by decide +kernel) (by decide) ?_
  cases h
  refine sw_lv [1, 2, 0] rfl ?_
  exact hk
set_option maxRecDepth 20000 in
theorem sX10_duel_L216 {l : Launch} {E : sw_E} {K : Nat} (hK : 6 ≤ K) (σ : sw_M) (a3 : Int32) (a4 : Int32) {res : Int32 × sw_M} {t : (Int32 × Int32 × sw_M) ⊕ (Int32 × sw_M)} (h : fX10_duel_L216 σ a3 a4 = some t) (hk : (Sum.elim (fun s : Int32 × Int32 × sw_M => sw_Go l E K RX10 cX10_duel 5 (some .int) 129 [(0, .ref 49), (3, .int s.1), (4, .int s.2.1)] [] s.2.2 (some (.int res.1)) res.2) (fun q => q = res)) t) : sw_Go l E K RX10 cX10_duel 5 (some .int) 216 [(0, .ref 49), (3, .int a3), (4, .int a4)] [] σ (some (.int res.1)) res.2 := by
  unfold fX10_duel_L216 at h
  obtain ⟨v1, e2, h⟩ := sw_let_e h
  refine sw_iincv (i := 3) (n := 1) (lv' := [(3, .int v1), (0, .ref 49), (4, .int a4)]) 1 rfl e2 (by decide +kernel) (by decide) (by decide) rfl ?_
  refine sw_lv [1, 0, 2] rfl ?_
  exact sX10_duel_L219 hK σ v1 a4 h hk
set_option maxRecDepth 20000 in
theorem sX10_duel_L129 {l : Launch} {E : sw_E} {K : Nat} (hK : 6 ≤ K) (σ : sw_M) (a3 : Int32) (a4 : Int32) {res : Int32 × sw_M} {t : (Int32 × Int32 × sw_M) ⊕ (Int32 × sw_M)} (h : fX10_duel_L129 σ a3 a4 = some t) (hk : (Sum.elim (fun s : Int32 × Int32 × sw_M => sw_Go l E K RX10 cX10_duel 5 (some .int) 129 [(0, .ref 49), (3, .int s.1), (4, .int s.2.1)] [] s.2.2 (some (.int res.1)) res.2) (fun q => q = res)) t) : sw_Go l E K RX10 cX10_duel 5 (some .int) 129 [(0, .ref 49), (3, .int a3), (4, .int a4)] [] σ (some (.int res.1)) res.2 := by
  unfold fX10_duel_L129 at h
  refine sw_iload 2 rfl (by decide +kernel) ?_
  refine sw_iconst (n := 4) (v := 4) (by decide +kernel) (by decide) ?_
  refine sw_icmp_ge (off := 93) 225 (by decide +kernel) (by decide) (fun c1 => ?_) (fun c1 => ?_)
  · rw [if_pos c1] at h
    refine sw_iload_n (k0 := 3) 1 rfl (by decide +kernel) rfl ?_
    cases h
    obtain rfl : _ = res := hk
    exact sw_iret (by decide +kernel)
  · rw [if_neg c1] at h
    refine sw_aload_n (k0 := 0) 0 rfl (by decide +kernel) rfl ?_
    refine gf_X10_78 (i := 49) (by decide) rfl (by decide +kernel) ?_
    refine sw_refj 71 rfl ?_
    refine sw_iload 2 rfl (by decide +kernel) ?_
    refine sw_iconst (n := 2) (v := 2) (by decide +kernel) (by decide) ?_
    refine sw_iadd (by decide +kernel) ?_
    refine sw_iconst (n := 4) (v := 4) (by decide +kernel) (by decide) ?_
    refine sw_irem (by decide +kernel) (by decide) ?_
    obtain ⟨g2, h⟩ := sw_gd_e h
    refine sw_iaload (a := 71) (by decide) rfl (sw_in_e g2) (by decide +kernel) ?_
    refine sw_aload_n (k0 := 0) 0 rfl (by decide +kernel) rfl ?_
    refine gf_X10_78 (i := 49) (by decide) rfl (by decide +kernel) ?_
    refine sw_refj 71 rfl ?_
    refine sw_iload 2 rfl (by decide +kernel) ?_
    obtain ⟨g3, h⟩ := sw_gd_e h
    refine sw_iaload (a := 71) (by decide) rfl (sw_in_e g3) (by decide +kernel) ?_
    refine sw_icmp_gt (off := 66) 219 (by decide +kernel) (by decide) (fun c4 => ?_) (fun c4 => ?_)
    · rw [if_pos c4] at h
      exact sX10_duel_L219 hK σ a3 a4 h hk
    · rw [if_neg c4] at h
      refine sw_aload_n (k0 := 0) 0 rfl (by decide +kernel) rfl ?_
      refine gf_X10_81 (i := 49) (by decide) rfl (by decide +kernel) ?_
      refine sw_refj 72 rfl ?_
      refine sw_iload 2 rfl (by decide +kernel) ?_
      refine sw_iconst (n := 2) (v := 2) (by decide +kernel) (by decide) ?_
      refine sw_idiv (by decide +kernel) (by decide) ?_
      refine sw_iconst (n := 2) (v := 2) (by decide +kernel) (by decide) ?_
      refine sw_imul (by decide +kernel) ?_
      refine sw_iconst (n := 1) (v := 1) (by decide +kernel) (by decide) ?_
      refine sw_iadd (by decide +kernel) ?_
      refine sw_iload 2 rfl (by decide +kernel) ?_
      refine sw_iconst (n := 2) (v := 2) (by decide +kernel) (by decide) ?_
      refine sw_irem (by decide +kernel) (by decide) ?_
      refine sw_isub (by decide +kernel) ?_
      obtain ⟨g5, h⟩ := sw_gd_e h
      refine sw_iaload (a := 72) (by decide) rfl (sw_in_e g5) (by decide +kernel) ?_
      refine sw_aload_n (k0 := 0) 0 rfl (by decide +kernel) rfl ?_
      refine gf_X10_81 (i := 49) (by decide) rfl (by decide +kernel) ?_
      refine sw_refj 72 rfl ?_
      refine sw_iload 2 rfl (by decide +kernel) ?_
      obtain ⟨g6, h⟩ := sw_gd_e h
      refine sw_iaload (a := 72) (by decide) rfl (sw_in_e g6) (by decide +kernel) ?_
      refine sw_icmp_le (off := 6) 187 (by decide +kernel) (by decide) (fun c7 => ?_) (fun c7 => ?_)
      · rw [if_pos c7] at h
        refine sw_iload_n (k0 := 3) 1 rfl (by decide +kernel) rfl ?_
        refine sw_if_ne (off := 28) 216 (by decide +kernel) (by decide) (fun c8 => ?_) (fun c8 => ?_)
        · rw [if_neg c8] at h
          exact sX10_duel_L216 hK σ a3 a4 h hk
        · rw [if_pos c8] at h
          refine sw_aload_n (k0 := 0) 0 rfl (by decide +kernel) rfl ?_
          refine gf_X10_72 (i := 49) (by decide) rfl (by decide +kernel) ?_
          refine sw_refj 69 rfl ?_
          refine sw_iconst (n := 0) (v := 0) (by decide +kernel) (by decide) ?_
          refine sw_iload 2 rfl (by decide +kernel) ?_
          refine sw_iconst (n := 2) (v := 2) (by decide +kernel) (by decide) ?_
          refine sw_idiv (by decide +kernel) (by decide) ?_
          obtain ⟨m9, e10, h⟩ := sw_let_e h
          refine sw_iastore (a := 69) (by decide) rfl (sw_in_e (by decide)) (by decide +kernel) ?_
          refine sw_mem (e10.trans (show sw_w σ 69 0 (a4 / 2) = sw_w σ 69 (0 : Int32).toNatClampNeg (a4 / 2) from rfl)) ?_
          refine sw_aload_n (k0 := 0) 0 rfl (by decide +kernel) rfl ?_
          refine gf_X10_72 (i := 49) (by decide) rfl (by decide +kernel) ?_
          refine sw_refj 69 rfl ?_
          refine sw_iconst (n := 1) (v := 1) (by decide +kernel) (by decide) ?_
          refine sw_iload 2 rfl (by decide +kernel) ?_
          refine sw_iconst (n := 2) (v := 2) (by decide +kernel) (by decide) ?_
          refine sw_irem (by decide +kernel) (by decide) ?_
          obtain ⟨m11, e12, h⟩ := sw_let_e h
          refine sw_iastore (a := 69) (by decide) rfl (sw_in_e (by decide)) (by decide +kernel) ?_
          refine sw_mem (e12.trans (show sw_w m9 69 1 (a4 - a4 / 2 * 2) = sw_w m9 69 (1 : Int32).toNatClampNeg (a4 - a4 / 2 * 2) from rfl)) ?_
          refine sw_aload_n (k0 := 0) 0 rfl (by decide +kernel) rfl ?_
          refine sw_iconst (n := 2) (v := 2) (by decide +kernel) (by decide) ?_
          obtain ⟨m13, e14, h⟩ := sw_let_e h
          refine pf_X10_408 (by decide) rfl (by decide +kernel) ?_
          refine sw_mem e14 ?_
          exact sX10_duel_L216 hK m13 a3 a4 h hk
      · rw [if_neg c7] at h
        refine sw_goto (off := 35) 219 (by decide +kernel) (by decide) ?_
        exact sX10_duel_L219 hK σ a3 a4 h hk
set_option maxRecDepth 20000 in
theorem sX10_duel_L117 {l : Launch} {E : sw_E} {K : Nat} (hK : 6 ≤ K) (σ : sw_M) (a1 : Int32) (a2 : Int32) (a3 : Int32) (b0 : Int32) (b1 : Int32) {res : Int32 × sw_M} {t : (Int32 × sw_M) ⊕ (Int32 × sw_M)} (h : fX10_duel_L117 σ a1 a2 a3 b0 b1 = some t) (hk : (Sum.elim (fun s : Int32 × sw_M => sw_Go l E K RX10 cX10_duel 5 (some .int) 46 [(0, .ref 49), (1, .int a1), (2, .int a2), (3, .int s.1)] [] s.2 (some (.int res.1)) res.2) (fun q => q = res)) t) : sw_Go l E K RX10 cX10_duel 5 (some .int) 117 [(0, .ref 49), (1, .int a1), (2, .int a2), (3, .int a3)] [.int b0, .int b1, .ref 72] σ (some (.int res.1)) res.2 := by
  unfold fX10_duel_L117 at h
  obtain ⟨g1, h⟩ := sw_gd_e h
  obtain ⟨m2, e3, h⟩ := sw_let_e h
  refine sw_iastore (a := 72) (by decide) rfl (sw_in_e g1) (by decide +kernel) ?_
  refine sw_mem e3 ?_
  obtain ⟨v4, e5, h⟩ := sw_let_e h
  refine sw_iincv (i := 3) (n := 1) (lv' := [(3, .int v4), (0, .ref 49), (1, .int a1), (2, .int a2)]) 3 rfl e5 (by decide +kernel) (by decide) (by decide) rfl ?_
  refine sw_goto (off := (-75)) 46 (by decide +kernel) (by decide) ?_
  cases h
  refine sw_lv [1, 2, 3, 0] rfl ?_
  exact hk
set_option maxRecDepth 20000 in
theorem sX10_duel_L92 {l : Launch} {E : sw_E} {K : Nat} (hK : 6 ≤ K) (σ : sw_M) (a1 : Int32) (a2 : Int32) (a3 : Int32) (a4 : Int32) (b0 : Int32) (b1 : Int32) {res : Int32 × sw_M} {t : (Int32 × sw_M) ⊕ (Int32 × sw_M)} (h : fX10_duel_L92 σ a1 a2 a3 a4 b0 b1 = some t) (hk : (Sum.elim (fun s : Int32 × sw_M => sw_Go l E K RX10 cX10_duel 5 (some .int) 46 [(0, .ref 49), (1, .int a1), (2, .int a2), (3, .int s.1)] [] s.2 (some (.int res.1)) res.2) (fun q => q = res)) t) : sw_Go l E K RX10 cX10_duel 5 (some .int) 92 [(0, .ref 49), (1, .int a1), (2, .int a2), (3, .int a3), (4, .int a4)] [.int b0, .int b1, .ref 71] σ (some (.int res.1)) res.2 := by
  unfold fX10_duel_L92 at h
  obtain ⟨g1, h⟩ := sw_gd_e h
  obtain ⟨m2, e3, h⟩ := sw_let_e h
  refine sw_iastore (a := 71) (by decide) rfl (sw_in_e g1) (by decide +kernel) ?_
  refine sw_mem e3 ?_
  refine sw_aload_n (k0 := 0) 0 rfl (by decide +kernel) rfl ?_
  refine gf_X10_81 (i := 49) (by decide) rfl (by decide +kernel) ?_
  refine sw_refj 72 rfl ?_
  refine sw_iload_n (k0 := 3) 3 rfl (by decide +kernel) rfl ?_
  refine sw_iload 4 rfl (by decide +kernel) ?_
  refine sw_if_eq (off := 8) 108 (by decide +kernel) (by decide) (fun c4 => ?_) (fun c4 => ?_)
  · rw [if_pos c4] at h
    refine sw_iload_n (k0 := 3) 3 rfl (by decide +kernel) rfl ?_
    refine sw_iconst (n := 2) (v := 2) (by decide +kernel) (by decide) ?_
    refine sw_irem (by decide +kernel) (by decide) ?_
    refine sw_aload_n (k0 := 0) 0 rfl (by decide +kernel) rfl ?_
    refine sw_iload_n (k0 := 2) 2 rfl (by decide +kernel) rfl ?_
    obtain ⟨r5, w6, h⟩ := sw_b1_e h
    refine sw_callVi (ci := 10) (i := 49) [.int a2] (sX10_mindOf (K := K - 1) (by omega) m2 a2 w6) rfl (by omega) rfl gs_X10_494 hy_X10_mindOf (by decide) (by decide) rfl rfl (Nat.le_of_ble_eq_true rfl) (by decide +kernel) ?_
    refine sw_imul (by decide +kernel) ?_
    refine sw_lv [0, 1, 2, 3] rfl ?_
    exact sX10_duel_L117 hK m2 a1 a2 a3 ((a3 - a3 / 2 * 2) * r5) a3 h hk
  · rw [if_neg c4] at h
    refine sw_bipush (n := (-5)) (v := (-5)) (by decide +kernel) (by decide) ?_
    refine sw_goto (off := 12) 117 (by decide +kernel) (by decide) ?_
    refine sw_lv [0, 1, 2, 3] rfl ?_
    exact sX10_duel_L117 hK m2 a1 a2 a3 (-5) a3 h hk
set_option maxRecDepth 20000 in
theorem sX10_duel_L46 {l : Launch} {E : sw_E} {K : Nat} (hK : 6 ≤ K) (σ : sw_M) (a1 : Int32) (a2 : Int32) (a3 : Int32) {res : Int32 × sw_M} {t : (Int32 × sw_M) ⊕ (Int32 × sw_M)} (h : fX10_duel_L46 σ a1 a2 a3 = some t) (hk : (Sum.elim (fun s : Int32 × sw_M => sw_Go l E K RX10 cX10_duel 5 (some .int) 46 [(0, .ref 49), (1, .int a1), (2, .int a2), (3, .int s.1)] [] s.2 (some (.int res.1)) res.2) (fun q => q = res)) t) : sw_Go l E K RX10 cX10_duel 5 (some .int) 46 [(0, .ref 49), (1, .int a1), (2, .int a2), (3, .int a3)] [] σ (some (.int res.1)) res.2 := by
  unfold fX10_duel_L46 at h
  refine sw_iload_n (k0 := 3) 3 rfl (by decide +kernel) rfl ?_
  refine sw_iconst (n := 4) (v := 4) (by decide +kernel) (by decide) ?_
  refine sw_icmp_ge (off := 76) 124 (by decide +kernel) (by decide) (fun c1 => ?_) (fun c1 => ?_)
  · rw [if_pos c1] at h
    refine sw_iconst (n := 0) (v := 0) (by decide +kernel) (by decide) ?_
    refine sw_istore_n (k0 := 3) (lv' := [(3, .int 0), (0, .ref 49), (1, .int a1), (2, .int a2)]) (by decide +kernel) rfl (by decide) rfl ?_
    refine sw_iconst (n := 0) (v := 0) (by decide +kernel) (by decide) ?_
    refine sw_istore (i := 4) (lv' := [(4, .int 0), (3, .int 0), (0, .ref 49), (1, .int a1), (2, .int a2)]) (by decide +kernel) (by decide) rfl ?_
    obtain ⟨q1, h1, rfl⟩ := sw_up_e h
    replace h := h1
    refine sw_lv [2, 1, 0] rfl ?_
    exact sw_wh_e (fun s : Int32 × Int32 × sw_M => sw_Go l E K RX10 cX10_duel 5 (some .int) 129 [(0, .ref 49), (3, .int s.1), (4, .int s.2.1)] [] s.2.2 (some (.int res.1)) res.2) (fun q => q = res) (fun s => fX10_duel_L129 s.2.2 s.1 s.2.1) (fun s t hb hk => sX10_duel_L129 hK s.2.2 s.1 s.2.1 hb hk) _ _ _ h hk
  · rw [if_neg c1] at h
    refine sw_aload_n (k0 := 0) 0 rfl (by decide +kernel) rfl ?_
    refine sw_iload_n (k0 := 3) 3 rfl (by decide +kernel) rfl ?_
    refine sw_iconst (n := 2) (v := 2) (by decide +kernel) (by decide) ?_
    refine sw_idiv (by decide +kernel) (by decide) ?_
    refine sw_iload_n (k0 := 1) 1 rfl (by decide +kernel) rfl ?_
    refine sw_ishl (by decide +kernel) ?_
    refine sw_iload_n (k0 := 3) 3 rfl (by decide +kernel) rfl ?_
    refine sw_iconst (n := 2) (v := 2) (by decide +kernel) (by decide) ?_
    refine sw_irem (by decide +kernel) (by decide) ?_
    refine sw_iload_n (k0 := 2) 2 rfl (by decide +kernel) rfl ?_
    refine sw_ishl (by decide +kernel) ?_
    refine sw_ior (by decide +kernel) ?_
    obtain ⟨r3, m4, w5, h⟩ := sw_b2_e h
    refine sw_callVi (ci := 10) (i := 49) [.int (((a3 / 2) <<< (a1 &&& 31)) ||| ((a3 - a3 / 2 * 2) <<< (a2 &&& 31)))] (sX10_risesWith (K := K - 1) (by omega) σ (((a3 / 2) <<< (a1 &&& 31)) ||| ((a3 - a3 / 2 * 2) <<< (a2 &&& 31))) w5) rfl (by omega) rfl gs_X10_479 hy_X10_risesWith (by decide) (by decide) rfl rfl (Nat.le_of_ble_eq_true rfl) (by decide +kernel) ?_
    refine sw_istore (i := 4) (lv' := [(4, .int r3), (0, .ref 49), (1, .int a1), (2, .int a2), (3, .int a3)]) (by decide +kernel) (by decide) rfl ?_
    refine sw_aload_n (k0 := 0) 1 rfl (by decide +kernel) rfl ?_
    refine gf_X10_78 (i := 49) (by decide) rfl (by decide +kernel) ?_
    refine sw_refj 71 rfl ?_
    refine sw_iload_n (k0 := 3) 4 rfl (by decide +kernel) rfl ?_
    refine sw_iload 0 rfl (by decide +kernel) ?_
    refine sw_if_eq (off := 8) 83 (by decide +kernel) (by decide) (fun c6 => ?_) (fun c6 => ?_)
    · rw [if_pos c6] at h
      refine sw_iload_n (k0 := 3) 4 rfl (by decide +kernel) rfl ?_
      refine sw_iconst (n := 2) (v := 2) (by decide +kernel) (by decide) ?_
      refine sw_idiv (by decide +kernel) (by decide) ?_
      refine sw_aload_n (k0 := 0) 1 rfl (by decide +kernel) rfl ?_
      refine sw_iload_n (k0 := 1) 2 rfl (by decide +kernel) rfl ?_
      obtain ⟨r7, w8, h⟩ := sw_b1_e h
      refine sw_callVi (ci := 10) (i := 49) [.int a1] (sX10_mindOf (K := K - 1) (by omega) m4 a1 w8) rfl (by omega) rfl gs_X10_494 hy_X10_mindOf (by decide) (by decide) rfl rfl (Nat.le_of_ble_eq_true rfl) (by decide +kernel) ?_
      refine sw_imul (by decide +kernel) ?_
      refine sw_lv [1, 2, 3, 4, 0] rfl ?_
      exact sX10_duel_L92 hK m4 a1 a2 a3 r3 ((a3 / 2) * r7) a3 h hk
    · rw [if_neg c6] at h
      refine sw_bipush (n := (-5)) (v := (-5)) (by decide +kernel) (by decide) ?_
      refine sw_goto (off := 12) 92 (by decide +kernel) (by decide) ?_
      refine sw_lv [1, 2, 3, 4, 0] rfl ?_
      exact sX10_duel_L92 hK m4 a1 a2 a3 r3 (-5) a3 h hk
set_option maxRecDepth 20000 in
theorem sX10_duel {l : Launch} {E : sw_E} {K : Nat} (hK : 6 ≤ K) (σ : sw_M) (a1 : Int32) (a2 : Int32) {res : Int32 × sw_M} (h : fX10_duel σ a1 a2 = some res) : sw_Ct l E K yX10_duel cX10_duel 5 (some .int) [.ref 49, .int a1, .int a2] σ (some (.int res.1)) res.2 := by
  obtain ⟨t, hk, h⟩ : ∃ t, t = res ∧ fX10_duel σ a1 a2 = some t := ⟨res, rfl, h⟩
  unfold fX10_duel at h
  refine sw_enter2 (own := RX10) (lv := [(0, .ref 49), (1, .int a1), (2, .int a2)]) (by decide +kernel) (Nat.le_of_ble_eq_true rfl) rfl rfl ?_
  refine sw_aload_n (k0 := 0) 0 rfl (by decide +kernel) rfl ?_
  refine sw_iconst (n := 0) (v := 0) (by decide +kernel) (by decide) ?_
  obtain ⟨m1, e2, h⟩ := sw_let_e h
  refine pf_X10_408 (by decide) rfl (by decide +kernel) ?_
  refine sw_mem e2 ?_
  refine sw_aload_n (k0 := 0) 0 rfl (by decide +kernel) rfl ?_
  refine sw_iload_n (k0 := 1) 1 rfl (by decide +kernel) rfl ?_
  refine sw_callVi (ci := 10) (i := 49) [.int a1] (sX10_isPerson (K := K - 1) (by omega) m1 a1 rfl) rfl (by omega) rfl gs_X10_436 hy_X10_isPerson (by decide) (by decide) rfl rfl (Nat.le_of_ble_eq_true rfl) (by decide +kernel) ?_
  refine sw_if_eq (off := 32) 42 (by decide +kernel) (by decide) (fun c3 => ?_) (fun c3 => ?_)
  · rw [if_pos c3] at h
    refine sw_iconst (n := (-1)) (v := (-1)) (by decide +kernel) (by decide) ?_
    cases h
    obtain rfl : _ = res := hk
    exact sw_iret (by decide +kernel)
  · rw [if_neg c3] at h
    refine sw_aload_n (k0 := 0) 0 rfl (by decide +kernel) rfl ?_
    refine sw_iload_n (k0 := 2) 2 rfl (by decide +kernel) rfl ?_
    refine sw_callVi (ci := 10) (i := 49) [.int a2] (sX10_isPerson (K := K - 1) (by omega) m1 a2 rfl) rfl (by omega) rfl gs_X10_436 hy_X10_isPerson (by decide) (by decide) rfl rfl (Nat.le_of_ble_eq_true rfl) (by decide +kernel) ?_
    refine sw_if_eq (off := 24) 42 (by decide +kernel) (by decide) (fun c4 => ?_) (fun c4 => ?_)
    · rw [if_pos c4] at h
      refine sw_iconst (n := (-1)) (v := (-1)) (by decide +kernel) (by decide) ?_
      cases h
      obtain rfl : _ = res := hk
      exact sw_iret (by decide +kernel)
    · rw [if_neg c4] at h
      refine sw_iload_n (k0 := 1) 1 rfl (by decide +kernel) rfl ?_
      refine sw_iload_n (k0 := 2) 2 rfl (by decide +kernel) rfl ?_
      refine sw_icmp_eq (off := 19) 42 (by decide +kernel) (by decide) (fun c5 => ?_) (fun c5 => ?_)
      · rw [if_pos c5] at h
        refine sw_iconst (n := (-1)) (v := (-1)) (by decide +kernel) (by decide) ?_
        cases h
        obtain rfl : _ = res := hk
        exact sw_iret (by decide +kernel)
      · rw [if_neg c5] at h
        refine sw_aload_n (k0 := 0) 0 rfl (by decide +kernel) rfl ?_
        refine sw_iload_n (k0 := 1) 1 rfl (by decide +kernel) rfl ?_
        refine sw_callVi (ci := 10) (i := 49) [.int a1] (sX10_hasTold (K := K - 1) (by omega) m1 a1 rfl) rfl (by omega) rfl gs_X10_448 hy_X10_hasTold (by decide) (by decide) rfl rfl (Nat.le_of_ble_eq_true rfl) (by decide +kernel) ?_
        refine sw_if_ne (off := 11) 42 (by decide +kernel) (by decide) (fun c6 => ?_) (fun c6 => ?_)
        · rw [if_neg c6] at h
          refine sw_iconst (n := (-1)) (v := (-1)) (by decide +kernel) (by decide) ?_
          cases h
          obtain rfl : _ = res := hk
          exact sw_iret (by decide +kernel)
        · rw [if_pos c6] at h
          refine sw_aload_n (k0 := 0) 0 rfl (by decide +kernel) rfl ?_
          refine sw_iload_n (k0 := 2) 2 rfl (by decide +kernel) rfl ?_
          refine sw_callVi (ci := 10) (i := 49) [.int a2] (sX10_hasTold (K := K - 1) (by omega) m1 a2 rfl) rfl (by omega) rfl gs_X10_448 hy_X10_hasTold (by decide) (by decide) rfl rfl (Nat.le_of_ble_eq_true rfl) (by decide +kernel) ?_
          refine sw_if_eq (off := 5) 44 (by decide +kernel) (by decide) (fun c7 => ?_) (fun c7 => ?_)
          · rw [if_pos c7] at h
            refine sw_iconst (n := 0) (v := 0) (by decide +kernel) (by decide) ?_
            refine sw_istore_n (k0 := 3) (lv' := [(3, .int 0), (0, .ref 49), (1, .int a1), (2, .int a2)]) (by decide +kernel) rfl (by decide) rfl ?_
            refine sw_lv [1, 2, 3, 0] rfl ?_
            exact sw_wh_e (fun s : Int32 × sw_M => sw_Go l E K RX10 cX10_duel 5 (some .int) 46 [(0, .ref 49), (1, .int a1), (2, .int a2), (3, .int s.1)] [] s.2 (some (.int res.1)) res.2) (fun q => q = res) (fun s => fX10_duel_L46 s.2 a1 a2 s.1) (fun s t hb hk => sX10_duel_L46 hK s.2 a1 a2 s.1 hb hk) _ _ _ h hk
          · rw [if_neg c7] at h
            refine sw_iconst (n := (-1)) (v := (-1)) (by decide +kernel) (by decide) ?_
            cases h
            obtain rfl : _ = res := hk
            exact sw_iret (by decide +kernel)
def fX10_nearest_L39 (σ : sw_M) (a1 : Int32) (a2 : Int32) : Option ((Int32 × Int32) ⊕ (Int32)) :=
  sw_let (a2 + 1) fun v1 =>
  some (.inl (a1, v1))
def fX10_nearest_L37 (σ : sw_M) (a2 : Int32) : Option ((Int32 × Int32) ⊕ (Int32)) :=
  fX10_nearest_L39 σ a2 a2
def fX10_nearest_L4 (σ : sw_M) (a1 : Int32) (a2 : Int32) : Option ((Int32 × Int32) ⊕ (Int32)) :=
  if (σ.1 49 42) ≤ a2 then
    some (.inr (a1))
  else
    if (fX10_isEased σ a2) = 0 then
      if a1 < 0 then
        fX10_nearest_L37 σ a2
      else
        sw_b1 (fX10_lackOf σ a2) fun r4 =>
        sw_b1 (fX10_lackOf σ a1) fun r6 =>
        if r6 ≤ r4 then
          fX10_nearest_L39 σ a1 a2
        else
          fX10_nearest_L37 σ a2
    else
      fX10_nearest_L39 σ a1 a2
def fX10_nearest (σ : sw_M) : Option (Int32) :=
  sw_wh sw_F (fun s => fX10_nearest_L4 σ s.1 s.2) ((-1), 0)
set_option maxRecDepth 20000 in
theorem sX10_nearest_L39 {l : Launch} {E : sw_E} {K : Nat} (hK : 2 ≤ K) (σ : sw_M) (a1 : Int32) (a2 : Int32) {res : Int32} {t : (Int32 × Int32) ⊕ (Int32)} (h : fX10_nearest_L39 σ a1 a2 = some t) (hk : (Sum.elim (fun s : Int32 × Int32 => sw_Go l E K RX10 cX10_nearest 3 (some .int) 4 [(0, .ref 49), (1, .int s.1), (2, .int s.2)] [] σ (some (.int res)) σ) (fun q => q = res)) t) : sw_Go l E K RX10 cX10_nearest 3 (some .int) 39 [(0, .ref 49), (1, .int a1), (2, .int a2)] [] σ (some (.int res)) σ := by
  unfold fX10_nearest_L39 at h
  obtain ⟨v1, e2, h⟩ := sw_let_e h
  refine sw_iincv (i := 2) (n := 1) (lv' := [(2, .int v1), (0, .ref 49), (1, .int a1)]) 2 rfl e2 (by decide +kernel) (by decide) (by decide) rfl ?_
  refine sw_goto (off := (-38)) 4 (by decide +kernel) (by decide) ?_
  cases h
  refine sw_lv [1, 2, 0] rfl ?_
  exact hk
set_option maxRecDepth 20000 in
theorem sX10_nearest_L37 {l : Launch} {E : sw_E} {K : Nat} (hK : 2 ≤ K) (σ : sw_M) (a2 : Int32) {res : Int32} {t : (Int32 × Int32) ⊕ (Int32)} (h : fX10_nearest_L37 σ a2 = some t) (hk : (Sum.elim (fun s : Int32 × Int32 => sw_Go l E K RX10 cX10_nearest 3 (some .int) 4 [(0, .ref 49), (1, .int s.1), (2, .int s.2)] [] σ (some (.int res)) σ) (fun q => q = res)) t) : sw_Go l E K RX10 cX10_nearest 3 (some .int) 37 [(0, .ref 49), (2, .int a2)] [] σ (some (.int res)) σ := by
  unfold fX10_nearest_L37 at h
  refine sw_iload_n (k0 := 2) 1 rfl (by decide +kernel) rfl ?_
  refine sw_istore_n (k0 := 1) (lv' := [(1, .int a2), (0, .ref 49), (2, .int a2)]) (by decide +kernel) rfl (by decide) rfl ?_
  refine sw_lv [1, 0, 2] rfl ?_
  exact sX10_nearest_L39 hK σ a2 a2 h hk
set_option maxRecDepth 20000 in
theorem sX10_nearest_L4 {l : Launch} {E : sw_E} {K : Nat} (hK : 2 ≤ K) (σ : sw_M) (a1 : Int32) (a2 : Int32) {res : Int32} {t : (Int32 × Int32) ⊕ (Int32)} (h : fX10_nearest_L4 σ a1 a2 = some t) (hk : (Sum.elim (fun s : Int32 × Int32 => sw_Go l E K RX10 cX10_nearest 3 (some .int) 4 [(0, .ref 49), (1, .int s.1), (2, .int s.2)] [] σ (some (.int res)) σ) (fun q => q = res)) t) : sw_Go l E K RX10 cX10_nearest 3 (some .int) 4 [(0, .ref 49), (1, .int a1), (2, .int a2)] [] σ (some (.int res)) σ := by
  unfold fX10_nearest_L4 at h
  refine sw_iload_n (k0 := 2) 2 rfl (by decide +kernel) rfl ?_
  refine sw_aload_n (k0 := 0) 0 rfl (by decide +kernel) rfl ?_
  refine gf_X10_384 (i := 49) (by decide) rfl (by decide +kernel) ?_
  refine sw_icmp_ge (off := 36) 45 (by decide +kernel) (by decide) (fun c1 => ?_) (fun c1 => ?_)
  · rw [if_pos c1] at h
    refine sw_iload_n (k0 := 1) 1 rfl (by decide +kernel) rfl ?_
    cases h
    obtain rfl : _ = res := hk
    exact sw_iret (by decide +kernel)
  · rw [if_neg c1] at h
    refine sw_aload_n (k0 := 0) 0 rfl (by decide +kernel) rfl ?_
    refine sw_iload_n (k0 := 2) 2 rfl (by decide +kernel) rfl ?_
    refine sw_callVi (ci := 10) (i := 49) [.int a2] (sX10_isEased (K := K - 1) (by omega) σ a2 rfl) rfl (by omega) rfl gs_X10_461 hy_X10_isEased (by decide) (by decide) rfl rfl (Nat.le_of_ble_eq_true rfl) (by decide +kernel) ?_
    refine sw_if_ne (off := 22) 39 (by decide +kernel) (by decide) (fun c2 => ?_) (fun c2 => ?_)
    · rw [if_neg c2] at h
      exact sX10_nearest_L39 hK σ a1 a2 h hk
    · rw [if_pos c2] at h
      refine sw_iload_n (k0 := 1) 1 rfl (by decide +kernel) rfl ?_
      refine sw_if_lt (off := 16) 37 (by decide +kernel) (by decide) (fun c3 => ?_) (fun c3 => ?_)
      · rw [if_pos c3] at h
        refine sw_lv [0, 2] rfl ?_
        exact sX10_nearest_L37 hK σ a2 h hk
      · rw [if_neg c3] at h
        refine sw_aload_n (k0 := 0) 0 rfl (by decide +kernel) rfl ?_
        refine sw_iload_n (k0 := 2) 2 rfl (by decide +kernel) rfl ?_
        obtain ⟨r4, w5, h⟩ := sw_b1_e h
        refine sw_callVi (ci := 10) (i := 49) [.int a2] (sX10_lackOf (K := K - 1) (by omega) σ a2 w5) rfl (by omega) rfl gs_X10_482 hy_X10_lackOf (by decide) (by decide) rfl rfl (Nat.le_of_ble_eq_true rfl) (by decide +kernel) ?_
        refine sw_aload_n (k0 := 0) 0 rfl (by decide +kernel) rfl ?_
        refine sw_iload_n (k0 := 1) 1 rfl (by decide +kernel) rfl ?_
        obtain ⟨r6, w7, h⟩ := sw_b1_e h
        refine sw_callVi (ci := 10) (i := 49) [.int a1] (sX10_lackOf (K := K - 1) (by omega) σ a1 w7) rfl (by omega) rfl gs_X10_482 hy_X10_lackOf (by decide) (by decide) rfl rfl (Nat.le_of_ble_eq_true rfl) (by decide +kernel) ?_
        refine sw_icmp_ge (off := 5) 39 (by decide +kernel) (by decide) (fun c8 => ?_) (fun c8 => ?_)
        · rw [if_pos c8] at h
          exact sX10_nearest_L39 hK σ a1 a2 h hk
        · rw [if_neg c8] at h
          refine sw_lv [0, 2] rfl ?_
          exact sX10_nearest_L37 hK σ a2 h hk
set_option maxRecDepth 20000 in
theorem sX10_nearest {l : Launch} {E : sw_E} {K : Nat} (hK : 2 ≤ K) (σ : sw_M) {res : Int32} (h : fX10_nearest σ = some res) : sw_Ct l E K yX10_nearest cX10_nearest 3 (some .int) [.ref 49] σ (some (.int res)) σ := by
  obtain ⟨t, hk, h⟩ : ∃ t, t = res ∧ fX10_nearest σ = some t := ⟨res, rfl, h⟩
  unfold fX10_nearest at h
  refine sw_enter2 (own := RX10) (lv := [(0, .ref 49)]) (by decide +kernel) (Nat.le_of_ble_eq_true rfl) rfl rfl ?_
  refine sw_iconst (n := (-1)) (v := (-1)) (by decide +kernel) (by decide) ?_
  refine sw_istore_n (k0 := 1) (lv' := [(1, .int (-1)), (0, .ref 49)]) (by decide +kernel) rfl (by decide) rfl ?_
  refine sw_iconst (n := 0) (v := 0) (by decide +kernel) (by decide) ?_
  refine sw_istore_n (k0 := 2) (lv' := [(2, .int 0), (1, .int (-1)), (0, .ref 49)]) (by decide +kernel) rfl (by decide) rfl ?_
  refine sw_lv [2, 1, 0] rfl ?_
  exact sw_wh_e (fun s : Int32 × Int32 => sw_Go l E K RX10 cX10_nearest 3 (some .int) 4 [(0, .ref 49), (1, .int s.1), (2, .int s.2)] [] σ (some (.int res)) σ) (fun q => q = res) (fun s => fX10_nearest_L4 σ s.1 s.2) (fun s t hb hk => sX10_nearest_L4 hK σ s.1 s.2 hb hk) _ _ _ h hk
def fX10_wanted_L45 (σ : sw_M) (a1 : Int32) (a3 : Int32) (b0 : Int32) (b1 : Int32) : Option ((Int32 × Int32) ⊕ (Int32)) :=
  sw_let (b1 + b0) fun v1 =>
  sw_let (a3 + 1) fun v3 =>
  some (.inl (v1, v3))
def fX10_wanted_L14 (σ : sw_M) (a1 : Int32) (a2 : Int32) (a3 : Int32) : Option ((Int32 × Int32) ⊕ (Int32)) :=
  if (σ.1 49 42) ≤ a3 then
    some (.inr (a2))
  else
    if (fX10_isEased σ a3) = 0 then
      sw_gd (sw_in ((5 * a3) + a1) 20) <|
      fX10_wanted_L45 σ a1 a3 (σ.1 63 ((5 * a3) + a1).toNatClampNeg) a2
    else
      fX10_wanted_L45 σ a1 a3 0 a2
def fX10_wanted (σ : sw_M) (a1 : Int32) : Option (Int32) :=
  if (fX10_isKind σ a1) = 0 then
    some ((-1))
  else
    sw_wh sw_F (fun s => fX10_wanted_L14 σ a1 s.1 s.2) (0, 0)
set_option maxRecDepth 20000 in
theorem sX10_wanted_L45 {l : Launch} {E : sw_E} {K : Nat} (hK : 2 ≤ K) (σ : sw_M) (a1 : Int32) (a3 : Int32) (b0 : Int32) (b1 : Int32) {res : Int32} {t : (Int32 × Int32) ⊕ (Int32)} (h : fX10_wanted_L45 σ a1 a3 b0 b1 = some t) (hk : (Sum.elim (fun s : Int32 × Int32 => sw_Go l E K RX10 cX10_wanted 4 (some .int) 14 [(0, .ref 49), (1, .int a1), (2, .int s.1), (3, .int s.2)] [] σ (some (.int res)) σ) (fun q => q = res)) t) : sw_Go l E K RX10 cX10_wanted 4 (some .int) 45 [(0, .ref 49), (1, .int a1), (3, .int a3)] [.int b0, .int b1] σ (some (.int res)) σ := by
  unfold fX10_wanted_L45 at h
  refine sw_iadd (by decide +kernel) ?_
  obtain ⟨v1, e2, h⟩ := sw_let_e h
  refine sw_topi e2 ?_
  refine sw_istore_n (k0 := 2) (lv' := [(2, .int v1), (0, .ref 49), (1, .int a1), (3, .int a3)]) (by decide +kernel) rfl (by decide) rfl ?_
  obtain ⟨v3, e4, h⟩ := sw_let_e h
  refine sw_iincv (i := 3) (n := 1) (lv' := [(3, .int v3), (2, .int v1), (0, .ref 49), (1, .int a1)]) 3 rfl e4 (by decide +kernel) (by decide) (by decide) rfl ?_
  refine sw_goto (off := (-36)) 14 (by decide +kernel) (by decide) ?_
  cases h
  refine sw_lv [2, 3, 1, 0] rfl ?_
  exact hk
set_option maxRecDepth 20000 in
theorem sX10_wanted_L14 {l : Launch} {E : sw_E} {K : Nat} (hK : 2 ≤ K) (σ : sw_M) (a1 : Int32) (a2 : Int32) (a3 : Int32) {res : Int32} {t : (Int32 × Int32) ⊕ (Int32)} (h : fX10_wanted_L14 σ a1 a2 a3 = some t) (hk : (Sum.elim (fun s : Int32 × Int32 => sw_Go l E K RX10 cX10_wanted 4 (some .int) 14 [(0, .ref 49), (1, .int a1), (2, .int s.1), (3, .int s.2)] [] σ (some (.int res)) σ) (fun q => q = res)) t) : sw_Go l E K RX10 cX10_wanted 4 (some .int) 14 [(0, .ref 49), (1, .int a1), (2, .int a2), (3, .int a3)] [] σ (some (.int res)) σ := by
  unfold fX10_wanted_L14 at h
  refine sw_iload_n (k0 := 3) 3 rfl (by decide +kernel) rfl ?_
  refine sw_aload_n (k0 := 0) 0 rfl (by decide +kernel) rfl ?_
  refine gf_X10_384 (i := 49) (by decide) rfl (by decide +kernel) ?_
  refine sw_icmp_ge (off := 34) 53 (by decide +kernel) (by decide) (fun c1 => ?_) (fun c1 => ?_)
  · rw [if_pos c1] at h
    refine sw_iload_n (k0 := 2) 2 rfl (by decide +kernel) rfl ?_
    cases h
    obtain rfl : _ = res := hk
    exact sw_iret (by decide +kernel)
  · rw [if_neg c1] at h
    refine sw_iload_n (k0 := 2) 2 rfl (by decide +kernel) rfl ?_
    refine sw_aload_n (k0 := 0) 0 rfl (by decide +kernel) rfl ?_
    refine sw_iload_n (k0 := 3) 3 rfl (by decide +kernel) rfl ?_
    refine sw_callVi (ci := 10) (i := 49) [.int a3] (sX10_isEased (K := K - 1) (by omega) σ a3 rfl) rfl (by omega) rfl gs_X10_461 hy_X10_isEased (by decide) (by decide) rfl rfl (Nat.le_of_ble_eq_true rfl) (by decide +kernel) ?_
    refine sw_if_eq (off := 7) 35 (by decide +kernel) (by decide) (fun c2 => ?_) (fun c2 => ?_)
    · rw [if_pos c2] at h
      refine sw_aload_n (k0 := 0) 0 rfl (by decide +kernel) rfl ?_
      refine gf_X10_54 (i := 49) (by decide) rfl (by decide +kernel) ?_
      refine sw_refj 63 rfl ?_
      refine sw_iconst (n := 5) (v := 5) (by decide +kernel) (by decide) ?_
      refine sw_iload_n (k0 := 3) 3 rfl (by decide +kernel) rfl ?_
      refine sw_imul (by decide +kernel) ?_
      refine sw_iload_n (k0 := 1) 1 rfl (by decide +kernel) rfl ?_
      refine sw_iadd (by decide +kernel) ?_
      obtain ⟨g3, h⟩ := sw_gd_e h
      refine sw_iaload (a := 63) (by decide) rfl (sw_in_e g3) (by decide +kernel) ?_
      refine sw_lv [0, 1, 3] rfl ?_
      exact sX10_wanted_L45 hK σ a1 a3 (σ.1 63 ((5 * a3) + a1).toNatClampNeg) a2 h hk
    · rw [if_neg c2] at h
      refine sw_iconst (n := 0) (v := 0) (by decide +kernel) (by decide) ?_
      refine sw_goto (off := 13) 45 (by decide +kernel) (by decide) ?_
      refine sw_lv [0, 1, 3] rfl ?_
      exact sX10_wanted_L45 hK σ a1 a3 0 a2 h hk
set_option maxRecDepth 20000 in
theorem sX10_wanted {l : Launch} {E : sw_E} {K : Nat} (hK : 2 ≤ K) (σ : sw_M) (a1 : Int32) {res : Int32} (h : fX10_wanted σ a1 = some res) : sw_Ct l E K yX10_wanted cX10_wanted 4 (some .int) [.ref 49, .int a1] σ (some (.int res)) σ := by
  obtain ⟨t, hk, h⟩ : ∃ t, t = res ∧ fX10_wanted σ a1 = some t := ⟨res, rfl, h⟩
  unfold fX10_wanted at h
  refine sw_enter2 (own := RX10) (lv := [(0, .ref 49), (1, .int a1)]) (by decide +kernel) (Nat.le_of_ble_eq_true rfl) rfl rfl ?_
  refine sw_aload_n (k0 := 0) 0 rfl (by decide +kernel) rfl ?_
  refine sw_iload_n (k0 := 1) 1 rfl (by decide +kernel) rfl ?_
  refine sw_callVi (ci := 10) (i := 49) [.int a1] (sX10_isKind (K := K - 1) (by omega) σ a1 rfl) rfl (by omega) rfl gs_X10_433 hy_X10_isKind (by decide) (by decide) rfl rfl (Nat.le_of_ble_eq_true rfl) (by decide +kernel) ?_
  refine sw_if_ne (off := 5) 10 (by decide +kernel) (by decide) (fun c1 => ?_) (fun c1 => ?_)
  · rw [if_neg c1] at h
    refine sw_iconst (n := 0) (v := 0) (by decide +kernel) (by decide) ?_
    refine sw_istore_n (k0 := 2) (lv' := [(2, .int 0), (0, .ref 49), (1, .int a1)]) (by decide +kernel) rfl (by decide) rfl ?_
    refine sw_iconst (n := 0) (v := 0) (by decide +kernel) (by decide) ?_
    refine sw_istore_n (k0 := 3) (lv' := [(3, .int 0), (2, .int 0), (0, .ref 49), (1, .int a1)]) (by decide +kernel) rfl (by decide) rfl ?_
    refine sw_lv [2, 3, 1, 0] rfl ?_
    exact sw_wh_e (fun s : Int32 × Int32 => sw_Go l E K RX10 cX10_wanted 4 (some .int) 14 [(0, .ref 49), (1, .int a1), (2, .int s.1), (3, .int s.2)] [] σ (some (.int res)) σ) (fun q => q = res) (fun s => fX10_wanted_L14 σ a1 s.1 s.2) (fun s t hb hk => sX10_wanted_L14 hK σ a1 s.1 s.2 hb hk) _ _ _ h hk
  · rw [if_pos c1] at h
    refine sw_iconst (n := (-1)) (v := (-1)) (by decide +kernel) (by decide) ?_
    cases h
    obtain rfl : _ = res := hk
    exact sw_iret (by decide +kernel)
