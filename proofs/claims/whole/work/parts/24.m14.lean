def fX10_works_L280 (σ : sw_M) (a1 : Int32) : Option ((Int32 × sw_M) ⊕ (Int32 × sw_M)) :=
  if 3 ≤ a1 then
    some (.inr ((σ.1 49 41, σ)))
  else
    sw_gd (sw_in a1 3) <|
    sw_let (sw_w σ 82 a1.toNatClampNeg (vp_nar .boolean 0)) fun m3 =>
    sw_let (a1 + 1) fun v5 =>
    some (.inl (v5, m3))
def fX10_works_L228 (σ : sw_M) (a1 : Int32) : Option ((Int32 × sw_M) ⊕ (Int32 × sw_M)) :=
  if 10 ≤ a1 then
    sw_let (sw_w σ 65 9 (σ.1 49 39)) fun m2 =>
    sw_let (sw_w m2 49 52 0) fun m4 =>
    sw_let (sw_w m4 49 53 0) fun m6 =>
    sw_let (sw_w m6 49 66 0) fun m8 =>
    sw_let (sw_w m8 49 57 0) fun m10 =>
    sw_up (sw_wh sw_F (fun s => fX10_works_L280 s.2 s.1) (0, m10))
  else
    sw_gd (sw_in a1 10) <|
    sw_let (sw_w σ 65 a1.toNatClampNeg 0) fun m14 =>
    sw_let (a1 + 1) fun v16 =>
    some (.inl (v16, m14))
def fX10_works_L198 (σ : sw_M) (a1 : Int32) : Option ((Int32 × sw_M) ⊕ (Int32 × sw_M)) :=
  if (4 * (σ.1 49 43)) ≤ a1 then
    sw_up (sw_wh sw_F (fun s => fX10_works_L228 s.2 s.1) (0, σ))
  else
    sw_gd (sw_in a1 24) <|
    sw_gd (sw_in a1 24) <|
    sw_let (sw_w σ 64 a1.toNatClampNeg (σ.1 61 a1.toNatClampNeg)) fun m5 =>
    sw_let (a1 + 1) fun v7 =>
    some (.inl (v7, m5))
def fX10_works_L168 (σ : sw_M) (a1 : Int32) : Option ((Int32 × sw_M) ⊕ (Int32 × sw_M)) :=
  if (5 * (σ.1 49 42)) ≤ a1 then
    sw_up (sw_wh sw_F (fun s => fX10_works_L198 s.2 s.1) (0, σ))
  else
    sw_gd (sw_in a1 20) <|
    sw_gd (sw_in a1 20) <|
    sw_let (sw_w σ 63 a1.toNatClampNeg (σ.1 60 a1.toNatClampNeg)) fun m5 =>
    sw_let (a1 + 1) fun v7 =>
    some (.inl (v7, m5))
def fX10_works_L138 (σ : sw_M) (a1 : Int32) : Option ((Int32 × sw_M) ⊕ (Int32 × sw_M)) :=
  if (5 * (σ.1 49 41)) ≤ a1 then
    sw_up (sw_wh sw_F (fun s => fX10_works_L168 s.2 s.1) (0, σ))
  else
    sw_gd (sw_in a1 35) <|
    sw_gd (sw_in a1 35) <|
    sw_let (sw_w σ 62 a1.toNatClampNeg (σ.1 59 a1.toNatClampNeg)) fun m5 =>
    sw_let (a1 + 1) fun v7 =>
    some (.inl (v7, m5))
def fX10_works_L98 (σ : sw_M) (a1 : Int32) : Option ((Int32 × sw_M) ⊕ (Int32 × sw_M)) :=
  if (σ.1 49 18) ≤ a1 then
    sw_up (sw_wh sw_F (fun s => fX10_works_L138 s.2 s.1) (0, σ))
  else
    sw_gd (sw_in a1 320) <|
    sw_gd (sw_in a1 320) <|
    sw_let (sw_w σ 54 a1.toNatClampNeg (σ.1 52 a1.toNatClampNeg)) fun m5 =>
    sw_gd (sw_in a1 320) <|
    sw_gd (sw_in a1 320) <|
    sw_let (sw_w m5 55 a1.toNatClampNeg (m5.1 53 a1.toNatClampNeg)) fun m9 =>
    sw_let (a1 + 1) fun v11 =>
    some (.inl (v11, m9))
def fX10_works_L93 (σ : sw_M) (b0 : Int32) : Option ((Int32 × sw_M)) :=
  sw_let (sw_w σ 49 18 b0) fun m1 =>
  sw_wh sw_F (fun s => fX10_works_L98 s.2 s.1) (0, m1)
def fX10_works (σ : sw_M) : Option (Int32 × sw_M) :=
  sw_b1 (fX10_readAll σ) fun m1 =>
  if (m1.1 49 2) ≤ 0 then
    sw_let (sw_w m1 49 40 (m1.1 49 33)) fun m4 =>
    sw_let (sw_w m4 49 41 (m4.1 49 34)) fun m6 =>
    sw_let (sw_w m6 49 42 (m6.1 49 35)) fun m8 =>
    sw_let (sw_w m8 49 43 (m8.1 49 36)) fun m10 =>
    sw_let (sw_w m10 49 44 (m10.1 49 37)) fun m12 =>
    sw_let (sw_w m12 49 45 (m12.1 49 38)) fun m14 =>
    sw_let (sw_w m14 49 21 (m14.1 49 20)) fun m16 =>
    sw_let (m16.1 49 24) fun v18 =>
    sw_gd (sw_bo v18) <|
    sw_let (sw_w m16 49 25 v18) fun m21 =>
    if (m21.1 49 24) = 0 then
      fX10_works_L93 m21 0
    else
      fX10_works_L93 m21 (m21.1 49 17)
  else
    some (((-1), m1))
set_option maxRecDepth 20000 in
theorem sX10_works_L280 {l : Launch} {E : sw_E} {K : Nat} (hK : 8 ≤ K) (σ : sw_M) (a1 : Int32) {res : Int32 × sw_M} {t : (Int32 × sw_M) ⊕ (Int32 × sw_M)} (h : fX10_works_L280 σ a1 = some t) (hk : (Sum.elim (fun s : Int32 × sw_M => sw_Go l E K RX10 cX10_works 2 (some .int) 280 [(0, .ref 49), (1, .int s.1)] [] s.2 (some (.int res.1)) res.2) (fun q => q = res)) t) : sw_Go l E K RX10 cX10_works 2 (some .int) 280 [(0, .ref 49), (1, .int a1)] [] σ (some (.int res.1)) res.2 := by
  unfold fX10_works_L280 at h
  refine sw_iload_n (k0 := 1) 1 rfl (by decide +kernel) rfl ?_
  refine sw_iconst (n := 3) (v := 3) (by decide +kernel) (by decide) ?_
  refine sw_icmp_ge (off := 16) 298 (by decide +kernel) (by decide) (fun c1 => ?_) (fun c1 => ?_)
  · rw [if_pos c1] at h
    refine sw_aload_n (k0 := 0) 0 rfl (by decide +kernel) rfl ?_
    refine gf_X10_381 (i := 49) (by decide) rfl (by decide +kernel) ?_
    cases h
    obtain rfl : _ = res := hk
    exact sw_iret (by decide +kernel)
  · rw [if_neg c1] at h
    refine sw_aload_n (k0 := 0) 0 rfl (by decide +kernel) rfl ?_
    refine gf_X10_112 (i := 49) (by decide) rfl (by decide +kernel) ?_
    refine sw_refj 82 rfl ?_
    refine sw_iload_n (k0 := 1) 1 rfl (by decide +kernel) rfl ?_
    refine sw_iconst (n := 0) (v := 0) (by decide +kernel) (by decide) ?_
    obtain ⟨g2, h⟩ := sw_gd_e h
    obtain ⟨m3, e4, h⟩ := sw_let_e h
    refine sw_zastore (a := 82) (by decide) rfl (sw_in_e g2) (by decide +kernel) ?_
    refine sw_mem e4 ?_
    obtain ⟨v5, e6, h⟩ := sw_let_e h
    refine sw_iincv (i := 1) (n := 1) (lv' := [(1, .int v5), (0, .ref 49)]) 1 rfl e6 (by decide +kernel) (by decide) (by decide) rfl ?_
    refine sw_goto (off := (-15)) 280 (by decide +kernel) (by decide) ?_
    cases h
    refine sw_lv [1, 0] rfl ?_
    exact hk
set_option maxRecDepth 20000 in
theorem sX10_works_L228 {l : Launch} {E : sw_E} {K : Nat} (hK : 8 ≤ K) (σ : sw_M) (a1 : Int32) {res : Int32 × sw_M} {t : (Int32 × sw_M) ⊕ (Int32 × sw_M)} (h : fX10_works_L228 σ a1 = some t) (hk : (Sum.elim (fun s : Int32 × sw_M => sw_Go l E K RX10 cX10_works 2 (some .int) 228 [(0, .ref 49), (1, .int s.1)] [] s.2 (some (.int res.1)) res.2) (fun q => q = res)) t) : sw_Go l E K RX10 cX10_works 2 (some .int) 228 [(0, .ref 49), (1, .int a1)] [] σ (some (.int res.1)) res.2 := by
  unfold fX10_works_L228 at h
  refine sw_iload_n (k0 := 1) 1 rfl (by decide +kernel) rfl ?_
  refine sw_bipush (n := 10) (v := 10) (by decide +kernel) (by decide) ?_
  refine sw_icmp_ge (off := 16) 247 (by decide +kernel) (by decide) (fun c1 => ?_) (fun c1 => ?_)
  · rw [if_pos c1] at h
    refine sw_aload_n (k0 := 0) 0 rfl (by decide +kernel) rfl ?_
    refine gf_X10_60 (i := 49) (by decide) rfl (by decide +kernel) ?_
    refine sw_refj 65 rfl ?_
    refine sw_bipush (n := 9) (v := 9) (by decide +kernel) (by decide) ?_
    refine sw_aload_n (k0 := 0) 0 rfl (by decide +kernel) rfl ?_
    refine gf_X10_372 (i := 49) (by decide) rfl (by decide +kernel) ?_
    obtain ⟨m2, e3, h⟩ := sw_let_e h
    refine sw_iastore (a := 65) (by decide) rfl (sw_in_e (by decide)) (by decide +kernel) ?_
    refine sw_mem (e3.trans (show sw_w σ 65 9 (σ.1 49 39) = sw_w σ 65 (9 : Int32).toNatClampNeg (σ.1 49 39) from rfl)) ?_
    refine sw_aload_n (k0 := 0) 0 rfl (by decide +kernel) rfl ?_
    refine sw_iconst (n := 0) (v := 0) (by decide +kernel) (by decide) ?_
    obtain ⟨m4, e5, h⟩ := sw_let_e h
    refine pf_X10_399 (by decide) rfl (by decide +kernel) ?_
    refine sw_mem e5 ?_
    refine sw_aload_n (k0 := 0) 0 rfl (by decide +kernel) rfl ?_
    refine sw_iconst (n := 0) (v := 0) (by decide +kernel) (by decide) ?_
    obtain ⟨m6, e7, h⟩ := sw_let_e h
    refine pf_X10_402 (by decide) rfl (by decide +kernel) ?_
    refine sw_mem e7 ?_
    refine sw_aload_n (k0 := 0) 0 rfl (by decide +kernel) rfl ?_
    refine sw_iconst (n := 0) (v := 0) (by decide +kernel) (by decide) ?_
    obtain ⟨m8, e9, h⟩ := sw_let_e h
    refine pf_X10_405 (by decide) rfl (by decide +kernel) ?_
    refine sw_mem e9 ?_
    refine sw_aload_n (k0 := 0) 0 rfl (by decide +kernel) rfl ?_
    refine sw_iconst (n := 0) (v := 0) (by decide +kernel) (by decide) ?_
    obtain ⟨m10, e11, h⟩ := sw_let_e h
    refine pf_X10_408 (by decide) rfl (by decide +kernel) ?_
    refine sw_mem e11 ?_
    refine sw_iconst (n := 0) (v := 0) (by decide +kernel) (by decide) ?_
    refine sw_istore_n (k0 := 1) (lv' := [(1, .int 0), (0, .ref 49)]) (by decide +kernel) rfl (by decide) rfl ?_
    obtain ⟨q11, h11, rfl⟩ := sw_up_e h
    replace h := h11
    refine sw_lv [1, 0] rfl ?_
    exact sw_wh_e (fun s : Int32 × sw_M => sw_Go l E K RX10 cX10_works 2 (some .int) 280 [(0, .ref 49), (1, .int s.1)] [] s.2 (some (.int res.1)) res.2) (fun q => q = res) (fun s => fX10_works_L280 s.2 s.1) (fun s t hb hk => sX10_works_L280 hK s.2 s.1 hb hk) _ _ _ h hk
  · rw [if_neg c1] at h
    refine sw_aload_n (k0 := 0) 0 rfl (by decide +kernel) rfl ?_
    refine gf_X10_60 (i := 49) (by decide) rfl (by decide +kernel) ?_
    refine sw_refj 65 rfl ?_
    refine sw_iload_n (k0 := 1) 1 rfl (by decide +kernel) rfl ?_
    refine sw_iconst (n := 0) (v := 0) (by decide +kernel) (by decide) ?_
    obtain ⟨g13, h⟩ := sw_gd_e h
    obtain ⟨m14, e15, h⟩ := sw_let_e h
    refine sw_iastore (a := 65) (by decide) rfl (sw_in_e g13) (by decide +kernel) ?_
    refine sw_mem e15 ?_
    obtain ⟨v16, e17, h⟩ := sw_let_e h
    refine sw_iincv (i := 1) (n := 1) (lv' := [(1, .int v16), (0, .ref 49)]) 1 rfl e17 (by decide +kernel) (by decide) (by decide) rfl ?_
    refine sw_goto (off := (-16)) 228 (by decide +kernel) (by decide) ?_
    cases h
    refine sw_lv [1, 0] rfl ?_
    exact hk
set_option maxRecDepth 20000 in
theorem sX10_works_L198 {l : Launch} {E : sw_E} {K : Nat} (hK : 8 ≤ K) (σ : sw_M) (a1 : Int32) {res : Int32 × sw_M} {t : (Int32 × sw_M) ⊕ (Int32 × sw_M)} (h : fX10_works_L198 σ a1 = some t) (hk : (Sum.elim (fun s : Int32 × sw_M => sw_Go l E K RX10 cX10_works 2 (some .int) 198 [(0, .ref 49), (1, .int s.1)] [] s.2 (some (.int res.1)) res.2) (fun q => q = res)) t) : sw_Go l E K RX10 cX10_works 2 (some .int) 198 [(0, .ref 49), (1, .int a1)] [] σ (some (.int res.1)) res.2 := by
  unfold fX10_works_L198 at h
  refine sw_iload_n (k0 := 1) 1 rfl (by decide +kernel) rfl ?_
  refine sw_iconst (n := 4) (v := 4) (by decide +kernel) (by decide) ?_
  refine sw_aload_n (k0 := 0) 0 rfl (by decide +kernel) rfl ?_
  refine gf_X10_387 (i := 49) (by decide) rfl (by decide +kernel) ?_
  refine sw_imul (by decide +kernel) ?_
  refine sw_icmp_ge (off := 21) 226 (by decide +kernel) (by decide) (fun c1 => ?_) (fun c1 => ?_)
  · rw [if_pos c1] at h
    refine sw_iconst (n := 0) (v := 0) (by decide +kernel) (by decide) ?_
    refine sw_istore_n (k0 := 1) (lv' := [(1, .int 0), (0, .ref 49)]) (by decide +kernel) rfl (by decide) rfl ?_
    obtain ⟨q1, h1, rfl⟩ := sw_up_e h
    replace h := h1
    refine sw_lv [1, 0] rfl ?_
    exact sw_wh_e (fun s : Int32 × sw_M => sw_Go l E K RX10 cX10_works 2 (some .int) 228 [(0, .ref 49), (1, .int s.1)] [] s.2 (some (.int res.1)) res.2) (fun q => q = res) (fun s => fX10_works_L228 s.2 s.1) (fun s t hb hk => sX10_works_L228 hK s.2 s.1 hb hk) _ _ _ h hk
  · rw [if_neg c1] at h
    refine sw_aload_n (k0 := 0) 0 rfl (by decide +kernel) rfl ?_
    refine gf_X10_57 (i := 49) (by decide) rfl (by decide +kernel) ?_
    refine sw_refj 64 rfl ?_
    refine sw_iload_n (k0 := 1) 1 rfl (by decide +kernel) rfl ?_
    refine sw_aload_n (k0 := 0) 0 rfl (by decide +kernel) rfl ?_
    refine gf_X10_48 (i := 49) (by decide) rfl (by decide +kernel) ?_
    refine sw_refj 61 rfl ?_
    refine sw_iload_n (k0 := 1) 1 rfl (by decide +kernel) rfl ?_
    obtain ⟨g3, h⟩ := sw_gd_e h
    refine sw_iaload (a := 61) (by decide) rfl (sw_in_e g3) (by decide +kernel) ?_
    obtain ⟨g4, h⟩ := sw_gd_e h
    obtain ⟨m5, e6, h⟩ := sw_let_e h
    refine sw_iastore (a := 64) (by decide) rfl (sw_in_e g4) (by decide +kernel) ?_
    refine sw_mem e6 ?_
    obtain ⟨v7, e8, h⟩ := sw_let_e h
    refine sw_iincv (i := 1) (n := 1) (lv' := [(1, .int v7), (0, .ref 49)]) 1 rfl e8 (by decide +kernel) (by decide) (by decide) rfl ?_
    refine sw_goto (off := (-25)) 198 (by decide +kernel) (by decide) ?_
    cases h
    refine sw_lv [1, 0] rfl ?_
    exact hk
set_option maxRecDepth 20000 in
theorem sX10_works_L168 {l : Launch} {E : sw_E} {K : Nat} (hK : 8 ≤ K) (σ : sw_M) (a1 : Int32) {res : Int32 × sw_M} {t : (Int32 × sw_M) ⊕ (Int32 × sw_M)} (h : fX10_works_L168 σ a1 = some t) (hk : (Sum.elim (fun s : Int32 × sw_M => sw_Go l E K RX10 cX10_works 2 (some .int) 168 [(0, .ref 49), (1, .int s.1)] [] s.2 (some (.int res.1)) res.2) (fun q => q = res)) t) : sw_Go l E K RX10 cX10_works 2 (some .int) 168 [(0, .ref 49), (1, .int a1)] [] σ (some (.int res.1)) res.2 := by
  unfold fX10_works_L168 at h
  refine sw_iload_n (k0 := 1) 1 rfl (by decide +kernel) rfl ?_
  refine sw_iconst (n := 5) (v := 5) (by decide +kernel) (by decide) ?_
  refine sw_aload_n (k0 := 0) 0 rfl (by decide +kernel) rfl ?_
  refine gf_X10_384 (i := 49) (by decide) rfl (by decide +kernel) ?_
  refine sw_imul (by decide +kernel) ?_
  refine sw_icmp_ge (off := 21) 196 (by decide +kernel) (by decide) (fun c1 => ?_) (fun c1 => ?_)
  · rw [if_pos c1] at h
    refine sw_iconst (n := 0) (v := 0) (by decide +kernel) (by decide) ?_
    refine sw_istore_n (k0 := 1) (lv' := [(1, .int 0), (0, .ref 49)]) (by decide +kernel) rfl (by decide) rfl ?_
    obtain ⟨q1, h1, rfl⟩ := sw_up_e h
    replace h := h1
    refine sw_lv [1, 0] rfl ?_
    exact sw_wh_e (fun s : Int32 × sw_M => sw_Go l E K RX10 cX10_works 2 (some .int) 198 [(0, .ref 49), (1, .int s.1)] [] s.2 (some (.int res.1)) res.2) (fun q => q = res) (fun s => fX10_works_L198 s.2 s.1) (fun s t hb hk => sX10_works_L198 hK s.2 s.1 hb hk) _ _ _ h hk
  · rw [if_neg c1] at h
    refine sw_aload_n (k0 := 0) 0 rfl (by decide +kernel) rfl ?_
    refine gf_X10_54 (i := 49) (by decide) rfl (by decide +kernel) ?_
    refine sw_refj 63 rfl ?_
    refine sw_iload_n (k0 := 1) 1 rfl (by decide +kernel) rfl ?_
    refine sw_aload_n (k0 := 0) 0 rfl (by decide +kernel) rfl ?_
    refine gf_X10_45 (i := 49) (by decide) rfl (by decide +kernel) ?_
    refine sw_refj 60 rfl ?_
    refine sw_iload_n (k0 := 1) 1 rfl (by decide +kernel) rfl ?_
    obtain ⟨g3, h⟩ := sw_gd_e h
    refine sw_iaload (a := 60) (by decide) rfl (sw_in_e g3) (by decide +kernel) ?_
    obtain ⟨g4, h⟩ := sw_gd_e h
    obtain ⟨m5, e6, h⟩ := sw_let_e h
    refine sw_iastore (a := 63) (by decide) rfl (sw_in_e g4) (by decide +kernel) ?_
    refine sw_mem e6 ?_
    obtain ⟨v7, e8, h⟩ := sw_let_e h
    refine sw_iincv (i := 1) (n := 1) (lv' := [(1, .int v7), (0, .ref 49)]) 1 rfl e8 (by decide +kernel) (by decide) (by decide) rfl ?_
    refine sw_goto (off := (-25)) 168 (by decide +kernel) (by decide) ?_
    cases h
    refine sw_lv [1, 0] rfl ?_
    exact hk
set_option maxRecDepth 20000 in
theorem sX10_works_L138 {l : Launch} {E : sw_E} {K : Nat} (hK : 8 ≤ K) (σ : sw_M) (a1 : Int32) {res : Int32 × sw_M} {t : (Int32 × sw_M) ⊕ (Int32 × sw_M)} (h : fX10_works_L138 σ a1 = some t) (hk : (Sum.elim (fun s : Int32 × sw_M => sw_Go l E K RX10 cX10_works 2 (some .int) 138 [(0, .ref 49), (1, .int s.1)] [] s.2 (some (.int res.1)) res.2) (fun q => q = res)) t) : sw_Go l E K RX10 cX10_works 2 (some .int) 138 [(0, .ref 49), (1, .int a1)] [] σ (some (.int res.1)) res.2 := by
  unfold fX10_works_L138 at h
  refine sw_iload_n (k0 := 1) 1 rfl (by decide +kernel) rfl ?_
  refine sw_iconst (n := 5) (v := 5) (by decide +kernel) (by decide) ?_
  refine sw_aload_n (k0 := 0) 0 rfl (by decide +kernel) rfl ?_
  refine gf_X10_381 (i := 49) (by decide) rfl (by decide +kernel) ?_
  refine sw_imul (by decide +kernel) ?_
  refine sw_icmp_ge (off := 21) 166 (by decide +kernel) (by decide) (fun c1 => ?_) (fun c1 => ?_)
  · rw [if_pos c1] at h
    refine sw_iconst (n := 0) (v := 0) (by decide +kernel) (by decide) ?_
    refine sw_istore_n (k0 := 1) (lv' := [(1, .int 0), (0, .ref 49)]) (by decide +kernel) rfl (by decide) rfl ?_
    obtain ⟨q1, h1, rfl⟩ := sw_up_e h
    replace h := h1
    refine sw_lv [1, 0] rfl ?_
    exact sw_wh_e (fun s : Int32 × sw_M => sw_Go l E K RX10 cX10_works 2 (some .int) 168 [(0, .ref 49), (1, .int s.1)] [] s.2 (some (.int res.1)) res.2) (fun q => q = res) (fun s => fX10_works_L168 s.2 s.1) (fun s t hb hk => sX10_works_L168 hK s.2 s.1 hb hk) _ _ _ h hk
  · rw [if_neg c1] at h
    refine sw_aload_n (k0 := 0) 0 rfl (by decide +kernel) rfl ?_
    refine gf_X10_51 (i := 49) (by decide) rfl (by decide +kernel) ?_
    refine sw_refj 62 rfl ?_
    refine sw_iload_n (k0 := 1) 1 rfl (by decide +kernel) rfl ?_
    refine sw_aload_n (k0 := 0) 0 rfl (by decide +kernel) rfl ?_
    refine gf_X10_42 (i := 49) (by decide) rfl (by decide +kernel) ?_
    refine sw_refj 59 rfl ?_
    refine sw_iload_n (k0 := 1) 1 rfl (by decide +kernel) rfl ?_
    obtain ⟨g3, h⟩ := sw_gd_e h
    refine sw_iaload (a := 59) (by decide) rfl (sw_in_e g3) (by decide +kernel) ?_
    obtain ⟨g4, h⟩ := sw_gd_e h
    obtain ⟨m5, e6, h⟩ := sw_let_e h
    refine sw_iastore (a := 62) (by decide) rfl (sw_in_e g4) (by decide +kernel) ?_
    refine sw_mem e6 ?_
    obtain ⟨v7, e8, h⟩ := sw_let_e h
    refine sw_iincv (i := 1) (n := 1) (lv' := [(1, .int v7), (0, .ref 49)]) 1 rfl e8 (by decide +kernel) (by decide) (by decide) rfl ?_
    refine sw_goto (off := (-25)) 138 (by decide +kernel) (by decide) ?_
    cases h
    refine sw_lv [1, 0] rfl ?_
    exact hk
set_option maxRecDepth 20000 in
theorem sX10_works_L98 {l : Launch} {E : sw_E} {K : Nat} (hK : 8 ≤ K) (σ : sw_M) (a1 : Int32) {res : Int32 × sw_M} {t : (Int32 × sw_M) ⊕ (Int32 × sw_M)} (h : fX10_works_L98 σ a1 = some t) (hk : (Sum.elim (fun s : Int32 × sw_M => sw_Go l E K RX10 cX10_works 2 (some .int) 98 [(0, .ref 49), (1, .int s.1)] [] s.2 (some (.int res.1)) res.2) (fun q => q = res)) t) : sw_Go l E K RX10 cX10_works 2 (some .int) 98 [(0, .ref 49), (1, .int a1)] [] σ (some (.int res.1)) res.2 := by
  unfold fX10_works_L98 at h
  refine sw_iload_n (k0 := 1) 1 rfl (by decide +kernel) rfl ?_
  refine sw_aload_n (k0 := 0) 0 rfl (by decide +kernel) rfl ?_
  refine gf_X10_309 (i := 49) (by decide) rfl (by decide +kernel) ?_
  refine sw_icmp_ge (off := 33) 136 (by decide +kernel) (by decide) (fun c1 => ?_) (fun c1 => ?_)
  · rw [if_pos c1] at h
    refine sw_iconst (n := 0) (v := 0) (by decide +kernel) (by decide) ?_
    refine sw_istore_n (k0 := 1) (lv' := [(1, .int 0), (0, .ref 49)]) (by decide +kernel) rfl (by decide) rfl ?_
    obtain ⟨q1, h1, rfl⟩ := sw_up_e h
    replace h := h1
    refine sw_lv [1, 0] rfl ?_
    exact sw_wh_e (fun s : Int32 × sw_M => sw_Go l E K RX10 cX10_works 2 (some .int) 138 [(0, .ref 49), (1, .int s.1)] [] s.2 (some (.int res.1)) res.2) (fun q => q = res) (fun s => fX10_works_L138 s.2 s.1) (fun s t hb hk => sX10_works_L138 hK s.2 s.1 hb hk) _ _ _ h hk
  · rw [if_neg c1] at h
    refine sw_aload_n (k0 := 0) 0 rfl (by decide +kernel) rfl ?_
    refine gf_X10_27 (i := 49) (by decide) rfl (by decide +kernel) ?_
    refine sw_refj 54 rfl ?_
    refine sw_iload_n (k0 := 1) 1 rfl (by decide +kernel) rfl ?_
    refine sw_aload_n (k0 := 0) 0 rfl (by decide +kernel) rfl ?_
    refine gf_X10_21 (i := 49) (by decide) rfl (by decide +kernel) ?_
    refine sw_refj 52 rfl ?_
    refine sw_iload_n (k0 := 1) 1 rfl (by decide +kernel) rfl ?_
    obtain ⟨g3, h⟩ := sw_gd_e h
    refine sw_iaload (a := 52) (by decide) rfl (sw_in_e g3) (by decide +kernel) ?_
    obtain ⟨g4, h⟩ := sw_gd_e h
    obtain ⟨m5, e6, h⟩ := sw_let_e h
    refine sw_iastore (a := 54) (by decide) rfl (sw_in_e g4) (by decide +kernel) ?_
    refine sw_mem e6 ?_
    refine sw_aload_n (k0 := 0) 0 rfl (by decide +kernel) rfl ?_
    refine gf_X10_30 (i := 49) (by decide) rfl (by decide +kernel) ?_
    refine sw_refj 55 rfl ?_
    refine sw_iload_n (k0 := 1) 1 rfl (by decide +kernel) rfl ?_
    refine sw_aload_n (k0 := 0) 0 rfl (by decide +kernel) rfl ?_
    refine gf_X10_24 (i := 49) (by decide) rfl (by decide +kernel) ?_
    refine sw_refj 53 rfl ?_
    refine sw_iload_n (k0 := 1) 1 rfl (by decide +kernel) rfl ?_
    obtain ⟨g7, h⟩ := sw_gd_e h
    refine sw_iaload (a := 53) (by decide) rfl (sw_in_e g7) (by decide +kernel) ?_
    obtain ⟨g8, h⟩ := sw_gd_e h
    obtain ⟨m9, e10, h⟩ := sw_let_e h
    refine sw_iastore (a := 55) (by decide) rfl (sw_in_e g8) (by decide +kernel) ?_
    refine sw_mem e10 ?_
    obtain ⟨v11, e12, h⟩ := sw_let_e h
    refine sw_iincv (i := 1) (n := 1) (lv' := [(1, .int v11), (0, .ref 49)]) 1 rfl e12 (by decide +kernel) (by decide) (by decide) rfl ?_
    refine sw_goto (off := (-35)) 98 (by decide +kernel) (by decide) ?_
    cases h
    refine sw_lv [1, 0] rfl ?_
    exact hk
set_option maxRecDepth 20000 in
theorem sX10_works_L93 {l : Launch} {E : sw_E} {K : Nat} (hK : 8 ≤ K) (σ : sw_M) (b0 : Int32) {res : Int32 × sw_M} {t : (Int32 × sw_M)} (h : fX10_works_L93 σ b0 = some t) (hk : (fun q => q = res) t) : sw_Go l E K RX10 cX10_works 2 (some .int) 93 [(0, .ref 49)] [.int b0, .ref 49] σ (some (.int res.1)) res.2 := by
  unfold fX10_works_L93 at h
  obtain ⟨m1, e2, h⟩ := sw_let_e h
  refine pf_X10_309 (by decide) rfl (by decide +kernel) ?_
  refine sw_mem e2 ?_
  refine sw_iconst (n := 0) (v := 0) (by decide +kernel) (by decide) ?_
  refine sw_istore_n (k0 := 1) (lv' := [(1, .int 0), (0, .ref 49)]) (by decide +kernel) rfl (by decide) rfl ?_
  refine sw_lv [1, 0] rfl ?_
  exact sw_wh_e (fun s : Int32 × sw_M => sw_Go l E K RX10 cX10_works 2 (some .int) 98 [(0, .ref 49), (1, .int s.1)] [] s.2 (some (.int res.1)) res.2) (fun q => q = res) (fun s => fX10_works_L98 s.2 s.1) (fun s t hb hk => sX10_works_L98 hK s.2 s.1 hb hk) _ _ _ h hk
set_option maxRecDepth 20000 in
theorem sX10_works {l : Launch} {E : sw_E} {K : Nat} (hK : 8 ≤ K) (σ : sw_M) {res : Int32 × sw_M} (h : fX10_works σ = some res) : sw_Ct l E K yX10_works cX10_works 2 (some .int) [.ref 49] σ (some (.int res.1)) res.2 := by
  obtain ⟨t, hk, h⟩ : ∃ t, t = res ∧ fX10_works σ = some t := ⟨res, rfl, h⟩
  unfold fX10_works at h
  refine sw_enter2 (own := RX10) (lv := [(0, .ref 49)]) (by decide +kernel) (Nat.le_of_ble_eq_true rfl) rfl rfl ?_
  refine sw_aload_n (k0 := 0) 0 rfl (by decide +kernel) rfl ?_
  obtain ⟨m1, w2, h⟩ := sw_b1_e h
  refine sw_callVv (ci := 10) (i := 49) [] (sX10_readAll (K := K - 1) (by omega) σ w2) rfl (by omega) rfl gs_X10_378 hy_X10_readAll (by decide) (by decide) rfl rfl (Nat.le_of_ble_eq_true rfl) (by decide +kernel) ?_
  refine sw_aload_n (k0 := 0) 0 rfl (by decide +kernel) rfl ?_
  refine gf_X10_158 (i := 49) (by decide) rfl (by decide +kernel) ?_
  refine sw_if_le (off := 5) 13 (by decide +kernel) (by decide) (fun c3 => ?_) (fun c3 => ?_)
  · rw [if_pos c3] at h
    refine sw_aload_n (k0 := 0) 0 rfl (by decide +kernel) rfl ?_
    refine sw_aload_n (k0 := 0) 0 rfl (by decide +kernel) rfl ?_
    refine gf_X10_227 (i := 49) (by decide) rfl (by decide +kernel) ?_
    obtain ⟨m4, e5, h⟩ := sw_let_e h
    refine pf_X10_291 (by decide) rfl (by decide +kernel) ?_
    refine sw_mem e5 ?_
    refine sw_aload_n (k0 := 0) 0 rfl (by decide +kernel) rfl ?_
    refine sw_aload_n (k0 := 0) 0 rfl (by decide +kernel) rfl ?_
    refine gf_X10_329 (i := 49) (by decide) rfl (by decide +kernel) ?_
    obtain ⟨m6, e7, h⟩ := sw_let_e h
    refine pf_X10_381 (by decide) rfl (by decide +kernel) ?_
    refine sw_mem e7 ?_
    refine sw_aload_n (k0 := 0) 0 rfl (by decide +kernel) rfl ?_
    refine sw_aload_n (k0 := 0) 0 rfl (by decide +kernel) rfl ?_
    refine gf_X10_338 (i := 49) (by decide) rfl (by decide +kernel) ?_
    obtain ⟨m8, e9, h⟩ := sw_let_e h
    refine pf_X10_384 (by decide) rfl (by decide +kernel) ?_
    refine sw_mem e9 ?_
    refine sw_aload_n (k0 := 0) 0 rfl (by decide +kernel) rfl ?_
    refine sw_aload_n (k0 := 0) 0 rfl (by decide +kernel) rfl ?_
    refine gf_X10_341 (i := 49) (by decide) rfl (by decide +kernel) ?_
    obtain ⟨m10, e11, h⟩ := sw_let_e h
    refine pf_X10_387 (by decide) rfl (by decide +kernel) ?_
    refine sw_mem e11 ?_
    refine sw_aload_n (k0 := 0) 0 rfl (by decide +kernel) rfl ?_
    refine sw_aload_n (k0 := 0) 0 rfl (by decide +kernel) rfl ?_
    refine gf_X10_335 (i := 49) (by decide) rfl (by decide +kernel) ?_
    obtain ⟨m12, e13, h⟩ := sw_let_e h
    refine pf_X10_390 (by decide) rfl (by decide +kernel) ?_
    refine sw_mem e13 ?_
    refine sw_aload_n (k0 := 0) 0 rfl (by decide +kernel) rfl ?_
    refine sw_aload_n (k0 := 0) 0 rfl (by decide +kernel) rfl ?_
    refine gf_X10_366 (i := 49) (by decide) rfl (by decide +kernel) ?_
    obtain ⟨m14, e15, h⟩ := sw_let_e h
    refine pf_X10_393 (by decide) rfl (by decide +kernel) ?_
    refine sw_mem e15 ?_
    refine sw_aload_n (k0 := 0) 0 rfl (by decide +kernel) rfl ?_
    refine sw_aload_n (k0 := 0) 0 rfl (by decide +kernel) rfl ?_
    refine gf_X10_246 (i := 49) (by decide) rfl (by decide +kernel) ?_
    obtain ⟨m16, e17, h⟩ := sw_let_e h
    refine pf_X10_396 (by decide) rfl (by decide +kernel) ?_
    refine sw_mem e17 ?_
    refine sw_aload_n (k0 := 0) 0 rfl (by decide +kernel) rfl ?_
    refine sw_aload_n (k0 := 0) 0 rfl (by decide +kernel) rfl ?_
    refine gf_X10_268 (i := 49) (by decide) rfl (by decide +kernel) ?_
    obtain ⟨v18, e19, h⟩ := sw_let_e h
    refine sw_topi e19 ?_
    obtain ⟨g20, h⟩ := sw_gd_e h
    obtain ⟨m21, e22, h⟩ := sw_let_e h
    refine pf_X10_306 (sw_bo_e g20) (by decide) rfl (by decide +kernel) ?_
    refine sw_mem e22 ?_
    refine sw_aload_n (k0 := 0) 0 rfl (by decide +kernel) rfl ?_
    refine sw_aload_n (k0 := 0) 0 rfl (by decide +kernel) rfl ?_
    refine gf_X10_268 (i := 49) (by decide) rfl (by decide +kernel) ?_
    refine sw_if_eq (off := 10) 92 (by decide +kernel) (by decide) (fun c23 => ?_) (fun c23 => ?_)
    · rw [if_pos c23] at h
      refine sw_iconst (n := 0) (v := 0) (by decide +kernel) (by decide) ?_
      exact sX10_works_L93 hK m21 0 h hk
    · rw [if_neg c23] at h
      refine sw_aload_n (k0 := 0) 0 rfl (by decide +kernel) rfl ?_
      refine gf_X10_230 (i := 49) (by decide) rfl (by decide +kernel) ?_
      refine sw_goto (off := 4) 93 (by decide +kernel) (by decide) ?_
      exact sX10_works_L93 hK m21 (m21.1 49 17) h hk
  · rw [if_neg c3] at h
    refine sw_iconst (n := (-1)) (v := (-1)) (by decide +kernel) (by decide) ?_
    cases h
    obtain rfl : _ = res := hk
    exact sw_iret (by decide +kernel)
def fX10_fault (σ : sw_M) (a1 : Int32) : Int32 :=
  if a1 = 0 then
    σ.1 49 2
  else
    if a1 = 1 then
      σ.1 49 3
    else
      (-1)
set_option maxRecDepth 20000 in
theorem sX10_fault {l : Launch} {E : sw_E} {K : Nat} (hK : 0 ≤ K) (σ : sw_M) (a1 : Int32) {res : Int32} (h : fX10_fault σ a1 = res) : sw_Ct l E K yX10_fault cX10_fault 2 (some .int) [.ref 49, .int a1] σ (some (.int res)) σ := by
  obtain ⟨t, hk, h⟩ : ∃ t, t = res ∧ fX10_fault σ a1 = t := ⟨res, rfl, h⟩
  unfold fX10_fault at h
  refine sw_enter2 (own := RX10) (lv := [(0, .ref 49), (1, .int a1)]) (by decide +kernel) (Nat.le_of_ble_eq_true rfl) rfl rfl ?_
  refine sw_iload_n (k0 := 1) 1 rfl (by decide +kernel) rfl ?_
  refine sw_if_ne (off := 10) 11 (by decide +kernel) (by decide) (fun c1 => ?_) (fun c1 => ?_)
  · rw [if_neg c1] at h
    refine sw_iload_n (k0 := 1) 1 rfl (by decide +kernel) rfl ?_
    refine sw_iconst (n := 1) (v := 1) (by decide +kernel) (by decide) ?_
    refine sw_icmp_ne (off := 10) 23 (by decide +kernel) (by decide) (fun c2 => ?_) (fun c2 => ?_)
    · rw [if_neg c2] at h
      refine sw_iconst (n := (-1)) (v := (-1)) (by decide +kernel) (by decide) ?_
      subst h
      obtain rfl : _ = res := hk
      exact sw_iret (by decide +kernel)
    · rw [if_pos c2] at h
      refine sw_aload_n (k0 := 0) 0 rfl (by decide +kernel) rfl ?_
      refine gf_X10_13 (i := 49) (by decide) rfl (by decide +kernel) ?_
      refine sw_goto (off := 4) 24 (by decide +kernel) (by decide) ?_
      subst h
      obtain rfl : _ = res := hk
      exact sw_iret (by decide +kernel)
  · rw [if_pos c1] at h
    refine sw_aload_n (k0 := 0) 0 rfl (by decide +kernel) rfl ?_
    refine gf_X10_158 (i := 49) (by decide) rfl (by decide +kernel) ?_
    refine sw_goto (off := 16) 24 (by decide +kernel) (by decide) ?_
    subst h
    obtain rfl : _ = res := hk
    exact sw_iret (by decide +kernel)
def fX10_isIn (a0 : Int32) (a1 : Int32) (a2 : Int32) : Int32 :=
  if a0 < a1 then
    0
  else
    if a2 < a0 then
      0
    else
      1
set_option maxRecDepth 20000 in
theorem sX10_isIn {l : Launch} {E : sw_E} {K : Nat} (hK : 0 ≤ K) (σ : sw_M) (a0 : Int32) (a1 : Int32) (a2 : Int32) {res : Int32} (h : fX10_isIn a0 a1 a2 = res) : sw_Ct l E K yX10_isIn cX10_isIn 3 (some .boolean) [.int a0, .int a1, .int a2] σ (some (.int res)) σ := by
  obtain ⟨t, hk, h⟩ : ∃ t, t = res ∧ fX10_isIn a0 a1 a2 = t := ⟨res, rfl, h⟩
  unfold fX10_isIn at h
  refine sw_enter2 (own := RX10) (lv := [(0, .int a0), (1, .int a1), (2, .int a2)]) (by decide +kernel) (Nat.le_of_ble_eq_true rfl) rfl rfl ?_
  refine sw_iload_n (k0 := 0) 0 rfl (by decide +kernel) rfl ?_
  refine sw_iload_n (k0 := 1) 1 rfl (by decide +kernel) rfl ?_
  refine sw_icmp_lt (off := 12) 14 (by decide +kernel) (by decide) (fun c1 => ?_) (fun c1 => ?_)
  · rw [if_pos c1] at h
    refine sw_iconst (n := 0) (v := 0) (by decide +kernel) (by decide) ?_
    subst h
    obtain rfl : _ = res := hk
    exact sw_zret rfl (by decide +kernel)
  · rw [if_neg c1] at h
    refine sw_iload_n (k0 := 0) 0 rfl (by decide +kernel) rfl ?_
    refine sw_iload_n (k0 := 2) 2 rfl (by decide +kernel) rfl ?_
    refine sw_icmp_gt (off := 7) 14 (by decide +kernel) (by decide) (fun c2 => ?_) (fun c2 => ?_)
    · rw [if_pos c2] at h
      refine sw_iconst (n := 0) (v := 0) (by decide +kernel) (by decide) ?_
      subst h
      obtain rfl : _ = res := hk
      exact sw_zret rfl (by decide +kernel)
    · rw [if_neg c2] at h
      refine sw_iconst (n := 1) (v := 1) (by decide +kernel) (by decide) ?_
      refine sw_goto (off := 4) 15 (by decide +kernel) (by decide) ?_
      subst h
      obtain rfl : _ = res := hk
      exact sw_zret rfl (by decide +kernel)
theorem bX10_isIn (a0 : Int32) (a1 : Int32) (a2 : Int32) : fX10_isIn a0 a1 a2 = 0 ∨ fX10_isIn a0 a1 a2 = 1 := by
  simp only [fX10_isIn, sw_let]
  repeat' (first | exact Or.inl rfl | exact Or.inr rfl | refine sw_ite_bo ?_ ?_)
def fX10_isKind (σ : sw_M) (a1 : Int32) : Int32 :=
  fX10_isIn a1 0 ((σ.1 49 40) - 1)
set_option maxRecDepth 20000 in
theorem sX10_isKind {l : Launch} {E : sw_E} {K : Nat} (hK : 1 ≤ K) (σ : sw_M) (a1 : Int32) {res : Int32} (h : fX10_isKind σ a1 = res) : sw_Ct l E K yX10_isKind cX10_isKind 2 (some .boolean) [.ref 49, .int a1] σ (some (.int res)) σ := by
  obtain ⟨t, hk, h⟩ : ∃ t, t = res ∧ fX10_isKind σ a1 = t := ⟨res, rfl, h⟩
  unfold fX10_isKind at h
  refine sw_enter2 (own := RX10) (lv := [(0, .ref 49), (1, .int a1)]) (by decide +kernel) (Nat.le_of_ble_eq_true rfl) rfl rfl ?_
  refine sw_iload_n (k0 := 1) 1 rfl (by decide +kernel) rfl ?_
  refine sw_iconst (n := 0) (v := 0) (by decide +kernel) (by decide) ?_
  refine sw_aload_n (k0 := 0) 0 rfl (by decide +kernel) rfl ?_
  refine gf_X10_291 (i := 49) (by decide) rfl (by decide +kernel) ?_
  refine sw_iconst (n := 1) (v := 1) (by decide +kernel) (by decide) ?_
  refine sw_isub (by decide +kernel) ?_
  refine sw_callSi [.int a1, .int 0, .int ((σ.1 49 40) - 1)] (sX10_isIn (K := K - 1) (by omega) σ a1 0 ((σ.1 49 40) - 1) rfl) rfl (by omega) gs_X10_411 hy_X10_isIn (by decide) rfl (Nat.le_of_ble_eq_true rfl) (by decide +kernel) ?_
  subst h
  obtain rfl : _ = res := hk
  exact sw_zret (sw_bo_n (bX10_isIn a1 0 ((σ.1 49 40) - 1))) (by decide +kernel)
theorem bX10_isKind (σ : sw_M) (a1 : Int32) : fX10_isKind σ a1 = 0 ∨ fX10_isKind σ a1 = 1 := by
  simp only [fX10_isKind, sw_let]
  repeat' (first | exact Or.inl rfl | exact Or.inr rfl | exact (bX10_isIn a1 0 ((σ.1 49 40) - 1)) | refine sw_ite_bo ?_ ?_)
def fX10_isPerson (σ : sw_M) (a1 : Int32) : Int32 :=
  fX10_isIn a1 0 ((σ.1 49 41) - 1)
set_option maxRecDepth 20000 in
theorem sX10_isPerson {l : Launch} {E : sw_E} {K : Nat} (hK : 1 ≤ K) (σ : sw_M) (a1 : Int32) {res : Int32} (h : fX10_isPerson σ a1 = res) : sw_Ct l E K yX10_isPerson cX10_isPerson 2 (some .boolean) [.ref 49, .int a1] σ (some (.int res)) σ := by
  obtain ⟨t, hk, h⟩ : ∃ t, t = res ∧ fX10_isPerson σ a1 = t := ⟨res, rfl, h⟩
  unfold fX10_isPerson at h
  refine sw_enter2 (own := RX10) (lv := [(0, .ref 49), (1, .int a1)]) (by decide +kernel) (Nat.le_of_ble_eq_true rfl) rfl rfl ?_
  refine sw_iload_n (k0 := 1) 1 rfl (by decide +kernel) rfl ?_
  refine sw_iconst (n := 0) (v := 0) (by decide +kernel) (by decide) ?_
  refine sw_aload_n (k0 := 0) 0 rfl (by decide +kernel) rfl ?_
  refine gf_X10_381 (i := 49) (by decide) rfl (by decide +kernel) ?_
  refine sw_iconst (n := 1) (v := 1) (by decide +kernel) (by decide) ?_
  refine sw_isub (by decide +kernel) ?_
  refine sw_callSi [.int a1, .int 0, .int ((σ.1 49 41) - 1)] (sX10_isIn (K := K - 1) (by omega) σ a1 0 ((σ.1 49 41) - 1) rfl) rfl (by omega) gs_X10_411 hy_X10_isIn (by decide) rfl (Nat.le_of_ble_eq_true rfl) (by decide +kernel) ?_
  subst h
  obtain rfl : _ = res := hk
  exact sw_zret (sw_bo_n (bX10_isIn a1 0 ((σ.1 49 41) - 1))) (by decide +kernel)
theorem bX10_isPerson (σ : sw_M) (a1 : Int32) : fX10_isPerson σ a1 = 0 ∨ fX10_isPerson σ a1 = 1 := by
  simp only [fX10_isPerson, sw_let]
  repeat' (first | exact Or.inl rfl | exact Or.inr rfl | exact (bX10_isIn a1 0 ((σ.1 49 41) - 1)) | refine sw_ite_bo ?_ ?_)
def fX10_isBasin (σ : sw_M) (a1 : Int32) : Int32 :=
  fX10_isIn a1 0 ((σ.1 49 42) - 1)
set_option maxRecDepth 20000 in
theorem sX10_isBasin {l : Launch} {E : sw_E} {K : Nat} (hK : 1 ≤ K) (σ : sw_M) (a1 : Int32) {res : Int32} (h : fX10_isBasin σ a1 = res) : sw_Ct l E K yX10_isBasin cX10_isBasin 2 (some .boolean) [.ref 49, .int a1] σ (some (.int res)) σ := by
  obtain ⟨t, hk, h⟩ : ∃ t, t = res ∧ fX10_isBasin σ a1 = t := ⟨res, rfl, h⟩
  unfold fX10_isBasin at h
  refine sw_enter2 (own := RX10) (lv := [(0, .ref 49), (1, .int a1)]) (by decide +kernel) (Nat.le_of_ble_eq_true rfl) rfl rfl ?_
  refine sw_iload_n (k0 := 1) 1 rfl (by decide +kernel) rfl ?_
  refine sw_iconst (n := 0) (v := 0) (by decide +kernel) (by decide) ?_
  refine sw_aload_n (k0 := 0) 0 rfl (by decide +kernel) rfl ?_
  refine gf_X10_384 (i := 49) (by decide) rfl (by decide +kernel) ?_
  refine sw_iconst (n := 1) (v := 1) (by decide +kernel) (by decide) ?_
  refine sw_isub (by decide +kernel) ?_
  refine sw_callSi [.int a1, .int 0, .int ((σ.1 49 42) - 1)] (sX10_isIn (K := K - 1) (by omega) σ a1 0 ((σ.1 49 42) - 1) rfl) rfl (by omega) gs_X10_411 hy_X10_isIn (by decide) rfl (Nat.le_of_ble_eq_true rfl) (by decide +kernel) ?_
  subst h
  obtain rfl : _ = res := hk
  exact sw_zret (sw_bo_n (bX10_isIn a1 0 ((σ.1 49 42) - 1))) (by decide +kernel)
theorem bX10_isBasin (σ : sw_M) (a1 : Int32) : fX10_isBasin σ a1 = 0 ∨ fX10_isBasin σ a1 = 1 := by
  simp only [fX10_isBasin, sw_let]
  repeat' (first | exact Or.inl rfl | exact Or.inr rfl | exact (bX10_isIn a1 0 ((σ.1 49 42) - 1)) | refine sw_ite_bo ?_ ?_)
def fX10_isRule (σ : sw_M) (a1 : Int32) : Int32 :=
  fX10_isIn a1 0 ((σ.1 49 43) - 1)
set_option maxRecDepth 20000 in
theorem sX10_isRule {l : Launch} {E : sw_E} {K : Nat} (hK : 1 ≤ K) (σ : sw_M) (a1 : Int32) {res : Int32} (h : fX10_isRule σ a1 = res) : sw_Ct l E K yX10_isRule cX10_isRule 2 (some .boolean) [.ref 49, .int a1] σ (some (.int res)) σ := by
  obtain ⟨t, hk, h⟩ : ∃ t, t = res ∧ fX10_isRule σ a1 = t := ⟨res, rfl, h⟩
  unfold fX10_isRule at h
  refine sw_enter2 (own := RX10) (lv := [(0, .ref 49), (1, .int a1)]) (by decide +kernel) (Nat.le_of_ble_eq_true rfl) rfl rfl ?_
  refine sw_iload_n (k0 := 1) 1 rfl (by decide +kernel) rfl ?_
  refine sw_iconst (n := 0) (v := 0) (by decide +kernel) (by decide) ?_
  refine sw_aload_n (k0 := 0) 0 rfl (by decide +kernel) rfl ?_
  refine gf_X10_387 (i := 49) (by decide) rfl (by decide +kernel) ?_
  refine sw_iconst (n := 1) (v := 1) (by decide +kernel) (by decide) ?_
  refine sw_isub (by decide +kernel) ?_
  refine sw_callSi [.int a1, .int 0, .int ((σ.1 49 43) - 1)] (sX10_isIn (K := K - 1) (by omega) σ a1 0 ((σ.1 49 43) - 1) rfl) rfl (by omega) gs_X10_411 hy_X10_isIn (by decide) rfl (Nat.le_of_ble_eq_true rfl) (by decide +kernel) ?_
  subst h
  obtain rfl : _ = res := hk
  exact sw_zret (sw_bo_n (bX10_isIn a1 0 ((σ.1 49 43) - 1))) (by decide +kernel)
theorem bX10_isRule (σ : sw_M) (a1 : Int32) : fX10_isRule σ a1 = 0 ∨ fX10_isRule σ a1 = 1 := by
  simp only [fX10_isRule, sw_let]
  repeat' (first | exact Or.inl rfl | exact Or.inr rfl | exact (bX10_isIn a1 0 ((σ.1 49 43) - 1)) | refine sw_ite_bo ?_ ?_)
def fX10_fill_L2 (σ : sw_M) (a1 : Int32) : Option ((Int32 × sw_M) ⊕ (sw_M)) :=
  if 10 ≤ a1 then
    some (.inr (σ))
  else
    sw_gd (sw_in a1 10) <|
    sw_gd (sw_in a1 10) <|
    sw_let (sw_w σ 66 a1.toNatClampNeg (σ.1 65 a1.toNatClampNeg)) fun m4 =>
    sw_let (a1 + 1) fun v6 =>
    some (.inl (v6, m4))
def fX10_fill (σ : sw_M) : Option (sw_M) :=
  sw_wh sw_F (fun s => fX10_fill_L2 s.2 s.1) (0, σ)
set_option maxRecDepth 20000 in
theorem sX10_fill_L2 {l : Launch} {E : sw_E} {K : Nat} (hK : 0 ≤ K) (σ : sw_M) (a1 : Int32) {res : sw_M} {t : (Int32 × sw_M) ⊕ (sw_M)} (h : fX10_fill_L2 σ a1 = some t) (hk : (Sum.elim (fun s : Int32 × sw_M => sw_Go l E K RX10 cX10_fill 2 none 2 [(0, .ref 49), (1, .int s.1)] [] s.2 none res) (fun q => q = res)) t) : sw_Go l E K RX10 cX10_fill 2 none 2 [(0, .ref 49), (1, .int a1)] [] σ none res := by
  unfold fX10_fill_L2 at h
  refine sw_iload_n (k0 := 1) 1 rfl (by decide +kernel) rfl ?_
  refine sw_bipush (n := 10) (v := 10) (by decide +kernel) (by decide) ?_
  refine sw_icmp_ge (off := 21) 26 (by decide +kernel) (by decide) (fun c1 => ?_) (fun c1 => ?_)
  · rw [if_pos c1] at h
    cases h
    obtain rfl : _ = res := hk
    exact sw_vret (by decide +kernel)
  · rw [if_neg c1] at h
    refine sw_aload_n (k0 := 0) 0 rfl (by decide +kernel) rfl ?_
    refine gf_X10_63 (i := 49) (by decide) rfl (by decide +kernel) ?_
    refine sw_refj 66 rfl ?_
    refine sw_iload_n (k0 := 1) 1 rfl (by decide +kernel) rfl ?_
    refine sw_aload_n (k0 := 0) 0 rfl (by decide +kernel) rfl ?_
    refine gf_X10_60 (i := 49) (by decide) rfl (by decide +kernel) ?_
    refine sw_refj 65 rfl ?_
    refine sw_iload_n (k0 := 1) 1 rfl (by decide +kernel) rfl ?_
    obtain ⟨g2, h⟩ := sw_gd_e h
    refine sw_iaload (a := 65) (by decide) rfl (sw_in_e g2) (by decide +kernel) ?_
    obtain ⟨g3, h⟩ := sw_gd_e h
    obtain ⟨m4, e5, h⟩ := sw_let_e h
    refine sw_iastore (a := 66) (by decide) rfl (sw_in_e g3) (by decide +kernel) ?_
    refine sw_mem e5 ?_
    obtain ⟨v6, e7, h⟩ := sw_let_e h
    refine sw_iincv (i := 1) (n := 1) (lv' := [(1, .int v6), (0, .ref 49)]) 1 rfl e7 (by decide +kernel) (by decide) (by decide) rfl ?_
    refine sw_goto (off := (-21)) 2 (by decide +kernel) (by decide) ?_
    cases h
    refine sw_lv [1, 0] rfl ?_
    exact hk
set_option maxRecDepth 20000 in
theorem sX10_fill {l : Launch} {E : sw_E} {K : Nat} (hK : 0 ≤ K) (σ : sw_M) {res : sw_M} (h : fX10_fill σ = some res) : sw_Ct l E K yX10_fill cX10_fill 2 none [.ref 49] σ none res := by
  obtain ⟨t, hk, h⟩ : ∃ t, t = res ∧ fX10_fill σ = some t := ⟨res, rfl, h⟩
  unfold fX10_fill at h
  refine sw_enter2 (own := RX10) (lv := [(0, .ref 49)]) (by decide +kernel) (Nat.le_of_ble_eq_true rfl) rfl rfl ?_
  refine sw_iconst (n := 0) (v := 0) (by decide +kernel) (by decide) ?_
  refine sw_istore_n (k0 := 1) (lv' := [(1, .int 0), (0, .ref 49)]) (by decide +kernel) rfl (by decide) rfl ?_
  refine sw_lv [1, 0] rfl ?_
  exact sw_wh_e (fun s : Int32 × sw_M => sw_Go l E K RX10 cX10_fill 2 none 2 [(0, .ref 49), (1, .int s.1)] [] s.2 none res) (fun q => q = res) (fun s => fX10_fill_L2 s.2 s.1) (fun s t hb hk => sX10_fill_L2 hK s.2 s.1 hb hk) _ _ _ h hk
def fX10_keepAir_L2 (σ : sw_M) (a1 : Int32) : Option ((Int32 × sw_M) ⊕ (sw_M)) :=
  if 10 ≤ a1 then
    some (.inr (σ))
  else
    sw_gd (sw_in a1 10) <|
    sw_gd (sw_in a1 10) <|
    sw_let (sw_w σ 65 a1.toNatClampNeg (σ.1 66 a1.toNatClampNeg)) fun m4 =>
    sw_let (a1 + 1) fun v6 =>
    some (.inl (v6, m4))
def fX10_keepAir (σ : sw_M) : Option (sw_M) :=
  sw_wh sw_F (fun s => fX10_keepAir_L2 s.2 s.1) (0, σ)
set_option maxRecDepth 20000 in
theorem sX10_keepAir_L2 {l : Launch} {E : sw_E} {K : Nat} (hK : 0 ≤ K) (σ : sw_M) (a1 : Int32) {res : sw_M} {t : (Int32 × sw_M) ⊕ (sw_M)} (h : fX10_keepAir_L2 σ a1 = some t) (hk : (Sum.elim (fun s : Int32 × sw_M => sw_Go l E K RX10 cX10_keepAir 2 none 2 [(0, .ref 49), (1, .int s.1)] [] s.2 none res) (fun q => q = res)) t) : sw_Go l E K RX10 cX10_keepAir 2 none 2 [(0, .ref 49), (1, .int a1)] [] σ none res := by
  unfold fX10_keepAir_L2 at h
  refine sw_iload_n (k0 := 1) 1 rfl (by decide +kernel) rfl ?_
  refine sw_bipush (n := 10) (v := 10) (by decide +kernel) (by decide) ?_
  refine sw_icmp_ge (off := 21) 26 (by decide +kernel) (by decide) (fun c1 => ?_) (fun c1 => ?_)
  · rw [if_pos c1] at h
    cases h
    obtain rfl : _ = res := hk
    exact sw_vret (by decide +kernel)
  · rw [if_neg c1] at h
    refine sw_aload_n (k0 := 0) 0 rfl (by decide +kernel) rfl ?_
    refine gf_X10_60 (i := 49) (by decide) rfl (by decide +kernel) ?_
    refine sw_refj 65 rfl ?_
    refine sw_iload_n (k0 := 1) 1 rfl (by decide +kernel) rfl ?_
    refine sw_aload_n (k0 := 0) 0 rfl (by decide +kernel) rfl ?_
    refine gf_X10_63 (i := 49) (by decide) rfl (by decide +kernel) ?_
    refine sw_refj 66 rfl ?_
    refine sw_iload_n (k0 := 1) 1 rfl (by decide +kernel) rfl ?_
    obtain ⟨g2, h⟩ := sw_gd_e h
    refine sw_iaload (a := 66) (by decide) rfl (sw_in_e g2) (by decide +kernel) ?_
    obtain ⟨g3, h⟩ := sw_gd_e h
    obtain ⟨m4, e5, h⟩ := sw_let_e h
    refine sw_iastore (a := 65) (by decide) rfl (sw_in_e g3) (by decide +kernel) ?_
    refine sw_mem e5 ?_
    obtain ⟨v6, e7, h⟩ := sw_let_e h
    refine sw_iincv (i := 1) (n := 1) (lv' := [(1, .int v6), (0, .ref 49)]) 1 rfl e7 (by decide +kernel) (by decide) (by decide) rfl ?_
    refine sw_goto (off := (-21)) 2 (by decide +kernel) (by decide) ?_
    cases h
    refine sw_lv [1, 0] rfl ?_
    exact hk
set_option maxRecDepth 20000 in
theorem sX10_keepAir {l : Launch} {E : sw_E} {K : Nat} (hK : 0 ≤ K) (σ : sw_M) {res : sw_M} (h : fX10_keepAir σ = some res) : sw_Ct l E K yX10_keepAir cX10_keepAir 2 none [.ref 49] σ none res := by
  obtain ⟨t, hk, h⟩ : ∃ t, t = res ∧ fX10_keepAir σ = some t := ⟨res, rfl, h⟩
  unfold fX10_keepAir at h
  refine sw_enter2 (own := RX10) (lv := [(0, .ref 49)]) (by decide +kernel) (Nat.le_of_ble_eq_true rfl) rfl rfl ?_
  refine sw_iconst (n := 0) (v := 0) (by decide +kernel) (by decide) ?_
  refine sw_istore_n (k0 := 1) (lv' := [(1, .int 0), (0, .ref 49)]) (by decide +kernel) rfl (by decide) rfl ?_
  refine sw_lv [1, 0] rfl ?_
  exact sw_wh_e (fun s : Int32 × sw_M => sw_Go l E K RX10 cX10_keepAir 2 none 2 [(0, .ref 49), (1, .int s.1)] [] s.2 none res) (fun q => q = res) (fun s => fX10_keepAir_L2 s.2 s.1) (fun s t hb hk => sX10_keepAir_L2 hK s.2 s.1 hb hk) _ _ _ h hk
def fX10_hasTold (σ : sw_M) (a1 : Int32) : Int32 :=
  if (((σ.1 65 5) >>> (a1 &&& 31)) &&& 1) = 1 then
    1
  else
    0
set_option maxRecDepth 20000 in
theorem sX10_hasTold {l : Launch} {E : sw_E} {K : Nat} (hK : 0 ≤ K) (σ : sw_M) (a1 : Int32) {res : Int32} (h : fX10_hasTold σ a1 = res) : sw_Ct l E K yX10_hasTold cX10_hasTold 2 (some .boolean) [.ref 49, .int a1] σ (some (.int res)) σ := by
  obtain ⟨t, hk, h⟩ : ∃ t, t = res ∧ fX10_hasTold σ a1 = t := ⟨res, rfl, h⟩
  unfold fX10_hasTold at h
  refine sw_enter2 (own := RX10) (lv := [(0, .ref 49), (1, .int a1)]) (by decide +kernel) (Nat.le_of_ble_eq_true rfl) rfl rfl ?_
  refine sw_aload_n (k0 := 0) 0 rfl (by decide +kernel) rfl ?_
  refine gf_X10_60 (i := 49) (by decide) rfl (by decide +kernel) ?_
  refine sw_refj 65 rfl ?_
  refine sw_iconst (n := 5) (v := 5) (by decide +kernel) (by decide) ?_
  refine sw_iaload (a := 65) (by decide) rfl (sw_in_e (by decide)) (by decide +kernel) ?_
  refine sw_topi (x := σ.1 65 5) rfl ?_
  refine sw_iload_n (k0 := 1) 1 rfl (by decide +kernel) rfl ?_
  refine sw_ishr (by decide +kernel) ?_
  refine sw_iconst (n := 1) (v := 1) (by decide +kernel) (by decide) ?_
  refine sw_iand (by decide +kernel) ?_
  refine sw_iconst (n := 1) (v := 1) (by decide +kernel) (by decide) ?_
  refine sw_icmp_ne (off := 7) 18 (by decide +kernel) (by decide) (fun c1 => ?_) (fun c1 => ?_)
  · rw [if_neg c1] at h
    refine sw_iconst (n := 0) (v := 0) (by decide +kernel) (by decide) ?_
    subst h
    obtain rfl : _ = res := hk
    exact sw_zret rfl (by decide +kernel)
  · rw [if_pos c1] at h
    refine sw_iconst (n := 1) (v := 1) (by decide +kernel) (by decide) ?_
    refine sw_goto (off := 4) 19 (by decide +kernel) (by decide) ?_
    subst h
    obtain rfl : _ = res := hk
    exact sw_zret rfl (by decide +kernel)
theorem bX10_hasTold (σ : sw_M) (a1 : Int32) : fX10_hasTold σ a1 = 0 ∨ fX10_hasTold σ a1 = 1 := by
  simp only [fX10_hasTold, sw_let]
  repeat' (first | exact Or.inl rfl | exact Or.inr rfl | refine sw_ite_bo ?_ ?_)
def fX10_isEased (σ : sw_M) (a1 : Int32) : Int32 :=
  if (((σ.1 65 6) >>> (a1 &&& 31)) &&& 1) = 1 then
    1
  else
    0
set_option maxRecDepth 20000 in
theorem sX10_isEased {l : Launch} {E : sw_E} {K : Nat} (hK : 0 ≤ K) (σ : sw_M) (a1 : Int32) {res : Int32} (h : fX10_isEased σ a1 = res) : sw_Ct l E K yX10_isEased cX10_isEased 2 (some .boolean) [.ref 49, .int a1] σ (some (.int res)) σ := by
  obtain ⟨t, hk, h⟩ : ∃ t, t = res ∧ fX10_isEased σ a1 = t := ⟨res, rfl, h⟩
  unfold fX10_isEased at h
  refine sw_enter2 (own := RX10) (lv := [(0, .ref 49), (1, .int a1)]) (by decide +kernel) (Nat.le_of_ble_eq_true rfl) rfl rfl ?_
  refine sw_aload_n (k0 := 0) 0 rfl (by decide +kernel) rfl ?_
  refine gf_X10_60 (i := 49) (by decide) rfl (by decide +kernel) ?_
  refine sw_refj 65 rfl ?_
  refine sw_bipush (n := 6) (v := 6) (by decide +kernel) (by decide) ?_
  refine sw_iaload (a := 65) (by decide) rfl (sw_in_e (by decide)) (by decide +kernel) ?_
  refine sw_topi (x := σ.1 65 6) rfl ?_
  refine sw_iload_n (k0 := 1) 1 rfl (by decide +kernel) rfl ?_
  refine sw_ishr (by decide +kernel) ?_
  refine sw_iconst (n := 1) (v := 1) (by decide +kernel) (by decide) ?_
  refine sw_iand (by decide +kernel) ?_
  refine sw_iconst (n := 1) (v := 1) (by decide +kernel) (by decide) ?_
  refine sw_icmp_ne (off := 7) 19 (by decide +kernel) (by decide) (fun c1 => ?_) (fun c1 => ?_)
  · rw [if_neg c1] at h
    refine sw_iconst (n := 0) (v := 0) (by decide +kernel) (by decide) ?_
    subst h
    obtain rfl : _ = res := hk
    exact sw_zret rfl (by decide +kernel)
  · rw [if_pos c1] at h
    refine sw_iconst (n := 1) (v := 1) (by decide +kernel) (by decide) ?_
    refine sw_goto (off := 4) 20 (by decide +kernel) (by decide) ?_
    subst h
    obtain rfl : _ = res := hk
    exact sw_zret rfl (by decide +kernel)
theorem bX10_isEased (σ : sw_M) (a1 : Int32) : fX10_isEased σ a1 = 0 ∨ fX10_isEased σ a1 = 1 := by
  simp only [fX10_isEased, sw_let]
  repeat' (first | exact Or.inl rfl | exact Or.inr rfl | refine sw_ite_bo ?_ ?_)
def fX10_tells_L2 (σ : sw_M) (a1 : Int32) (a2 : Int32) : Option ((Int32 × sw_M) ⊕ (sw_M)) :=
  if (σ.1 49 40) ≤ a2 then
    sw_let (sw_w σ 66 5 ((σ.1 66 5) ||| (1 <<< (a1 &&& 31)))) fun m2 =>
    some (.inr (m2))
  else
    sw_gd (sw_in a2 10) <|
    sw_gd (sw_in ((5 * a1) + a2) 35) <|
    sw_gd (sw_in a2 10) <|
    sw_let (sw_w σ 66 a2.toNatClampNeg (fX10_lesser 999 ((σ.1 66 a2.toNatClampNeg) + (σ.1 62 ((5 * a1) + a2).toNatClampNeg)))) fun m7 =>
    sw_let (a2 + 1) fun v9 =>
    some (.inl (v9, m7))
def fX10_tells (σ : sw_M) (a1 : Int32) : Option (sw_M) :=
  sw_wh sw_F (fun s => fX10_tells_L2 s.2 a1 s.1) (0, σ)
set_option maxRecDepth 20000 in
theorem sX10_tells_L2 {l : Launch} {E : sw_E} {K : Nat} (hK : 1 ≤ K) (σ : sw_M) (a1 : Int32) (a2 : Int32) {res : sw_M} {t : (Int32 × sw_M) ⊕ (sw_M)} (h : fX10_tells_L2 σ a1 a2 = some t) (hk : (Sum.elim (fun s : Int32 × sw_M => sw_Go l E K RX10 cX10_tells 3 none 2 [(0, .ref 49), (1, .int a1), (2, .int s.1)] [] s.2 none res) (fun q => q = res)) t) : sw_Go l E K RX10 cX10_tells 3 none 2 [(0, .ref 49), (1, .int a1), (2, .int a2)] [] σ none res := by
  unfold fX10_tells_L2 at h
  refine sw_iload_n (k0 := 2) 2 rfl (by decide +kernel) rfl ?_
  refine sw_aload_n (k0 := 0) 0 rfl (by decide +kernel) rfl ?_
  refine gf_X10_291 (i := 49) (by decide) rfl (by decide +kernel) ?_
  refine sw_icmp_ge (off := 38) 45 (by decide +kernel) (by decide) (fun c1 => ?_) (fun c1 => ?_)
  · rw [if_pos c1] at h
    refine sw_aload_n (k0 := 0) 0 rfl (by decide +kernel) rfl ?_
    refine gf_X10_63 (i := 49) (by decide) rfl (by decide +kernel) ?_
    refine sw_refj 66 rfl ?_
    refine sw_iconst (n := 5) (v := 5) (by decide +kernel) (by decide) ?_
    refine sw_dup2 (by decide +kernel) rfl rfl ?_
    refine sw_iaload (a := 66) (by decide) rfl (sw_in_e (by decide)) (by decide +kernel) ?_
    refine sw_topi (x := σ.1 66 5) rfl ?_
    refine sw_iconst (n := 1) (v := 1) (by decide +kernel) (by decide) ?_
    refine sw_iload_n (k0 := 1) 1 rfl (by decide +kernel) rfl ?_
    refine sw_ishl (by decide +kernel) ?_
    refine sw_ior (by decide +kernel) ?_
    obtain ⟨m2, e3, h⟩ := sw_let_e h
    refine sw_iastore (a := 66) (by decide) rfl (sw_in_e (by decide)) (by decide +kernel) ?_
    refine sw_mem (e3.trans (show sw_w σ 66 5 ((σ.1 66 5) ||| (1 <<< (a1 &&& 31))) = sw_w σ 66 (5 : Int32).toNatClampNeg ((σ.1 66 5) ||| (1 <<< (a1 &&& 31))) from rfl)) ?_
    cases h
    obtain rfl : _ = res := hk
    exact sw_vret (by decide +kernel)
  · rw [if_neg c1] at h
    refine sw_aload_n (k0 := 0) 0 rfl (by decide +kernel) rfl ?_
    refine gf_X10_63 (i := 49) (by decide) rfl (by decide +kernel) ?_
    refine sw_refj 66 rfl ?_
    refine sw_iload_n (k0 := 2) 2 rfl (by decide +kernel) rfl ?_
    refine sw_sipush (n := 999) (v := 999) (by decide +kernel) (by decide) ?_
    refine sw_aload_n (k0 := 0) 0 rfl (by decide +kernel) rfl ?_
    refine gf_X10_63 (i := 49) (by decide) rfl (by decide +kernel) ?_
    refine sw_refj 66 rfl ?_
    refine sw_iload_n (k0 := 2) 2 rfl (by decide +kernel) rfl ?_
    obtain ⟨g4, h⟩ := sw_gd_e h
    refine sw_iaload (a := 66) (by decide) rfl (sw_in_e g4) (by decide +kernel) ?_
    refine sw_aload_n (k0 := 0) 0 rfl (by decide +kernel) rfl ?_
    refine gf_X10_51 (i := 49) (by decide) rfl (by decide +kernel) ?_
    refine sw_refj 62 rfl ?_
    refine sw_iconst (n := 5) (v := 5) (by decide +kernel) (by decide) ?_
    refine sw_iload_n (k0 := 1) 1 rfl (by decide +kernel) rfl ?_
    refine sw_imul (by decide +kernel) ?_
    refine sw_iload_n (k0 := 2) 2 rfl (by decide +kernel) rfl ?_
    refine sw_iadd (by decide +kernel) ?_
    obtain ⟨g5, h⟩ := sw_gd_e h
    refine sw_iaload (a := 62) (by decide) rfl (sw_in_e g5) (by decide +kernel) ?_
    refine sw_iadd (by decide +kernel) ?_
    refine sw_callSi [.int 999, .int ((σ.1 66 a2.toNatClampNeg) + (σ.1 62 ((5 * a1) + a2).toNatClampNeg))] (sX10_lesser (K := K - 1) (by omega) σ 999 ((σ.1 66 a2.toNatClampNeg) + (σ.1 62 ((5 * a1) + a2).toNatClampNeg)) rfl) rfl (by omega) gs_X10_300 hy_X10_lesser (by decide) rfl (Nat.le_of_ble_eq_true rfl) (by decide +kernel) ?_
    obtain ⟨g6, h⟩ := sw_gd_e h
    obtain ⟨m7, e8, h⟩ := sw_let_e h
    refine sw_iastore (a := 66) (by decide) rfl (sw_in_e g6) (by decide +kernel) ?_
    refine sw_mem e8 ?_
    obtain ⟨v9, e10, h⟩ := sw_let_e h
    refine sw_iincv (i := 2) (n := 1) (lv' := [(2, .int v9), (0, .ref 49), (1, .int a1)]) 2 rfl e10 (by decide +kernel) (by decide) (by decide) rfl ?_
    refine sw_goto (off := (-40)) 2 (by decide +kernel) (by decide) ?_
    cases h
    refine sw_lv [1, 2, 0] rfl ?_
    exact hk
set_option maxRecDepth 20000 in
theorem sX10_tells {l : Launch} {E : sw_E} {K : Nat} (hK : 1 ≤ K) (σ : sw_M) (a1 : Int32) {res : sw_M} (h : fX10_tells σ a1 = some res) : sw_Ct l E K yX10_tells cX10_tells 3 none [.ref 49, .int a1] σ none res := by
  obtain ⟨t, hk, h⟩ : ∃ t, t = res ∧ fX10_tells σ a1 = some t := ⟨res, rfl, h⟩
  unfold fX10_tells at h
  refine sw_enter2 (own := RX10) (lv := [(0, .ref 49), (1, .int a1)]) (by decide +kernel) (Nat.le_of_ble_eq_true rfl) rfl rfl ?_
  refine sw_iconst (n := 0) (v := 0) (by decide +kernel) (by decide) ?_
  refine sw_istore_n (k0 := 2) (lv' := [(2, .int 0), (0, .ref 49), (1, .int a1)]) (by decide +kernel) rfl (by decide) rfl ?_
  refine sw_lv [1, 2, 0] rfl ?_
  exact sw_wh_e (fun s : Int32 × sw_M => sw_Go l E K RX10 cX10_tells 3 none 2 [(0, .ref 49), (1, .int a1), (2, .int s.1)] [] s.2 none res) (fun q => q = res) (fun s => fX10_tells_L2 s.2 a1 s.1) (fun s t hb hk => sX10_tells_L2 hK s.2 a1 s.1 hb hk) _ _ _ h hk
def fX10_tellAll_L24 (σ : sw_M) (a1 : Int32) (a2 : Int32) : Option ((Int32 × sw_M) ⊕ (sw_M)) :=
  sw_let (a2 + 1) fun v1 =>
  some (.inl (v1, σ))
def fX10_tellAll_L2 (σ : sw_M) (a1 : Int32) (a2 : Int32) : Option ((Int32 × sw_M) ⊕ (sw_M)) :=
  if (σ.1 49 41) ≤ a2 then
    some (.inr (σ))
  else
    if ((a1 >>> (a2 &&& 31)) &&& 1) = 1 then
      sw_b1 (fX10_tells σ a2) fun m3 =>
      fX10_tellAll_L24 m3 a1 a2
    else
      fX10_tellAll_L24 σ a1 a2
def fX10_tellAll (σ : sw_M) (a1 : Int32) : Option (sw_M) :=
  sw_wh sw_F (fun s => fX10_tellAll_L2 s.2 a1 s.1) (0, σ)
set_option maxRecDepth 20000 in
theorem sX10_tellAll_L24 {l : Launch} {E : sw_E} {K : Nat} (hK : 2 ≤ K) (σ : sw_M) (a1 : Int32) (a2 : Int32) {res : sw_M} {t : (Int32 × sw_M) ⊕ (sw_M)} (h : fX10_tellAll_L24 σ a1 a2 = some t) (hk : (Sum.elim (fun s : Int32 × sw_M => sw_Go l E K RX10 cX10_tellAll 3 none 2 [(0, .ref 49), (1, .int a1), (2, .int s.1)] [] s.2 none res) (fun q => q = res)) t) : sw_Go l E K RX10 cX10_tellAll 3 none 24 [(0, .ref 49), (1, .int a1), (2, .int a2)] [] σ none res := by
  unfold fX10_tellAll_L24 at h
  obtain ⟨v1, e2, h⟩ := sw_let_e h
  refine sw_iincv (i := 2) (n := 1) (lv' := [(2, .int v1), (0, .ref 49), (1, .int a1)]) 2 rfl e2 (by decide +kernel) (by decide) (by decide) rfl ?_
  refine sw_goto (off := (-25)) 2 (by decide +kernel) (by decide) ?_
  cases h
  refine sw_lv [1, 2, 0] rfl ?_
  exact hk
set_option maxRecDepth 20000 in
theorem sX10_tellAll_L2 {l : Launch} {E : sw_E} {K : Nat} (hK : 2 ≤ K) (σ : sw_M) (a1 : Int32) (a2 : Int32) {res : sw_M} {t : (Int32 × sw_M) ⊕ (sw_M)} (h : fX10_tellAll_L2 σ a1 a2 = some t) (hk : (Sum.elim (fun s : Int32 × sw_M => sw_Go l E K RX10 cX10_tellAll 3 none 2 [(0, .ref 49), (1, .int a1), (2, .int s.1)] [] s.2 none res) (fun q => q = res)) t) : sw_Go l E K RX10 cX10_tellAll 3 none 2 [(0, .ref 49), (1, .int a1), (2, .int a2)] [] σ none res := by
  unfold fX10_tellAll_L2 at h
  refine sw_iload_n (k0 := 2) 2 rfl (by decide +kernel) rfl ?_
  refine sw_aload_n (k0 := 0) 0 rfl (by decide +kernel) rfl ?_
  refine gf_X10_381 (i := 49) (by decide) rfl (by decide +kernel) ?_
  refine sw_icmp_ge (off := 23) 30 (by decide +kernel) (by decide) (fun c1 => ?_) (fun c1 => ?_)
  · rw [if_pos c1] at h
    cases h
    obtain rfl : _ = res := hk
    exact sw_vret (by decide +kernel)
  · rw [if_neg c1] at h
    refine sw_iload_n (k0 := 1) 1 rfl (by decide +kernel) rfl ?_
    refine sw_iload_n (k0 := 2) 2 rfl (by decide +kernel) rfl ?_
    refine sw_ishr (by decide +kernel) ?_
    refine sw_iconst (n := 1) (v := 1) (by decide +kernel) (by decide) ?_
    refine sw_iand (by decide +kernel) ?_
    refine sw_iconst (n := 1) (v := 1) (by decide +kernel) (by decide) ?_
    refine sw_icmp_ne (off := 8) 24 (by decide +kernel) (by decide) (fun c2 => ?_) (fun c2 => ?_)
    · rw [if_neg c2] at h
      exact sX10_tellAll_L24 hK σ a1 a2 h hk
    · rw [if_pos c2] at h
      refine sw_aload_n (k0 := 0) 0 rfl (by decide +kernel) rfl ?_
      refine sw_iload_n (k0 := 2) 2 rfl (by decide +kernel) rfl ?_
      obtain ⟨m3, w4, h⟩ := sw_b1_e h
      refine sw_callVv (ci := 10) (i := 49) [.int a2] (sX10_tells (K := K - 1) (by omega) σ a2 w4) rfl (by omega) rfl gs_X10_415 hy_X10_tells (by decide) (by decide) rfl rfl (Nat.le_of_ble_eq_true rfl) (by decide +kernel) ?_
      exact sX10_tellAll_L24 hK m3 a1 a2 h hk
set_option maxRecDepth 20000 in
theorem sX10_tellAll {l : Launch} {E : sw_E} {K : Nat} (hK : 2 ≤ K) (σ : sw_M) (a1 : Int32) {res : sw_M} (h : fX10_tellAll σ a1 = some res) : sw_Ct l E K yX10_tellAll cX10_tellAll 3 none [.ref 49, .int a1] σ none res := by
  obtain ⟨t, hk, h⟩ : ∃ t, t = res ∧ fX10_tellAll σ a1 = some t := ⟨res, rfl, h⟩
  unfold fX10_tellAll at h
  refine sw_enter2 (own := RX10) (lv := [(0, .ref 49), (1, .int a1)]) (by decide +kernel) (Nat.le_of_ble_eq_true rfl) rfl rfl ?_
  refine sw_iconst (n := 0) (v := 0) (by decide +kernel) (by decide) ?_
  refine sw_istore_n (k0 := 2) (lv' := [(2, .int 0), (0, .ref 49), (1, .int a1)]) (by decide +kernel) rfl (by decide) rfl ?_
  refine sw_lv [1, 2, 0] rfl ?_
  exact sw_wh_e (fun s : Int32 × sw_M => sw_Go l E K RX10 cX10_tellAll 3 none 2 [(0, .ref 49), (1, .int a1), (2, .int s.1)] [] s.2 none res) (fun q => q = res) (fun s => fX10_tellAll_L2 s.2 a1 s.1) (fun s t hb hk => sX10_tellAll_L2 hK s.2 a1 s.1 hb hk) _ _ _ h hk
def fX10_makes_L55 (σ : sw_M) (b0 : Int32) (b1 : Int32) : Option ((Int32)) :=
  some (fX10_lesser b1 b0)
def fX10_makes (σ : sw_M) (a1 : Int32) (a2 : Int32) : Option (Int32) :=
  sw_gd (sw_in (4 * a1) 24) <|
  sw_let (σ.1 64 (4 * a1).toNatClampNeg) fun v2 =>
  sw_gd (sw_in ((4 * a1) + 1) 24) <|
  sw_let (σ.1 64 ((4 * a1) + 1).toNatClampNeg) fun v5 =>
  if v2 = v5 then
    sw_gd (sw_in v2 10) <|
    fX10_makes_L55 σ ((σ.1 66 v2.toNatClampNeg) / 2) a2
  else
    sw_gd (sw_in v2 10) <|
    sw_gd (sw_in v5 10) <|
    fX10_makes_L55 σ (fX10_lesser (σ.1 66 v2.toNatClampNeg) (σ.1 66 v5.toNatClampNeg)) a2
set_option maxRecDepth 20000 in
theorem sX10_makes_L55 {l : Launch} {E : sw_E} {K : Nat} (hK : 1 ≤ K) (σ : sw_M) (b0 : Int32) (b1 : Int32) {res : Int32} {t : (Int32)} (h : fX10_makes_L55 σ b0 b1 = some t) (hk : (fun q => q = res) t) : sw_Go l E K RX10 cX10_makes 5 (some .int) 55 [] [.int b0, .int b1] σ (some (.int res)) σ := by
  unfold fX10_makes_L55 at h
  refine sw_callSi [.int b1, .int b0] (sX10_lesser (K := K - 1) (by omega) σ b1 b0 rfl) rfl (by omega) gs_X10_300 hy_X10_lesser (by decide) rfl (Nat.le_of_ble_eq_true rfl) (by decide +kernel) ?_
  cases h
  obtain rfl : _ = res := hk
  exact sw_iret (by decide +kernel)
set_option maxRecDepth 20000 in
theorem sX10_makes {l : Launch} {E : sw_E} {K : Nat} (hK : 1 ≤ K) (σ : sw_M) (a1 : Int32) (a2 : Int32) {res : Int32} (h : fX10_makes σ a1 a2 = some res) : sw_Ct l E K yX10_makes cX10_makes 5 (some .int) [.ref 49, .int a1, .int a2] σ (some (.int res)) σ := by
  obtain ⟨t, hk, h⟩ : ∃ t, t = res ∧ fX10_makes σ a1 a2 = some t := ⟨res, rfl, h⟩
  unfold fX10_makes at h
  refine sw_enter2 (own := RX10) (lv := [(0, .ref 49), (1, .int a1), (2, .int a2)]) (by decide +kernel) (Nat.le_of_ble_eq_true rfl) rfl rfl ?_
  refine sw_aload_n (k0 := 0) 0 rfl (by decide +kernel) rfl ?_
  refine gf_X10_57 (i := 49) (by decide) rfl (by decide +kernel) ?_
  refine sw_refj 64 rfl ?_
  refine sw_iconst (n := 4) (v := 4) (by decide +kernel) (by decide) ?_
  refine sw_iload_n (k0 := 1) 1 rfl (by decide +kernel) rfl ?_
  refine sw_imul (by decide +kernel) ?_
  obtain ⟨g1, h⟩ := sw_gd_e h
  refine sw_iaload (a := 64) (by decide) rfl (sw_in_e g1) (by decide +kernel) ?_
  obtain ⟨v2, e3, h⟩ := sw_let_e h
  refine sw_topi e3 ?_
  refine sw_istore_n (k0 := 3) (lv' := [(3, .int v2), (0, .ref 49), (1, .int a1), (2, .int a2)]) (by decide +kernel) rfl (by decide) rfl ?_
  refine sw_aload_n (k0 := 0) 1 rfl (by decide +kernel) rfl ?_
  refine gf_X10_57 (i := 49) (by decide) rfl (by decide +kernel) ?_
  refine sw_refj 64 rfl ?_
  refine sw_iconst (n := 4) (v := 4) (by decide +kernel) (by decide) ?_
  refine sw_iload_n (k0 := 1) 2 rfl (by decide +kernel) rfl ?_
  refine sw_imul (by decide +kernel) ?_
  refine sw_iconst (n := 1) (v := 1) (by decide +kernel) (by decide) ?_
  refine sw_iadd (by decide +kernel) ?_
  obtain ⟨g4, h⟩ := sw_gd_e h
  refine sw_iaload (a := 64) (by decide) rfl (sw_in_e g4) (by decide +kernel) ?_
  obtain ⟨v5, e6, h⟩ := sw_let_e h
  refine sw_topi e6 ?_
  refine sw_istore (i := 4) (lv' := [(4, .int v5), (3, .int v2), (0, .ref 49), (1, .int a1), (2, .int a2)]) (by decide +kernel) (by decide) rfl ?_
  refine sw_iload_n (k0 := 2) 4 rfl (by decide +kernel) rfl ?_
  refine sw_iload_n (k0 := 3) 1 rfl (by decide +kernel) rfl ?_
  refine sw_iload 0 rfl (by decide +kernel) ?_
  refine sw_icmp_ne (off := 14) 39 (by decide +kernel) (by decide) (fun c7 => ?_) (fun c7 => ?_)
  · rw [if_neg c7] at h
    refine sw_aload_n (k0 := 0) 2 rfl (by decide +kernel) rfl ?_
    refine gf_X10_63 (i := 49) (by decide) rfl (by decide +kernel) ?_
    refine sw_refj 66 rfl ?_
    refine sw_iload_n (k0 := 3) 1 rfl (by decide +kernel) rfl ?_
    obtain ⟨g8, h⟩ := sw_gd_e h
    refine sw_iaload (a := 66) (by decide) rfl (sw_in_e g8) (by decide +kernel) ?_
    refine sw_aload_n (k0 := 0) 2 rfl (by decide +kernel) rfl ?_
    refine gf_X10_63 (i := 49) (by decide) rfl (by decide +kernel) ?_
    refine sw_refj 66 rfl ?_
    refine sw_iload 0 rfl (by decide +kernel) ?_
    obtain ⟨g9, h⟩ := sw_gd_e h
    refine sw_iaload (a := 66) (by decide) rfl (sw_in_e g9) (by decide +kernel) ?_
    refine sw_callSi [.int (σ.1 66 v2.toNatClampNeg), .int (σ.1 66 v5.toNatClampNeg)] (sX10_lesser (K := K - 1) (by omega) σ (σ.1 66 v2.toNatClampNeg) (σ.1 66 v5.toNatClampNeg) rfl) rfl (by omega) gs_X10_300 hy_X10_lesser (by decide) rfl (Nat.le_of_ble_eq_true rfl) (by decide +kernel) ?_
    refine sw_lv [] rfl ?_
    exact sX10_makes_L55 hK σ (fX10_lesser (σ.1 66 v2.toNatClampNeg) (σ.1 66 v5.toNatClampNeg)) a2 h hk
  · rw [if_pos c7] at h
    refine sw_aload_n (k0 := 0) 2 rfl (by decide +kernel) rfl ?_
    refine gf_X10_63 (i := 49) (by decide) rfl (by decide +kernel) ?_
    refine sw_refj 66 rfl ?_
    refine sw_iload_n (k0 := 3) 1 rfl (by decide +kernel) rfl ?_
    obtain ⟨g10, h⟩ := sw_gd_e h
    refine sw_iaload (a := 66) (by decide) rfl (sw_in_e g10) (by decide +kernel) ?_
    refine sw_iconst (n := 2) (v := 2) (by decide +kernel) (by decide) ?_
    refine sw_idiv (by decide +kernel) (by decide) ?_
    refine sw_goto (off := 19) 55 (by decide +kernel) (by decide) ?_
    refine sw_lv [] rfl ?_
    exact sX10_makes_L55 hK σ ((σ.1 66 v2.toNatClampNeg) / 2) a2 h hk
def fX10_boilBy (σ : sw_M) (a1 : Int32) (a2 : Int32) : Option (sw_M) :=
  sw_b1 (fX10_makes σ a1 a2) fun r1 =>
  sw_gd (sw_in ((4 * a1) + 2) 24) <|
  sw_let (σ.1 64 ((4 * a1) + 2).toNatClampNeg) fun v4 =>
  sw_gd (sw_in (4 * a1) 24) <|
  sw_let (σ.1 64 (4 * a1).toNatClampNeg) fun v7 =>
  sw_gd (sw_in v7 10) <|
  sw_gd (sw_in v7 10) <|
  sw_let (sw_w σ 66 v7.toNatClampNeg ((σ.1 66 v7.toNatClampNeg) - r1)) fun m11 =>
  sw_gd (sw_in ((4 * a1) + 1) 24) <|
  sw_let (m11.1 64 ((4 * a1) + 1).toNatClampNeg) fun v14 =>
  sw_gd (sw_in v14 10) <|
  sw_gd (sw_in v14 10) <|
  sw_let (sw_w m11 66 v14.toNatClampNeg ((m11.1 66 v14.toNatClampNeg) - r1)) fun m18 =>
  sw_gd (sw_in v4 10) <|
  sw_gd (sw_in v4 10) <|
  sw_let (sw_w m18 66 v4.toNatClampNeg (fX10_lesser 999 ((m18.1 66 v4.toNatClampNeg) + r1))) fun m22 =>
  some (m22)
set_option maxRecDepth 20000 in
theorem sX10_boilBy {l : Launch} {E : sw_E} {K : Nat} (hK : 2 ≤ K) (σ : sw_M) (a1 : Int32) (a2 : Int32) {res : sw_M} (h : fX10_boilBy σ a1 a2 = some res) : sw_Ct l E K yX10_boilBy cX10_boilBy 5 none [.ref 49, .int a1, .int a2] σ none res := by
  obtain ⟨t, hk, h⟩ : ∃ t, t = res ∧ fX10_boilBy σ a1 a2 = some t := ⟨res, rfl, h⟩
  unfold fX10_boilBy at h
  refine sw_enter2 (own := RX10) (lv := [(0, .ref 49), (1, .int a1), (2, .int a2)]) (by decide +kernel) (Nat.le_of_ble_eq_true rfl) rfl rfl ?_
  refine sw_aload_n (k0 := 0) 0 rfl (by decide +kernel) rfl ?_
  refine sw_iload_n (k0 := 1) 1 rfl (by decide +kernel) rfl ?_
  refine sw_iload_n (k0 := 2) 2 rfl (by decide +kernel) rfl ?_
  obtain ⟨r1, w2, h⟩ := sw_b1_e h
  refine sw_callVi (ci := 10) (i := 49) [.int a1, .int a2] (sX10_makes (K := K - 1) (by omega) σ a1 a2 w2) rfl (by omega) rfl gs_X10_418 hy_X10_makes (by decide) (by decide) rfl rfl (Nat.le_of_ble_eq_true rfl) (by decide +kernel) ?_
  refine sw_istore_n (k0 := 3) (lv' := [(3, .int r1), (0, .ref 49), (1, .int a1), (2, .int a2)]) (by decide +kernel) rfl (by decide) rfl ?_
  refine sw_aload_n (k0 := 0) 1 rfl (by decide +kernel) rfl ?_
  refine gf_X10_57 (i := 49) (by decide) rfl (by decide +kernel) ?_
  refine sw_refj 64 rfl ?_
  refine sw_iconst (n := 4) (v := 4) (by decide +kernel) (by decide) ?_
  refine sw_iload_n (k0 := 1) 2 rfl (by decide +kernel) rfl ?_
  refine sw_imul (by decide +kernel) ?_
  refine sw_iconst (n := 2) (v := 2) (by decide +kernel) (by decide) ?_
  refine sw_iadd (by decide +kernel) ?_
  obtain ⟨g3, h⟩ := sw_gd_e h
  refine sw_iaload (a := 64) (by decide) rfl (sw_in_e g3) (by decide +kernel) ?_
  obtain ⟨v4, e5, h⟩ := sw_let_e h
  refine sw_topi e5 ?_
  refine sw_istore (i := 4) (lv' := [(4, .int v4), (3, .int r1), (0, .ref 49), (1, .int a1), (2, .int a2)]) (by decide +kernel) (by decide) rfl ?_
  refine sw_aload_n (k0 := 0) 2 rfl (by decide +kernel) rfl ?_
  refine gf_X10_63 (i := 49) (by decide) rfl (by decide +kernel) ?_
  refine sw_refj 66 rfl ?_
  refine sw_aload_n (k0 := 0) 2 rfl (by decide +kernel) rfl ?_
  refine gf_X10_57 (i := 49) (by decide) rfl (by decide +kernel) ?_
  refine sw_refj 64 rfl ?_
  refine sw_iconst (n := 4) (v := 4) (by decide +kernel) (by decide) ?_
  refine sw_iload_n (k0 := 1) 3 rfl (by decide +kernel) rfl ?_
  refine sw_imul (by decide +kernel) ?_
  obtain ⟨g6, h⟩ := sw_gd_e h
  refine sw_iaload (a := 64) (by decide) rfl (sw_in_e g6) (by decide +kernel) ?_
  obtain ⟨v7, e8, h⟩ := sw_let_e h
  refine sw_topi e8 ?_
  refine sw_dup2 (by decide +kernel) rfl rfl ?_
  obtain ⟨g9, h⟩ := sw_gd_e h
  refine sw_iaload (a := 66) (by decide) rfl (sw_in_e g9) (by decide +kernel) ?_
  refine sw_iload_n (k0 := 3) 1 rfl (by decide +kernel) rfl ?_
  refine sw_isub (by decide +kernel) ?_
  obtain ⟨g10, h⟩ := sw_gd_e h
  obtain ⟨m11, e12, h⟩ := sw_let_e h
  refine sw_iastore (a := 66) (by decide) rfl (sw_in_e g10) (by decide +kernel) ?_
  refine sw_mem e12 ?_
  refine sw_aload_n (k0 := 0) 2 rfl (by decide +kernel) rfl ?_
  refine gf_X10_63 (i := 49) (by decide) rfl (by decide +kernel) ?_
  refine sw_refj 66 rfl ?_
  refine sw_aload_n (k0 := 0) 2 rfl (by decide +kernel) rfl ?_
  refine gf_X10_57 (i := 49) (by decide) rfl (by decide +kernel) ?_
  refine sw_refj 64 rfl ?_
  refine sw_iconst (n := 4) (v := 4) (by decide +kernel) (by decide) ?_
  refine sw_iload_n (k0 := 1) 3 rfl (by decide +kernel) rfl ?_
  refine sw_imul (by decide +kernel) ?_
  refine sw_iconst (n := 1) (v := 1) (by decide +kernel) (by decide) ?_
  refine sw_iadd (by decide +kernel) ?_
  obtain ⟨g13, h⟩ := sw_gd_e h
  refine sw_iaload (a := 64) (by decide) rfl (sw_in_e g13) (by decide +kernel) ?_
  obtain ⟨v14, e15, h⟩ := sw_let_e h
  refine sw_topi e15 ?_
  refine sw_dup2 (by decide +kernel) rfl rfl ?_
  obtain ⟨g16, h⟩ := sw_gd_e h
  refine sw_iaload (a := 66) (by decide) rfl (sw_in_e g16) (by decide +kernel) ?_
  refine sw_iload_n (k0 := 3) 1 rfl (by decide +kernel) rfl ?_
  refine sw_isub (by decide +kernel) ?_
  obtain ⟨g17, h⟩ := sw_gd_e h
  obtain ⟨m18, e19, h⟩ := sw_let_e h
  refine sw_iastore (a := 66) (by decide) rfl (sw_in_e g17) (by decide +kernel) ?_
  refine sw_mem e19 ?_
  refine sw_aload_n (k0 := 0) 2 rfl (by decide +kernel) rfl ?_
  refine gf_X10_63 (i := 49) (by decide) rfl (by decide +kernel) ?_
  refine sw_refj 66 rfl ?_
  refine sw_iload 0 rfl (by decide +kernel) ?_
  refine sw_sipush (n := 999) (v := 999) (by decide +kernel) (by decide) ?_
  refine sw_aload_n (k0 := 0) 2 rfl (by decide +kernel) rfl ?_
  refine gf_X10_63 (i := 49) (by decide) rfl (by decide +kernel) ?_
  refine sw_refj 66 rfl ?_
  refine sw_iload 0 rfl (by decide +kernel) ?_
  obtain ⟨g20, h⟩ := sw_gd_e h
  refine sw_iaload (a := 66) (by decide) rfl (sw_in_e g20) (by decide +kernel) ?_
  refine sw_iload_n (k0 := 3) 1 rfl (by decide +kernel) rfl ?_
  refine sw_iadd (by decide +kernel) ?_
  refine sw_callSi [.int 999, .int ((m18.1 66 v4.toNatClampNeg) + r1)] (sX10_lesser (K := K - 1) (by omega) m18 999 ((m18.1 66 v4.toNatClampNeg) + r1) rfl) rfl (by omega) gs_X10_300 hy_X10_lesser (by decide) rfl (Nat.le_of_ble_eq_true rfl) (by decide +kernel) ?_
  obtain ⟨g21, h⟩ := sw_gd_e h
  obtain ⟨m22, e23, h⟩ := sw_let_e h
  refine sw_iastore (a := 66) (by decide) rfl (sw_in_e g21) (by decide +kernel) ?_
  refine sw_mem e23 ?_
  cases h
  obtain rfl : _ = res := hk
  exact sw_vret (by decide +kernel)
def fX10_boilAll_L2 (σ : sw_M) (a1 : Int32) : Option ((Int32 × sw_M) ⊕ (sw_M)) :=
  if (σ.1 49 43) ≤ a1 then
    some (.inr (σ))
  else
    sw_gd (sw_in ((4 * a1) + 3) 24) <|
    sw_b1 (fX10_boilBy σ a1 (σ.1 64 ((4 * a1) + 3).toNatClampNeg)) fun m3 =>
    sw_let (a1 + 1) fun v5 =>
    some (.inl (v5, m3))
def fX10_boilAll (σ : sw_M) : Option (sw_M) :=
  sw_wh sw_F (fun s => fX10_boilAll_L2 s.2 s.1) (0, σ)
set_option maxRecDepth 20000 in
theorem sX10_boilAll_L2 {l : Launch} {E : sw_E} {K : Nat} (hK : 3 ≤ K) (σ : sw_M) (a1 : Int32) {res : sw_M} {t : (Int32 × sw_M) ⊕ (sw_M)} (h : fX10_boilAll_L2 σ a1 = some t) (hk : (Sum.elim (fun s : Int32 × sw_M => sw_Go l E K RX10 cX10_boilAll 2 none 2 [(0, .ref 49), (1, .int s.1)] [] s.2 none res) (fun q => q = res)) t) : sw_Go l E K RX10 cX10_boilAll 2 none 2 [(0, .ref 49), (1, .int a1)] [] σ none res := by
  unfold fX10_boilAll_L2 at h
  refine sw_iload_n (k0 := 1) 1 rfl (by decide +kernel) rfl ?_
  refine sw_aload_n (k0 := 0) 0 rfl (by decide +kernel) rfl ?_
  refine gf_X10_387 (i := 49) (by decide) rfl (by decide +kernel) ?_
  refine sw_icmp_ge (off := 24) 31 (by decide +kernel) (by decide) (fun c1 => ?_) (fun c1 => ?_)
  · rw [if_pos c1] at h
    cases h
    obtain rfl : _ = res := hk
    exact sw_vret (by decide +kernel)
  · rw [if_neg c1] at h
    refine sw_aload_n (k0 := 0) 0 rfl (by decide +kernel) rfl ?_
    refine sw_iload_n (k0 := 1) 1 rfl (by decide +kernel) rfl ?_
    refine sw_aload_n (k0 := 0) 0 rfl (by decide +kernel) rfl ?_
    refine gf_X10_57 (i := 49) (by decide) rfl (by decide +kernel) ?_
    refine sw_refj 64 rfl ?_
    refine sw_iconst (n := 4) (v := 4) (by decide +kernel) (by decide) ?_
    refine sw_iload_n (k0 := 1) 1 rfl (by decide +kernel) rfl ?_
    refine sw_imul (by decide +kernel) ?_
    refine sw_iconst (n := 3) (v := 3) (by decide +kernel) (by decide) ?_
    refine sw_iadd (by decide +kernel) ?_
    obtain ⟨g2, h⟩ := sw_gd_e h
    refine sw_iaload (a := 64) (by decide) rfl (sw_in_e g2) (by decide +kernel) ?_
    obtain ⟨m3, w4, h⟩ := sw_b1_e h
    refine sw_callVv (ci := 10) (i := 49) [.int a1, .int (σ.1 64 ((4 * a1) + 3).toNatClampNeg)] (sX10_boilBy (K := K - 1) (by omega) σ a1 (σ.1 64 ((4 * a1) + 3).toNatClampNeg) w4) rfl (by omega) rfl gs_X10_421 hy_X10_boilBy (by decide) (by decide) rfl rfl (Nat.le_of_ble_eq_true rfl) (by decide +kernel) ?_
    obtain ⟨v5, e6, h⟩ := sw_let_e h
    refine sw_iincv (i := 1) (n := 1) (lv' := [(1, .int v5), (0, .ref 49)]) 1 rfl e6 (by decide +kernel) (by decide) (by decide) rfl ?_
    refine sw_goto (off := (-26)) 2 (by decide +kernel) (by decide) ?_
    cases h
    refine sw_lv [1, 0] rfl ?_
    exact hk
set_option maxRecDepth 20000 in
theorem sX10_boilAll {l : Launch} {E : sw_E} {K : Nat} (hK : 3 ≤ K) (σ : sw_M) {res : sw_M} (h : fX10_boilAll σ = some res) : sw_Ct l E K yX10_boilAll cX10_boilAll 2 none [.ref 49] σ none res := by
  obtain ⟨t, hk, h⟩ : ∃ t, t = res ∧ fX10_boilAll σ = some t := ⟨res, rfl, h⟩
  unfold fX10_boilAll at h
  refine sw_enter2 (own := RX10) (lv := [(0, .ref 49)]) (by decide +kernel) (Nat.le_of_ble_eq_true rfl) rfl rfl ?_
  refine sw_iconst (n := 0) (v := 0) (by decide +kernel) (by decide) ?_
  refine sw_istore_n (k0 := 1) (lv' := [(1, .int 0), (0, .ref 49)]) (by decide +kernel) rfl (by decide) rfl ?_
  refine sw_lv [1, 0] rfl ?_
  exact sw_wh_e (fun s : Int32 × sw_M => sw_Go l E K RX10 cX10_boilAll 2 none 2 [(0, .ref 49), (1, .int s.1)] [] s.2 none res) (fun q => q = res) (fun s => fX10_boilAll_L2 s.2 s.1) (fun s t hb hk => sX10_boilAll_L2 hK s.2 s.1 hb hk) _ _ _ h hk
def fX10_skims_L27 (σ : sw_M) (a1 : Int32) : Option ((Int32 × sw_M) ⊕ (sw_M)) :=
  if (σ.1 49 40) ≤ a1 then
    some (.inr (σ))
  else
    if (σ.1 49 45) ≤ ((σ.1 66 9) - (σ.1 66 9) / 100 * 100) then
      some (.inr (σ))
    else
      sw_gd (sw_in a1 10) <|
      sw_gd (sw_in a1 10) <|
      sw_let (sw_w σ 66 a1.toNatClampNeg (fX10_greater 0 ((σ.1 66 a1.toNatClampNeg) - 1))) fun m5 =>
      sw_let (a1 + 1) fun v7 =>
      some (.inl (v7, m5))
def fX10_skims (σ : sw_M) : Option (sw_M) :=
  sw_let (sw_w σ 66 9 ((((σ.1 66 9) * 137) + 71) - (((σ.1 66 9) * 137) + 71) / 1000 * 1000)) fun m1 =>
  sw_wh sw_F (fun s => fX10_skims_L27 s.2 s.1) (0, m1)
set_option maxRecDepth 20000 in
theorem sX10_skims_L27 {l : Launch} {E : sw_E} {K : Nat} (hK : 1 ≤ K) (σ : sw_M) (a1 : Int32) {res : sw_M} {t : (Int32 × sw_M) ⊕ (sw_M)} (h : fX10_skims_L27 σ a1 = some t) (hk : (Sum.elim (fun s : Int32 × sw_M => sw_Go l E K RX10 cX10_skims 2 none 27 [(0, .ref 49), (1, .int s.1)] [] s.2 none res) (fun q => q = res)) t) : sw_Go l E K RX10 cX10_skims 2 none 27 [(0, .ref 49), (1, .int a1)] [] σ none res := by
  unfold fX10_skims_L27 at h
  refine sw_iload_n (k0 := 1) 1 rfl (by decide +kernel) rfl ?_
  refine sw_aload_n (k0 := 0) 0 rfl (by decide +kernel) rfl ?_
  refine gf_X10_291 (i := 49) (by decide) rfl (by decide +kernel) ?_
  refine sw_icmp_ge (off := 44) 76 (by decide +kernel) (by decide) (fun c1 => ?_) (fun c1 => ?_)
  · rw [if_pos c1] at h
    cases h
    obtain rfl : _ = res := hk
    exact sw_vret (by decide +kernel)
  · rw [if_neg c1] at h
    refine sw_aload_n (k0 := 0) 0 rfl (by decide +kernel) rfl ?_
    refine gf_X10_63 (i := 49) (by decide) rfl (by decide +kernel) ?_
    refine sw_refj 66 rfl ?_
    refine sw_bipush (n := 9) (v := 9) (by decide +kernel) (by decide) ?_
    refine sw_iaload (a := 66) (by decide) rfl (sw_in_e (by decide)) (by decide +kernel) ?_
    refine sw_topi (x := σ.1 66 9) rfl ?_
    refine sw_bipush (n := 100) (v := 100) (by decide +kernel) (by decide) ?_
    refine sw_irem (by decide +kernel) (by decide) ?_
    refine sw_aload_n (k0 := 0) 0 rfl (by decide +kernel) rfl ?_
    refine gf_X10_393 (i := 49) (by decide) rfl (by decide +kernel) ?_
    refine sw_icmp_ge (off := 27) 76 (by decide +kernel) (by decide) (fun c2 => ?_) (fun c2 => ?_)
    · rw [if_pos c2] at h
      cases h
      obtain rfl : _ = res := hk
      exact sw_vret (by decide +kernel)
    · rw [if_neg c2] at h
      refine sw_aload_n (k0 := 0) 0 rfl (by decide +kernel) rfl ?_
      refine gf_X10_63 (i := 49) (by decide) rfl (by decide +kernel) ?_
      refine sw_refj 66 rfl ?_
      refine sw_iload_n (k0 := 1) 1 rfl (by decide +kernel) rfl ?_
      refine sw_iconst (n := 0) (v := 0) (by decide +kernel) (by decide) ?_
      refine sw_aload_n (k0 := 0) 0 rfl (by decide +kernel) rfl ?_
      refine gf_X10_63 (i := 49) (by decide) rfl (by decide +kernel) ?_
      refine sw_refj 66 rfl ?_
      refine sw_iload_n (k0 := 1) 1 rfl (by decide +kernel) rfl ?_
      obtain ⟨g3, h⟩ := sw_gd_e h
      refine sw_iaload (a := 66) (by decide) rfl (sw_in_e g3) (by decide +kernel) ?_
      refine sw_iconst (n := 1) (v := 1) (by decide +kernel) (by decide) ?_
      refine sw_isub (by decide +kernel) ?_
      refine sw_callSi [.int 0, .int ((σ.1 66 a1.toNatClampNeg) - 1)] (sX10_greater (K := K - 1) (by omega) σ 0 ((σ.1 66 a1.toNatClampNeg) - 1) rfl) rfl (by omega) gs_X10_297 hy_X10_greater (by decide) rfl (Nat.le_of_ble_eq_true rfl) (by decide +kernel) ?_
      obtain ⟨g4, h⟩ := sw_gd_e h
      obtain ⟨m5, e6, h⟩ := sw_let_e h
      refine sw_iastore (a := 66) (by decide) rfl (sw_in_e g4) (by decide +kernel) ?_
      refine sw_mem e6 ?_
      obtain ⟨v7, e8, h⟩ := sw_let_e h
      refine sw_iincv (i := 1) (n := 1) (lv' := [(1, .int v7), (0, .ref 49)]) 1 rfl e8 (by decide +kernel) (by decide) (by decide) rfl ?_
      refine sw_goto (off := (-46)) 27 (by decide +kernel) (by decide) ?_
      cases h
      refine sw_lv [1, 0] rfl ?_
      exact hk
set_option maxRecDepth 20000 in
theorem sX10_skims {l : Launch} {E : sw_E} {K : Nat} (hK : 1 ≤ K) (σ : sw_M) {res : sw_M} (h : fX10_skims σ = some res) : sw_Ct l E K yX10_skims cX10_skims 2 none [.ref 49] σ none res := by
  obtain ⟨t, hk, h⟩ : ∃ t, t = res ∧ fX10_skims σ = some t := ⟨res, rfl, h⟩
  unfold fX10_skims at h
  refine sw_enter2 (own := RX10) (lv := [(0, .ref 49)]) (by decide +kernel) (Nat.le_of_ble_eq_true rfl) rfl rfl ?_
  refine sw_aload_n (k0 := 0) 0 rfl (by decide +kernel) rfl ?_
  refine gf_X10_63 (i := 49) (by decide) rfl (by decide +kernel) ?_
  refine sw_refj 66 rfl ?_
  refine sw_bipush (n := 9) (v := 9) (by decide +kernel) (by decide) ?_
  refine sw_aload_n (k0 := 0) 0 rfl (by decide +kernel) rfl ?_
  refine gf_X10_63 (i := 49) (by decide) rfl (by decide +kernel) ?_
  refine sw_refj 66 rfl ?_
  refine sw_bipush (n := 9) (v := 9) (by decide +kernel) (by decide) ?_
  refine sw_iaload (a := 66) (by decide) rfl (sw_in_e (by decide)) (by decide +kernel) ?_
  refine sw_topi (x := σ.1 66 9) rfl ?_
  refine sw_sipush (n := 137) (v := 137) (by decide +kernel) (by decide) ?_
  refine sw_imul (by decide +kernel) ?_
  refine sw_bipush (n := 71) (v := 71) (by decide +kernel) (by decide) ?_
  refine sw_iadd (by decide +kernel) ?_
  refine sw_sipush (n := 1000) (v := 1000) (by decide +kernel) (by decide) ?_
  refine sw_irem (by decide +kernel) (by decide) ?_
  obtain ⟨m1, e2, h⟩ := sw_let_e h
  refine sw_iastore (a := 66) (by decide) rfl (sw_in_e (by decide)) (by decide +kernel) ?_
  refine sw_mem (e2.trans (show sw_w σ 66 9 ((((σ.1 66 9) * 137) + 71) - (((σ.1 66 9) * 137) + 71) / 1000 * 1000) = sw_w σ 66 (9 : Int32).toNatClampNeg ((((σ.1 66 9) * 137) + 71) - (((σ.1 66 9) * 137) + 71) / 1000 * 1000) from rfl)) ?_
  refine sw_iconst (n := 0) (v := 0) (by decide +kernel) (by decide) ?_
  refine sw_istore_n (k0 := 1) (lv' := [(1, .int 0), (0, .ref 49)]) (by decide +kernel) rfl (by decide) rfl ?_
  refine sw_lv [1, 0] rfl ?_
  exact sw_wh_e (fun s : Int32 × sw_M => sw_Go l E K RX10 cX10_skims 2 none 27 [(0, .ref 49), (1, .int s.1)] [] s.2 none res) (fun q => q = res) (fun s => fX10_skims_L27 s.2 s.1) (fun s t hb hk => sX10_skims_L27 hK s.2 s.1 hb hk) _ _ _ h hk
