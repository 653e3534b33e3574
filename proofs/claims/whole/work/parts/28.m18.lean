def fX10_sinners_L41 (σ : sw_M) (a1 : Int32) (a3 : Int32) (b0 : Int32) (b1 : Int32) : Option ((Int32 × Int32) ⊕ (Int32)) :=
  sw_let (b1 ||| ((fX10_truth b0) <<< (a3 &&& 31))) fun v1 =>
  sw_let (a3 + 1) fun v3 =>
  some (.inl (v1, v3))
def fX10_sinners_L14 (σ : sw_M) (a1 : Int32) (a2 : Int32) (a3 : Int32) : Option ((Int32 × Int32) ⊕ (Int32)) :=
  if (σ.1 49 41) ≤ a3 then
    some (.inr (a2))
  else
    sw_gd (sw_in ((5 * a3) + a1) 35) <|
    if (σ.1 62 ((5 * a3) + a1).toNatClampNeg) ≤ 0 then
      fX10_sinners_L41 σ a1 a3 0 a2
    else
      fX10_sinners_L41 σ a1 a3 1 a2
def fX10_sinners (σ : sw_M) (a1 : Int32) : Option (Int32) :=
  if (fX10_isKind σ a1) = 0 then
    some ((-1))
  else
    sw_wh sw_F (fun s => fX10_sinners_L14 σ a1 s.1 s.2) (0, 0)
set_option maxRecDepth 20000 in
theorem sX10_sinners_L41 {l : Launch} {E : sw_E} {K : Nat} (hK : 2 ≤ K) (σ : sw_M) (a1 : Int32) (a3 : Int32) (b0 : Int32) (b1 : Int32) {res : Int32} {t : (Int32 × Int32) ⊕ (Int32)} (h : fX10_sinners_L41 σ a1 a3 b0 b1 = some t) (hk : (Sum.elim (fun s : Int32 × Int32 => sw_Go l E K RX10 cX10_sinners 4 (some .int) 14 [(0, .ref 49), (1, .int a1), (2, .int s.1), (3, .int s.2)] [] σ (some (.int res)) σ) (fun q => q = res)) t) : sw_Go l E K RX10 cX10_sinners 4 (some .int) 41 [(0, .ref 49), (1, .int a1), (3, .int a3)] [.int b0, .int b1] σ (some (.int res)) σ := by
  unfold fX10_sinners_L41 at h
  refine sw_callSi [.int b0] (sX10_truth (K := K - 1) (by omega) σ b0 rfl) rfl (by omega) gs_X10_287 hy_X10_truth (by decide) rfl (Nat.le_of_ble_eq_true rfl) (by decide +kernel) ?_
  refine sw_iload_n (k0 := 3) 2 rfl (by decide +kernel) rfl ?_
  refine sw_ishl (by decide +kernel) ?_
  refine sw_ior (by decide +kernel) ?_
  obtain ⟨v1, e2, h⟩ := sw_let_e h
  refine sw_topi e2 ?_
  refine sw_istore_n (k0 := 2) (lv' := [(2, .int v1), (0, .ref 49), (1, .int a1), (3, .int a3)]) (by decide +kernel) rfl (by decide) rfl ?_
  obtain ⟨v3, e4, h⟩ := sw_let_e h
  refine sw_iincv (i := 3) (n := 1) (lv' := [(3, .int v3), (2, .int v1), (0, .ref 49), (1, .int a1)]) 3 rfl e4 (by decide +kernel) (by decide) (by decide) rfl ?_
  refine sw_goto (off := (-37)) 14 (by decide +kernel) (by decide) ?_
  cases h
  refine sw_lv [2, 3, 1, 0] rfl ?_
  exact hk
set_option maxRecDepth 20000 in
theorem sX10_sinners_L14 {l : Launch} {E : sw_E} {K : Nat} (hK : 2 ≤ K) (σ : sw_M) (a1 : Int32) (a2 : Int32) (a3 : Int32) {res : Int32} {t : (Int32 × Int32) ⊕ (Int32)} (h : fX10_sinners_L14 σ a1 a2 a3 = some t) (hk : (Sum.elim (fun s : Int32 × Int32 => sw_Go l E K RX10 cX10_sinners 4 (some .int) 14 [(0, .ref 49), (1, .int a1), (2, .int s.1), (3, .int s.2)] [] σ (some (.int res)) σ) (fun q => q = res)) t) : sw_Go l E K RX10 cX10_sinners 4 (some .int) 14 [(0, .ref 49), (1, .int a1), (2, .int a2), (3, .int a3)] [] σ (some (.int res)) σ := by
  unfold fX10_sinners_L14 at h
  refine sw_iload_n (k0 := 3) 3 rfl (by decide +kernel) rfl ?_
  refine sw_aload_n (k0 := 0) 0 rfl (by decide +kernel) rfl ?_
  refine gf_X10_381 (i := 49) (by decide) rfl (by decide +kernel) ?_
  refine sw_icmp_ge (off := 35) 54 (by decide +kernel) (by decide) (fun c1 => ?_) (fun c1 => ?_)
  · rw [if_pos c1] at h
    refine sw_iload_n (k0 := 2) 2 rfl (by decide +kernel) rfl ?_
    cases h
    obtain rfl : _ = res := hk
    exact sw_iret (by decide +kernel)
  · rw [if_neg c1] at h
    refine sw_iload_n (k0 := 2) 2 rfl (by decide +kernel) rfl ?_
    refine sw_aload_n (k0 := 0) 0 rfl (by decide +kernel) rfl ?_
    refine gf_X10_51 (i := 49) (by decide) rfl (by decide +kernel) ?_
    refine sw_refj 62 rfl ?_
    refine sw_iconst (n := 5) (v := 5) (by decide +kernel) (by decide) ?_
    refine sw_iload_n (k0 := 3) 3 rfl (by decide +kernel) rfl ?_
    refine sw_imul (by decide +kernel) ?_
    refine sw_iload_n (k0 := 1) 1 rfl (by decide +kernel) rfl ?_
    refine sw_iadd (by decide +kernel) ?_
    obtain ⟨g2, h⟩ := sw_gd_e h
    refine sw_iaload (a := 62) (by decide) rfl (sw_in_e g2) (by decide +kernel) ?_
    refine sw_if_le (off := 7) 40 (by decide +kernel) (by decide) (fun c3 => ?_) (fun c3 => ?_)
    · rw [if_pos c3] at h
      refine sw_iconst (n := 0) (v := 0) (by decide +kernel) (by decide) ?_
      refine sw_lv [0, 1, 3] rfl ?_
      exact sX10_sinners_L41 hK σ a1 a3 0 a2 h hk
    · rw [if_neg c3] at h
      refine sw_iconst (n := 1) (v := 1) (by decide +kernel) (by decide) ?_
      refine sw_goto (off := 4) 41 (by decide +kernel) (by decide) ?_
      refine sw_lv [0, 1, 3] rfl ?_
      exact sX10_sinners_L41 hK σ a1 a3 1 a2 h hk
set_option maxRecDepth 20000 in
theorem sX10_sinners {l : Launch} {E : sw_E} {K : Nat} (hK : 2 ≤ K) (σ : sw_M) (a1 : Int32) {res : Int32} (h : fX10_sinners σ a1 = some res) : sw_Ct l E K yX10_sinners cX10_sinners 4 (some .int) [.ref 49, .int a1] σ (some (.int res)) σ := by
  obtain ⟨t, hk, h⟩ : ∃ t, t = res ∧ fX10_sinners σ a1 = some t := ⟨res, rfl, h⟩
  unfold fX10_sinners at h
  refine sw_enter2 (own := RX10) (lv := [(0, .ref 49), (1, .int a1)]) (by decide +kernel) (Nat.le_of_ble_eq_true rfl) rfl rfl ?_
  refine sw_aload_n (k0 := 0) 0 rfl (by decide +kernel) rfl ?_
  refine sw_iload_n (k0 := 1) 1 rfl (by decide +kernel) rfl ?_
  refine sw_callVi (ci := 10) (i := 49) [.int a1] (sX10_isKind (K := K - 1) (by omega) σ a1 rfl) rfl (by omega) rfl gs_X10_433 hy_X10_isKind (by decide) (by decide) rfl rfl (Nat.le_of_ble_eq_true rfl) (by decide +kernel) ?_
  refine sw_if_ne (off := 5) 10 (by decide +kernel) (by decide) (fun c1 => ?_) (fun c1 => ?_)
  · rw [if_neg c1] at h
    refine sw_iconst (n := 0) (v := 0) (by decide +kernel) (by decide) ?_
    refine sw_istore_n (k0 := 2) (lv' := [(2, .int 0), (0, .ref 49), (1, .int a1)]) (by decide +kernel) rfl (by decide) rfl ?_
    refine sw_iconst (n := 0) (v := 0) (by decide +kernel) (by decide) ?_
    refine sw_istore_n (k0 := 3) (lv' := [(3, .int 0), (2, .int 0), (0, .ref 49), (1, .int a1)]) (by decide +kernel) rfl (by decide) rfl ?_
    refine sw_lv [2, 3, 1, 0] rfl ?_
    exact sw_wh_e (fun s : Int32 × Int32 => sw_Go l E K RX10 cX10_sinners 4 (some .int) 14 [(0, .ref 49), (1, .int a1), (2, .int s.1), (3, .int s.2)] [] σ (some (.int res)) σ) (fun q => q = res) (fun s => fX10_sinners_L14 σ a1 s.1 s.2) (fun s t hb hk => sX10_sinners_L14 hK σ a1 s.1 s.2 hb hk) _ _ _ h hk
  · rw [if_pos c1] at h
    refine sw_iconst (n := (-1)) (v := (-1)) (by decide +kernel) (by decide) ?_
    cases h
    obtain rfl : _ = res := hk
    exact sw_iret (by decide +kernel)
def fX10_inert_L11 (σ : sw_M) (a1 : Int32) (a2 : Int32) : Option ((Int32 × Int32) ⊕ (Int32)) :=
  if (σ.1 49 43) ≤ a2 then
    some (.inr (a1))
  else
    sw_gd (sw_in (4 * a2) 24) <|
    sw_gd (sw_in ((4 * a2) + 1) 24) <|
    sw_gd (sw_in ((4 * a2) + 2) 24) <|
    sw_let (a1 &&& ((((1 <<< ((σ.1 64 (4 * a2).toNatClampNeg) &&& 31)) ||| (1 <<< ((σ.1 64 ((4 * a2) + 1).toNatClampNeg) &&& 31))) ||| (1 <<< ((σ.1 64 ((4 * a2) + 2).toNatClampNeg) &&& 31))) ^^^ (-1))) fun v5 =>
    sw_let (a2 + 1) fun v7 =>
    some (.inl (v5, v7))
def fX10_inert (σ : sw_M) : Option (Int32) :=
  sw_let ((1 <<< ((σ.1 49 40) &&& 31)) - 1) fun v1 =>
  sw_wh sw_F (fun s => fX10_inert_L11 σ s.1 s.2) (v1, 0)
set_option maxRecDepth 20000 in
theorem sX10_inert_L11 {l : Launch} {E : sw_E} {K : Nat} (hK : 0 ≤ K) (σ : sw_M) (a1 : Int32) (a2 : Int32) {res : Int32} {t : (Int32 × Int32) ⊕ (Int32)} (h : fX10_inert_L11 σ a1 a2 = some t) (hk : (Sum.elim (fun s : Int32 × Int32 => sw_Go l E K RX10 cX10_inert 3 (some .int) 11 [(0, .ref 49), (1, .int s.1), (2, .int s.2)] [] σ (some (.int res)) σ) (fun q => q = res)) t) : sw_Go l E K RX10 cX10_inert 3 (some .int) 11 [(0, .ref 49), (1, .int a1), (2, .int a2)] [] σ (some (.int res)) σ := by
  unfold fX10_inert_L11 at h
  refine sw_iload_n (k0 := 2) 2 rfl (by decide +kernel) rfl ?_
  refine sw_aload_n (k0 := 0) 0 rfl (by decide +kernel) rfl ?_
  refine gf_X10_387 (i := 49) (by decide) rfl (by decide +kernel) ?_
  refine sw_icmp_ge (off := 50) 66 (by decide +kernel) (by decide) (fun c1 => ?_) (fun c1 => ?_)
  · rw [if_pos c1] at h
    refine sw_iload_n (k0 := 1) 1 rfl (by decide +kernel) rfl ?_
    cases h
    obtain rfl : _ = res := hk
    exact sw_iret (by decide +kernel)
  · rw [if_neg c1] at h
    refine sw_iload_n (k0 := 1) 1 rfl (by decide +kernel) rfl ?_
    refine sw_iconst (n := 1) (v := 1) (by decide +kernel) (by decide) ?_
    refine sw_aload_n (k0 := 0) 0 rfl (by decide +kernel) rfl ?_
    refine gf_X10_57 (i := 49) (by decide) rfl (by decide +kernel) ?_
    refine sw_refj 64 rfl ?_
    refine sw_iconst (n := 4) (v := 4) (by decide +kernel) (by decide) ?_
    refine sw_iload_n (k0 := 2) 2 rfl (by decide +kernel) rfl ?_
    refine sw_imul (by decide +kernel) ?_
    obtain ⟨g2, h⟩ := sw_gd_e h
    refine sw_iaload (a := 64) (by decide) rfl (sw_in_e g2) (by decide +kernel) ?_
    refine sw_ishl (by decide +kernel) ?_
    refine sw_iconst (n := 1) (v := 1) (by decide +kernel) (by decide) ?_
    refine sw_aload_n (k0 := 0) 0 rfl (by decide +kernel) rfl ?_
    refine gf_X10_57 (i := 49) (by decide) rfl (by decide +kernel) ?_
    refine sw_refj 64 rfl ?_
    refine sw_iconst (n := 4) (v := 4) (by decide +kernel) (by decide) ?_
    refine sw_iload_n (k0 := 2) 2 rfl (by decide +kernel) rfl ?_
    refine sw_imul (by decide +kernel) ?_
    refine sw_iconst (n := 1) (v := 1) (by decide +kernel) (by decide) ?_
    refine sw_iadd (by decide +kernel) ?_
    obtain ⟨g3, h⟩ := sw_gd_e h
    refine sw_iaload (a := 64) (by decide) rfl (sw_in_e g3) (by decide +kernel) ?_
    refine sw_ishl (by decide +kernel) ?_
    refine sw_ior (by decide +kernel) ?_
    refine sw_iconst (n := 1) (v := 1) (by decide +kernel) (by decide) ?_
    refine sw_aload_n (k0 := 0) 0 rfl (by decide +kernel) rfl ?_
    refine gf_X10_57 (i := 49) (by decide) rfl (by decide +kernel) ?_
    refine sw_refj 64 rfl ?_
    refine sw_iconst (n := 4) (v := 4) (by decide +kernel) (by decide) ?_
    refine sw_iload_n (k0 := 2) 2 rfl (by decide +kernel) rfl ?_
    refine sw_imul (by decide +kernel) ?_
    refine sw_iconst (n := 2) (v := 2) (by decide +kernel) (by decide) ?_
    refine sw_iadd (by decide +kernel) ?_
    obtain ⟨g4, h⟩ := sw_gd_e h
    refine sw_iaload (a := 64) (by decide) rfl (sw_in_e g4) (by decide +kernel) ?_
    refine sw_ishl (by decide +kernel) ?_
    refine sw_ior (by decide +kernel) ?_
    refine sw_iconst (n := (-1)) (v := (-1)) (by decide +kernel) (by decide) ?_
    refine sw_ixor (by decide +kernel) ?_
    refine sw_iand (by decide +kernel) ?_
    obtain ⟨v5, e6, h⟩ := sw_let_e h
    refine sw_topi e6 ?_
    refine sw_istore_n (k0 := 1) (lv' := [(1, .int v5), (0, .ref 49), (2, .int a2)]) (by decide +kernel) rfl (by decide) rfl ?_
    obtain ⟨v7, e8, h⟩ := sw_let_e h
    refine sw_iincv (i := 2) (n := 1) (lv' := [(2, .int v7), (1, .int v5), (0, .ref 49)]) 2 rfl e8 (by decide +kernel) (by decide) (by decide) rfl ?_
    refine sw_goto (off := (-52)) 11 (by decide +kernel) (by decide) ?_
    cases h
    refine sw_lv [2, 1, 0] rfl ?_
    exact hk
set_option maxRecDepth 20000 in
theorem sX10_inert {l : Launch} {E : sw_E} {K : Nat} (hK : 0 ≤ K) (σ : sw_M) {res : Int32} (h : fX10_inert σ = some res) : sw_Ct l E K yX10_inert cX10_inert 3 (some .int) [.ref 49] σ (some (.int res)) σ := by
  obtain ⟨t, hk, h⟩ : ∃ t, t = res ∧ fX10_inert σ = some t := ⟨res, rfl, h⟩
  unfold fX10_inert at h
  refine sw_enter2 (own := RX10) (lv := [(0, .ref 49)]) (by decide +kernel) (Nat.le_of_ble_eq_true rfl) rfl rfl ?_
  refine sw_iconst (n := 1) (v := 1) (by decide +kernel) (by decide) ?_
  refine sw_aload_n (k0 := 0) 0 rfl (by decide +kernel) rfl ?_
  refine gf_X10_291 (i := 49) (by decide) rfl (by decide +kernel) ?_
  refine sw_ishl (by decide +kernel) ?_
  refine sw_iconst (n := 1) (v := 1) (by decide +kernel) (by decide) ?_
  refine sw_isub (by decide +kernel) ?_
  obtain ⟨v1, e2, h⟩ := sw_let_e h
  refine sw_topi e2 ?_
  refine sw_istore_n (k0 := 1) (lv' := [(1, .int v1), (0, .ref 49)]) (by decide +kernel) rfl (by decide) rfl ?_
  refine sw_iconst (n := 0) (v := 0) (by decide +kernel) (by decide) ?_
  refine sw_istore_n (k0 := 2) (lv' := [(2, .int 0), (1, .int v1), (0, .ref 49)]) (by decide +kernel) rfl (by decide) rfl ?_
  refine sw_lv [2, 1, 0] rfl ?_
  exact sw_wh_e (fun s : Int32 × Int32 => sw_Go l E K RX10 cX10_inert 3 (some .int) 11 [(0, .ref 49), (1, .int s.1), (2, .int s.2)] [] σ (some (.int res)) σ) (fun q => q = res) (fun s => fX10_inert_L11 σ s.1 s.2) (fun s t hb hk => sX10_inert_L11 hK σ s.1 s.2 hb hk) _ _ _ h hk
def fX10_alive_L40 (σ : sw_M) (a2 : Int32) (b0 : Int32) (b1 : Int32) : Option ((Int32 × Int32) ⊕ (Int32 × sw_M)) :=
  sw_let (b1 ||| ((fX10_truth b0) <<< (a2 &&& 31))) fun v1 =>
  sw_let (a2 + 1) fun v3 =>
  some (.inl (v1, v3))
def fX10_alive_L8 (σ : sw_M) (a1 : Int32) (a2 : Int32) : Option ((Int32 × Int32) ⊕ (Int32 × sw_M)) :=
  if (σ.1 49 43) ≤ a2 then
    some (.inr ((a1, σ)))
  else
    sw_gd (sw_in ((4 * a2) + 3) 24) <|
    sw_b1 (fX10_makes σ a2 (σ.1 64 ((4 * a2) + 3).toNatClampNeg)) fun r3 =>
    if r3 ≤ 0 then
      fX10_alive_L40 σ a2 0 a1
    else
      fX10_alive_L40 σ a2 1 a1
def fX10_alive (σ : sw_M) : Option (Int32 × sw_M) :=
  sw_b1 (fX10_fill σ) fun m1 =>
  sw_wh sw_F (fun s => fX10_alive_L8 m1 s.1 s.2) (0, 0)
set_option maxRecDepth 20000 in
theorem sX10_alive_L40 {l : Launch} {E : sw_E} {K : Nat} (hK : 2 ≤ K) (σ : sw_M) (a2 : Int32) (b0 : Int32) (b1 : Int32) {res : Int32 × sw_M} {t : (Int32 × Int32) ⊕ (Int32 × sw_M)} (h : fX10_alive_L40 σ a2 b0 b1 = some t) (hk : (Sum.elim (fun s : Int32 × Int32 => sw_Go l E K RX10 cX10_alive 3 (some .int) 8 [(0, .ref 49), (1, .int s.1), (2, .int s.2)] [] σ (some (.int res.1)) res.2) (fun q => q = res)) t) : sw_Go l E K RX10 cX10_alive 3 (some .int) 40 [(0, .ref 49), (2, .int a2)] [.int b0, .int b1] σ (some (.int res.1)) res.2 := by
  unfold fX10_alive_L40 at h
  refine sw_callSi [.int b0] (sX10_truth (K := K - 1) (by omega) σ b0 rfl) rfl (by omega) gs_X10_287 hy_X10_truth (by decide) rfl (Nat.le_of_ble_eq_true rfl) (by decide +kernel) ?_
  refine sw_iload_n (k0 := 2) 1 rfl (by decide +kernel) rfl ?_
  refine sw_ishl (by decide +kernel) ?_
  refine sw_ior (by decide +kernel) ?_
  obtain ⟨v1, e2, h⟩ := sw_let_e h
  refine sw_topi e2 ?_
  refine sw_istore_n (k0 := 1) (lv' := [(1, .int v1), (0, .ref 49), (2, .int a2)]) (by decide +kernel) rfl (by decide) rfl ?_
  obtain ⟨v3, e4, h⟩ := sw_let_e h
  refine sw_iincv (i := 2) (n := 1) (lv' := [(2, .int v3), (1, .int v1), (0, .ref 49)]) 2 rfl e4 (by decide +kernel) (by decide) (by decide) rfl ?_
  refine sw_goto (off := (-42)) 8 (by decide +kernel) (by decide) ?_
  cases h
  refine sw_lv [2, 1, 0] rfl ?_
  exact hk
set_option maxRecDepth 20000 in
theorem sX10_alive_L8 {l : Launch} {E : sw_E} {K : Nat} (hK : 2 ≤ K) (σ : sw_M) (a1 : Int32) (a2 : Int32) {res : Int32 × sw_M} {t : (Int32 × Int32) ⊕ (Int32 × sw_M)} (h : fX10_alive_L8 σ a1 a2 = some t) (hk : (Sum.elim (fun s : Int32 × Int32 => sw_Go l E K RX10 cX10_alive 3 (some .int) 8 [(0, .ref 49), (1, .int s.1), (2, .int s.2)] [] σ (some (.int res.1)) res.2) (fun q => q = res)) t) : sw_Go l E K RX10 cX10_alive 3 (some .int) 8 [(0, .ref 49), (1, .int a1), (2, .int a2)] [] σ (some (.int res.1)) res.2 := by
  unfold fX10_alive_L8 at h
  refine sw_iload_n (k0 := 2) 2 rfl (by decide +kernel) rfl ?_
  refine sw_aload_n (k0 := 0) 0 rfl (by decide +kernel) rfl ?_
  refine gf_X10_387 (i := 49) (by decide) rfl (by decide +kernel) ?_
  refine sw_icmp_ge (off := 40) 53 (by decide +kernel) (by decide) (fun c1 => ?_) (fun c1 => ?_)
  · rw [if_pos c1] at h
    refine sw_iload_n (k0 := 1) 1 rfl (by decide +kernel) rfl ?_
    cases h
    obtain rfl : _ = res := hk
    exact sw_iret (by decide +kernel)
  · rw [if_neg c1] at h
    refine sw_iload_n (k0 := 1) 1 rfl (by decide +kernel) rfl ?_
    refine sw_aload_n (k0 := 0) 0 rfl (by decide +kernel) rfl ?_
    refine sw_iload_n (k0 := 2) 2 rfl (by decide +kernel) rfl ?_
    refine sw_aload_n (k0 := 0) 0 rfl (by decide +kernel) rfl ?_
    refine gf_X10_57 (i := 49) (by decide) rfl (by decide +kernel) ?_
    refine sw_refj 64 rfl ?_
    refine sw_iconst (n := 4) (v := 4) (by decide +kernel) (by decide) ?_
    refine sw_iload_n (k0 := 2) 2 rfl (by decide +kernel) rfl ?_
    refine sw_imul (by decide +kernel) ?_
    refine sw_iconst (n := 3) (v := 3) (by decide +kernel) (by decide) ?_
    refine sw_iadd (by decide +kernel) ?_
    obtain ⟨g2, h⟩ := sw_gd_e h
    refine sw_iaload (a := 64) (by decide) rfl (sw_in_e g2) (by decide +kernel) ?_
    obtain ⟨r3, w4, h⟩ := sw_b1_e h
    refine sw_callVi (ci := 10) (i := 49) [.int a2, .int (σ.1 64 ((4 * a2) + 3).toNatClampNeg)] (sX10_makes (K := K - 1) (by omega) σ a2 (σ.1 64 ((4 * a2) + 3).toNatClampNeg) w4) rfl (by omega) rfl gs_X10_418 hy_X10_makes (by decide) (by decide) rfl rfl (Nat.le_of_ble_eq_true rfl) (by decide +kernel) ?_
    refine sw_if_le (off := 7) 39 (by decide +kernel) (by decide) (fun c5 => ?_) (fun c5 => ?_)
    · rw [if_pos c5] at h
      refine sw_iconst (n := 0) (v := 0) (by decide +kernel) (by decide) ?_
      refine sw_lv [0, 2] rfl ?_
      exact sX10_alive_L40 hK σ a2 0 a1 h hk
    · rw [if_neg c5] at h
      refine sw_iconst (n := 1) (v := 1) (by decide +kernel) (by decide) ?_
      refine sw_goto (off := 4) 40 (by decide +kernel) (by decide) ?_
      refine sw_lv [0, 2] rfl ?_
      exact sX10_alive_L40 hK σ a2 1 a1 h hk
set_option maxRecDepth 20000 in
theorem sX10_alive {l : Launch} {E : sw_E} {K : Nat} (hK : 2 ≤ K) (σ : sw_M) {res : Int32 × sw_M} (h : fX10_alive σ = some res) : sw_Ct l E K yX10_alive cX10_alive 3 (some .int) [.ref 49] σ (some (.int res.1)) res.2 := by
  obtain ⟨t, hk, h⟩ : ∃ t, t = res ∧ fX10_alive σ = some t := ⟨res, rfl, h⟩
  unfold fX10_alive at h
  refine sw_enter2 (own := RX10) (lv := [(0, .ref 49)]) (by decide +kernel) (Nat.le_of_ble_eq_true rfl) rfl rfl ?_
  refine sw_aload_n (k0 := 0) 0 rfl (by decide +kernel) rfl ?_
  obtain ⟨m1, w2, h⟩ := sw_b1_e h
  refine sw_callVv (ci := 10) (i := 49) [] (sX10_fill (K := K - 1) (by omega) σ w2) rfl (by omega) rfl gs_X10_445 hy_X10_fill (by decide) (by decide) rfl rfl (Nat.le_of_ble_eq_true rfl) (by decide +kernel) ?_
  refine sw_iconst (n := 0) (v := 0) (by decide +kernel) (by decide) ?_
  refine sw_istore_n (k0 := 1) (lv' := [(1, .int 0), (0, .ref 49)]) (by decide +kernel) rfl (by decide) rfl ?_
  refine sw_iconst (n := 0) (v := 0) (by decide +kernel) (by decide) ?_
  refine sw_istore_n (k0 := 2) (lv' := [(2, .int 0), (1, .int 0), (0, .ref 49)]) (by decide +kernel) rfl (by decide) rfl ?_
  refine sw_lv [2, 1, 0] rfl ?_
  exact sw_wh_e (fun s : Int32 × Int32 => sw_Go l E K RX10 cX10_alive 3 (some .int) 8 [(0, .ref 49), (1, .int s.1), (2, .int s.2)] [] m1 (some (.int res.1)) res.2) (fun q => q = res) (fun s => fX10_alive_L8 m1 s.1 s.2) (fun s t hb hk => sX10_alive_L8 hK m1 s.1 s.2 hb hk) _ _ _ h hk
def fX10_thickest_L33 (σ : sw_M) (a1 : Int32) (a2 : Int32) : Option ((Int32 × Int32) ⊕ (Int32)) :=
  sw_let (a2 + 1) fun v1 =>
  some (.inl (a1, v1))
def fX10_thickest_L31 (σ : sw_M) (a2 : Int32) : Option ((Int32 × Int32) ⊕ (Int32)) :=
  fX10_thickest_L33 σ a2 a2
def fX10_thickest_L4 (σ : sw_M) (a1 : Int32) (a2 : Int32) : Option ((Int32 × Int32) ⊕ (Int32)) :=
  if (σ.1 49 40) ≤ a2 then
    some (.inr (a1))
  else
    if a1 < 0 then
      fX10_thickest_L31 σ a2
    else
      sw_gd (sw_in a2 10) <|
      sw_gd (sw_in a1 10) <|
      if (σ.1 65 a2.toNatClampNeg) ≤ (σ.1 65 a1.toNatClampNeg) then
        fX10_thickest_L33 σ a1 a2
      else
        fX10_thickest_L31 σ a2
def fX10_thickest (σ : sw_M) : Option (Int32) :=
  sw_wh sw_F (fun s => fX10_thickest_L4 σ s.1 s.2) ((-1), 0)
set_option maxRecDepth 20000 in
theorem sX10_thickest_L33 {l : Launch} {E : sw_E} {K : Nat} (hK : 0 ≤ K) (σ : sw_M) (a1 : Int32) (a2 : Int32) {res : Int32} {t : (Int32 × Int32) ⊕ (Int32)} (h : fX10_thickest_L33 σ a1 a2 = some t) (hk : (Sum.elim (fun s : Int32 × Int32 => sw_Go l E K RX10 cX10_thickest 3 (some .int) 4 [(0, .ref 49), (1, .int s.1), (2, .int s.2)] [] σ (some (.int res)) σ) (fun q => q = res)) t) : sw_Go l E K RX10 cX10_thickest 3 (some .int) 33 [(0, .ref 49), (1, .int a1), (2, .int a2)] [] σ (some (.int res)) σ := by
  unfold fX10_thickest_L33 at h
  obtain ⟨v1, e2, h⟩ := sw_let_e h
  refine sw_iincv (i := 2) (n := 1) (lv' := [(2, .int v1), (0, .ref 49), (1, .int a1)]) 2 rfl e2 (by decide +kernel) (by decide) (by decide) rfl ?_
  refine sw_goto (off := (-32)) 4 (by decide +kernel) (by decide) ?_
  cases h
  refine sw_lv [1, 2, 0] rfl ?_
  exact hk
set_option maxRecDepth 20000 in
theorem sX10_thickest_L31 {l : Launch} {E : sw_E} {K : Nat} (hK : 0 ≤ K) (σ : sw_M) (a2 : Int32) {res : Int32} {t : (Int32 × Int32) ⊕ (Int32)} (h : fX10_thickest_L31 σ a2 = some t) (hk : (Sum.elim (fun s : Int32 × Int32 => sw_Go l E K RX10 cX10_thickest 3 (some .int) 4 [(0, .ref 49), (1, .int s.1), (2, .int s.2)] [] σ (some (.int res)) σ) (fun q => q = res)) t) : sw_Go l E K RX10 cX10_thickest 3 (some .int) 31 [(0, .ref 49), (2, .int a2)] [] σ (some (.int res)) σ := by
  unfold fX10_thickest_L31 at h
  refine sw_iload_n (k0 := 2) 1 rfl (by decide +kernel) rfl ?_
  refine sw_istore_n (k0 := 1) (lv' := [(1, .int a2), (0, .ref 49), (2, .int a2)]) (by decide +kernel) rfl (by decide) rfl ?_
  refine sw_lv [1, 0, 2] rfl ?_
  exact sX10_thickest_L33 hK σ a2 a2 h hk
set_option maxRecDepth 20000 in
theorem sX10_thickest_L4 {l : Launch} {E : sw_E} {K : Nat} (hK : 0 ≤ K) (σ : sw_M) (a1 : Int32) (a2 : Int32) {res : Int32} {t : (Int32 × Int32) ⊕ (Int32)} (h : fX10_thickest_L4 σ a1 a2 = some t) (hk : (Sum.elim (fun s : Int32 × Int32 => sw_Go l E K RX10 cX10_thickest 3 (some .int) 4 [(0, .ref 49), (1, .int s.1), (2, .int s.2)] [] σ (some (.int res)) σ) (fun q => q = res)) t) : sw_Go l E K RX10 cX10_thickest 3 (some .int) 4 [(0, .ref 49), (1, .int a1), (2, .int a2)] [] σ (some (.int res)) σ := by
  unfold fX10_thickest_L4 at h
  refine sw_iload_n (k0 := 2) 2 rfl (by decide +kernel) rfl ?_
  refine sw_aload_n (k0 := 0) 0 rfl (by decide +kernel) rfl ?_
  refine gf_X10_291 (i := 49) (by decide) rfl (by decide +kernel) ?_
  refine sw_icmp_ge (off := 30) 39 (by decide +kernel) (by decide) (fun c1 => ?_) (fun c1 => ?_)
  · rw [if_pos c1] at h
    refine sw_iload_n (k0 := 1) 1 rfl (by decide +kernel) rfl ?_
    cases h
    obtain rfl : _ = res := hk
    exact sw_iret (by decide +kernel)
  · rw [if_neg c1] at h
    refine sw_iload_n (k0 := 1) 1 rfl (by decide +kernel) rfl ?_
    refine sw_if_lt (off := 18) 31 (by decide +kernel) (by decide) (fun c2 => ?_) (fun c2 => ?_)
    · rw [if_pos c2] at h
      refine sw_lv [0, 2] rfl ?_
      exact sX10_thickest_L31 hK σ a2 h hk
    · rw [if_neg c2] at h
      refine sw_aload_n (k0 := 0) 0 rfl (by decide +kernel) rfl ?_
      refine gf_X10_60 (i := 49) (by decide) rfl (by decide +kernel) ?_
      refine sw_refj 65 rfl ?_
      refine sw_iload_n (k0 := 2) 2 rfl (by decide +kernel) rfl ?_
      obtain ⟨g3, h⟩ := sw_gd_e h
      refine sw_iaload (a := 65) (by decide) rfl (sw_in_e g3) (by decide +kernel) ?_
      refine sw_aload_n (k0 := 0) 0 rfl (by decide +kernel) rfl ?_
      refine gf_X10_60 (i := 49) (by decide) rfl (by decide +kernel) ?_
      refine sw_refj 65 rfl ?_
      refine sw_iload_n (k0 := 1) 1 rfl (by decide +kernel) rfl ?_
      obtain ⟨g4, h⟩ := sw_gd_e h
      refine sw_iaload (a := 65) (by decide) rfl (sw_in_e g4) (by decide +kernel) ?_
      refine sw_icmp_le (off := 5) 33 (by decide +kernel) (by decide) (fun c5 => ?_) (fun c5 => ?_)
      · rw [if_pos c5] at h
        exact sX10_thickest_L33 hK σ a1 a2 h hk
      · rw [if_neg c5] at h
        refine sw_lv [0, 2] rfl ?_
        exact sX10_thickest_L31 hK σ a2 h hk
set_option maxRecDepth 20000 in
theorem sX10_thickest {l : Launch} {E : sw_E} {K : Nat} (hK : 0 ≤ K) (σ : sw_M) {res : Int32} (h : fX10_thickest σ = some res) : sw_Ct l E K yX10_thickest cX10_thickest 3 (some .int) [.ref 49] σ (some (.int res)) σ := by
  obtain ⟨t, hk, h⟩ : ∃ t, t = res ∧ fX10_thickest σ = some t := ⟨res, rfl, h⟩
  unfold fX10_thickest at h
  refine sw_enter2 (own := RX10) (lv := [(0, .ref 49)]) (by decide +kernel) (Nat.le_of_ble_eq_true rfl) rfl rfl ?_
  refine sw_iconst (n := (-1)) (v := (-1)) (by decide +kernel) (by decide) ?_
  refine sw_istore_n (k0 := 1) (lv' := [(1, .int (-1)), (0, .ref 49)]) (by decide +kernel) rfl (by decide) rfl ?_
  refine sw_iconst (n := 0) (v := 0) (by decide +kernel) (by decide) ?_
  refine sw_istore_n (k0 := 2) (lv' := [(2, .int 0), (1, .int (-1)), (0, .ref 49)]) (by decide +kernel) rfl (by decide) rfl ?_
  refine sw_lv [2, 1, 0] rfl ?_
  exact sw_wh_e (fun s : Int32 × Int32 => sw_Go l E K RX10 cX10_thickest 3 (some .int) 4 [(0, .ref 49), (1, .int s.1), (2, .int s.2)] [] σ (some (.int res)) σ) (fun q => q = res) (fun s => fX10_thickest_L4 σ s.1 s.2) (fun s t hb hk => sX10_thickest_L4 hK σ s.1 s.2 hb hk) _ _ _ h hk
def fX10_thinnest_L33 (σ : sw_M) (a1 : Int32) (a2 : Int32) : Option ((Int32 × Int32) ⊕ (Int32)) :=
  sw_let (a2 + 1) fun v1 =>
  some (.inl (a1, v1))
def fX10_thinnest_L31 (σ : sw_M) (a2 : Int32) : Option ((Int32 × Int32) ⊕ (Int32)) :=
  fX10_thinnest_L33 σ a2 a2
def fX10_thinnest_L4 (σ : sw_M) (a1 : Int32) (a2 : Int32) : Option ((Int32 × Int32) ⊕ (Int32)) :=
  if (σ.1 49 40) ≤ a2 then
    some (.inr (a1))
  else
    if a1 < 0 then
      fX10_thinnest_L31 σ a2
    else
      sw_gd (sw_in a2 10) <|
      sw_gd (sw_in a1 10) <|
      if (σ.1 65 a1.toNatClampNeg) ≤ (σ.1 65 a2.toNatClampNeg) then
        fX10_thinnest_L33 σ a1 a2
      else
        fX10_thinnest_L31 σ a2
def fX10_thinnest (σ : sw_M) : Option (Int32) :=
  sw_wh sw_F (fun s => fX10_thinnest_L4 σ s.1 s.2) ((-1), 0)
set_option maxRecDepth 20000 in
theorem sX10_thinnest_L33 {l : Launch} {E : sw_E} {K : Nat} (hK : 0 ≤ K) (σ : sw_M) (a1 : Int32) (a2 : Int32) {res : Int32} {t : (Int32 × Int32) ⊕ (Int32)} (h : fX10_thinnest_L33 σ a1 a2 = some t) (hk : (Sum.elim (fun s : Int32 × Int32 => sw_Go l E K RX10 cX10_thinnest 3 (some .int) 4 [(0, .ref 49), (1, .int s.1), (2, .int s.2)] [] σ (some (.int res)) σ) (fun q => q = res)) t) : sw_Go l E K RX10 cX10_thinnest 3 (some .int) 33 [(0, .ref 49), (1, .int a1), (2, .int a2)] [] σ (some (.int res)) σ := by
  unfold fX10_thinnest_L33 at h
  obtain ⟨v1, e2, h⟩ := sw_let_e h
  refine sw_iincv (i := 2) (n := 1) (lv' := [(2, .int v1), (0, .ref 49), (1, .int a1)]) 2 rfl e2 (by decide +kernel) (by decide) (by decide) rfl ?_
  refine sw_goto (off := (-32)) 4 (by decide +kernel) (by decide) ?_
  cases h
  refine sw_lv [1, 2, 0] rfl ?_
  exact hk
set_option maxRecDepth 20000 in
theorem sX10_thinnest_L31 {l : Launch} {E : sw_E} {K : Nat} (hK : 0 ≤ K) (σ : sw_M) (a2 : Int32) {res : Int32} {t : (Int32 × Int32) ⊕ (Int32)} (h : fX10_thinnest_L31 σ a2 = some t) (hk : (Sum.elim (fun s : Int32 × Int32 => sw_Go l E K RX10 cX10_thinnest 3 (some .int) 4 [(0, .ref 49), (1, .int s.1), (2, .int s.2)] [] σ (some (.int res)) σ) (fun q => q = res)) t) : sw_Go l E K RX10 cX10_thinnest 3 (some .int) 31 [(0, .ref 49), (2, .int a2)] [] σ (some (.int res)) σ := by
  unfold fX10_thinnest_L31 at h
  refine sw_iload_n (k0 := 2) 1 rfl (by decide +kernel) rfl ?_
  refine sw_istore_n (k0 := 1) (lv' := [(1, .int a2), (0, .ref 49), (2, .int a2)]) (by decide +kernel) rfl (by decide) rfl ?_
  refine sw_lv [1, 0, 2] rfl ?_
  exact sX10_thinnest_L33 hK σ a2 a2 h hk
set_option maxRecDepth 20000 in
theorem sX10_thinnest_L4 {l : Launch} {E : sw_E} {K : Nat} (hK : 0 ≤ K) (σ : sw_M) (a1 : Int32) (a2 : Int32) {res : Int32} {t : (Int32 × Int32) ⊕ (Int32)} (h : fX10_thinnest_L4 σ a1 a2 = some t) (hk : (Sum.elim (fun s : Int32 × Int32 => sw_Go l E K RX10 cX10_thinnest 3 (some .int) 4 [(0, .ref 49), (1, .int s.1), (2, .int s.2)] [] σ (some (.int res)) σ) (fun q => q = res)) t) : sw_Go l E K RX10 cX10_thinnest 3 (some .int) 4 [(0, .ref 49), (1, .int a1), (2, .int a2)] [] σ (some (.int res)) σ := by
  unfold fX10_thinnest_L4 at h
  refine sw_iload_n (k0 := 2) 2 rfl (by decide +kernel) rfl ?_
  refine sw_aload_n (k0 := 0) 0 rfl (by decide +kernel) rfl ?_
  refine gf_X10_291 (i := 49) (by decide) rfl (by decide +kernel) ?_
  refine sw_icmp_ge (off := 30) 39 (by decide +kernel) (by decide) (fun c1 => ?_) (fun c1 => ?_)
  · rw [if_pos c1] at h
    refine sw_iload_n (k0 := 1) 1 rfl (by decide +kernel) rfl ?_
    cases h
    obtain rfl : _ = res := hk
    exact sw_iret (by decide +kernel)
  · rw [if_neg c1] at h
    refine sw_iload_n (k0 := 1) 1 rfl (by decide +kernel) rfl ?_
    refine sw_if_lt (off := 18) 31 (by decide +kernel) (by decide) (fun c2 => ?_) (fun c2 => ?_)
    · rw [if_pos c2] at h
      refine sw_lv [0, 2] rfl ?_
      exact sX10_thinnest_L31 hK σ a2 h hk
    · rw [if_neg c2] at h
      refine sw_aload_n (k0 := 0) 0 rfl (by decide +kernel) rfl ?_
      refine gf_X10_60 (i := 49) (by decide) rfl (by decide +kernel) ?_
      refine sw_refj 65 rfl ?_
      refine sw_iload_n (k0 := 2) 2 rfl (by decide +kernel) rfl ?_
      obtain ⟨g3, h⟩ := sw_gd_e h
      refine sw_iaload (a := 65) (by decide) rfl (sw_in_e g3) (by decide +kernel) ?_
      refine sw_aload_n (k0 := 0) 0 rfl (by decide +kernel) rfl ?_
      refine gf_X10_60 (i := 49) (by decide) rfl (by decide +kernel) ?_
      refine sw_refj 65 rfl ?_
      refine sw_iload_n (k0 := 1) 1 rfl (by decide +kernel) rfl ?_
      obtain ⟨g4, h⟩ := sw_gd_e h
      refine sw_iaload (a := 65) (by decide) rfl (sw_in_e g4) (by decide +kernel) ?_
      refine sw_icmp_ge (off := 5) 33 (by decide +kernel) (by decide) (fun c5 => ?_) (fun c5 => ?_)
      · rw [if_pos c5] at h
        exact sX10_thinnest_L33 hK σ a1 a2 h hk
      · rw [if_neg c5] at h
        refine sw_lv [0, 2] rfl ?_
        exact sX10_thinnest_L31 hK σ a2 h hk
set_option maxRecDepth 20000 in
theorem sX10_thinnest {l : Launch} {E : sw_E} {K : Nat} (hK : 0 ≤ K) (σ : sw_M) {res : Int32} (h : fX10_thinnest σ = some res) : sw_Ct l E K yX10_thinnest cX10_thinnest 3 (some .int) [.ref 49] σ (some (.int res)) σ := by
  obtain ⟨t, hk, h⟩ : ∃ t, t = res ∧ fX10_thinnest σ = some t := ⟨res, rfl, h⟩
  unfold fX10_thinnest at h
  refine sw_enter2 (own := RX10) (lv := [(0, .ref 49)]) (by decide +kernel) (Nat.le_of_ble_eq_true rfl) rfl rfl ?_
  refine sw_iconst (n := (-1)) (v := (-1)) (by decide +kernel) (by decide) ?_
  refine sw_istore_n (k0 := 1) (lv' := [(1, .int (-1)), (0, .ref 49)]) (by decide +kernel) rfl (by decide) rfl ?_
  refine sw_iconst (n := 0) (v := 0) (by decide +kernel) (by decide) ?_
  refine sw_istore_n (k0 := 2) (lv' := [(2, .int 0), (1, .int (-1)), (0, .ref 49)]) (by decide +kernel) rfl (by decide) rfl ?_
  refine sw_lv [2, 1, 0] rfl ?_
  exact sw_wh_e (fun s : Int32 × Int32 => sw_Go l E K RX10 cX10_thinnest 3 (some .int) 4 [(0, .ref 49), (1, .int s.1), (2, .int s.2)] [] σ (some (.int res)) σ) (fun q => q = res) (fun s => fX10_thinnest_L4 σ s.1 s.2) (fun s t hb hk => sX10_thinnest_L4 hK σ s.1 s.2 hb hk) _ _ _ h hk
def fX10_makers_L42 (σ : sw_M) (a1 : Int32) (a3 : Int32) (b0 : Int32) (b1 : Int32) : Option ((Int32 × Int32) ⊕ (Int32)) :=
  sw_let (b1 ||| ((fX10_truth b0) <<< (a3 &&& 31))) fun v1 =>
  sw_let (a3 + 1) fun v3 =>
  some (.inl (v1, v3))
def fX10_makers_L14 (σ : sw_M) (a1 : Int32) (a2 : Int32) (a3 : Int32) : Option ((Int32 × Int32) ⊕ (Int32)) :=
  if (σ.1 49 43) ≤ a3 then
    some (.inr (a2))
  else
    sw_gd (sw_in ((4 * a3) + 2) 24) <|
    if (σ.1 64 ((4 * a3) + 2).toNatClampNeg) = a1 then
      fX10_makers_L42 σ a1 a3 1 a2
    else
      fX10_makers_L42 σ a1 a3 0 a2
def fX10_makers (σ : sw_M) (a1 : Int32) : Option (Int32) :=
  if (fX10_isKind σ a1) = 0 then
    some ((-1))
  else
    sw_wh sw_F (fun s => fX10_makers_L14 σ a1 s.1 s.2) (0, 0)
set_option maxRecDepth 20000 in
theorem sX10_makers_L42 {l : Launch} {E : sw_E} {K : Nat} (hK : 2 ≤ K) (σ : sw_M) (a1 : Int32) (a3 : Int32) (b0 : Int32) (b1 : Int32) {res : Int32} {t : (Int32 × Int32) ⊕ (Int32)} (h : fX10_makers_L42 σ a1 a3 b0 b1 = some t) (hk : (Sum.elim (fun s : Int32 × Int32 => sw_Go l E K RX10 cX10_makers 4 (some .int) 14 [(0, .ref 49), (1, .int a1), (2, .int s.1), (3, .int s.2)] [] σ (some (.int res)) σ) (fun q => q = res)) t) : sw_Go l E K RX10 cX10_makers 4 (some .int) 42 [(0, .ref 49), (1, .int a1), (3, .int a3)] [.int b0, .int b1] σ (some (.int res)) σ := by
  unfold fX10_makers_L42 at h
  refine sw_callSi [.int b0] (sX10_truth (K := K - 1) (by omega) σ b0 rfl) rfl (by omega) gs_X10_287 hy_X10_truth (by decide) rfl (Nat.le_of_ble_eq_true rfl) (by decide +kernel) ?_
  refine sw_iload_n (k0 := 3) 2 rfl (by decide +kernel) rfl ?_
  refine sw_ishl (by decide +kernel) ?_
  refine sw_ior (by decide +kernel) ?_
  obtain ⟨v1, e2, h⟩ := sw_let_e h
  refine sw_topi e2 ?_
  refine sw_istore_n (k0 := 2) (lv' := [(2, .int v1), (0, .ref 49), (1, .int a1), (3, .int a3)]) (by decide +kernel) rfl (by decide) rfl ?_
  obtain ⟨v3, e4, h⟩ := sw_let_e h
  refine sw_iincv (i := 3) (n := 1) (lv' := [(3, .int v3), (2, .int v1), (0, .ref 49), (1, .int a1)]) 3 rfl e4 (by decide +kernel) (by decide) (by decide) rfl ?_
  refine sw_goto (off := (-38)) 14 (by decide +kernel) (by decide) ?_
  cases h
  refine sw_lv [2, 3, 1, 0] rfl ?_
  exact hk
set_option maxRecDepth 20000 in
theorem sX10_makers_L14 {l : Launch} {E : sw_E} {K : Nat} (hK : 2 ≤ K) (σ : sw_M) (a1 : Int32) (a2 : Int32) (a3 : Int32) {res : Int32} {t : (Int32 × Int32) ⊕ (Int32)} (h : fX10_makers_L14 σ a1 a2 a3 = some t) (hk : (Sum.elim (fun s : Int32 × Int32 => sw_Go l E K RX10 cX10_makers 4 (some .int) 14 [(0, .ref 49), (1, .int a1), (2, .int s.1), (3, .int s.2)] [] σ (some (.int res)) σ) (fun q => q = res)) t) : sw_Go l E K RX10 cX10_makers 4 (some .int) 14 [(0, .ref 49), (1, .int a1), (2, .int a2), (3, .int a3)] [] σ (some (.int res)) σ := by
  unfold fX10_makers_L14 at h
  refine sw_iload_n (k0 := 3) 3 rfl (by decide +kernel) rfl ?_
  refine sw_aload_n (k0 := 0) 0 rfl (by decide +kernel) rfl ?_
  refine gf_X10_387 (i := 49) (by decide) rfl (by decide +kernel) ?_
  refine sw_icmp_ge (off := 36) 55 (by decide +kernel) (by decide) (fun c1 => ?_) (fun c1 => ?_)
  · rw [if_pos c1] at h
    refine sw_iload_n (k0 := 2) 2 rfl (by decide +kernel) rfl ?_
    cases h
    obtain rfl : _ = res := hk
    exact sw_iret (by decide +kernel)
  · rw [if_neg c1] at h
    refine sw_iload_n (k0 := 2) 2 rfl (by decide +kernel) rfl ?_
    refine sw_aload_n (k0 := 0) 0 rfl (by decide +kernel) rfl ?_
    refine gf_X10_57 (i := 49) (by decide) rfl (by decide +kernel) ?_
    refine sw_refj 64 rfl ?_
    refine sw_iconst (n := 4) (v := 4) (by decide +kernel) (by decide) ?_
    refine sw_iload_n (k0 := 3) 3 rfl (by decide +kernel) rfl ?_
    refine sw_imul (by decide +kernel) ?_
    refine sw_iconst (n := 2) (v := 2) (by decide +kernel) (by decide) ?_
    refine sw_iadd (by decide +kernel) ?_
    obtain ⟨g2, h⟩ := sw_gd_e h
    refine sw_iaload (a := 64) (by decide) rfl (sw_in_e g2) (by decide +kernel) ?_
    refine sw_iload_n (k0 := 1) 1 rfl (by decide +kernel) rfl ?_
    refine sw_icmp_ne (off := 7) 41 (by decide +kernel) (by decide) (fun c3 => ?_) (fun c3 => ?_)
    · rw [if_neg c3] at h
      refine sw_iconst (n := 0) (v := 0) (by decide +kernel) (by decide) ?_
      refine sw_lv [0, 1, 3] rfl ?_
      exact sX10_makers_L42 hK σ a1 a3 0 a2 h hk
    · rw [if_pos c3] at h
      refine sw_iconst (n := 1) (v := 1) (by decide +kernel) (by decide) ?_
      refine sw_goto (off := 4) 42 (by decide +kernel) (by decide) ?_
      refine sw_lv [0, 1, 3] rfl ?_
      exact sX10_makers_L42 hK σ a1 a3 1 a2 h hk
set_option maxRecDepth 20000 in
theorem sX10_makers {l : Launch} {E : sw_E} {K : Nat} (hK : 2 ≤ K) (σ : sw_M) (a1 : Int32) {res : Int32} (h : fX10_makers σ a1 = some res) : sw_Ct l E K yX10_makers cX10_makers 4 (some .int) [.ref 49, .int a1] σ (some (.int res)) σ := by
  obtain ⟨t, hk, h⟩ : ∃ t, t = res ∧ fX10_makers σ a1 = some t := ⟨res, rfl, h⟩
  unfold fX10_makers at h
  refine sw_enter2 (own := RX10) (lv := [(0, .ref 49), (1, .int a1)]) (by decide +kernel) (Nat.le_of_ble_eq_true rfl) rfl rfl ?_
  refine sw_aload_n (k0 := 0) 0 rfl (by decide +kernel) rfl ?_
  refine sw_iload_n (k0 := 1) 1 rfl (by decide +kernel) rfl ?_
  refine sw_callVi (ci := 10) (i := 49) [.int a1] (sX10_isKind (K := K - 1) (by omega) σ a1 rfl) rfl (by omega) rfl gs_X10_433 hy_X10_isKind (by decide) (by decide) rfl rfl (Nat.le_of_ble_eq_true rfl) (by decide +kernel) ?_
  refine sw_if_ne (off := 5) 10 (by decide +kernel) (by decide) (fun c1 => ?_) (fun c1 => ?_)
  · rw [if_neg c1] at h
    refine sw_iconst (n := 0) (v := 0) (by decide +kernel) (by decide) ?_
    refine sw_istore_n (k0 := 2) (lv' := [(2, .int 0), (0, .ref 49), (1, .int a1)]) (by decide +kernel) rfl (by decide) rfl ?_
    refine sw_iconst (n := 0) (v := 0) (by decide +kernel) (by decide) ?_
    refine sw_istore_n (k0 := 3) (lv' := [(3, .int 0), (2, .int 0), (0, .ref 49), (1, .int a1)]) (by decide +kernel) rfl (by decide) rfl ?_
    refine sw_lv [2, 3, 1, 0] rfl ?_
    exact sw_wh_e (fun s : Int32 × Int32 => sw_Go l E K RX10 cX10_makers 4 (some .int) 14 [(0, .ref 49), (1, .int a1), (2, .int s.1), (3, .int s.2)] [] σ (some (.int res)) σ) (fun q => q = res) (fun s => fX10_makers_L14 σ a1 s.1 s.2) (fun s t hb hk => sX10_makers_L14 hK σ a1 s.1 s.2 hb hk) _ _ _ h hk
  · rw [if_pos c1] at h
    refine sw_iconst (n := (-1)) (v := (-1)) (by decide +kernel) (by decide) ?_
    cases h
    obtain rfl : _ = res := hk
    exact sw_iret (by decide +kernel)
def fX10_heaviest_L39 (σ : sw_M) (a1 : Int32) (a2 : Int32) : Option ((Int32 × Int32) ⊕ (Int32)) :=
  sw_let (a2 + 1) fun v1 =>
  some (.inl (a1, v1))
def fX10_heaviest_L37 (σ : sw_M) (a2 : Int32) : Option ((Int32 × Int32) ⊕ (Int32)) :=
  fX10_heaviest_L39 σ a2 a2
def fX10_heaviest_L4 (σ : sw_M) (a1 : Int32) (a2 : Int32) : Option ((Int32 × Int32) ⊕ (Int32)) :=
  if (σ.1 49 41) ≤ a2 then
    some (.inr (a1))
  else
    if (fX10_hasTold σ a2) = 0 then
      if a1 < 0 then
        fX10_heaviest_L37 σ a2
      else
        sw_b1 (fX10_mindOf σ a2) fun r4 =>
        sw_b1 (fX10_mindOf σ a1) fun r6 =>
        if r4 ≤ r6 then
          fX10_heaviest_L39 σ a1 a2
        else
          fX10_heaviest_L37 σ a2
    else
      fX10_heaviest_L39 σ a1 a2
def fX10_heaviest (σ : sw_M) : Option (Int32) :=
  sw_wh sw_F (fun s => fX10_heaviest_L4 σ s.1 s.2) ((-1), 0)
set_option maxRecDepth 20000 in
theorem sX10_heaviest_L39 {l : Launch} {E : sw_E} {K : Nat} (hK : 1 ≤ K) (σ : sw_M) (a1 : Int32) (a2 : Int32) {res : Int32} {t : (Int32 × Int32) ⊕ (Int32)} (h : fX10_heaviest_L39 σ a1 a2 = some t) (hk : (Sum.elim (fun s : Int32 × Int32 => sw_Go l E K RX10 cX10_heaviest 3 (some .int) 4 [(0, .ref 49), (1, .int s.1), (2, .int s.2)] [] σ (some (.int res)) σ) (fun q => q = res)) t) : sw_Go l E K RX10 cX10_heaviest 3 (some .int) 39 [(0, .ref 49), (1, .int a1), (2, .int a2)] [] σ (some (.int res)) σ := by
  unfold fX10_heaviest_L39 at h
  obtain ⟨v1, e2, h⟩ := sw_let_e h
  refine sw_iincv (i := 2) (n := 1) (lv' := [(2, .int v1), (0, .ref 49), (1, .int a1)]) 2 rfl e2 (by decide +kernel) (by decide) (by decide) rfl ?_
  refine sw_goto (off := (-38)) 4 (by decide +kernel) (by decide) ?_
  cases h
  refine sw_lv [1, 2, 0] rfl ?_
  exact hk
set_option maxRecDepth 20000 in
theorem sX10_heaviest_L37 {l : Launch} {E : sw_E} {K : Nat} (hK : 1 ≤ K) (σ : sw_M) (a2 : Int32) {res : Int32} {t : (Int32 × Int32) ⊕ (Int32)} (h : fX10_heaviest_L37 σ a2 = some t) (hk : (Sum.elim (fun s : Int32 × Int32 => sw_Go l E K RX10 cX10_heaviest 3 (some .int) 4 [(0, .ref 49), (1, .int s.1), (2, .int s.2)] [] σ (some (.int res)) σ) (fun q => q = res)) t) : sw_Go l E K RX10 cX10_heaviest 3 (some .int) 37 [(0, .ref 49), (2, .int a2)] [] σ (some (.int res)) σ := by
  unfold fX10_heaviest_L37 at h
  refine sw_iload_n (k0 := 2) 1 rfl (by decide +kernel) rfl ?_
  refine sw_istore_n (k0 := 1) (lv' := [(1, .int a2), (0, .ref 49), (2, .int a2)]) (by decide +kernel) rfl (by decide) rfl ?_
  refine sw_lv [1, 0, 2] rfl ?_
  exact sX10_heaviest_L39 hK σ a2 a2 h hk
set_option maxRecDepth 20000 in
theorem sX10_heaviest_L4 {l : Launch} {E : sw_E} {K : Nat} (hK : 1 ≤ K) (σ : sw_M) (a1 : Int32) (a2 : Int32) {res : Int32} {t : (Int32 × Int32) ⊕ (Int32)} (h : fX10_heaviest_L4 σ a1 a2 = some t) (hk : (Sum.elim (fun s : Int32 × Int32 => sw_Go l E K RX10 cX10_heaviest 3 (some .int) 4 [(0, .ref 49), (1, .int s.1), (2, .int s.2)] [] σ (some (.int res)) σ) (fun q => q = res)) t) : sw_Go l E K RX10 cX10_heaviest 3 (some .int) 4 [(0, .ref 49), (1, .int a1), (2, .int a2)] [] σ (some (.int res)) σ := by
  unfold fX10_heaviest_L4 at h
  refine sw_iload_n (k0 := 2) 2 rfl (by decide +kernel) rfl ?_
  refine sw_aload_n (k0 := 0) 0 rfl (by decide +kernel) rfl ?_
  refine gf_X10_381 (i := 49) (by decide) rfl (by decide +kernel) ?_
  refine sw_icmp_ge (off := 36) 45 (by decide +kernel) (by decide) (fun c1 => ?_) (fun c1 => ?_)
  · rw [if_pos c1] at h
    refine sw_iload_n (k0 := 1) 1 rfl (by decide +kernel) rfl ?_
    cases h
    obtain rfl : _ = res := hk
    exact sw_iret (by decide +kernel)
  · rw [if_neg c1] at h
    refine sw_aload_n (k0 := 0) 0 rfl (by decide +kernel) rfl ?_
    refine sw_iload_n (k0 := 2) 2 rfl (by decide +kernel) rfl ?_
    refine sw_callVi (ci := 10) (i := 49) [.int a2] (sX10_hasTold (K := K - 1) (by omega) σ a2 rfl) rfl (by omega) rfl gs_X10_448 hy_X10_hasTold (by decide) (by decide) rfl rfl (Nat.le_of_ble_eq_true rfl) (by decide +kernel) ?_
    refine sw_if_ne (off := 22) 39 (by decide +kernel) (by decide) (fun c2 => ?_) (fun c2 => ?_)
    · rw [if_neg c2] at h
      exact sX10_heaviest_L39 hK σ a1 a2 h hk
    · rw [if_pos c2] at h
      refine sw_iload_n (k0 := 1) 1 rfl (by decide +kernel) rfl ?_
      refine sw_if_lt (off := 16) 37 (by decide +kernel) (by decide) (fun c3 => ?_) (fun c3 => ?_)
      · rw [if_pos c3] at h
        refine sw_lv [0, 2] rfl ?_
        exact sX10_heaviest_L37 hK σ a2 h hk
      · rw [if_neg c3] at h
        refine sw_aload_n (k0 := 0) 0 rfl (by decide +kernel) rfl ?_
        refine sw_iload_n (k0 := 2) 2 rfl (by decide +kernel) rfl ?_
        obtain ⟨r4, w5, h⟩ := sw_b1_e h
        refine sw_callVi (ci := 10) (i := 49) [.int a2] (sX10_mindOf (K := K - 1) (by omega) σ a2 w5) rfl (by omega) rfl gs_X10_494 hy_X10_mindOf (by decide) (by decide) rfl rfl (Nat.le_of_ble_eq_true rfl) (by decide +kernel) ?_
        refine sw_aload_n (k0 := 0) 0 rfl (by decide +kernel) rfl ?_
        refine sw_iload_n (k0 := 1) 1 rfl (by decide +kernel) rfl ?_
        obtain ⟨r6, w7, h⟩ := sw_b1_e h
        refine sw_callVi (ci := 10) (i := 49) [.int a1] (sX10_mindOf (K := K - 1) (by omega) σ a1 w7) rfl (by omega) rfl gs_X10_494 hy_X10_mindOf (by decide) (by decide) rfl rfl (Nat.le_of_ble_eq_true rfl) (by decide +kernel) ?_
        refine sw_icmp_le (off := 5) 39 (by decide +kernel) (by decide) (fun c8 => ?_) (fun c8 => ?_)
        · rw [if_pos c8] at h
          exact sX10_heaviest_L39 hK σ a1 a2 h hk
        · rw [if_neg c8] at h
          refine sw_lv [0, 2] rfl ?_
          exact sX10_heaviest_L37 hK σ a2 h hk
set_option maxRecDepth 20000 in
theorem sX10_heaviest {l : Launch} {E : sw_E} {K : Nat} (hK : 1 ≤ K) (σ : sw_M) {res : Int32} (h : fX10_heaviest σ = some res) : sw_Ct l E K yX10_heaviest cX10_heaviest 3 (some .int) [.ref 49] σ (some (.int res)) σ := by
  obtain ⟨t, hk, h⟩ : ∃ t, t = res ∧ fX10_heaviest σ = some t := ⟨res, rfl, h⟩
  unfold fX10_heaviest at h
  refine sw_enter2 (own := RX10) (lv := [(0, .ref 49)]) (by decide +kernel) (Nat.le_of_ble_eq_true rfl) rfl rfl ?_
  refine sw_iconst (n := (-1)) (v := (-1)) (by decide +kernel) (by decide) ?_
  refine sw_istore_n (k0 := 1) (lv' := [(1, .int (-1)), (0, .ref 49)]) (by decide +kernel) rfl (by decide) rfl ?_
  refine sw_iconst (n := 0) (v := 0) (by decide +kernel) (by decide) ?_
  refine sw_istore_n (k0 := 2) (lv' := [(2, .int 0), (1, .int (-1)), (0, .ref 49)]) (by decide +kernel) rfl (by decide) rfl ?_
  refine sw_lv [2, 1, 0] rfl ?_
  exact sw_wh_e (fun s : Int32 × Int32 => sw_Go l E K RX10 cX10_heaviest 3 (some .int) 4 [(0, .ref 49), (1, .int s.1), (2, .int s.2)] [] σ (some (.int res)) σ) (fun q => q = res) (fun s => fX10_heaviest_L4 σ s.1 s.2) (fun s t hb hk => sX10_heaviest_L4 hK σ s.1 s.2 hb hk) _ _ _ h hk
def fX10_law_L18 (σ : sw_M) (a1 : Int32) (a2 : Int32) : Option ((Int32 × sw_M) ⊕ (Int32 × sw_M)) :=
  if (σ.1 49 43) ≤ a2 then
    sw_b1 (fX10_allOf σ) fun r2 =>
    some (.inr ((r2, σ)))
  else
    sw_b1 (fX10_boilBy σ a2 a1) fun m4 =>
    sw_let (a2 + 1) fun v6 =>
    some (.inl (v6, m4))
def fX10_law (σ : sw_M) (a1 : Int32) : Option (Int32 × sw_M) :=
  if (fX10_isIn a1 0 99) = 0 then
    some (((-1), σ))
  else
    sw_b1 (fX10_fill σ) fun m2 =>
    sw_wh sw_F (fun s => fX10_law_L18 s.2 a1 s.1) (0, m2)
set_option maxRecDepth 20000 in
theorem sX10_law_L18 {l : Launch} {E : sw_E} {K : Nat} (hK : 3 ≤ K) (σ : sw_M) (a1 : Int32) (a2 : Int32) {res : Int32 × sw_M} {t : (Int32 × sw_M) ⊕ (Int32 × sw_M)} (h : fX10_law_L18 σ a1 a2 = some t) (hk : (Sum.elim (fun s : Int32 × sw_M => sw_Go l E K RX10 cX10_law 3 (some .int) 18 [(0, .ref 49), (1, .int a1), (2, .int s.1)] [] s.2 (some (.int res.1)) res.2) (fun q => q = res)) t) : sw_Go l E K RX10 cX10_law 3 (some .int) 18 [(0, .ref 49), (1, .int a1), (2, .int a2)] [] σ (some (.int res.1)) res.2 := by
  unfold fX10_law_L18 at h
  refine sw_iload_n (k0 := 2) 2 rfl (by decide +kernel) rfl ?_
  refine sw_aload_n (k0 := 0) 0 rfl (by decide +kernel) rfl ?_
  refine gf_X10_387 (i := 49) (by decide) rfl (by decide +kernel) ?_
  refine sw_icmp_ge (off := 15) 38 (by decide +kernel) (by decide) (fun c1 => ?_) (fun c1 => ?_)
  · rw [if_pos c1] at h
    refine sw_aload_n (k0 := 0) 0 rfl (by decide +kernel) rfl ?_
    obtain ⟨r2, w3, h⟩ := sw_b1_e h
    refine sw_callVi (ci := 10) (i := 49) [] (sX10_allOf (K := K - 1) (by omega) σ w3) rfl (by omega) rfl gs_X10_294 hy_X10_allOf (by decide) (by decide) rfl rfl (Nat.le_of_ble_eq_true rfl) (by decide +kernel) ?_
    cases h
    obtain rfl : _ = res := hk
    exact sw_iret (by decide +kernel)
  · rw [if_neg c1] at h
    refine sw_aload_n (k0 := 0) 0 rfl (by decide +kernel) rfl ?_
    refine sw_iload_n (k0 := 2) 2 rfl (by decide +kernel) rfl ?_
    refine sw_iload_n (k0 := 1) 1 rfl (by decide +kernel) rfl ?_
    obtain ⟨m4, w5, h⟩ := sw_b1_e h
    refine sw_callVv (ci := 10) (i := 49) [.int a2, .int a1] (sX10_boilBy (K := K - 1) (by omega) σ a2 a1 w5) rfl (by omega) rfl gs_X10_421 hy_X10_boilBy (by decide) (by decide) rfl rfl (Nat.le_of_ble_eq_true rfl) (by decide +kernel) ?_
    obtain ⟨v6, e7, h⟩ := sw_let_e h
    refine sw_iincv (i := 2) (n := 1) (lv' := [(2, .int v6), (0, .ref 49), (1, .int a1)]) 2 rfl e7 (by decide +kernel) (by decide) (by decide) rfl ?_
    refine sw_goto (off := (-17)) 18 (by decide +kernel) (by decide) ?_
    cases h
    refine sw_lv [1, 2, 0] rfl ?_
    exact hk
set_option maxRecDepth 20000 in
theorem sX10_law {l : Launch} {E : sw_E} {K : Nat} (hK : 3 ≤ K) (σ : sw_M) (a1 : Int32) {res : Int32 × sw_M} (h : fX10_law σ a1 = some res) : sw_Ct l E K yX10_law cX10_law 3 (some .int) [.ref 49, .int a1] σ (some (.int res.1)) res.2 := by
  obtain ⟨t, hk, h⟩ : ∃ t, t = res ∧ fX10_law σ a1 = some t := ⟨res, rfl, h⟩
  unfold fX10_law at h
  refine sw_enter2 (own := RX10) (lv := [(0, .ref 49), (1, .int a1)]) (by decide +kernel) (Nat.le_of_ble_eq_true rfl) rfl rfl ?_
  refine sw_iload_n (k0 := 1) 1 rfl (by decide +kernel) rfl ?_
  refine sw_iconst (n := 0) (v := 0) (by decide +kernel) (by decide) ?_
  refine sw_bipush (n := 99) (v := 99) (by decide +kernel) (by decide) ?_
  refine sw_callSi [.int a1, .int 0, .int 99] (sX10_isIn (K := K - 1) (by omega) σ a1 0 99 rfl) rfl (by omega) gs_X10_411 hy_X10_isIn (by decide) rfl (Nat.le_of_ble_eq_true rfl) (by decide +kernel) ?_
  refine sw_if_ne (off := 5) 12 (by decide +kernel) (by decide) (fun c1 => ?_) (fun c1 => ?_)
  · rw [if_neg c1] at h
    refine sw_aload_n (k0 := 0) 0 rfl (by decide +kernel) rfl ?_
    obtain ⟨m2, w3, h⟩ := sw_b1_e h
    refine sw_callVv (ci := 10) (i := 49) [] (sX10_fill (K := K - 1) (by omega) σ w3) rfl (by omega) rfl gs_X10_445 hy_X10_fill (by decide) (by decide) rfl rfl (Nat.le_of_ble_eq_true rfl) (by decide +kernel) ?_
    refine sw_iconst (n := 0) (v := 0) (by decide +kernel) (by decide) ?_
    refine sw_istore_n (k0 := 2) (lv' := [(2, .int 0), (0, .ref 49), (1, .int a1)]) (by decide +kernel) rfl (by decide) rfl ?_
    refine sw_lv [1, 2, 0] rfl ?_
    exact sw_wh_e (fun s : Int32 × sw_M => sw_Go l E K RX10 cX10_law 3 (some .int) 18 [(0, .ref 49), (1, .int a1), (2, .int s.1)] [] s.2 (some (.int res.1)) res.2) (fun q => q = res) (fun s => fX10_law_L18 s.2 a1 s.1) (fun s t hb hk => sX10_law_L18 hK s.2 a1 s.1 hb hk) _ _ _ h hk
  · rw [if_pos c1] at h
    refine sw_iconst (n := (-1)) (v := (-1)) (by decide +kernel) (by decide) ?_
    cases h
    obtain rfl : _ = res := hk
    exact sw_iret (by decide +kernel)
def fX10_mission (σ : sw_M) : Option (Int32 × sw_M) :=
  sw_b1 (fX10_fill σ) fun m1 =>
  sw_b1 (fX10_tellAll m1 (fX10_silent m1)) fun m3 =>
  sw_b1 (fX10_allOf m3) fun r5 =>
  some ((r5, m3))
set_option maxRecDepth 20000 in
theorem sX10_mission {l : Launch} {E : sw_E} {K : Nat} (hK : 3 ≤ K) (σ : sw_M) {res : Int32 × sw_M} (h : fX10_mission σ = some res) : sw_Ct l E K yX10_mission cX10_mission 1 (some .int) [.ref 49] σ (some (.int res.1)) res.2 := by
  obtain ⟨t, hk, h⟩ : ∃ t, t = res ∧ fX10_mission σ = some t := ⟨res, rfl, h⟩
  unfold fX10_mission at h
  refine sw_enter2 (own := RX10) (lv := [(0, .ref 49)]) (by decide +kernel) (Nat.le_of_ble_eq_true rfl) rfl rfl ?_
  refine sw_aload_n (k0 := 0) 0 rfl (by decide +kernel) rfl ?_
  obtain ⟨m1, w2, h⟩ := sw_b1_e h
  refine sw_callVv (ci := 10) (i := 49) [] (sX10_fill (K := K - 1) (by omega) σ w2) rfl (by omega) rfl gs_X10_445 hy_X10_fill (by decide) (by decide) rfl rfl (Nat.le_of_ble_eq_true rfl) (by decide +kernel) ?_
  refine sw_aload_n (k0 := 0) 0 rfl (by decide +kernel) rfl ?_
  refine sw_aload_n (k0 := 0) 0 rfl (by decide +kernel) rfl ?_
  refine sw_callVi (ci := 10) (i := 49) [] (sX10_silent (K := K - 1) (by omega) m1 rfl) rfl (by omega) rfl gs_X10_473 hy_X10_silent (by decide) (by decide) rfl rfl (Nat.le_of_ble_eq_true rfl) (by decide +kernel) ?_
  obtain ⟨m3, w4, h⟩ := sw_b1_e h
  refine sw_callVv (ci := 10) (i := 49) [.int (fX10_silent m1)] (sX10_tellAll (K := K - 1) (by omega) m1 (fX10_silent m1) w4) rfl (by omega) rfl gs_X10_476 hy_X10_tellAll (by decide) (by decide) rfl rfl (Nat.le_of_ble_eq_true rfl) (by decide +kernel) ?_
  refine sw_aload_n (k0 := 0) 0 rfl (by decide +kernel) rfl ?_
  obtain ⟨r5, w6, h⟩ := sw_b1_e h
  refine sw_callVi (ci := 10) (i := 49) [] (sX10_allOf (K := K - 1) (by omega) m3 w6) rfl (by omega) rfl gs_X10_294 hy_X10_allOf (by decide) (by decide) rfl rfl (Nat.le_of_ble_eq_true rfl) (by decide +kernel) ?_
  cases h
  obtain rfl : _ = res := hk
  exact sw_iret (by decide +kernel)
def fX10_raised_L4 (a0 : Int32) (a1 : Int32) (a2 : Int32) (a3 : Int32) : Option ((Int32 × Int32) ⊕ (Int32)) :=
  if a1 ≤ a3 then
    some (.inr (a2))
  else
    sw_let (a2 * a0) fun v2 =>
    sw_let (a3 + 1) fun v4 =>
    some (.inl (v2, v4))
def fX10_raised (a0 : Int32) (a1 : Int32) : Option (Int32) :=
  sw_wh sw_F (fun s => fX10_raised_L4 a0 a1 s.1 s.2) (1, 0)
set_option maxRecDepth 20000 in
theorem sX10_raised_L4 {l : Launch} {E : sw_E} {K : Nat} (hK : 0 ≤ K) (σ : sw_M) (a0 : Int32) (a1 : Int32) (a2 : Int32) (a3 : Int32) {res : Int32} {t : (Int32 × Int32) ⊕ (Int32)} (h : fX10_raised_L4 a0 a1 a2 a3 = some t) (hk : (Sum.elim (fun s : Int32 × Int32 => sw_Go l E K RX10 cX10_raised 4 (some .int) 4 [(0, .int a0), (1, .int a1), (2, .int s.1), (3, .int s.2)] [] σ (some (.int res)) σ) (fun q => q = res)) t) : sw_Go l E K RX10 cX10_raised 4 (some .int) 4 [(0, .int a0), (1, .int a1), (2, .int a2), (3, .int a3)] [] σ (some (.int res)) σ := by
  unfold fX10_raised_L4 at h
  refine sw_iload_n (k0 := 3) 3 rfl (by decide +kernel) rfl ?_
  refine sw_iload_n (k0 := 1) 1 rfl (by decide +kernel) rfl ?_
  refine sw_icmp_ge (off := 13) 19 (by decide +kernel) (by decide) (fun c1 => ?_) (fun c1 => ?_)
  · rw [if_pos c1] at h
    refine sw_iload_n (k0 := 2) 2 rfl (by decide +kernel) rfl ?_
    cases h
    obtain rfl : _ = res := hk
    exact sw_iret (by decide +kernel)
  · rw [if_neg c1] at h
    refine sw_iload_n (k0 := 2) 2 rfl (by decide +kernel) rfl ?_
    refine sw_iload_n (k0 := 0) 0 rfl (by decide +kernel) rfl ?_
    refine sw_imul (by decide +kernel) ?_
    obtain ⟨v2, e3, h⟩ := sw_let_e h
    refine sw_topi e3 ?_
    refine sw_istore_n (k0 := 2) (lv' := [(2, .int v2), (0, .int a0), (1, .int a1), (3, .int a3)]) (by decide +kernel) rfl (by decide) rfl ?_
    obtain ⟨v4, e5, h⟩ := sw_let_e h
    refine sw_iincv (i := 3) (n := 1) (lv' := [(3, .int v4), (2, .int v2), (0, .int a0), (1, .int a1)]) 3 rfl e5 (by decide +kernel) (by decide) (by decide) rfl ?_
    refine sw_goto (off := (-12)) 4 (by decide +kernel) (by decide) ?_
    cases h
    refine sw_lv [2, 3, 1, 0] rfl ?_
    exact hk
set_option maxRecDepth 20000 in
theorem sX10_raised {l : Launch} {E : sw_E} {K : Nat} (hK : 0 ≤ K) (σ : sw_M) (a0 : Int32) (a1 : Int32) {res : Int32} (h : fX10_raised a0 a1 = some res) : sw_Ct l E K yX10_raised cX10_raised 4 (some .int) [.int a0, .int a1] σ (some (.int res)) σ := by
  obtain ⟨t, hk, h⟩ : ∃ t, t = res ∧ fX10_raised a0 a1 = some t := ⟨res, rfl, h⟩
  unfold fX10_raised at h
  refine sw_enter2 (own := RX10) (lv := [(0, .int a0), (1, .int a1)]) (by decide +kernel) (Nat.le_of_ble_eq_true rfl) rfl rfl ?_
  refine sw_iconst (n := 1) (v := 1) (by decide +kernel) (by decide) ?_
  refine sw_istore_n (k0 := 2) (lv' := [(2, .int 1), (0, .int a0), (1, .int a1)]) (by decide +kernel) rfl (by decide) rfl ?_
  refine sw_iconst (n := 0) (v := 0) (by decide +kernel) (by decide) ?_
  refine sw_istore_n (k0 := 3) (lv' := [(3, .int 0), (2, .int 1), (0, .int a0), (1, .int a1)]) (by decide +kernel) rfl (by decide) rfl ?_
  refine sw_lv [2, 3, 1, 0] rfl ?_
  exact sw_wh_e (fun s : Int32 × Int32 => sw_Go l E K RX10 cX10_raised 4 (some .int) 4 [(0, .int a0), (1, .int a1), (2, .int s.1), (3, .int s.2)] [] σ (some (.int res)) σ) (fun q => q = res) (fun s => fX10_raised_L4 a0 a1 s.1 s.2) (fun s t hb hk => sX10_raised_L4 hK σ a0 a1 s.1 s.2 hb hk) _ _ _ h hk
def fX10_divisor_L4 (a2 : Int32) (a3 : Int32) : Option ((Int32 × Int32) ⊕ (Int32)) :=
  if a3 ≤ 0 then
    some (.inr (a2))
  else
    sw_gd (sw_nz a3) <|
    sw_let (a2 - a2 / a3 * a3) fun v3 =>
    some (.inl (a3, v3))
def fX10_divisor (a0 : Int32) (a1 : Int32) : Option (Int32) :=
  sw_wh sw_F (fun s => fX10_divisor_L4 s.1 s.2) (a0, a1)
set_option maxRecDepth 20000 in
theorem sX10_divisor_L4 {l : Launch} {E : sw_E} {K : Nat} (hK : 0 ≤ K) (σ : sw_M) (a2 : Int32) (a3 : Int32) {res : Int32} {t : (Int32 × Int32) ⊕ (Int32)} (h : fX10_divisor_L4 a2 a3 = some t) (hk : (Sum.elim (fun s : Int32 × Int32 => sw_Go l E K RX10 cX10_divisor 5 (some .int) 4 [(2, .int s.1), (3, .int s.2)] [] σ (some (.int res)) σ) (fun q => q = res)) t) : sw_Go l E K RX10 cX10_divisor 5 (some .int) 4 [(2, .int a2), (3, .int a3)] [] σ (some (.int res)) σ := by
  unfold fX10_divisor_L4 at h
  refine sw_iload_n (k0 := 3) 1 rfl (by decide +kernel) rfl ?_
  refine sw_if_le (off := 16) 21 (by decide +kernel) (by decide) (fun c1 => ?_) (fun c1 => ?_)
  · rw [if_pos c1] at h
    refine sw_iload_n (k0 := 2) 0 rfl (by decide +kernel) rfl ?_
    cases h
    obtain rfl : _ = res := hk
    exact sw_iret (by decide +kernel)
  · rw [if_neg c1] at h
    refine sw_iload_n (k0 := 2) 0 rfl (by decide +kernel) rfl ?_
    refine sw_iload_n (k0 := 3) 1 rfl (by decide +kernel) rfl ?_
    obtain ⟨g2, h⟩ := sw_gd_e h
    refine sw_irem (by decide +kernel) (sw_nz_e g2) ?_
    obtain ⟨v3, e4, h⟩ := sw_let_e h
    refine sw_topi e4 ?_
    refine sw_istore (i := 4) (lv' := [(4, .int v3), (2, .int a2), (3, .int a3)]) (by decide +kernel) (by decide) rfl ?_
    refine sw_iload_n (k0 := 3) 2 rfl (by decide +kernel) rfl ?_
    refine sw_istore_n (k0 := 2) (lv' := [(2, .int a3), (4, .int v3), (3, .int a3)]) (by decide +kernel) rfl (by decide) rfl ?_
    refine sw_iload 1 rfl (by decide +kernel) ?_
    refine sw_istore_n (k0 := 3) (lv' := [(3, .int v3), (2, .int a3), (4, .int v3)]) (by decide +kernel) rfl (by decide) rfl ?_
    refine sw_goto (off := (-14)) 4 (by decide +kernel) (by decide) ?_
    cases h
    refine sw_lv [1, 0] rfl ?_
    exact hk
set_option maxRecDepth 20000 in
theorem sX10_divisor {l : Launch} {E : sw_E} {K : Nat} (hK : 0 ≤ K) (σ : sw_M) (a0 : Int32) (a1 : Int32) {res : Int32} (h : fX10_divisor a0 a1 = some res) : sw_Ct l E K yX10_divisor cX10_divisor 5 (some .int) [.int a0, .int a1] σ (some (.int res)) σ := by
  obtain ⟨t, hk, h⟩ : ∃ t, t = res ∧ fX10_divisor a0 a1 = some t := ⟨res, rfl, h⟩
  unfold fX10_divisor at h
  refine sw_enter2 (own := RX10) (lv := [(0, .int a0), (1, .int a1)]) (by decide +kernel) (Nat.le_of_ble_eq_true rfl) rfl rfl ?_
  refine sw_iload_n (k0 := 0) 0 rfl (by decide +kernel) rfl ?_
  refine sw_istore_n (k0 := 2) (lv' := [(2, .int a0), (0, .int a0), (1, .int a1)]) (by decide +kernel) rfl (by decide) rfl ?_
  refine sw_iload_n (k0 := 1) 2 rfl (by decide +kernel) rfl ?_
  refine sw_istore_n (k0 := 3) (lv' := [(3, .int a1), (2, .int a0), (0, .int a0), (1, .int a1)]) (by decide +kernel) rfl (by decide) rfl ?_
  refine sw_lv [1, 0] rfl ?_
  exact sw_wh_e (fun s : Int32 × Int32 => sw_Go l E K RX10 cX10_divisor 5 (some .int) 4 [(2, .int s.1), (3, .int s.2)] [] σ (some (.int res)) σ) (fun q => q = res) (fun s => fX10_divisor_L4 s.1 s.2) (fun s t hb hk => sX10_divisor_L4 hK σ s.1 s.2 hb hk) _ _ _ h hk
def fX10_odds (σ : sw_M) (a1 : Int32) (a2 : Int32) : Option (Int32) :=
  if (fX10_isIn a1 0 4) = 0 then
    some ((-1))
  else
    if (fX10_isIn a2 0 1) = 0 then
      some ((-1))
    else
      sw_b1 (fX10_raised (100 - (σ.1 49 45)) a1) fun r3 =>
      sw_b1 (fX10_raised 100 a1) fun r5 =>
      sw_b1 (fX10_divisor r5 r3) fun r7 =>
      if a2 = 0 then
        sw_gd (sw_nz r7) <|
        some (r3 / r7)
      else
        sw_gd (sw_nz r7) <|
        some (r5 / r7)
set_option maxRecDepth 20000 in
theorem sX10_odds {l : Launch} {E : sw_E} {K : Nat} (hK : 1 ≤ K) (σ : sw_M) (a1 : Int32) (a2 : Int32) {res : Int32} (h : fX10_odds σ a1 a2 = some res) : sw_Ct l E K yX10_odds cX10_odds 6 (some .int) [.ref 49, .int a1, .int a2] σ (some (.int res)) σ := by
  obtain ⟨t, hk, h⟩ : ∃ t, t = res ∧ fX10_odds σ a1 a2 = some t := ⟨res, rfl, h⟩
  unfold fX10_odds at h
  refine sw_enter2 (own := RX10) (lv := [(0, .ref 49), (1, .int a1), (2, .int a2)]) (by decide +kernel) (Nat.le_of_ble_eq_true rfl) rfl rfl ?_
  refine sw_iload_n (k0 := 1) 1 rfl (by decide +kernel) rfl ?_
  refine sw_iconst (n := 0) (v := 0) (by decide +kernel) (by decide) ?_
  refine sw_iconst (n := 4) (v := 4) (by decide +kernel) (by decide) ?_
  refine sw_callSi [.int a1, .int 0, .int 4] (sX10_isIn (K := K - 1) (by omega) σ a1 0 4 rfl) rfl (by omega) gs_X10_411 hy_X10_isIn (by decide) rfl (Nat.le_of_ble_eq_true rfl) (by decide +kernel) ?_
  refine sw_if_eq (off := 12) 18 (by decide +kernel) (by decide) (fun c1 => ?_) (fun c1 => ?_)
  · rw [if_pos c1] at h
    refine sw_iconst (n := (-1)) (v := (-1)) (by decide +kernel) (by decide) ?_
    cases h
    obtain rfl : _ = res := hk
    exact sw_iret (by decide +kernel)
  · rw [if_neg c1] at h
    refine sw_iload_n (k0 := 2) 2 rfl (by decide +kernel) rfl ?_
    refine sw_iconst (n := 0) (v := 0) (by decide +kernel) (by decide) ?_
    refine sw_iconst (n := 1) (v := 1) (by decide +kernel) (by decide) ?_
    refine sw_callSi [.int a2, .int 0, .int 1] (sX10_isIn (K := K - 1) (by omega) σ a2 0 1 rfl) rfl (by omega) gs_X10_411 hy_X10_isIn (by decide) rfl (Nat.le_of_ble_eq_true rfl) (by decide +kernel) ?_
    refine sw_if_ne (off := 5) 20 (by decide +kernel) (by decide) (fun c2 => ?_) (fun c2 => ?_)
    · rw [if_neg c2] at h
      refine sw_bipush (n := 100) (v := 100) (by decide +kernel) (by decide) ?_
      refine sw_aload_n (k0 := 0) 0 rfl (by decide +kernel) rfl ?_
      refine gf_X10_393 (i := 49) (by decide) rfl (by decide +kernel) ?_
      refine sw_isub (by decide +kernel) ?_
      refine sw_iload_n (k0 := 1) 1 rfl (by decide +kernel) rfl ?_
      obtain ⟨r3, w4, h⟩ := sw_b1_e h
      refine sw_callSi [.int (100 - (σ.1 49 45)), .int a1] (sX10_raised (K := K - 1) (by omega) σ (100 - (σ.1 49 45)) a1 w4) rfl (by omega) gs_X10_497 hy_X10_raised (by decide) rfl (Nat.le_of_ble_eq_true rfl) (by decide +kernel) ?_
      refine sw_istore_n (k0 := 3) (lv' := [(3, .int r3), (0, .ref 49), (1, .int a1), (2, .int a2)]) (by decide +kernel) rfl (by decide) rfl ?_
      refine sw_bipush (n := 100) (v := 100) (by decide +kernel) (by decide) ?_
      refine sw_iload_n (k0 := 1) 2 rfl (by decide +kernel) rfl ?_
      obtain ⟨r5, w6, h⟩ := sw_b1_e h
      refine sw_callSi [.int 100, .int a1] (sX10_raised (K := K - 1) (by omega) σ 100 a1 w6) rfl (by omega) gs_X10_497 hy_X10_raised (by decide) rfl (Nat.le_of_ble_eq_true rfl) (by decide +kernel) ?_
      refine sw_istore (i := 4) (lv' := [(4, .int r5), (3, .int r3), (0, .ref 49), (1, .int a1), (2, .int a2)]) (by decide +kernel) (by decide) rfl ?_
      refine sw_iload 0 rfl (by decide +kernel) ?_
      refine sw_iload_n (k0 := 3) 1 rfl (by decide +kernel) rfl ?_
      obtain ⟨r7, w8, h⟩ := sw_b1_e h
      refine sw_callSi [.int r5, .int r3] (sX10_divisor (K := K - 1) (by omega) σ r5 r3 w8) rfl (by omega) gs_X10_500 hy_X10_divisor (by decide) rfl (Nat.le_of_ble_eq_true rfl) (by decide +kernel) ?_
      refine sw_istore (i := 5) (lv' := [(5, .int r7), (4, .int r5), (3, .int r3), (0, .ref 49), (1, .int a1), (2, .int a2)]) (by decide +kernel) (by decide) rfl ?_
      refine sw_iload_n (k0 := 2) 5 rfl (by decide +kernel) rfl ?_
      refine sw_if_ne (off := 10) 59 (by decide +kernel) (by decide) (fun c9 => ?_) (fun c9 => ?_)
      · rw [if_neg c9] at h
        refine sw_iload 1 rfl (by decide +kernel) ?_
        refine sw_iload 0 rfl (by decide +kernel) ?_
        obtain ⟨g10, h⟩ := sw_gd_e h
        refine sw_idiv (by decide +kernel) (sw_nz_e g10) ?_
        cases h
        obtain rfl : _ = res := hk
        exact sw_iret (by decide +kernel)
      · rw [if_pos c9] at h
        refine sw_iload_n (k0 := 3) 2 rfl (by decide +kernel) rfl ?_
        refine sw_iload 0 rfl (by decide +kernel) ?_
        obtain ⟨g11, h⟩ := sw_gd_e h
        refine sw_idiv (by decide +kernel) (sw_nz_e g11) ?_
        refine sw_goto (off := 8) 64 (by decide +kernel) (by decide) ?_
        cases h
        obtain rfl : _ = res := hk
        exact sw_iret (by decide +kernel)
    · rw [if_pos c2] at h
      refine sw_iconst (n := (-1)) (v := (-1)) (by decide +kernel) (by decide) ?_
      cases h
      obtain rfl : _ = res := hk
      exact sw_iret (by decide +kernel)
def fX10_lies (σ : sw_M) (a1 : Int32) : Option (Int32) :=
  if (fX10_isIn a1 0 ((σ.1 49 57) - 1)) = 0 then
    some ((-2))
  else
    sw_gd (sw_in a1 6) <|
    some (σ.1 69 a1.toNatClampNeg)
set_option maxRecDepth 20000 in
theorem sX10_lies {l : Launch} {E : sw_E} {K : Nat} (hK : 1 ≤ K) (σ : sw_M) (a1 : Int32) {res : Int32} (h : fX10_lies σ a1 = some res) : sw_Ct l E K yX10_lies cX10_lies 2 (some .int) [.ref 49, .int a1] σ (some (.int res)) σ := by
  obtain ⟨t, hk, h⟩ : ∃ t, t = res ∧ fX10_lies σ a1 = some t := ⟨res, rfl, h⟩
  unfold fX10_lies at h
  refine sw_enter2 (own := RX10) (lv := [(0, .ref 49), (1, .int a1)]) (by decide +kernel) (Nat.le_of_ble_eq_true rfl) rfl rfl ?_
  refine sw_iload_n (k0 := 1) 1 rfl (by decide +kernel) rfl ?_
  refine sw_iconst (n := 0) (v := 0) (by decide +kernel) (by decide) ?_
  refine sw_aload_n (k0 := 0) 0 rfl (by decide +kernel) rfl ?_
  refine gf_X10_408 (i := 49) (by decide) rfl (by decide +kernel) ?_
  refine sw_iconst (n := 1) (v := 1) (by decide +kernel) (by decide) ?_
  refine sw_isub (by decide +kernel) ?_
  refine sw_callSi [.int a1, .int 0, .int ((σ.1 49 57) - 1)] (sX10_isIn (K := K - 1) (by omega) σ a1 0 ((σ.1 49 57) - 1) rfl) rfl (by omega) gs_X10_411 hy_X10_isIn (by decide) rfl (Nat.le_of_ble_eq_true rfl) (by decide +kernel) ?_
  refine sw_if_eq (off := 12) 23 (by decide +kernel) (by decide) (fun c1 => ?_) (fun c1 => ?_)
  · rw [if_pos c1] at h
    refine sw_bipush (n := (-2)) (v := (-2)) (by decide +kernel) (by decide) ?_
    cases h
    obtain rfl : _ = res := hk
    exact sw_iret (by decide +kernel)
  · rw [if_neg c1] at h
    refine sw_aload_n (k0 := 0) 0 rfl (by decide +kernel) rfl ?_
    refine gf_X10_72 (i := 49) (by decide) rfl (by decide +kernel) ?_
    refine sw_refj 69 rfl ?_
    refine sw_iload_n (k0 := 1) 1 rfl (by decide +kernel) rfl ?_
    obtain ⟨g2, h⟩ := sw_gd_e h
    refine sw_iaload (a := 69) (by decide) rfl (sw_in_e g2) (by decide +kernel) ?_
    refine sw_goto (off := 5) 25 (by decide +kernel) (by decide) ?_
    cases h
    obtain rfl : _ = res := hk
    exact sw_iret (by decide +kernel)
def fX10_seen (σ : sw_M) (a1 : Int32) (a2 : Int32) (a3 : Int32) (a4 : Int32) : Option (Int32 × sw_M) :=
  if (fX10_isIn a1 0 12) = 0 then
    some (((-1), σ))
  else
    if (fX10_isKind σ a2) = 0 then
      some (((-1), σ))
    else
      if (fX10_isIn a3 0 999) = 0 then
        some (((-1), σ))
      else
        if (σ.1 49 41) = 0 then
          some (((-1), σ))
        else
          if (σ.1 49 66) = 30 then
            some (((-1), σ))
          else
            sw_gd (sw_in (σ.1 49 66) 30) <|
            sw_let (sw_w σ 73 (σ.1 49 66).toNatClampNeg a1) fun m7 =>
            sw_gd (sw_in (m7.1 49 66) 30) <|
            sw_let (sw_w m7 74 (m7.1 49 66).toNatClampNeg a2) fun m10 =>
            sw_gd (sw_in (m10.1 49 66) 30) <|
            sw_let (sw_w m10 75 (m10.1 49 66).toNatClampNeg a3) fun m13 =>
            sw_gd (sw_in (m13.1 49 66) 30) <|
            sw_let (sw_w m13 78 (m13.1 49 66).toNatClampNeg (vp_nar .boolean a4)) fun m16 =>
            sw_gd (sw_in (m16.1 49 66) 30) <|
            sw_let (sw_w m16 76 (m16.1 49 66).toNatClampNeg (m16.1 49 67)) fun m19 =>
            sw_gd (sw_in (m19.1 49 66) 30) <|
            sw_let (sw_w m19 77 (m19.1 49 66).toNatClampNeg (-1)) fun m22 =>
            sw_let (sw_w m22 49 66 ((m22.1 49 66) + 1)) fun m24 =>
            some (((m24.1 49 66) - 1, m24))
set_option maxRecDepth 20000 in
theorem sX10_seen {l : Launch} {E : sw_E} {K : Nat} (hK : 2 ≤ K) (σ : sw_M) (a1 : Int32) (a2 : Int32) (a3 : Int32) (a4 : Int32) {res : Int32 × sw_M} (h : fX10_seen σ a1 a2 a3 a4 = some res) : sw_Ct l E K yX10_seen cX10_seen 5 (some .int) [.ref 49, .int a1, .int a2, .int a3, .int a4] σ (some (.int res.1)) res.2 := by
  obtain ⟨t, hk, h⟩ : ∃ t, t = res ∧ fX10_seen σ a1 a2 a3 a4 = some t := ⟨res, rfl, h⟩
  unfold fX10_seen at h
  refine sw_enter2 (own := RX10) (lv := [(0, .ref 49), (1, .int a1), (2, .int a2), (3, .int a3), (4, .int a4)]) (by decide +kernel) (Nat.le_of_ble_eq_true rfl) rfl rfl ?_
  refine sw_iload_n (k0 := 1) 1 rfl (by decide +kernel) rfl ?_
  refine sw_iconst (n := 0) (v := 0) (by decide +kernel) (by decide) ?_
  refine sw_bipush (n := 12) (v := 12) (by decide +kernel) (by decide) ?_
  refine sw_callSi [.int a1, .int 0, .int 12] (sX10_isIn (K := K - 1) (by omega) σ a1 0 12 rfl) rfl (by omega) gs_X10_411 hy_X10_isIn (by decide) rfl (Nat.le_of_ble_eq_true rfl) (by decide +kernel) ?_
  refine sw_if_eq (off := 38) 45 (by decide +kernel) (by decide) (fun c1 => ?_) (fun c1 => ?_)
  · rw [if_pos c1] at h
    refine sw_iconst (n := (-1)) (v := (-1)) (by decide +kernel) (by decide) ?_
    cases h
    obtain rfl : _ = res := hk
    exact sw_iret (by decide +kernel)
  · rw [if_neg c1] at h
    refine sw_aload_n (k0 := 0) 0 rfl (by decide +kernel) rfl ?_
    refine sw_iload_n (k0 := 2) 2 rfl (by decide +kernel) rfl ?_
    refine sw_callVi (ci := 10) (i := 49) [.int a2] (sX10_isKind (K := K - 1) (by omega) σ a2 rfl) rfl (by omega) rfl gs_X10_433 hy_X10_isKind (by decide) (by decide) rfl rfl (Nat.le_of_ble_eq_true rfl) (by decide +kernel) ?_
    refine sw_if_eq (off := 30) 45 (by decide +kernel) (by decide) (fun c2 => ?_) (fun c2 => ?_)
    · rw [if_pos c2] at h
      refine sw_iconst (n := (-1)) (v := (-1)) (by decide +kernel) (by decide) ?_
      cases h
      obtain rfl : _ = res := hk
      exact sw_iret (by decide +kernel)
    · rw [if_neg c2] at h
      refine sw_iload_n (k0 := 3) 3 rfl (by decide +kernel) rfl ?_
      refine sw_iconst (n := 0) (v := 0) (by decide +kernel) (by decide) ?_
      refine sw_sipush (n := 999) (v := 999) (by decide +kernel) (by decide) ?_
      refine sw_callSi [.int a3, .int 0, .int 999] (sX10_isIn (K := K - 1) (by omega) σ a3 0 999 rfl) rfl (by omega) gs_X10_411 hy_X10_isIn (by decide) rfl (Nat.le_of_ble_eq_true rfl) (by decide +kernel) ?_
      refine sw_if_eq (off := 19) 45 (by decide +kernel) (by decide) (fun c3 => ?_) (fun c3 => ?_)
      · rw [if_pos c3] at h
        refine sw_iconst (n := (-1)) (v := (-1)) (by decide +kernel) (by decide) ?_
        cases h
        obtain rfl : _ = res := hk
        exact sw_iret (by decide +kernel)
      · rw [if_neg c3] at h
        refine sw_aload_n (k0 := 0) 0 rfl (by decide +kernel) rfl ?_
        refine gf_X10_381 (i := 49) (by decide) rfl (by decide +kernel) ?_
        refine sw_if_eq (off := 12) 45 (by decide +kernel) (by decide) (fun c4 => ?_) (fun c4 => ?_)
        · rw [if_pos c4] at h
          refine sw_iconst (n := (-1)) (v := (-1)) (by decide +kernel) (by decide) ?_
          cases h
          obtain rfl : _ = res := hk
          exact sw_iret (by decide +kernel)
        · rw [if_neg c4] at h
          refine sw_aload_n (k0 := 0) 0 rfl (by decide +kernel) rfl ?_
          refine gf_X10_405 (i := 49) (by decide) rfl (by decide +kernel) ?_
          refine sw_bipush (n := 30) (v := 30) (by decide +kernel) (by decide) ?_
          refine sw_icmp_ne (off := 5) 47 (by decide +kernel) (by decide) (fun c5 => ?_) (fun c5 => ?_)
          · rw [if_neg c5] at h
            refine sw_aload_n (k0 := 0) 0 rfl (by decide +kernel) rfl ?_
            refine gf_X10_84 (i := 49) (by decide) rfl (by decide +kernel) ?_
            refine sw_refj 73 rfl ?_
            refine sw_aload_n (k0 := 0) 0 rfl (by decide +kernel) rfl ?_
            refine gf_X10_405 (i := 49) (by decide) rfl (by decide +kernel) ?_
            refine sw_iload_n (k0 := 1) 1 rfl (by decide +kernel) rfl ?_
            obtain ⟨g6, h⟩ := sw_gd_e h
            obtain ⟨m7, e8, h⟩ := sw_let_e h
            refine sw_iastore (a := 73) (by decide) rfl (sw_in_e g6) (by decide +kernel) ?_
            refine sw_mem e8 ?_
            refine sw_aload_n (k0 := 0) 0 rfl (by decide +kernel) rfl ?_
            refine gf_X10_87 (i := 49) (by decide) rfl (by decide +kernel) ?_
            refine sw_refj 74 rfl ?_
            refine sw_aload_n (k0 := 0) 0 rfl (by decide +kernel) rfl ?_
            refine gf_X10_405 (i := 49) (by decide) rfl (by decide +kernel) ?_
            refine sw_iload_n (k0 := 2) 2 rfl (by decide +kernel) rfl ?_
            obtain ⟨g9, h⟩ := sw_gd_e h
            obtain ⟨m10, e11, h⟩ := sw_let_e h
            refine sw_iastore (a := 74) (by decide) rfl (sw_in_e g9) (by decide +kernel) ?_
            refine sw_mem e11 ?_
            refine sw_aload_n (k0 := 0) 0 rfl (by decide +kernel) rfl ?_
            refine gf_X10_90 (i := 49) (by decide) rfl (by decide +kernel) ?_
            refine sw_refj 75 rfl ?_
            refine sw_aload_n (k0 := 0) 0 rfl (by decide +kernel) rfl ?_
            refine gf_X10_405 (i := 49) (by decide) rfl (by decide +kernel) ?_
            refine sw_iload_n (k0 := 3) 3 rfl (by decide +kernel) rfl ?_
            obtain ⟨g12, h⟩ := sw_gd_e h
            obtain ⟨m13, e14, h⟩ := sw_let_e h
            refine sw_iastore (a := 75) (by decide) rfl (sw_in_e g12) (by decide +kernel) ?_
            refine sw_mem e14 ?_
            refine sw_aload_n (k0 := 0) 0 rfl (by decide +kernel) rfl ?_
            refine gf_X10_99 (i := 49) (by decide) rfl (by decide +kernel) ?_
            refine sw_refj 78 rfl ?_
            refine sw_aload_n (k0 := 0) 0 rfl (by decide +kernel) rfl ?_
            refine gf_X10_405 (i := 49) (by decide) rfl (by decide +kernel) ?_
            refine sw_iload 4 rfl (by decide +kernel) ?_
            obtain ⟨g15, h⟩ := sw_gd_e h
            obtain ⟨m16, e17, h⟩ := sw_let_e h
            refine sw_zastore (a := 78) (by decide) rfl (sw_in_e g15) (by decide +kernel) ?_
            refine sw_mem e17 ?_
            refine sw_aload_n (k0 := 0) 0 rfl (by decide +kernel) rfl ?_
            refine gf_X10_93 (i := 49) (by decide) rfl (by decide +kernel) ?_
            refine sw_refj 76 rfl ?_
            refine sw_aload_n (k0 := 0) 0 rfl (by decide +kernel) rfl ?_
            refine gf_X10_405 (i := 49) (by decide) rfl (by decide +kernel) ?_
            refine sw_aload_n (k0 := 0) 0 rfl (by decide +kernel) rfl ?_
            refine gf_X10_503 (i := 49) (by decide) rfl (by decide +kernel) ?_
            obtain ⟨g18, h⟩ := sw_gd_e h
            obtain ⟨m19, e20, h⟩ := sw_let_e h
            refine sw_iastore (a := 76) (by decide) rfl (sw_in_e g18) (by decide +kernel) ?_
            refine sw_mem e20 ?_
            refine sw_aload_n (k0 := 0) 0 rfl (by decide +kernel) rfl ?_
            refine gf_X10_96 (i := 49) (by decide) rfl (by decide +kernel) ?_
            refine sw_refj 77 rfl ?_
            refine sw_aload_n (k0 := 0) 0 rfl (by decide +kernel) rfl ?_
            refine gf_X10_405 (i := 49) (by decide) rfl (by decide +kernel) ?_
            refine sw_iconst (n := (-1)) (v := (-1)) (by decide +kernel) (by decide) ?_
            obtain ⟨g21, h⟩ := sw_gd_e h
            obtain ⟨m22, e23, h⟩ := sw_let_e h
            refine sw_iastore (a := 77) (by decide) rfl (sw_in_e g21) (by decide +kernel) ?_
            refine sw_mem e23 ?_
            refine sw_aload_n (k0 := 0) 0 rfl (by decide +kernel) rfl ?_
            refine sw_dup (by decide +kernel) rfl ?_
            refine gf_X10_405 (i := 49) (by decide) rfl (by decide +kernel) ?_
            refine sw_iconst (n := 1) (v := 1) (by decide +kernel) (by decide) ?_
            refine sw_iadd (by decide +kernel) ?_
            obtain ⟨m24, e25, h⟩ := sw_let_e h
            refine pf_X10_405 (by decide) rfl (by decide +kernel) ?_
            refine sw_mem e25 ?_
            refine sw_aload_n (k0 := 0) 0 rfl (by decide +kernel) rfl ?_
            refine gf_X10_405 (i := 49) (by decide) rfl (by decide +kernel) ?_
            refine sw_iconst (n := 1) (v := 1) (by decide +kernel) (by decide) ?_
            refine sw_isub (by decide +kernel) ?_
            cases h
            obtain rfl : _ = res := hk
            exact sw_iret (by decide +kernel)
          · rw [if_pos c5] at h
            refine sw_iconst (n := (-1)) (v := (-1)) (by decide +kernel) (by decide) ?_
            cases h
            obtain rfl : _ = res := hk
            exact sw_iret (by decide +kernel)
def fX10_untell (σ : sw_M) (a1 : Int32) : Option (Int32 × sw_M) :=
  if (fX10_isIn a1 0 ((σ.1 49 66) - 1)) = 0 then
    some ((0, σ))
  else
    sw_gd (sw_in a1 30) <|
    if (σ.1 77 a1.toNatClampNeg) < 0 then
      sw_gd (sw_in a1 30) <|
      sw_let (sw_w σ 77 a1.toNatClampNeg (σ.1 49 67)) fun m5 =>
      some ((1, m5))
    else
      some ((0, σ))
set_option maxRecDepth 20000 in
theorem sX10_untell {l : Launch} {E : sw_E} {K : Nat} (hK : 1 ≤ K) (σ : sw_M) (a1 : Int32) {res : Int32 × sw_M} (h : fX10_untell σ a1 = some res) : sw_Ct l E K yX10_untell cX10_untell 2 (some .boolean) [.ref 49, .int a1] σ (some (.int res.1)) res.2 := by
  obtain ⟨t, hk, h⟩ : ∃ t, t = res ∧ fX10_untell σ a1 = some t := ⟨res, rfl, h⟩
  unfold fX10_untell at h
  refine sw_enter2 (own := RX10) (lv := [(0, .ref 49), (1, .int a1)]) (by decide +kernel) (Nat.le_of_ble_eq_true rfl) rfl rfl ?_
  refine sw_iload_n (k0 := 1) 1 rfl (by decide +kernel) rfl ?_
  refine sw_iconst (n := 0) (v := 0) (by decide +kernel) (by decide) ?_
  refine sw_aload_n (k0 := 0) 0 rfl (by decide +kernel) rfl ?_
  refine gf_X10_405 (i := 49) (by decide) rfl (by decide +kernel) ?_
  refine sw_iconst (n := 1) (v := 1) (by decide +kernel) (by decide) ?_
  refine sw_isub (by decide +kernel) ?_
  refine sw_callSi [.int a1, .int 0, .int ((σ.1 49 66) - 1)] (sX10_isIn (K := K - 1) (by omega) σ a1 0 ((σ.1 49 66) - 1) rfl) rfl (by omega) gs_X10_411 hy_X10_isIn (by decide) rfl (Nat.le_of_ble_eq_true rfl) (by decide +kernel) ?_
  refine sw_if_eq (off := 12) 23 (by decide +kernel) (by decide) (fun c1 => ?_) (fun c1 => ?_)
  · rw [if_pos c1] at h
    refine sw_iconst (n := 0) (v := 0) (by decide +kernel) (by decide) ?_
    cases h
    obtain rfl : _ = res := hk
    exact sw_zret rfl (by decide +kernel)
  · rw [if_neg c1] at h
    refine sw_aload_n (k0 := 0) 0 rfl (by decide +kernel) rfl ?_
    refine gf_X10_96 (i := 49) (by decide) rfl (by decide +kernel) ?_
    refine sw_refj 77 rfl ?_
    refine sw_iload_n (k0 := 1) 1 rfl (by decide +kernel) rfl ?_
    obtain ⟨g2, h⟩ := sw_gd_e h
    refine sw_iaload (a := 77) (by decide) rfl (sw_in_e g2) (by decide +kernel) ?_
    refine sw_if_lt (off := 5) 25 (by decide +kernel) (by decide) (fun c3 => ?_) (fun c3 => ?_)
    · rw [if_pos c3] at h
      refine sw_aload_n (k0 := 0) 0 rfl (by decide +kernel) rfl ?_
      refine gf_X10_96 (i := 49) (by decide) rfl (by decide +kernel) ?_
      refine sw_refj 77 rfl ?_
      refine sw_iload_n (k0 := 1) 1 rfl (by decide +kernel) rfl ?_
      refine sw_aload_n (k0 := 0) 0 rfl (by decide +kernel) rfl ?_
      refine gf_X10_503 (i := 49) (by decide) rfl (by decide +kernel) ?_
      obtain ⟨g4, h⟩ := sw_gd_e h
      obtain ⟨m5, e6, h⟩ := sw_let_e h
      refine sw_iastore (a := 77) (by decide) rfl (sw_in_e g4) (by decide +kernel) ?_
      refine sw_mem e6 ?_
      refine sw_iconst (n := 1) (v := 1) (by decide +kernel) (by decide) ?_
      cases h
      obtain rfl : _ = res := hk
      exact sw_zret rfl (by decide +kernel)
    · rw [if_neg c3] at h
      refine sw_iconst (n := 0) (v := 0) (by decide +kernel) (by decide) ?_
      cases h
      obtain rfl : _ = res := hk
      exact sw_zret rfl (by decide +kernel)
def fX10_later (σ : sw_M) (a1 : Int32) : Option (Int32 × sw_M) :=
  if a1 < 0 then
    some (((-1), σ))
  else
    if 1000 < a1 then
      some (((-1), σ))
    else
      if ((σ.1 49 67) + a1) ≤ 100000 then
        sw_let (sw_w σ 49 67 ((σ.1 49 67) + a1)) fun m4 =>
        some ((m4.1 49 67, m4))
      else
        some (((-1), σ))
set_option maxRecDepth 20000 in
theorem sX10_later {l : Launch} {E : sw_E} {K : Nat} (hK : 0 ≤ K) (σ : sw_M) (a1 : Int32) {res : Int32 × sw_M} (h : fX10_later σ a1 = some res) : sw_Ct l E K yX10_later cX10_later 2 (some .int) [.ref 49, .int a1] σ (some (.int res.1)) res.2 := by
  obtain ⟨t, hk, h⟩ : ∃ t, t = res ∧ fX10_later σ a1 = some t := ⟨res, rfl, h⟩
  unfold fX10_later at h
  refine sw_enter2 (own := RX10) (lv := [(0, .ref 49), (1, .int a1)]) (by decide +kernel) (Nat.le_of_ble_eq_true rfl) rfl rfl ?_
  refine sw_iload_n (k0 := 1) 1 rfl (by decide +kernel) rfl ?_
  refine sw_if_lt (off := 22) 23 (by decide +kernel) (by decide) (fun c1 => ?_) (fun c1 => ?_)
  · rw [if_pos c1] at h
    refine sw_iconst (n := (-1)) (v := (-1)) (by decide +kernel) (by decide) ?_
    cases h
    obtain rfl : _ = res := hk
    exact sw_iret (by decide +kernel)
  · rw [if_neg c1] at h
    refine sw_iload_n (k0 := 1) 1 rfl (by decide +kernel) rfl ?_
    refine sw_sipush (n := 1000) (v := 1000) (by decide +kernel) (by decide) ?_
    refine sw_icmp_gt (off := 15) 23 (by decide +kernel) (by decide) (fun c2 => ?_) (fun c2 => ?_)
    · rw [if_pos c2] at h
      refine sw_iconst (n := (-1)) (v := (-1)) (by decide +kernel) (by decide) ?_
      cases h
      obtain rfl : _ = res := hk
      exact sw_iret (by decide +kernel)
    · rw [if_neg c2] at h
      refine sw_aload_n (k0 := 0) 0 rfl (by decide +kernel) rfl ?_
      refine gf_X10_503 (i := 49) (by decide) rfl (by decide +kernel) ?_
      refine sw_iload_n (k0 := 1) 1 rfl (by decide +kernel) rfl ?_
      refine sw_iadd (by decide +kernel) ?_
      refine sw_ldcw kn_X10_506 (by decide +kernel) ?_
      refine sw_icmp_le (off := 5) 25 (by decide +kernel) (by decide) (fun c3 => ?_) (fun c3 => ?_)
      · rw [if_pos c3] at h
        refine sw_aload_n (k0 := 0) 0 rfl (by decide +kernel) rfl ?_
        refine sw_dup (by decide +kernel) rfl ?_
        refine gf_X10_503 (i := 49) (by decide) rfl (by decide +kernel) ?_
        refine sw_iload_n (k0 := 1) 1 rfl (by decide +kernel) rfl ?_
        refine sw_iadd (by decide +kernel) ?_
        obtain ⟨m4, e5, h⟩ := sw_let_e h
        refine pf_X10_503 (by decide) rfl (by decide +kernel) ?_
        refine sw_mem e5 ?_
        refine sw_aload_n (k0 := 0) 0 rfl (by decide +kernel) rfl ?_
        refine gf_X10_503 (i := 49) (by decide) rfl (by decide +kernel) ?_
        cases h
        obtain rfl : _ = res := hk
        exact sw_iret (by decide +kernel)
      · rw [if_neg c3] at h
        refine sw_iconst (n := (-1)) (v := (-1)) (by decide +kernel) (by decide) ?_
        cases h
        obtain rfl : _ = res := hk
        exact sw_iret (by decide +kernel)
