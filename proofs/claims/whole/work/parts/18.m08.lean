def fX9_order (σ : sw_M) (a1 : Int32) : Option (Int32 × sw_M) :=
  sw_let (sw_w σ 0 8 0) fun m1 =>
  if (fX4_isKind (sw_pl (m1.2.2 0)) m1 a1) = 0 then
    some (((-1), m1))
  else
    sw_let (sw_w m1 0 8 (m1.1 (sw_pl (m1.2.2 0)) 2)) fun m4 =>
    sw_b2 (fX3_mostByOrder (sw_pl (m4.2.2 0)) 27 48 m4 a1) fun r6 m7 =>
    some ((r6, m7))
set_option maxRecDepth 20000 in
theorem sX9_order {l : Launch} {E : sw_E} {K : Nat} (hK : 5 ≤ K) (σ : sw_M) (a1 : Int32) {res : Int32 × sw_M} (h : fX9_order σ a1 = some res) : sw_Ct l E K yX9_order cX9_order 2 (some .int) [.ref 0, .int a1] σ (some (.int res.1)) res.2 := by
  obtain ⟨t, hk, h⟩ : ∃ t, t = res ∧ fX9_order σ a1 = some t := ⟨res, rfl, h⟩
  unfold fX9_order at h
  refine sw_enter2 (own := RX9) (lv := [(0, .ref 0), (1, .int a1)]) (by decide +kernel) (Nat.le_of_ble_eq_true rfl) rfl rfl ?_
  refine sw_aload_n (k0 := 0) 0 rfl (by decide +kernel) rfl ?_
  refine sw_iconst (n := 0) (v := 0) (by decide +kernel) (by decide) ?_
  obtain ⟨m1, e2, h⟩ := sw_let_e h
  refine pf_X9_97 (by decide) rfl (by decide +kernel) ?_
  refine sw_mem e2 ?_
  refine sw_aload_n (k0 := 0) 0 rfl (by decide +kernel) rfl ?_
  refine gf_X9_19 (i := 0) (by decide) rfl (by decide +kernel) ?_
  refine sw_iload_n (k0 := 1) 1 rfl (by decide +kernel) rfl ?_
  refine sw_callVi (ci := 4) (i := (sw_pl (m1.2.2 0))) [.int a1] (sX4_isKind (K := K - 1) (by omega) (sw_pl (m1.2.2 0)) (sw_pl_P _) m1 a1 rfl) rfl (by omega) rfl gs_X9_109 hy_X4_isKind (by decide) (sw_pl_P _).o.1 (sw_pl_P _).o.2 rfl (Nat.le_of_ble_eq_true rfl) (by decide +kernel) ?_
  refine sw_if_ne (off := 5) 18 (by decide +kernel) (by decide) (fun c3 => ?_) (fun c3 => ?_)
  · rw [if_neg c3] at h
    refine sw_aload_n (k0 := 0) 0 rfl (by decide +kernel) rfl ?_
    refine sw_aload_n (k0 := 0) 0 rfl (by decide +kernel) rfl ?_
    refine gf_X9_19 (i := 0) (by decide) rfl (by decide +kernel) ?_
    refine gf_X9_129 (i := (sw_pl (m1.2.2 0))) (sw_pl_P _).o.1 (sw_pl_P _).o.2 (by decide +kernel) ?_
    obtain ⟨m4, e5, h⟩ := sw_let_e h
    refine pf_X9_97 (by decide) rfl (by decide +kernel) ?_
    refine sw_mem e5 ?_
    refine sw_aload_n (k0 := 0) 0 rfl (by decide +kernel) rfl ?_
    refine gf_X9_47 (i := 0) (by decide) rfl (by decide +kernel) ?_
    refine sw_refj 34 rfl ?_
    refine sw_aload_n (k0 := 0) 0 rfl (by decide +kernel) rfl ?_
    refine gf_X9_19 (i := 0) (by decide) rfl (by decide +kernel) ?_
    refine sw_aload_n (k0 := 0) 0 rfl (by decide +kernel) rfl ?_
    refine gf_X9_26 (i := 0) (by decide) rfl (by decide +kernel) ?_
    refine sw_refj 27 rfl ?_
    refine sw_iload_n (k0 := 1) 1 rfl (by decide +kernel) rfl ?_
    refine sw_aload_n (k0 := 0) 0 rfl (by decide +kernel) rfl ?_
    refine gf_X9_58 (i := 0) (by decide) rfl (by decide +kernel) ?_
    refine sw_refj 48 rfl ?_
    obtain ⟨r6, m7, w8, h⟩ := sw_b2_e h
    refine sw_callVi (ci := 3) (i := 34) [.ref (sw_pl (m4.2.2 0)), .ref 27, .int a1, .ref 48] (sX3_mostByOrder (K := K - 1) (by omega) (sw_pl (m4.2.2 0)) 27 48 (sw_pl_P _) (Or.inl rfl) (sw_A_of (by decide) rfl) m4 a1 w8) rfl (by omega) rfl gs_X9_214 hy_X3_mostByOrder (by decide) (by decide) rfl rfl (Nat.le_of_ble_eq_true rfl) (by decide +kernel) ?_
    cases h
    obtain rfl : _ = res := hk
    exact sw_iret (by decide +kernel)
  · rw [if_pos c3] at h
    refine sw_iconst (n := (-1)) (v := (-1)) (by decide +kernel) (by decide) ?_
    cases h
    obtain rfl : _ = res := hk
    exact sw_iret (by decide +kernel)
def fX9_comes_L26 (σ : sw_M) (a2 : Int32) (a3 : Int32) : Option ((Int32 × Int32) ⊕ (Int32)) :=
  if 5 ≤ a3 then
    some (.inr (a2))
  else
    sw_b1 (fX4_madeOf (sw_pl (σ.2.2 0)) σ a2) fun r2 =>
    sw_let (a2 ||| r2) fun v4 =>
    sw_let (a3 + 1) fun v6 =>
    some (.inl (v4, v6))
def fX9_comes (σ : sw_M) (a1 : Int32) : Option (Int32) :=
  if (fX4_isKind (sw_pl (σ.2.2 0)) σ a1) = 0 then
    some ((-1))
  else
    sw_b1 (fX4_madeOf (sw_pl (σ.2.2 0)) σ (1 <<< (a1 &&& 31))) fun r2 =>
    sw_wh sw_F (fun s => fX9_comes_L26 σ s.1 s.2) (r2, 1)
set_option maxRecDepth 20000 in
theorem sX9_comes_L26 {l : Launch} {E : sw_E} {K : Nat} (hK : 2 ≤ K) (σ : sw_M) (a2 : Int32) (a3 : Int32) {res : Int32} {t : (Int32 × Int32) ⊕ (Int32)} (h : fX9_comes_L26 σ a2 a3 = some t) (hk : (Sum.elim (fun s : Int32 × Int32 => sw_Go l E K RX9 cX9_comes 4 (some .int) 26 [(0, .ref 0), (2, .int s.1), (3, .int s.2)] [] σ (some (.int res)) σ) (fun q => q = res)) t) : sw_Go l E K RX9 cX9_comes 4 (some .int) 26 [(0, .ref 0), (2, .int a2), (3, .int a3)] [] σ (some (.int res)) σ := by
  unfold fX9_comes_L26 at h
  refine sw_iload_n (k0 := 3) 2 rfl (by decide +kernel) rfl ?_
  refine sw_iconst (n := 5) (v := 5) (by decide +kernel) (by decide) ?_
  refine sw_icmp_ge (off := 20) 48 (by decide +kernel) (by decide) (fun c1 => ?_) (fun c1 => ?_)
  · rw [if_pos c1] at h
    refine sw_iload_n (k0 := 2) 1 rfl (by decide +kernel) rfl ?_
    cases h
    obtain rfl : _ = res := hk
    exact sw_iret (by decide +kernel)
  · rw [if_neg c1] at h
    refine sw_iload_n (k0 := 2) 1 rfl (by decide +kernel) rfl ?_
    refine sw_aload_n (k0 := 0) 0 rfl (by decide +kernel) rfl ?_
    refine gf_X9_19 (i := 0) (by decide) rfl (by decide +kernel) ?_
    refine sw_iload_n (k0 := 2) 1 rfl (by decide +kernel) rfl ?_
    obtain ⟨r2, w3, h⟩ := sw_b1_e h
    refine sw_callVi (ci := 4) (i := (sw_pl (σ.2.2 0))) [.int a2] (sX4_madeOf (K := K - 1) (by omega) (sw_pl (σ.2.2 0)) (sw_pl_P _) σ a2 w3) rfl (by omega) rfl gs_X9_218 hy_X4_madeOf (by decide) (sw_pl_P _).o.1 (sw_pl_P _).o.2 rfl (Nat.le_of_ble_eq_true rfl) (by decide +kernel) ?_
    refine sw_ior (by decide +kernel) ?_
    obtain ⟨v4, e5, h⟩ := sw_let_e h
    refine sw_topi e5 ?_
    refine sw_istore_n (k0 := 2) (lv' := [(2, .int v4), (0, .ref 0), (3, .int a3)]) (by decide +kernel) rfl (by decide) rfl ?_
    obtain ⟨v6, e7, h⟩ := sw_let_e h
    refine sw_iincv (i := 3) (n := 1) (lv' := [(3, .int v6), (2, .int v4), (0, .ref 0)]) 2 rfl e7 (by decide +kernel) (by decide) (by decide) rfl ?_
    refine sw_goto (off := (-19)) 26 (by decide +kernel) (by decide) ?_
    cases h
    refine sw_lv [2, 1, 0] rfl ?_
    exact hk
set_option maxRecDepth 20000 in
theorem sX9_comes {l : Launch} {E : sw_E} {K : Nat} (hK : 2 ≤ K) (σ : sw_M) (a1 : Int32) {res : Int32} (h : fX9_comes σ a1 = some res) : sw_Ct l E K yX9_comes cX9_comes 4 (some .int) [.ref 0, .int a1] σ (some (.int res)) σ := by
  obtain ⟨t, hk, h⟩ : ∃ t, t = res ∧ fX9_comes σ a1 = some t := ⟨res, rfl, h⟩
  unfold fX9_comes at h
  refine sw_enter2 (own := RX9) (lv := [(0, .ref 0), (1, .int a1)]) (by decide +kernel) (Nat.le_of_ble_eq_true rfl) rfl rfl ?_
  refine sw_aload_n (k0 := 0) 0 rfl (by decide +kernel) rfl ?_
  refine gf_X9_19 (i := 0) (by decide) rfl (by decide +kernel) ?_
  refine sw_iload_n (k0 := 1) 1 rfl (by decide +kernel) rfl ?_
  refine sw_callVi (ci := 4) (i := (sw_pl (σ.2.2 0))) [.int a1] (sX4_isKind (K := K - 1) (by omega) (sw_pl (σ.2.2 0)) (sw_pl_P _) σ a1 rfl) rfl (by omega) rfl gs_X9_109 hy_X4_isKind (by decide) (sw_pl_P _).o.1 (sw_pl_P _).o.2 rfl (Nat.le_of_ble_eq_true rfl) (by decide +kernel) ?_
  refine sw_if_ne (off := 5) 13 (by decide +kernel) (by decide) (fun c1 => ?_) (fun c1 => ?_)
  · rw [if_neg c1] at h
    refine sw_aload_n (k0 := 0) 0 rfl (by decide +kernel) rfl ?_
    refine gf_X9_19 (i := 0) (by decide) rfl (by decide +kernel) ?_
    refine sw_iconst (n := 1) (v := 1) (by decide +kernel) (by decide) ?_
    refine sw_iload_n (k0 := 1) 1 rfl (by decide +kernel) rfl ?_
    refine sw_ishl (by decide +kernel) ?_
    obtain ⟨r2, w3, h⟩ := sw_b1_e h
    refine sw_callVi (ci := 4) (i := (sw_pl (σ.2.2 0))) [.int (1 <<< (a1 &&& 31))] (sX4_madeOf (K := K - 1) (by omega) (sw_pl (σ.2.2 0)) (sw_pl_P _) σ (1 <<< (a1 &&& 31)) w3) rfl (by omega) rfl gs_X9_218 hy_X4_madeOf (by decide) (sw_pl_P _).o.1 (sw_pl_P _).o.2 rfl (Nat.le_of_ble_eq_true rfl) (by decide +kernel) ?_
    refine sw_istore_n (k0 := 2) (lv' := [(2, .int r2), (0, .ref 0), (1, .int a1)]) (by decide +kernel) rfl (by decide) rfl ?_
    refine sw_iconst (n := 1) (v := 1) (by decide +kernel) (by decide) ?_
    refine sw_istore_n (k0 := 3) (lv' := [(3, .int 1), (2, .int r2), (0, .ref 0), (1, .int a1)]) (by decide +kernel) rfl (by decide) rfl ?_
    refine sw_lv [2, 1, 0] rfl ?_
    exact sw_wh_e (fun s : Int32 × Int32 => sw_Go l E K RX9 cX9_comes 4 (some .int) 26 [(0, .ref 0), (2, .int s.1), (3, .int s.2)] [] σ (some (.int res)) σ) (fun q => q = res) (fun s => fX9_comes_L26 σ s.1 s.2) (fun s t hb hk => sX9_comes_L26 hK σ s.1 s.2 hb hk) _ _ _ h hk
  · rw [if_pos c1] at h
    refine sw_iconst (n := (-1)) (v := (-1)) (by decide +kernel) (by decide) ?_
    cases h
    obtain rfl : _ = res := hk
    exact sw_iret (by decide +kernel)
def fX9_steps_L31 (σ : sw_M) (a2 : Int32) (a3 : Int32) (a4 : Int32) : Option ((Int32 × Int32) ⊕ (Int32)) :=
  if 5 ≤ a4 then
    some (.inr ((-1)))
  else
    if ((a3 >>> (a2 &&& 31)) &&& 1) = 1 then
      some (.inr (a4))
    else
      sw_b1 (fX4_madeOf (sw_pl (σ.2.2 0)) σ a3) fun r3 =>
      sw_let (a3 ||| r3) fun v5 =>
      sw_let (a4 + 1) fun v7 =>
      some (.inl (v5, v7))
def fX9_steps (σ : sw_M) (a1 : Int32) (a2 : Int32) : Option (Int32) :=
  if (fX4_isKind (sw_pl (σ.2.2 0)) σ a1) = 0 then
    some ((-1))
  else
    if (fX4_isKind (sw_pl (σ.2.2 0)) σ a2) = 0 then
      some ((-1))
    else
      sw_let (1 <<< (a1 &&& 31)) fun v3 =>
      sw_wh sw_F (fun s => fX9_steps_L31 σ a2 s.1 s.2) (v3, 0)
set_option maxRecDepth 20000 in
theorem sX9_steps_L31 {l : Launch} {E : sw_E} {K : Nat} (hK : 2 ≤ K) (σ : sw_M) (a2 : Int32) (a3 : Int32) (a4 : Int32) {res : Int32} {t : (Int32 × Int32) ⊕ (Int32)} (h : fX9_steps_L31 σ a2 a3 a4 = some t) (hk : (Sum.elim (fun s : Int32 × Int32 => sw_Go l E K RX9 cX9_steps 5 (some .int) 31 [(0, .ref 0), (2, .int a2), (3, .int s.1), (4, .int s.2)] [] σ (some (.int res)) σ) (fun q => q = res)) t) : sw_Go l E K RX9 cX9_steps 5 (some .int) 31 [(0, .ref 0), (2, .int a2), (3, .int a3), (4, .int a4)] [] σ (some (.int res)) σ := by
  unfold fX9_steps_L31 at h
  refine sw_iload 3 rfl (by decide +kernel) ?_
  refine sw_iconst (n := 5) (v := 5) (by decide +kernel) (by decide) ?_
  refine sw_icmp_ge (off := 32) 66 (by decide +kernel) (by decide) (fun c1 => ?_) (fun c1 => ?_)
  · rw [if_pos c1] at h
    refine sw_iconst (n := (-1)) (v := (-1)) (by decide +kernel) (by decide) ?_
    cases h
    obtain rfl : _ = res := hk
    exact sw_iret (by decide +kernel)
  · rw [if_neg c1] at h
    refine sw_iload_n (k0 := 3) 2 rfl (by decide +kernel) rfl ?_
    refine sw_iload_n (k0 := 2) 1 rfl (by decide +kernel) rfl ?_
    refine sw_ishr (by decide +kernel) ?_
    refine sw_iconst (n := 1) (v := 1) (by decide +kernel) (by decide) ?_
    refine sw_iand (by decide +kernel) ?_
    refine sw_iconst (n := 1) (v := 1) (by decide +kernel) (by decide) ?_
    refine sw_icmp_ne (off := 6) 49 (by decide +kernel) (by decide) (fun c2 => ?_) (fun c2 => ?_)
    · rw [if_neg c2] at h
      refine sw_iload_n (k0 := 3) 2 rfl (by decide +kernel) rfl ?_
      refine sw_aload_n (k0 := 0) 0 rfl (by decide +kernel) rfl ?_
      refine gf_X9_19 (i := 0) (by decide) rfl (by decide +kernel) ?_
      refine sw_iload_n (k0 := 3) 2 rfl (by decide +kernel) rfl ?_
      obtain ⟨r3, w4, h⟩ := sw_b1_e h
      refine sw_callVi (ci := 4) (i := (sw_pl (σ.2.2 0))) [.int a3] (sX4_madeOf (K := K - 1) (by omega) (sw_pl (σ.2.2 0)) (sw_pl_P _) σ a3 w4) rfl (by omega) rfl gs_X9_218 hy_X4_madeOf (by decide) (sw_pl_P _).o.1 (sw_pl_P _).o.2 rfl (Nat.le_of_ble_eq_true rfl) (by decide +kernel) ?_
      refine sw_ior (by decide +kernel) ?_
      obtain ⟨v5, e6, h⟩ := sw_let_e h
      refine sw_topi e6 ?_
      refine sw_istore_n (k0 := 3) (lv' := [(3, .int v5), (0, .ref 0), (2, .int a2), (4, .int a4)]) (by decide +kernel) rfl (by decide) rfl ?_
      obtain ⟨v7, e8, h⟩ := sw_let_e h
      refine sw_iincv (i := 4) (n := 1) (lv' := [(4, .int v7), (3, .int v5), (0, .ref 0), (2, .int a2)]) 3 rfl e8 (by decide +kernel) (by decide) (by decide) rfl ?_
      refine sw_goto (off := (-32)) 31 (by decide +kernel) (by decide) ?_
      cases h
      refine sw_lv [2, 3, 1, 0] rfl ?_
      exact hk
    · rw [if_pos c2] at h
      refine sw_iload 3 rfl (by decide +kernel) ?_
      cases h
      obtain rfl : _ = res := hk
      exact sw_iret (by decide +kernel)
set_option maxRecDepth 20000 in
theorem sX9_steps {l : Launch} {E : sw_E} {K : Nat} (hK : 2 ≤ K) (σ : sw_M) (a1 : Int32) (a2 : Int32) {res : Int32} (h : fX9_steps σ a1 a2 = some res) : sw_Ct l E K yX9_steps cX9_steps 5 (some .int) [.ref 0, .int a1, .int a2] σ (some (.int res)) σ := by
  obtain ⟨t, hk, h⟩ : ∃ t, t = res ∧ fX9_steps σ a1 a2 = some t := ⟨res, rfl, h⟩
  unfold fX9_steps at h
  refine sw_enter2 (own := RX9) (lv := [(0, .ref 0), (1, .int a1), (2, .int a2)]) (by decide +kernel) (Nat.le_of_ble_eq_true rfl) rfl rfl ?_
  refine sw_aload_n (k0 := 0) 0 rfl (by decide +kernel) rfl ?_
  refine gf_X9_19 (i := 0) (by decide) rfl (by decide +kernel) ?_
  refine sw_iload_n (k0 := 1) 1 rfl (by decide +kernel) rfl ?_
  refine sw_callVi (ci := 4) (i := (sw_pl (σ.2.2 0))) [.int a1] (sX4_isKind (K := K - 1) (by omega) (sw_pl (σ.2.2 0)) (sw_pl_P _) σ a1 rfl) rfl (by omega) rfl gs_X9_109 hy_X4_isKind (by decide) (sw_pl_P _).o.1 (sw_pl_P _).o.2 rfl (Nat.le_of_ble_eq_true rfl) (by decide +kernel) ?_
  refine sw_if_eq (off := 14) 22 (by decide +kernel) (by decide) (fun c1 => ?_) (fun c1 => ?_)
  · rw [if_pos c1] at h
    refine sw_iconst (n := (-1)) (v := (-1)) (by decide +kernel) (by decide) ?_
    cases h
    obtain rfl : _ = res := hk
    exact sw_iret (by decide +kernel)
  · rw [if_neg c1] at h
    refine sw_aload_n (k0 := 0) 0 rfl (by decide +kernel) rfl ?_
    refine gf_X9_19 (i := 0) (by decide) rfl (by decide +kernel) ?_
    refine sw_iload_n (k0 := 2) 2 rfl (by decide +kernel) rfl ?_
    refine sw_callVi (ci := 4) (i := (sw_pl (σ.2.2 0))) [.int a2] (sX4_isKind (K := K - 1) (by omega) (sw_pl (σ.2.2 0)) (sw_pl_P _) σ a2 rfl) rfl (by omega) rfl gs_X9_109 hy_X4_isKind (by decide) (sw_pl_P _).o.1 (sw_pl_P _).o.2 rfl (Nat.le_of_ble_eq_true rfl) (by decide +kernel) ?_
    refine sw_if_ne (off := 5) 24 (by decide +kernel) (by decide) (fun c2 => ?_) (fun c2 => ?_)
    · rw [if_neg c2] at h
      refine sw_iconst (n := 1) (v := 1) (by decide +kernel) (by decide) ?_
      refine sw_iload_n (k0 := 1) 1 rfl (by decide +kernel) rfl ?_
      refine sw_ishl (by decide +kernel) ?_
      obtain ⟨v3, e4, h⟩ := sw_let_e h
      refine sw_topi e4 ?_
      refine sw_istore_n (k0 := 3) (lv' := [(3, .int v3), (0, .ref 0), (1, .int a1), (2, .int a2)]) (by decide +kernel) rfl (by decide) rfl ?_
      refine sw_iconst (n := 0) (v := 0) (by decide +kernel) (by decide) ?_
      refine sw_istore (i := 4) (lv' := [(4, .int 0), (3, .int v3), (0, .ref 0), (1, .int a1), (2, .int a2)]) (by decide +kernel) (by decide) rfl ?_
      refine sw_lv [2, 4, 1, 0] rfl ?_
      exact sw_wh_e (fun s : Int32 × Int32 => sw_Go l E K RX9 cX9_steps 5 (some .int) 31 [(0, .ref 0), (2, .int a2), (3, .int s.1), (4, .int s.2)] [] σ (some (.int res)) σ) (fun q => q = res) (fun s => fX9_steps_L31 σ a2 s.1 s.2) (fun s t hb hk => sX9_steps_L31 hK σ a2 s.1 s.2 hb hk) _ _ _ h hk
    · rw [if_pos c2] at h
      refine sw_iconst (n := (-1)) (v := (-1)) (by decide +kernel) (by decide) ?_
      cases h
      obtain rfl : _ = res := hk
      exact sw_iret (by decide +kernel)
def fJ6_numberOfTrailingZeros_0f7a4_L74 (a0 : Int32) (a1 : Int32) : Int32 :=
  a1 + ((a0.toUInt32 >>> ((1 : Int32).toUInt32 &&& Int32.toUInt32 31)).toInt32)
def fJ6_numberOfTrailingZeros_0f7a4_L62 (a0 : Int32) (a1 : Int32) : Int32 :=
  if a0 ≤ 4 then
    fJ6_numberOfTrailingZeros_0f7a4_L74 a0 a1
  else
    sw_let (a1 + 2) fun v2 =>
    sw_let ((a0.toUInt32 >>> ((2 : Int32).toUInt32 &&& Int32.toUInt32 31)).toInt32) fun v4 =>
    fJ6_numberOfTrailingZeros_0f7a4_L74 v4 v2
def fJ6_numberOfTrailingZeros_0f7a4_L49 (a0 : Int32) (a1 : Int32) : Int32 :=
  if a0 ≤ 16 then
    fJ6_numberOfTrailingZeros_0f7a4_L62 a0 a1
  else
    sw_let (a1 + 4) fun v2 =>
    sw_let ((a0.toUInt32 >>> ((4 : Int32).toUInt32 &&& Int32.toUInt32 31)).toInt32) fun v4 =>
    fJ6_numberOfTrailingZeros_0f7a4_L62 v4 v2
def fJ6_numberOfTrailingZeros_0f7a4_L34 (a0 : Int32) (a1 : Int32) : Int32 :=
  if a0 ≤ 256 then
    fJ6_numberOfTrailingZeros_0f7a4_L49 a0 a1
  else
    sw_let (a1 + 8) fun v2 =>
    sw_let ((a0.toUInt32 >>> ((8 : Int32).toUInt32 &&& Int32.toUInt32 31)).toInt32) fun v4 =>
    fJ6_numberOfTrailingZeros_0f7a4_L49 v4 v2
def fJ6_numberOfTrailingZeros_0f7a4 (a0 : Int32) : Int32 :=
  sw_let ((a0 ^^^ (-1)) &&& (a0 - 1)) fun v1 =>
  if (0 : Int32) < v1 then
    if v1 ≤ 65536 then
      fJ6_numberOfTrailingZeros_0f7a4_L34 v1 1
    else
      sw_let (1 + 16) fun v5 =>
      sw_let ((v1.toUInt32 >>> ((16 : Int32).toUInt32 &&& Int32.toUInt32 31)).toInt32) fun v7 =>
      fJ6_numberOfTrailingZeros_0f7a4_L34 v7 v5
  else
    v1 &&& 32
set_option maxRecDepth 20000 in
theorem sJ6_numberOfTrailingZeros_0f7a4_L74 {l : Launch} {E : sw_E} {K : Nat} (hK : 0 ≤ K) (σ : sw_M) (a0 : Int32) (a1 : Int32) {res : Int32} {t : (Int32)} (h : fJ6_numberOfTrailingZeros_0f7a4_L74 a0 a1 = t) (hk : (fun q => q = res) t) : sw_Go l E K RJ6 cJ6_numberOfTrailingZeros_0f7a4 2 (some .int) 74 [(0, .int a0), (1, .int a1)] [] σ (some (.int res)) σ := by
  unfold fJ6_numberOfTrailingZeros_0f7a4_L74 at h
  refine sw_iload_n (k0 := 1) 1 rfl (by decide +kernel) rfl ?_
  refine sw_iload_n (k0 := 0) 0 rfl (by decide +kernel) rfl ?_
  refine sw_iconst (n := 1) (v := 1) (by decide +kernel) (by decide) ?_
  refine sw_iushr (by decide +kernel) ?_
  refine sw_iadd (by decide +kernel) ?_
  subst h
  obtain rfl : _ = res := hk
  exact sw_iret (by decide +kernel)
set_option maxRecDepth 20000 in
theorem sJ6_numberOfTrailingZeros_0f7a4_L62 {l : Launch} {E : sw_E} {K : Nat} (hK : 0 ≤ K) (σ : sw_M) (a0 : Int32) (a1 : Int32) {res : Int32} {t : (Int32)} (h : fJ6_numberOfTrailingZeros_0f7a4_L62 a0 a1 = t) (hk : (fun q => q = res) t) : sw_Go l E K RJ6 cJ6_numberOfTrailingZeros_0f7a4 2 (some .int) 62 [(0, .int a0), (1, .int a1)] [] σ (some (.int res)) σ := by
  unfold fJ6_numberOfTrailingZeros_0f7a4_L62 at h
  refine sw_iload_n (k0 := 0) 0 rfl (by decide +kernel) rfl ?_
  refine sw_iconst (n := 4) (v := 4) (by decide +kernel) (by decide) ?_
  refine sw_icmp_le (off := 10) 74 (by decide +kernel) (by decide) (fun c1 => ?_) (fun c1 => ?_)
  · rw [if_pos c1] at h
    exact sJ6_numberOfTrailingZeros_0f7a4_L74 hK σ a0 a1 h hk
  · rw [if_neg c1] at h
    obtain ⟨v2, e3, h⟩ := sw_let_e h
    refine sw_iincv (i := 1) (n := 2) (lv' := [(1, .int v2), (0, .int a0)]) 1 rfl e3 (by decide +kernel) (by decide) (by decide) rfl ?_
    refine sw_iload_n (k0 := 0) 1 rfl (by decide +kernel) rfl ?_
    refine sw_iconst (n := 2) (v := 2) (by decide +kernel) (by decide) ?_
    refine sw_iushr (by decide +kernel) ?_
    obtain ⟨v4, e5, h⟩ := sw_let_e h
    refine sw_topi e5 ?_
    refine sw_istore_n (k0 := 0) (lv' := [(0, .int v4), (1, .int v2)]) (by decide +kernel) rfl (by decide) rfl ?_
    exact sJ6_numberOfTrailingZeros_0f7a4_L74 hK σ v4 v2 h hk
set_option maxRecDepth 20000 in
theorem sJ6_numberOfTrailingZeros_0f7a4_L49 {l : Launch} {E : sw_E} {K : Nat} (hK : 0 ≤ K) (σ : sw_M) (a0 : Int32) (a1 : Int32) {res : Int32} {t : (Int32)} (h : fJ6_numberOfTrailingZeros_0f7a4_L49 a0 a1 = t) (hk : (fun q => q = res) t) : sw_Go l E K RJ6 cJ6_numberOfTrailingZeros_0f7a4 2 (some .int) 49 [(0, .int a0), (1, .int a1)] [] σ (some (.int res)) σ := by
  unfold fJ6_numberOfTrailingZeros_0f7a4_L49 at h
  refine sw_iload_n (k0 := 0) 0 rfl (by decide +kernel) rfl ?_
  refine sw_bipush (n := 16) (v := 16) (by decide +kernel) (by decide) ?_
  refine sw_icmp_le (off := 10) 62 (by decide +kernel) (by decide) (fun c1 => ?_) (fun c1 => ?_)
  · rw [if_pos c1] at h
    exact sJ6_numberOfTrailingZeros_0f7a4_L62 hK σ a0 a1 h hk
  · rw [if_neg c1] at h
    obtain ⟨v2, e3, h⟩ := sw_let_e h
    refine sw_iincv (i := 1) (n := 4) (lv' := [(1, .int v2), (0, .int a0)]) 1 rfl e3 (by decide +kernel) (by decide) (by decide) rfl ?_
    refine sw_iload_n (k0 := 0) 1 rfl (by decide +kernel) rfl ?_
    refine sw_iconst (n := 4) (v := 4) (by decide +kernel) (by decide) ?_
    refine sw_iushr (by decide +kernel) ?_
    obtain ⟨v4, e5, h⟩ := sw_let_e h
    refine sw_topi e5 ?_
    refine sw_istore_n (k0 := 0) (lv' := [(0, .int v4), (1, .int v2)]) (by decide +kernel) rfl (by decide) rfl ?_
    exact sJ6_numberOfTrailingZeros_0f7a4_L62 hK σ v4 v2 h hk
set_option maxRecDepth 20000 in
theorem sJ6_numberOfTrailingZeros_0f7a4_L34 {l : Launch} {E : sw_E} {K : Nat} (hK : 0 ≤ K) (σ : sw_M) (a0 : Int32) (a1 : Int32) {res : Int32} {t : (Int32)} (h : fJ6_numberOfTrailingZeros_0f7a4_L34 a0 a1 = t) (hk : (fun q => q = res) t) : sw_Go l E K RJ6 cJ6_numberOfTrailingZeros_0f7a4 2 (some .int) 34 [(0, .int a0), (1, .int a1)] [] σ (some (.int res)) σ := by
  unfold fJ6_numberOfTrailingZeros_0f7a4_L34 at h
  refine sw_iload_n (k0 := 0) 0 rfl (by decide +kernel) rfl ?_
  refine sw_sipush (n := 256) (v := 256) (by decide +kernel) (by decide) ?_
  refine sw_icmp_le (off := 11) 49 (by decide +kernel) (by decide) (fun c1 => ?_) (fun c1 => ?_)
  · rw [if_pos c1] at h
    exact sJ6_numberOfTrailingZeros_0f7a4_L49 hK σ a0 a1 h hk
  · rw [if_neg c1] at h
    obtain ⟨v2, e3, h⟩ := sw_let_e h
    refine sw_iincv (i := 1) (n := 8) (lv' := [(1, .int v2), (0, .int a0)]) 1 rfl e3 (by decide +kernel) (by decide) (by decide) rfl ?_
    refine sw_iload_n (k0 := 0) 1 rfl (by decide +kernel) rfl ?_
    refine sw_bipush (n := 8) (v := 8) (by decide +kernel) (by decide) ?_
    refine sw_iushr (by decide +kernel) ?_
    obtain ⟨v4, e5, h⟩ := sw_let_e h
    refine sw_topi e5 ?_
    refine sw_istore_n (k0 := 0) (lv' := [(0, .int v4), (1, .int v2)]) (by decide +kernel) rfl (by decide) rfl ?_
    exact sJ6_numberOfTrailingZeros_0f7a4_L49 hK σ v4 v2 h hk
set_option maxRecDepth 20000 in
theorem sJ6_numberOfTrailingZeros_0f7a4 {l : Launch} {E : sw_E} {K : Nat} (hK : 0 ≤ K) (σ : sw_M) (a0 : Int32) {res : Int32} (h : fJ6_numberOfTrailingZeros_0f7a4 a0 = res) : sw_Ct l E K yJ6_numberOfTrailingZeros_0f7a4 cJ6_numberOfTrailingZeros_0f7a4 2 (some .int) [.int a0] σ (some (.int res)) σ := by
  obtain ⟨t, hk, h⟩ : ∃ t, t = res ∧ fJ6_numberOfTrailingZeros_0f7a4 a0 = t := ⟨res, rfl, h⟩
  unfold fJ6_numberOfTrailingZeros_0f7a4 at h
  refine sw_enter2 (own := RJ6) (lv := [(0, .int a0)]) (by decide +kernel) (Nat.le_of_ble_eq_true rfl) rfl rfl ?_
  refine sw_iload_n (k0 := 0) 0 rfl (by decide +kernel) rfl ?_
  refine sw_iconst (n := (-1)) (v := (-1)) (by decide +kernel) (by decide) ?_
  refine sw_ixor (by decide +kernel) ?_
  refine sw_iload_n (k0 := 0) 0 rfl (by decide +kernel) rfl ?_
  refine sw_iconst (n := 1) (v := 1) (by decide +kernel) (by decide) ?_
  refine sw_isub (by decide +kernel) ?_
  refine sw_iand (by decide +kernel) ?_
  obtain ⟨v1, e2, h⟩ := sw_let_e h
  refine sw_topi e2 ?_
  refine sw_istore_n (k0 := 0) (lv' := [(0, .int v1)]) (by decide +kernel) rfl (by decide) rfl ?_
  refine sw_iload_n (k0 := 0) 0 rfl (by decide +kernel) rfl ?_
  refine sw_if_gt (off := 8) 17 (by decide +kernel) (by decide) (fun c3 => ?_) (fun c3 => ?_)
  · rw [if_pos c3] at h
    refine sw_iconst (n := 1) (v := 1) (by decide +kernel) (by decide) ?_
    refine sw_istore_n (k0 := 1) (lv' := [(1, .int 1), (0, .int v1)]) (by decide +kernel) rfl (by decide) rfl ?_
    refine sw_iload_n (k0 := 0) 1 rfl (by decide +kernel) rfl ?_
    refine sw_ldcw kn_J6_264 (by decide +kernel) ?_
    refine sw_icmp_le (off := 11) 34 (by decide +kernel) (by decide) (fun c4 => ?_) (fun c4 => ?_)
    · rw [if_pos c4] at h
      refine sw_lv [1, 0] rfl ?_
      exact sJ6_numberOfTrailingZeros_0f7a4_L34 hK σ v1 1 h hk
    · rw [if_neg c4] at h
      obtain ⟨v5, e6, h⟩ := sw_let_e h
      refine sw_iincv (i := 1) (n := 16) (lv' := [(1, .int v5), (0, .int v1)]) 0 rfl e6 (by decide +kernel) (by decide) (by decide) rfl ?_
      refine sw_iload_n (k0 := 0) 1 rfl (by decide +kernel) rfl ?_
      refine sw_bipush (n := 16) (v := 16) (by decide +kernel) (by decide) ?_
      refine sw_iushr (by decide +kernel) ?_
      obtain ⟨v7, e8, h⟩ := sw_let_e h
      refine sw_topi e8 ?_
      refine sw_istore_n (k0 := 0) (lv' := [(0, .int v7), (1, .int v5)]) (by decide +kernel) rfl (by decide) rfl ?_
      exact sJ6_numberOfTrailingZeros_0f7a4_L34 hK σ v7 v5 h hk
  · rw [if_neg c3] at h
    refine sw_iload_n (k0 := 0) 0 rfl (by decide +kernel) rfl ?_
    refine sw_bipush (n := 32) (v := 32) (by decide +kernel) (by decide) ?_
    refine sw_iand (by decide +kernel) ?_
    subst h
    obtain rfl : _ = res := hk
    exact sw_iret (by decide +kernel)
def fX9_duel (σ : sw_M) (a1 : Int32) (a2 : Int32) : Option (Int32 × sw_M) :=
  sw_let (sw_w σ 0 8 0) fun m1 =>
  if a1 = a2 then
    some (((-1), m1))
  else
    if (fX9_isSilent m1 a1) = 0 then
      some (((-1), m1))
    else
      if (fX9_isSilent m1 a2) = 0 then
        some (((-1), m1))
      else
        sw_b2 (fX3_duelRests (sw_pl (m1.2.2 0)) 27 m1 a1 a2) fun r6 m7 =>
        if r6 = 0 then
          some ((0, m7))
        else
          sw_let (fJ6_numberOfTrailingZeros_0f7a4 r6) fun v10 =>
          sw_let (sw_w m7 48 0 (v10 >>> (1 &&& 31))) fun m12 =>
          sw_let (sw_w m12 48 1 (v10 &&& 1)) fun m14 =>
          sw_let (sw_w m14 0 8 2) fun m16 =>
          some ((fJ6_bitCount_0f7a4 r6, m16))
set_option maxRecDepth 20000 in
theorem sX9_duel {l : Launch} {E : sw_E} {K : Nat} (hK : 6 ≤ K) (σ : sw_M) (a1 : Int32) (a2 : Int32) {res : Int32 × sw_M} (h : fX9_duel σ a1 a2 = some res) : sw_Ct l E K yX9_duel cX9_duel 5 (some .int) [.ref 0, .int a1, .int a2] σ (some (.int res.1)) res.2 := by
  obtain ⟨t, hk, h⟩ : ∃ t, t = res ∧ fX9_duel σ a1 a2 = some t := ⟨res, rfl, h⟩
  unfold fX9_duel at h
  refine sw_enter2 (own := RX9) (lv := [(0, .ref 0), (1, .int a1), (2, .int a2)]) (by decide +kernel) (Nat.le_of_ble_eq_true rfl) rfl rfl ?_
  refine sw_aload_n (k0 := 0) 0 rfl (by decide +kernel) rfl ?_
  refine sw_iconst (n := 0) (v := 0) (by decide +kernel) (by decide) ?_
  obtain ⟨m1, e2, h⟩ := sw_let_e h
  refine pf_X9_97 (by decide) rfl (by decide +kernel) ?_
  refine sw_mem e2 ?_
  refine sw_iload_n (k0 := 1) 1 rfl (by decide +kernel) rfl ?_
  refine sw_iload_n (k0 := 2) 2 rfl (by decide +kernel) rfl ?_
  refine sw_icmp_eq (off := 19) 26 (by decide +kernel) (by decide) (fun c3 => ?_) (fun c3 => ?_)
  · rw [if_pos c3] at h
    refine sw_iconst (n := (-1)) (v := (-1)) (by decide +kernel) (by decide) ?_
    cases h
    obtain rfl : _ = res := hk
    exact sw_iret (by decide +kernel)
  · rw [if_neg c3] at h
    refine sw_aload_n (k0 := 0) 0 rfl (by decide +kernel) rfl ?_
    refine sw_iload_n (k0 := 1) 1 rfl (by decide +kernel) rfl ?_
    refine sw_callVi (ci := 9) (i := 0) [.int a1] (sX9_isSilent (K := K - 1) (by omega) m1 a1 rfl) rfl (by omega) rfl gs_X9_135 hy_X9_isSilent (by decide) (by decide) rfl rfl (Nat.le_of_ble_eq_true rfl) (by decide +kernel) ?_
    refine sw_if_eq (off := 11) 26 (by decide +kernel) (by decide) (fun c4 => ?_) (fun c4 => ?_)
    · rw [if_pos c4] at h
      refine sw_iconst (n := (-1)) (v := (-1)) (by decide +kernel) (by decide) ?_
      cases h
      obtain rfl : _ = res := hk
      exact sw_iret (by decide +kernel)
    · rw [if_neg c4] at h
      refine sw_aload_n (k0 := 0) 0 rfl (by decide +kernel) rfl ?_
      refine sw_iload_n (k0 := 2) 2 rfl (by decide +kernel) rfl ?_
      refine sw_callVi (ci := 9) (i := 0) [.int a2] (sX9_isSilent (K := K - 1) (by omega) m1 a2 rfl) rfl (by omega) rfl gs_X9_135 hy_X9_isSilent (by decide) (by decide) rfl rfl (Nat.le_of_ble_eq_true rfl) (by decide +kernel) ?_
      refine sw_if_ne (off := 5) 28 (by decide +kernel) (by decide) (fun c5 => ?_) (fun c5 => ?_)
      · rw [if_neg c5] at h
        refine sw_aload_n (k0 := 0) 0 rfl (by decide +kernel) rfl ?_
        refine gf_X9_47 (i := 0) (by decide) rfl (by decide +kernel) ?_
        refine sw_refj 34 rfl ?_
        refine sw_aload_n (k0 := 0) 0 rfl (by decide +kernel) rfl ?_
        refine gf_X9_19 (i := 0) (by decide) rfl (by decide +kernel) ?_
        refine sw_aload_n (k0 := 0) 0 rfl (by decide +kernel) rfl ?_
        refine gf_X9_26 (i := 0) (by decide) rfl (by decide +kernel) ?_
        refine sw_refj 27 rfl ?_
        refine sw_iload_n (k0 := 1) 1 rfl (by decide +kernel) rfl ?_
        refine sw_iload_n (k0 := 2) 2 rfl (by decide +kernel) rfl ?_
        obtain ⟨r6, m7, w8, h⟩ := sw_b2_e h
        refine sw_callVi (ci := 3) (i := 34) [.ref (sw_pl (m1.2.2 0)), .ref 27, .int a1, .int a2] (sX3_duelRests (K := K - 1) (by omega) (sw_pl (m1.2.2 0)) 27 (sw_pl_P _) (Or.inl rfl) m1 a1 a2 w8) rfl (by omega) rfl gs_X9_222 hy_X3_duelRests (by decide) (by decide) rfl rfl (Nat.le_of_ble_eq_true rfl) (by decide +kernel) ?_
        refine sw_istore_n (k0 := 3) (lv' := [(3, .int r6), (0, .ref 0), (1, .int a1), (2, .int a2)]) (by decide +kernel) rfl (by decide) rfl ?_
        refine sw_iload_n (k0 := 3) 0 rfl (by decide +kernel) rfl ?_
        refine sw_if_ne (off := 5) 52 (by decide +kernel) (by decide) (fun c9 => ?_) (fun c9 => ?_)
        · rw [if_neg c9] at h
          refine sw_iload_n (k0 := 3) 0 rfl (by decide +kernel) rfl ?_
          refine sw_callSi [.int r6] (sJ6_numberOfTrailingZeros_0f7a4 (K := K - 1) (by omega) m7 r6 rfl) rfl (by omega) gs_X9_225 hy_J6_numberOfTrailingZeros_0f7a4 (by decide) rfl (Nat.le_of_ble_eq_true rfl) (by decide +kernel) ?_
          obtain ⟨v10, e11, h⟩ := sw_let_e h
          refine sw_topi e11 ?_
          refine sw_istore (i := 4) (lv' := [(4, .int v10), (3, .int r6), (0, .ref 0), (1, .int a1), (2, .int a2)]) (by decide +kernel) (by decide) rfl ?_
          refine sw_aload_n (k0 := 0) 2 rfl (by decide +kernel) rfl ?_
          refine gf_X9_58 (i := 0) (by decide) rfl (by decide +kernel) ?_
          refine sw_refj 48 rfl ?_
          refine sw_iconst (n := 0) (v := 0) (by decide +kernel) (by decide) ?_
          refine sw_iload 0 rfl (by decide +kernel) ?_
          refine sw_iconst (n := 1) (v := 1) (by decide +kernel) (by decide) ?_
          refine sw_ishr (by decide +kernel) ?_
          obtain ⟨m12, e13, h⟩ := sw_let_e h
          refine sw_iastore (a := 48) (by decide) rfl (sw_in_e (by decide)) (by decide +kernel) ?_
          refine sw_mem (e13.trans (show sw_w m7 48 0 (v10 >>> (1 &&& 31)) = sw_w m7 48 (0 : Int32).toNatClampNeg (v10 >>> (1 &&& 31)) from rfl)) ?_
          refine sw_aload_n (k0 := 0) 2 rfl (by decide +kernel) rfl ?_
          refine gf_X9_58 (i := 0) (by decide) rfl (by decide +kernel) ?_
          refine sw_refj 48 rfl ?_
          refine sw_iconst (n := 1) (v := 1) (by decide +kernel) (by decide) ?_
          refine sw_iload 0 rfl (by decide +kernel) ?_
          refine sw_iconst (n := 1) (v := 1) (by decide +kernel) (by decide) ?_
          refine sw_iand (by decide +kernel) ?_
          obtain ⟨m14, e15, h⟩ := sw_let_e h
          refine sw_iastore (a := 48) (by decide) rfl (sw_in_e (by decide)) (by decide +kernel) ?_
          refine sw_mem (e15.trans (show sw_w m12 48 1 (v10 &&& 1) = sw_w m12 48 (1 : Int32).toNatClampNeg (v10 &&& 1) from rfl)) ?_
          refine sw_aload_n (k0 := 0) 2 rfl (by decide +kernel) rfl ?_
          refine sw_iconst (n := 2) (v := 2) (by decide +kernel) (by decide) ?_
          obtain ⟨m16, e17, h⟩ := sw_let_e h
          refine pf_X9_97 (by decide) rfl (by decide +kernel) ?_
          refine sw_mem e17 ?_
          refine sw_iload_n (k0 := 3) 1 rfl (by decide +kernel) rfl ?_
          refine sw_callSi [.int r6] (sJ6_bitCount_0f7a4 (K := K - 1) (by omega) m16 r6 rfl) rfl (by omega) gs_X9_230 hy_J6_bitCount_0f7a4 (by decide) rfl (Nat.le_of_ble_eq_true rfl) (by decide +kernel) ?_
          cases h
          obtain rfl : _ = res := hk
          exact sw_iret (by decide +kernel)
        · rw [if_pos c9] at h
          refine sw_iconst (n := 0) (v := 0) (by decide +kernel) (by decide) ?_
          cases h
          obtain rfl : _ = res := hk
          exact sw_iret (by decide +kernel)
      · rw [if_pos c5] at h
        refine sw_iconst (n := (-1)) (v := (-1)) (by decide +kernel) (by decide) ?_
        cases h
        obtain rfl : _ = res := hk
        exact sw_iret (by decide +kernel)
def fX9_nearest_L61 (σ : sw_M) (a1 : Int32) (a2 : Int32) (a3 : Int32) : Option ((Int32 × Int32 × Int32) ⊕ (Int32)) :=
  sw_let (a3 + 1) fun v1 =>
  some (.inl (a1, a2, v1))
def fX9_nearest_L56 (σ : sw_M) (a3 : Int32) (a4 : Int32) : Option ((Int32 × Int32 × Int32) ⊕ (Int32)) :=
  fX9_nearest_L61 σ a3 a4 a3
def fX9_nearest_L6 (σ : sw_M) (a1 : Int32) (a2 : Int32) (a3 : Int32) : Option ((Int32 × Int32 × Int32) ⊕ (Int32)) :=
  if (σ.1 (sw_pl (σ.2.2 0)) 3) ≤ a3 then
    some (.inr (a1))
  else
    sw_b1 (fX4_lacking (sw_pl (σ.2.2 0)) 28 σ a3) fun r2 =>
    if (fX9_isEased σ a3) = 0 then
      if a1 = (-1) then
        fX9_nearest_L56 σ a3 r2
      else
        if r2 < a2 then
          fX9_nearest_L56 σ a3 r2
        else
          fX9_nearest_L61 σ a1 a2 a3
    else
      fX9_nearest_L61 σ a1 a2 a3
def fX9_nearest (σ : sw_M) : Option (Int32) :=
  sw_wh sw_F (fun s => fX9_nearest_L6 σ s.1 s.2.1 s.2.2) ((-1), 0, 0)
set_option maxRecDepth 20000 in
theorem sX9_nearest_L61 {l : Launch} {E : sw_E} {K : Nat} (hK : 2 ≤ K) (σ : sw_M) (a1 : Int32) (a2 : Int32) (a3 : Int32) {res : Int32} {t : (Int32 × Int32 × Int32) ⊕ (Int32)} (h : fX9_nearest_L61 σ a1 a2 a3 = some t) (hk : (Sum.elim (fun s : Int32 × Int32 × Int32 => sw_Go l E K RX9 cX9_nearest 5 (some .int) 6 [(0, .ref 0), (1, .int s.1), (2, .int s.2.1), (3, .int s.2.2)] [] σ (some (.int res)) σ) (fun q => q = res)) t) : sw_Go l E K RX9 cX9_nearest 5 (some .int) 61 [(0, .ref 0), (1, .int a1), (2, .int a2), (3, .int a3)] [] σ (some (.int res)) σ := by
  unfold fX9_nearest_L61 at h
  obtain ⟨v1, e2, h⟩ := sw_let_e h
  refine sw_iincv (i := 3) (n := 1) (lv' := [(3, .int v1), (0, .ref 0), (1, .int a1), (2, .int a2)]) 3 rfl e2 (by decide +kernel) (by decide) (by decide) rfl ?_
  refine sw_goto (off := (-58)) 6 (by decide +kernel) (by decide) ?_
  cases h
  refine sw_lv [1, 2, 3, 0] rfl ?_
  exact hk
set_option maxRecDepth 20000 in
theorem sX9_nearest_L56 {l : Launch} {E : sw_E} {K : Nat} (hK : 2 ≤ K) (σ : sw_M) (a3 : Int32) (a4 : Int32) {res : Int32} {t : (Int32 × Int32 × Int32) ⊕ (Int32)} (h : fX9_nearest_L56 σ a3 a4 = some t) (hk : (Sum.elim (fun s : Int32 × Int32 × Int32 => sw_Go l E K RX9 cX9_nearest 5 (some .int) 6 [(0, .ref 0), (1, .int s.1), (2, .int s.2.1), (3, .int s.2.2)] [] σ (some (.int res)) σ) (fun q => q = res)) t) : sw_Go l E K RX9 cX9_nearest 5 (some .int) 56 [(0, .ref 0), (3, .int a3), (4, .int a4)] [] σ (some (.int res)) σ := by
  unfold fX9_nearest_L56 at h
  refine sw_iload 2 rfl (by decide +kernel) ?_
  refine sw_istore_n (k0 := 2) (lv' := [(2, .int a4), (0, .ref 0), (3, .int a3), (4, .int a4)]) (by decide +kernel) rfl (by decide) rfl ?_
  refine sw_iload_n (k0 := 3) 2 rfl (by decide +kernel) rfl ?_
  refine sw_istore_n (k0 := 1) (lv' := [(1, .int a3), (2, .int a4), (0, .ref 0), (3, .int a3), (4, .int a4)]) (by decide +kernel) rfl (by decide) rfl ?_
  refine sw_lv [2, 0, 1, 3] rfl ?_
  exact sX9_nearest_L61 hK σ a3 a4 a3 h hk
set_option maxRecDepth 20000 in
theorem sX9_nearest_L6 {l : Launch} {E : sw_E} {K : Nat} (hK : 2 ≤ K) (σ : sw_M) (a1 : Int32) (a2 : Int32) (a3 : Int32) {res : Int32} {t : (Int32 × Int32 × Int32) ⊕ (Int32)} (h : fX9_nearest_L6 σ a1 a2 a3 = some t) (hk : (Sum.elim (fun s : Int32 × Int32 × Int32 => sw_Go l E K RX9 cX9_nearest 5 (some .int) 6 [(0, .ref 0), (1, .int s.1), (2, .int s.2.1), (3, .int s.2.2)] [] σ (some (.int res)) σ) (fun q => q = res)) t) : sw_Go l E K RX9 cX9_nearest 5 (some .int) 6 [(0, .ref 0), (1, .int a1), (2, .int a2), (3, .int a3)] [] σ (some (.int res)) σ := by
  unfold fX9_nearest_L6 at h
  refine sw_iload_n (k0 := 3) 3 rfl (by decide +kernel) rfl ?_
  refine sw_aload_n (k0 := 0) 0 rfl (by decide +kernel) rfl ?_
  refine gf_X9_19 (i := 0) (by decide) rfl (by decide +kernel) ?_
  refine gf_X9_195 (i := (sw_pl (σ.2.2 0))) (sw_pl_P _).o.1 (sw_pl_P _).o.2 (by decide +kernel) ?_
  refine sw_icmp_ge (off := 53) 67 (by decide +kernel) (by decide) (fun c1 => ?_) (fun c1 => ?_)
  · rw [if_pos c1] at h
    refine sw_iload_n (k0 := 1) 1 rfl (by decide +kernel) rfl ?_
    cases h
    obtain rfl : _ = res := hk
    exact sw_iret (by decide +kernel)
  · rw [if_neg c1] at h
    refine sw_aload_n (k0 := 0) 0 rfl (by decide +kernel) rfl ?_
    refine gf_X9_19 (i := 0) (by decide) rfl (by decide +kernel) ?_
    refine sw_aload_n (k0 := 0) 0 rfl (by decide +kernel) rfl ?_
    refine gf_X9_26 (i := 0) (by decide) rfl (by decide +kernel) ?_
    refine sw_refj 27 rfl ?_
    refine gf_X9_113 (i := 27) (by decide) rfl (by decide +kernel) ?_
    refine sw_refj 28 rfl ?_
    refine sw_iload_n (k0 := 3) 3 rfl (by decide +kernel) rfl ?_
    obtain ⟨r2, w3, h⟩ := sw_b1_e h
    refine sw_callVi (ci := 4) (i := (sw_pl (σ.2.2 0))) [.ref 28, .int a3] (sX4_lacking (K := K - 1) (by omega) (sw_pl (σ.2.2 0)) 28 (sw_pl_P _) (sw_A_of (by decide) rfl) σ a3 w3) rfl (by omega) rfl gs_X9_160 hy_X4_lacking (by decide) (sw_pl_P _).o.1 (sw_pl_P _).o.2 rfl (Nat.le_of_ble_eq_true rfl) (by decide +kernel) ?_
    refine sw_istore (i := 4) (lv' := [(4, .int r2), (0, .ref 0), (1, .int a1), (2, .int a2), (3, .int a3)]) (by decide +kernel) (by decide) rfl ?_
    refine sw_aload_n (k0 := 0) 1 rfl (by decide +kernel) rfl ?_
    refine sw_iload_n (k0 := 3) 4 rfl (by decide +kernel) rfl ?_
    refine sw_callVi (ci := 9) (i := 0) [.int a3] (sX9_isEased (K := K - 1) (by omega) σ a3 rfl) rfl (by omega) rfl gs_X9_157 hy_X9_isEased (by decide) (by decide) rfl rfl (Nat.le_of_ble_eq_true rfl) (by decide +kernel) ?_
    refine sw_if_ne (off := 22) 61 (by decide +kernel) (by decide) (fun c4 => ?_) (fun c4 => ?_)
    · rw [if_neg c4] at h
      refine sw_lv [1, 2, 3, 4] rfl ?_
      exact sX9_nearest_L61 hK σ a1 a2 a3 h hk
    · rw [if_pos c4] at h
      refine sw_iload_n (k0 := 1) 2 rfl (by decide +kernel) rfl ?_
      refine sw_iconst (n := (-1)) (v := (-1)) (by decide +kernel) (by decide) ?_
      refine sw_icmp_eq (off := 12) 56 (by decide +kernel) (by decide) (fun c5 => ?_) (fun c5 => ?_)
      · rw [if_pos c5] at h
        refine sw_lv [1, 4, 0] rfl ?_
        exact sX9_nearest_L56 hK σ a3 r2 h hk
      · rw [if_neg c5] at h
        refine sw_iload 0 rfl (by decide +kernel) ?_
        refine sw_iload_n (k0 := 2) 3 rfl (by decide +kernel) rfl ?_
        refine sw_icmp_lt (off := 6) 56 (by decide +kernel) (by decide) (fun c6 => ?_) (fun c6 => ?_)
        · rw [if_pos c6] at h
          refine sw_lv [1, 4, 0] rfl ?_
          exact sX9_nearest_L56 hK σ a3 r2 h hk
        · rw [if_neg c6] at h
          refine sw_goto (off := 8) 61 (by decide +kernel) (by decide) ?_
          refine sw_lv [1, 2, 3, 4] rfl ?_
          exact sX9_nearest_L61 hK σ a1 a2 a3 h hk
set_option maxRecDepth 20000 in
theorem sX9_nearest {l : Launch} {E : sw_E} {K : Nat} (hK : 2 ≤ K) (σ : sw_M) {res : Int32} (h : fX9_nearest σ = some res) : sw_Ct l E K yX9_nearest cX9_nearest 5 (some .int) [.ref 0] σ (some (.int res)) σ := by
  obtain ⟨t, hk, h⟩ : ∃ t, t = res ∧ fX9_nearest σ = some t := ⟨res, rfl, h⟩
  unfold fX9_nearest at h
  refine sw_enter2 (own := RX9) (lv := [(0, .ref 0)]) (by decide +kernel) (Nat.le_of_ble_eq_true rfl) rfl rfl ?_
  refine sw_iconst (n := (-1)) (v := (-1)) (by decide +kernel) (by decide) ?_
  refine sw_istore_n (k0 := 1) (lv' := [(1, .int (-1)), (0, .ref 0)]) (by decide +kernel) rfl (by decide) rfl ?_
  refine sw_iconst (n := 0) (v := 0) (by decide +kernel) (by decide) ?_
  refine sw_istore_n (k0 := 2) (lv' := [(2, .int 0), (1, .int (-1)), (0, .ref 0)]) (by decide +kernel) rfl (by decide) rfl ?_
  refine sw_iconst (n := 0) (v := 0) (by decide +kernel) (by decide) ?_
  refine sw_istore_n (k0 := 3) (lv' := [(3, .int 0), (2, .int 0), (1, .int (-1)), (0, .ref 0)]) (by decide +kernel) rfl (by decide) rfl ?_
  refine sw_lv [3, 2, 1, 0] rfl ?_
  exact sw_wh_e (fun s : Int32 × Int32 × Int32 => sw_Go l E K RX9 cX9_nearest 5 (some .int) 6 [(0, .ref 0), (1, .int s.1), (2, .int s.2.1), (3, .int s.2.2)] [] σ (some (.int res)) σ) (fun q => q = res) (fun s => fX9_nearest_L6 σ s.1 s.2.1 s.2.2) (fun s t hb hk => sX9_nearest_L6 hK σ s.1 s.2.1 s.2.2 hb hk) _ _ _ h hk
def fX9_wanted_L48 (σ : sw_M) (a1 : Int32) (a2 : Int32) (a3 : Int32) : Option ((Int32 × Int32) ⊕ (Int32)) :=
  sw_let (a3 + 1) fun v1 =>
  some (.inl (a2, v1))
def fX9_wanted_L17 (σ : sw_M) (a1 : Int32) (a2 : Int32) (a3 : Int32) : Option ((Int32 × Int32) ⊕ (Int32)) :=
  if (σ.1 (sw_pl (σ.2.2 0)) 3) ≤ a3 then
    some (.inr (a2))
  else
    if (fX9_isEased σ a3) = 0 then
      sw_b1 (fX4_needs (sw_pl (σ.2.2 0)) σ a3 a1) fun r3 =>
      sw_let (a2 + r3) fun v5 =>
      fX9_wanted_L48 σ a1 v5 a3
    else
      fX9_wanted_L48 σ a1 a2 a3
def fX9_wanted (σ : sw_M) (a1 : Int32) : Option (Int32) :=
  if (fX4_isKind (sw_pl (σ.2.2 0)) σ a1) = 0 then
    some ((-1))
  else
    sw_wh sw_F (fun s => fX9_wanted_L17 σ a1 s.1 s.2) (0, 0)
set_option maxRecDepth 20000 in
theorem sX9_wanted_L48 {l : Launch} {E : sw_E} {K : Nat} (hK : 1 ≤ K) (σ : sw_M) (a1 : Int32) (a2 : Int32) (a3 : Int32) {res : Int32} {t : (Int32 × Int32) ⊕ (Int32)} (h : fX9_wanted_L48 σ a1 a2 a3 = some t) (hk : (Sum.elim (fun s : Int32 × Int32 => sw_Go l E K RX9 cX9_wanted 4 (some .int) 17 [(0, .ref 0), (1, .int a1), (2, .int s.1), (3, .int s.2)] [] σ (some (.int res)) σ) (fun q => q = res)) t) : sw_Go l E K RX9 cX9_wanted 4 (some .int) 48 [(0, .ref 0), (1, .int a1), (2, .int a2), (3, .int a3)] [] σ (some (.int res)) σ := by
  unfold fX9_wanted_L48 at h
  obtain ⟨v1, e2, h⟩ := sw_let_e h
  refine sw_iincv (i := 3) (n := 1) (lv' := [(3, .int v1), (0, .ref 0), (1, .int a1), (2, .int a2)]) 3 rfl e2 (by decide +kernel) (by decide) (by decide) rfl ?_
  refine sw_goto (off := (-34)) 17 (by decide +kernel) (by decide) ?_
  cases h
  refine sw_lv [1, 2, 3, 0] rfl ?_
  exact hk
set_option maxRecDepth 20000 in
theorem sX9_wanted_L17 {l : Launch} {E : sw_E} {K : Nat} (hK : 1 ≤ K) (σ : sw_M) (a1 : Int32) (a2 : Int32) (a3 : Int32) {res : Int32} {t : (Int32 × Int32) ⊕ (Int32)} (h : fX9_wanted_L17 σ a1 a2 a3 = some t) (hk : (Sum.elim (fun s : Int32 × Int32 => sw_Go l E K RX9 cX9_wanted 4 (some .int) 17 [(0, .ref 0), (1, .int a1), (2, .int s.1), (3, .int s.2)] [] σ (some (.int res)) σ) (fun q => q = res)) t) : sw_Go l E K RX9 cX9_wanted 4 (some .int) 17 [(0, .ref 0), (1, .int a1), (2, .int a2), (3, .int a3)] [] σ (some (.int res)) σ := by
  unfold fX9_wanted_L17 at h
  refine sw_iload_n (k0 := 3) 3 rfl (by decide +kernel) rfl ?_
  refine sw_aload_n (k0 := 0) 0 rfl (by decide +kernel) rfl ?_
  refine gf_X9_19 (i := 0) (by decide) rfl (by decide +kernel) ?_
  refine gf_X9_195 (i := (sw_pl (σ.2.2 0))) (sw_pl_P _).o.1 (sw_pl_P _).o.2 (by decide +kernel) ?_
  refine sw_icmp_ge (off := 29) 54 (by decide +kernel) (by decide) (fun c1 => ?_) (fun c1 => ?_)
  · rw [if_pos c1] at h
    refine sw_iload_n (k0 := 2) 2 rfl (by decide +kernel) rfl ?_
    cases h
    obtain rfl : _ = res := hk
    exact sw_iret (by decide +kernel)
  · rw [if_neg c1] at h
    refine sw_aload_n (k0 := 0) 0 rfl (by decide +kernel) rfl ?_
    refine sw_iload_n (k0 := 3) 3 rfl (by decide +kernel) rfl ?_
    refine sw_callVi (ci := 9) (i := 0) [.int a3] (sX9_isEased (K := K - 1) (by omega) σ a3 rfl) rfl (by omega) rfl gs_X9_157 hy_X9_isEased (by decide) (by decide) rfl rfl (Nat.le_of_ble_eq_true rfl) (by decide +kernel) ?_
    refine sw_if_ne (off := 15) 48 (by decide +kernel) (by decide) (fun c2 => ?_) (fun c2 => ?_)
    · rw [if_neg c2] at h
      exact sX9_wanted_L48 hK σ a1 a2 a3 h hk
    · rw [if_pos c2] at h
      refine sw_iload_n (k0 := 2) 2 rfl (by decide +kernel) rfl ?_
      refine sw_aload_n (k0 := 0) 0 rfl (by decide +kernel) rfl ?_
      refine gf_X9_19 (i := 0) (by decide) rfl (by decide +kernel) ?_
      refine sw_iload_n (k0 := 3) 3 rfl (by decide +kernel) rfl ?_
      refine sw_iload_n (k0 := 1) 1 rfl (by decide +kernel) rfl ?_
      obtain ⟨r3, w4, h⟩ := sw_b1_e h
      refine sw_callVi (ci := 4) (i := (sw_pl (σ.2.2 0))) [.int a3, .int a1] (sX4_needs (K := K - 1) (by omega) (sw_pl (σ.2.2 0)) (sw_pl_P _) σ a3 a1 w4) rfl (by omega) rfl gs_X9_126 hy_X4_needs (by decide) (sw_pl_P _).o.1 (sw_pl_P _).o.2 rfl (Nat.le_of_ble_eq_true rfl) (by decide +kernel) ?_
      refine sw_iadd (by decide +kernel) ?_
      obtain ⟨v5, e6, h⟩ := sw_let_e h
      refine sw_topi e6 ?_
      refine sw_istore_n (k0 := 2) (lv' := [(2, .int v5), (0, .ref 0), (1, .int a1), (3, .int a3)]) (by decide +kernel) rfl (by decide) rfl ?_
      refine sw_lv [1, 2, 0, 3] rfl ?_
      exact sX9_wanted_L48 hK σ a1 v5 a3 h hk
set_option maxRecDepth 20000 in
theorem sX9_wanted {l : Launch} {E : sw_E} {K : Nat} (hK : 1 ≤ K) (σ : sw_M) (a1 : Int32) {res : Int32} (h : fX9_wanted σ a1 = some res) : sw_Ct l E K yX9_wanted cX9_wanted 4 (some .int) [.ref 0, .int a1] σ (some (.int res)) σ := by
  obtain ⟨t, hk, h⟩ : ∃ t, t = res ∧ fX9_wanted σ a1 = some t := ⟨res, rfl, h⟩
  unfold fX9_wanted at h
  refine sw_enter2 (own := RX9) (lv := [(0, .ref 0), (1, .int a1)]) (by decide +kernel) (Nat.le_of_ble_eq_true rfl) rfl rfl ?_
  refine sw_aload_n (k0 := 0) 0 rfl (by decide +kernel) rfl ?_
  refine gf_X9_19 (i := 0) (by decide) rfl (by decide +kernel) ?_
  refine sw_iload_n (k0 := 1) 1 rfl (by decide +kernel) rfl ?_
  refine sw_callVi (ci := 4) (i := (sw_pl (σ.2.2 0))) [.int a1] (sX4_isKind (K := K - 1) (by omega) (sw_pl (σ.2.2 0)) (sw_pl_P _) σ a1 rfl) rfl (by omega) rfl gs_X9_109 hy_X4_isKind (by decide) (sw_pl_P _).o.1 (sw_pl_P _).o.2 rfl (Nat.le_of_ble_eq_true rfl) (by decide +kernel) ?_
  refine sw_if_ne (off := 5) 13 (by decide +kernel) (by decide) (fun c1 => ?_) (fun c1 => ?_)
  · rw [if_neg c1] at h
    refine sw_iconst (n := 0) (v := 0) (by decide +kernel) (by decide) ?_
    refine sw_istore_n (k0 := 2) (lv' := [(2, .int 0), (0, .ref 0), (1, .int a1)]) (by decide +kernel) rfl (by decide) rfl ?_
    refine sw_iconst (n := 0) (v := 0) (by decide +kernel) (by decide) ?_
    refine sw_istore_n (k0 := 3) (lv' := [(3, .int 0), (2, .int 0), (0, .ref 0), (1, .int a1)]) (by decide +kernel) rfl (by decide) rfl ?_
    refine sw_lv [2, 3, 1, 0] rfl ?_
    exact sw_wh_e (fun s : Int32 × Int32 => sw_Go l E K RX9 cX9_wanted 4 (some .int) 17 [(0, .ref 0), (1, .int a1), (2, .int s.1), (3, .int s.2)] [] σ (some (.int res)) σ) (fun q => q = res) (fun s => fX9_wanted_L17 σ a1 s.1 s.2) (fun s t hb hk => sX9_wanted_L17 hK σ a1 s.1 s.2 hb hk) _ _ _ h hk
  · rw [if_pos c1] at h
    refine sw_iconst (n := (-1)) (v := (-1)) (by decide +kernel) (by decide) ?_
    cases h
    obtain rfl : _ = res := hk
    exact sw_iret (by decide +kernel)
def fX9_sinners_L46 (σ : sw_M) (a1 : Int32) (a2 : Int32) (a3 : Int32) : Option ((Int32 × Int32) ⊕ (Int32)) :=
  sw_let (a3 + 1) fun v1 =>
  some (.inl (a2, v1))
def fX9_sinners_L17 (σ : sw_M) (a1 : Int32) (a2 : Int32) (a3 : Int32) : Option ((Int32 × Int32) ⊕ (Int32)) :=
  if (σ.1 (sw_pl (σ.2.2 0)) 1) ≤ a3 then
    some (.inr (a2))
  else
    sw_b1 (fX4_has (sw_pl (σ.2.2 0)) σ a3 a1) fun r2 =>
    if r2 ≤ 0 then
      fX9_sinners_L46 σ a1 a2 a3
    else
      sw_let (a2 ||| (1 <<< (a3 &&& 31))) fun v5 =>
      fX9_sinners_L46 σ a1 v5 a3
def fX9_sinners (σ : sw_M) (a1 : Int32) : Option (Int32) :=
  if (fX4_isKind (sw_pl (σ.2.2 0)) σ a1) = 0 then
    some ((-1))
  else
    sw_wh sw_F (fun s => fX9_sinners_L17 σ a1 s.1 s.2) (0, 0)
set_option maxRecDepth 20000 in
theorem sX9_sinners_L46 {l : Launch} {E : sw_E} {K : Nat} (hK : 1 ≤ K) (σ : sw_M) (a1 : Int32) (a2 : Int32) (a3 : Int32) {res : Int32} {t : (Int32 × Int32) ⊕ (Int32)} (h : fX9_sinners_L46 σ a1 a2 a3 = some t) (hk : (Sum.elim (fun s : Int32 × Int32 => sw_Go l E K RX9 cX9_sinners 4 (some .int) 17 [(0, .ref 0), (1, .int a1), (2, .int s.1), (3, .int s.2)] [] σ (some (.int res)) σ) (fun q => q = res)) t) : sw_Go l E K RX9 cX9_sinners 4 (some .int) 46 [(0, .ref 0), (1, .int a1), (2, .int a2), (3, .int a3)] [] σ (some (.int res)) σ := by
  unfold fX9_sinners_L46 at h
  obtain ⟨v1, e2, h⟩ := sw_let_e h
  refine sw_iincv (i := 3) (n := 1) (lv' := [(3, .int v1), (0, .ref 0), (1, .int a1), (2, .int a2)]) 3 rfl e2 (by decide +kernel) (by decide) (by decide) rfl ?_
  refine sw_goto (off := (-32)) 17 (by decide +kernel) (by decide) ?_
  cases h
  refine sw_lv [1, 2, 3, 0] rfl ?_
  exact hk
set_option maxRecDepth 20000 in
theorem sX9_sinners_L17 {l : Launch} {E : sw_E} {K : Nat} (hK : 1 ≤ K) (σ : sw_M) (a1 : Int32) (a2 : Int32) (a3 : Int32) {res : Int32} {t : (Int32 × Int32) ⊕ (Int32)} (h : fX9_sinners_L17 σ a1 a2 a3 = some t) (hk : (Sum.elim (fun s : Int32 × Int32 => sw_Go l E K RX9 cX9_sinners 4 (some .int) 17 [(0, .ref 0), (1, .int a1), (2, .int s.1), (3, .int s.2)] [] σ (some (.int res)) σ) (fun q => q = res)) t) : sw_Go l E K RX9 cX9_sinners 4 (some .int) 17 [(0, .ref 0), (1, .int a1), (2, .int a2), (3, .int a3)] [] σ (some (.int res)) σ := by
  unfold fX9_sinners_L17 at h
  refine sw_iload_n (k0 := 3) 3 rfl (by decide +kernel) rfl ?_
  refine sw_aload_n (k0 := 0) 0 rfl (by decide +kernel) rfl ?_
  refine gf_X9_19 (i := 0) (by decide) rfl (by decide +kernel) ?_
  refine gf_X9_100 (i := (sw_pl (σ.2.2 0))) (sw_pl_P _).o.1 (sw_pl_P _).o.2 (by decide +kernel) ?_
  refine sw_icmp_ge (off := 27) 52 (by decide +kernel) (by decide) (fun c1 => ?_) (fun c1 => ?_)
  · rw [if_pos c1] at h
    refine sw_iload_n (k0 := 2) 2 rfl (by decide +kernel) rfl ?_
    cases h
    obtain rfl : _ = res := hk
    exact sw_iret (by decide +kernel)
  · rw [if_neg c1] at h
    refine sw_aload_n (k0 := 0) 0 rfl (by decide +kernel) rfl ?_
    refine gf_X9_19 (i := 0) (by decide) rfl (by decide +kernel) ?_
    refine sw_iload_n (k0 := 3) 3 rfl (by decide +kernel) rfl ?_
    refine sw_iload_n (k0 := 1) 1 rfl (by decide +kernel) rfl ?_
    obtain ⟨r2, w3, h⟩ := sw_b1_e h
    refine sw_callVi (ci := 4) (i := (sw_pl (σ.2.2 0))) [.int a3, .int a1] (sX4_has (K := K - 1) (by omega) (sw_pl (σ.2.2 0)) (sw_pl_P _) σ a3 a1 w3) rfl (by omega) rfl gs_X9_119 hy_X4_has (by decide) (sw_pl_P _).o.1 (sw_pl_P _).o.2 rfl (Nat.le_of_ble_eq_true rfl) (by decide +kernel) ?_
    refine sw_if_le (off := 9) 46 (by decide +kernel) (by decide) (fun c4 => ?_) (fun c4 => ?_)
    · rw [if_pos c4] at h
      exact sX9_sinners_L46 hK σ a1 a2 a3 h hk
    · rw [if_neg c4] at h
      refine sw_iload_n (k0 := 2) 2 rfl (by decide +kernel) rfl ?_
      refine sw_iconst (n := 1) (v := 1) (by decide +kernel) (by decide) ?_
      refine sw_iload_n (k0 := 3) 3 rfl (by decide +kernel) rfl ?_
      refine sw_ishl (by decide +kernel) ?_
      refine sw_ior (by decide +kernel) ?_
      obtain ⟨v5, e6, h⟩ := sw_let_e h
      refine sw_topi e6 ?_
      refine sw_istore_n (k0 := 2) (lv' := [(2, .int v5), (0, .ref 0), (1, .int a1), (3, .int a3)]) (by decide +kernel) rfl (by decide) rfl ?_
      refine sw_lv [1, 2, 0, 3] rfl ?_
      exact sX9_sinners_L46 hK σ a1 v5 a3 h hk
set_option maxRecDepth 20000 in
theorem sX9_sinners {l : Launch} {E : sw_E} {K : Nat} (hK : 1 ≤ K) (σ : sw_M) (a1 : Int32) {res : Int32} (h : fX9_sinners σ a1 = some res) : sw_Ct l E K yX9_sinners cX9_sinners 4 (some .int) [.ref 0, .int a1] σ (some (.int res)) σ := by
  obtain ⟨t, hk, h⟩ : ∃ t, t = res ∧ fX9_sinners σ a1 = some t := ⟨res, rfl, h⟩
  unfold fX9_sinners at h
  refine sw_enter2 (own := RX9) (lv := [(0, .ref 0), (1, .int a1)]) (by decide +kernel) (Nat.le_of_ble_eq_true rfl) rfl rfl ?_
  refine sw_aload_n (k0 := 0) 0 rfl (by decide +kernel) rfl ?_
  refine gf_X9_19 (i := 0) (by decide) rfl (by decide +kernel) ?_
  refine sw_iload_n (k0 := 1) 1 rfl (by decide +kernel) rfl ?_
  refine sw_callVi (ci := 4) (i := (sw_pl (σ.2.2 0))) [.int a1] (sX4_isKind (K := K - 1) (by omega) (sw_pl (σ.2.2 0)) (sw_pl_P _) σ a1 rfl) rfl (by omega) rfl gs_X9_109 hy_X4_isKind (by decide) (sw_pl_P _).o.1 (sw_pl_P _).o.2 rfl (Nat.le_of_ble_eq_true rfl) (by decide +kernel) ?_
  refine sw_if_ne (off := 5) 13 (by decide +kernel) (by decide) (fun c1 => ?_) (fun c1 => ?_)
  · rw [if_neg c1] at h
    refine sw_iconst (n := 0) (v := 0) (by decide +kernel) (by decide) ?_
    refine sw_istore_n (k0 := 2) (lv' := [(2, .int 0), (0, .ref 0), (1, .int a1)]) (by decide +kernel) rfl (by decide) rfl ?_
    refine sw_iconst (n := 0) (v := 0) (by decide +kernel) (by decide) ?_
    refine sw_istore_n (k0 := 3) (lv' := [(3, .int 0), (2, .int 0), (0, .ref 0), (1, .int a1)]) (by decide +kernel) rfl (by decide) rfl ?_
    refine sw_lv [2, 3, 1, 0] rfl ?_
    exact sw_wh_e (fun s : Int32 × Int32 => sw_Go l E K RX9 cX9_sinners 4 (some .int) 17 [(0, .ref 0), (1, .int a1), (2, .int s.1), (3, .int s.2)] [] σ (some (.int res)) σ) (fun q => q = res) (fun s => fX9_sinners_L17 σ a1 s.1 s.2) (fun s t hb hk => sX9_sinners_L17 hK σ a1 s.1 s.2 hb hk) _ _ _ h hk
  · rw [if_pos c1] at h
    refine sw_iconst (n := (-1)) (v := (-1)) (by decide +kernel) (by decide) ?_
    cases h
    obtain rfl : _ = res := hk
    exact sw_iret (by decide +kernel)
def fX9_inert_L14 (σ : sw_M) (a1 : Int32) (a2 : Int32) : Option ((Int32 × Int32) ⊕ (Int32)) :=
  if (σ.1 (sw_pl (σ.2.2 0)) 2) ≤ a2 then
    some (.inr (a1))
  else
    sw_b1 (fX4_first (sw_pl (σ.2.2 0)) σ a2) fun r2 =>
    sw_b1 (fX4_second (sw_pl (σ.2.2 0)) σ a2) fun r4 =>
    sw_b1 (fX4_third (sw_pl (σ.2.2 0)) σ a2) fun r6 =>
    sw_let (a1 &&& ((((1 <<< (r2 &&& 31)) ||| (1 <<< (r4 &&& 31))) ||| (1 <<< (r6 &&& 31))) ^^^ (-1))) fun v8 =>
    sw_let (a2 + 1) fun v10 =>
    some (.inl (v8, v10))
def fX9_inert (σ : sw_M) : Option (Int32) :=
  sw_let ((1 <<< ((σ.1 (sw_pl (σ.2.2 0)) 0) &&& 31)) - 1) fun v1 =>
  sw_wh sw_F (fun s => fX9_inert_L14 σ s.1 s.2) (v1, 0)
set_option maxRecDepth 20000 in
theorem sX9_inert_L14 {l : Launch} {E : sw_E} {K : Nat} (hK : 1 ≤ K) (σ : sw_M) (a1 : Int32) (a2 : Int32) {res : Int32} {t : (Int32 × Int32) ⊕ (Int32)} (h : fX9_inert_L14 σ a1 a2 = some t) (hk : (Sum.elim (fun s : Int32 × Int32 => sw_Go l E K RX9 cX9_inert 3 (some .int) 14 [(0, .ref 0), (1, .int s.1), (2, .int s.2)] [] σ (some (.int res)) σ) (fun q => q = res)) t) : sw_Go l E K RX9 cX9_inert 3 (some .int) 14 [(0, .ref 0), (1, .int a1), (2, .int a2)] [] σ (some (.int res)) σ := by
  unfold fX9_inert_L14 at h
  refine sw_iload_n (k0 := 2) 2 rfl (by decide +kernel) rfl ?_
  refine sw_aload_n (k0 := 0) 0 rfl (by decide +kernel) rfl ?_
  refine gf_X9_19 (i := 0) (by decide) rfl (by decide +kernel) ?_
  refine gf_X9_129 (i := (sw_pl (σ.2.2 0))) (sw_pl_P _).o.1 (sw_pl_P _).o.2 (by decide +kernel) ?_
  refine sw_icmp_ge (off := 46) 68 (by decide +kernel) (by decide) (fun c1 => ?_) (fun c1 => ?_)
  · rw [if_pos c1] at h
    refine sw_iload_n (k0 := 1) 1 rfl (by decide +kernel) rfl ?_
    cases h
    obtain rfl : _ = res := hk
    exact sw_iret (by decide +kernel)
  · rw [if_neg c1] at h
    refine sw_iload_n (k0 := 1) 1 rfl (by decide +kernel) rfl ?_
    refine sw_iconst (n := 1) (v := 1) (by decide +kernel) (by decide) ?_
    refine sw_aload_n (k0 := 0) 0 rfl (by decide +kernel) rfl ?_
    refine gf_X9_19 (i := 0) (by decide) rfl (by decide +kernel) ?_
    refine sw_iload_n (k0 := 2) 2 rfl (by decide +kernel) rfl ?_
    obtain ⟨r2, w3, h⟩ := sw_b1_e h
    refine sw_callVi (ci := 4) (i := (sw_pl (σ.2.2 0))) [.int a2] (sX4_first (K := K - 1) (by omega) (sw_pl (σ.2.2 0)) (sw_pl_P _) σ a2 w3) rfl (by omega) rfl gs_X9_233 hy_X4_first (by decide) (sw_pl_P _).o.1 (sw_pl_P _).o.2 rfl (Nat.le_of_ble_eq_true rfl) (by decide +kernel) ?_
    refine sw_ishl (by decide +kernel) ?_
    refine sw_iconst (n := 1) (v := 1) (by decide +kernel) (by decide) ?_
    refine sw_aload_n (k0 := 0) 0 rfl (by decide +kernel) rfl ?_
    refine gf_X9_19 (i := 0) (by decide) rfl (by decide +kernel) ?_
    refine sw_iload_n (k0 := 2) 2 rfl (by decide +kernel) rfl ?_
    obtain ⟨r4, w5, h⟩ := sw_b1_e h
    refine sw_callVi (ci := 4) (i := (sw_pl (σ.2.2 0))) [.int a2] (sX4_second (K := K - 1) (by omega) (sw_pl (σ.2.2 0)) (sw_pl_P _) σ a2 w5) rfl (by omega) rfl gs_X9_236 hy_X4_second (by decide) (sw_pl_P _).o.1 (sw_pl_P _).o.2 rfl (Nat.le_of_ble_eq_true rfl) (by decide +kernel) ?_
    refine sw_ishl (by decide +kernel) ?_
    refine sw_ior (by decide +kernel) ?_
    refine sw_iconst (n := 1) (v := 1) (by decide +kernel) (by decide) ?_
    refine sw_aload_n (k0 := 0) 0 rfl (by decide +kernel) rfl ?_
    refine gf_X9_19 (i := 0) (by decide) rfl (by decide +kernel) ?_
    refine sw_iload_n (k0 := 2) 2 rfl (by decide +kernel) rfl ?_
    obtain ⟨r6, w7, h⟩ := sw_b1_e h
    refine sw_callVi (ci := 4) (i := (sw_pl (σ.2.2 0))) [.int a2] (sX4_third (K := K - 1) (by omega) (sw_pl (σ.2.2 0)) (sw_pl_P _) σ a2 w7) rfl (by omega) rfl gs_X9_239 hy_X4_third (by decide) (sw_pl_P _).o.1 (sw_pl_P _).o.2 rfl (Nat.le_of_ble_eq_true rfl) (by decide +kernel) ?_
    refine sw_ishl (by decide +kernel) ?_
    refine sw_ior (by decide +kernel) ?_
    refine sw_iconst (n := (-1)) (v := (-1)) (by decide +kernel) (by decide) ?_
    refine sw_ixor (by decide +kernel) ?_
    refine sw_iand (by decide +kernel) ?_
    obtain ⟨v8, e9, h⟩ := sw_let_e h
    refine sw_topi e9 ?_
    refine sw_istore_n (k0 := 1) (lv' := [(1, .int v8), (0, .ref 0), (2, .int a2)]) (by decide +kernel) rfl (by decide) rfl ?_
    obtain ⟨v10, e11, h⟩ := sw_let_e h
    refine sw_iincv (i := 2) (n := 1) (lv' := [(2, .int v10), (1, .int v8), (0, .ref 0)]) 2 rfl e11 (by decide +kernel) (by decide) (by decide) rfl ?_
    refine sw_goto (off := (-51)) 14 (by decide +kernel) (by decide) ?_
    cases h
    refine sw_lv [2, 1, 0] rfl ?_
    exact hk
set_option maxRecDepth 20000 in
theorem sX9_inert {l : Launch} {E : sw_E} {K : Nat} (hK : 1 ≤ K) (σ : sw_M) {res : Int32} (h : fX9_inert σ = some res) : sw_Ct l E K yX9_inert cX9_inert 3 (some .int) [.ref 0] σ (some (.int res)) σ := by
  obtain ⟨t, hk, h⟩ : ∃ t, t = res ∧ fX9_inert σ = some t := ⟨res, rfl, h⟩
  unfold fX9_inert at h
  refine sw_enter2 (own := RX9) (lv := [(0, .ref 0)]) (by decide +kernel) (Nat.le_of_ble_eq_true rfl) rfl rfl ?_
  refine sw_iconst (n := 1) (v := 1) (by decide +kernel) (by decide) ?_
  refine sw_aload_n (k0 := 0) 0 rfl (by decide +kernel) rfl ?_
  refine gf_X9_19 (i := 0) (by decide) rfl (by decide +kernel) ?_
  refine gf_X9_164 (i := (sw_pl (σ.2.2 0))) (sw_pl_P _).o.1 (sw_pl_P _).o.2 (by decide +kernel) ?_
  refine sw_ishl (by decide +kernel) ?_
  refine sw_iconst (n := 1) (v := 1) (by decide +kernel) (by decide) ?_
  refine sw_isub (by decide +kernel) ?_
  obtain ⟨v1, e2, h⟩ := sw_let_e h
  refine sw_topi e2 ?_
  refine sw_istore_n (k0 := 1) (lv' := [(1, .int v1), (0, .ref 0)]) (by decide +kernel) rfl (by decide) rfl ?_
  refine sw_iconst (n := 0) (v := 0) (by decide +kernel) (by decide) ?_
  refine sw_istore_n (k0 := 2) (lv' := [(2, .int 0), (1, .int v1), (0, .ref 0)]) (by decide +kernel) rfl (by decide) rfl ?_
  refine sw_lv [2, 1, 0] rfl ?_
  exact sw_wh_e (fun s : Int32 × Int32 => sw_Go l E K RX9 cX9_inert 3 (some .int) 14 [(0, .ref 0), (1, .int s.1), (2, .int s.2)] [] σ (some (.int res)) σ) (fun q => q = res) (fun s => fX9_inert_L14 σ s.1 s.2) (fun s t hb hk => sX9_inert_L14 hK σ s.1 s.2 hb hk) _ _ _ h hk
def fX9_alive_L47 (σ : sw_M) (a1 : Int32) (a2 : Int32) : Option ((Int32 × Int32) ⊕ (Int32)) :=
  sw_let (a2 + 1) fun v1 =>
  some (.inl (a1, v1))
def fX9_alive_L4 (σ : sw_M) (a1 : Int32) (a2 : Int32) : Option ((Int32 × Int32) ⊕ (Int32)) :=
  if (σ.1 (sw_pl (σ.2.2 0)) 2) ≤ a2 then
    some (.inr (a1))
  else
    sw_b1 (fX4_limit (sw_pl (σ.2.2 0)) σ a2) fun r2 =>
    sw_b1 (fX4_turning (sw_pl (σ.2.2 0)) 28 σ a2 r2) fun r4 =>
    if r4 ≤ 0 then
      fX9_alive_L47 σ a1 a2
    else
      sw_let (a1 ||| (1 <<< (a2 &&& 31))) fun v7 =>
      fX9_alive_L47 σ v7 a2
def fX9_alive (σ : sw_M) : Option (Int32) :=
  sw_wh sw_F (fun s => fX9_alive_L4 σ s.1 s.2) (0, 0)
set_option maxRecDepth 20000 in
theorem sX9_alive_L47 {l : Launch} {E : sw_E} {K : Nat} (hK : 2 ≤ K) (σ : sw_M) (a1 : Int32) (a2 : Int32) {res : Int32} {t : (Int32 × Int32) ⊕ (Int32)} (h : fX9_alive_L47 σ a1 a2 = some t) (hk : (Sum.elim (fun s : Int32 × Int32 => sw_Go l E K RX9 cX9_alive 3 (some .int) 4 [(0, .ref 0), (1, .int s.1), (2, .int s.2)] [] σ (some (.int res)) σ) (fun q => q = res)) t) : sw_Go l E K RX9 cX9_alive 3 (some .int) 47 [(0, .ref 0), (1, .int a1), (2, .int a2)] [] σ (some (.int res)) σ := by
  unfold fX9_alive_L47 at h
  obtain ⟨v1, e2, h⟩ := sw_let_e h
  refine sw_iincv (i := 2) (n := 1) (lv' := [(2, .int v1), (0, .ref 0), (1, .int a1)]) 2 rfl e2 (by decide +kernel) (by decide) (by decide) rfl ?_
  refine sw_goto (off := (-46)) 4 (by decide +kernel) (by decide) ?_
  cases h
  refine sw_lv [1, 2, 0] rfl ?_
  exact hk
set_option maxRecDepth 20000 in
theorem sX9_alive_L4 {l : Launch} {E : sw_E} {K : Nat} (hK : 2 ≤ K) (σ : sw_M) (a1 : Int32) (a2 : Int32) {res : Int32} {t : (Int32 × Int32) ⊕ (Int32)} (h : fX9_alive_L4 σ a1 a2 = some t) (hk : (Sum.elim (fun s : Int32 × Int32 => sw_Go l E K RX9 cX9_alive 3 (some .int) 4 [(0, .ref 0), (1, .int s.1), (2, .int s.2)] [] σ (some (.int res)) σ) (fun q => q = res)) t) : sw_Go l E K RX9 cX9_alive 3 (some .int) 4 [(0, .ref 0), (1, .int a1), (2, .int a2)] [] σ (some (.int res)) σ := by
  unfold fX9_alive_L4 at h
  refine sw_iload_n (k0 := 2) 2 rfl (by decide +kernel) rfl ?_
  refine sw_aload_n (k0 := 0) 0 rfl (by decide +kernel) rfl ?_
  refine gf_X9_19 (i := 0) (by decide) rfl (by decide +kernel) ?_
  refine gf_X9_129 (i := (sw_pl (σ.2.2 0))) (sw_pl_P _).o.1 (sw_pl_P _).o.2 (by decide +kernel) ?_
  refine sw_icmp_ge (off := 41) 53 (by decide +kernel) (by decide) (fun c1 => ?_) (fun c1 => ?_)
  · rw [if_pos c1] at h
    refine sw_iload_n (k0 := 1) 1 rfl (by decide +kernel) rfl ?_
    cases h
    obtain rfl : _ = res := hk
    exact sw_iret (by decide +kernel)
  · rw [if_neg c1] at h
    refine sw_aload_n (k0 := 0) 0 rfl (by decide +kernel) rfl ?_
    refine gf_X9_19 (i := 0) (by decide) rfl (by decide +kernel) ?_
    refine sw_aload_n (k0 := 0) 0 rfl (by decide +kernel) rfl ?_
    refine gf_X9_26 (i := 0) (by decide) rfl (by decide +kernel) ?_
    refine sw_refj 27 rfl ?_
    refine gf_X9_113 (i := 27) (by decide) rfl (by decide +kernel) ?_
    refine sw_refj 28 rfl ?_
    refine sw_iload_n (k0 := 2) 2 rfl (by decide +kernel) rfl ?_
    refine sw_aload_n (k0 := 0) 0 rfl (by decide +kernel) rfl ?_
    refine gf_X9_19 (i := 0) (by decide) rfl (by decide +kernel) ?_
    refine sw_iload_n (k0 := 2) 2 rfl (by decide +kernel) rfl ?_
    obtain ⟨r2, w3, h⟩ := sw_b1_e h
    refine sw_callVi (ci := 4) (i := (sw_pl (σ.2.2 0))) [.int a2] (sX4_limit (K := K - 1) (by omega) (sw_pl (σ.2.2 0)) (sw_pl_P _) σ a2 w3) rfl (by omega) rfl gs_X9_242 hy_X4_limit (by decide) (sw_pl_P _).o.1 (sw_pl_P _).o.2 rfl (Nat.le_of_ble_eq_true rfl) (by decide +kernel) ?_
    obtain ⟨r4, w5, h⟩ := sw_b1_e h
    refine sw_callVi (ci := 4) (i := (sw_pl (σ.2.2 0))) [.ref 28, .int a2, .int r2] (sX4_turning (K := K - 1) (by omega) (sw_pl (σ.2.2 0)) 28 (sw_pl_P _) (sw_A_of (by decide) rfl) σ a2 r2 w5) rfl (by omega) rfl gs_X9_245 hy_X4_turning (by decide) (sw_pl_P _).o.1 (sw_pl_P _).o.2 rfl (Nat.le_of_ble_eq_true rfl) (by decide +kernel) ?_
    refine sw_if_le (off := 9) 47 (by decide +kernel) (by decide) (fun c6 => ?_) (fun c6 => ?_)
    · rw [if_pos c6] at h
      exact sX9_alive_L47 hK σ a1 a2 h hk
    · rw [if_neg c6] at h
      refine sw_iload_n (k0 := 1) 1 rfl (by decide +kernel) rfl ?_
      refine sw_iconst (n := 1) (v := 1) (by decide +kernel) (by decide) ?_
      refine sw_iload_n (k0 := 2) 2 rfl (by decide +kernel) rfl ?_
      refine sw_ishl (by decide +kernel) ?_
      refine sw_ior (by decide +kernel) ?_
      obtain ⟨v7, e8, h⟩ := sw_let_e h
      refine sw_topi e8 ?_
      refine sw_istore_n (k0 := 1) (lv' := [(1, .int v7), (0, .ref 0), (2, .int a2)]) (by decide +kernel) rfl (by decide) rfl ?_
      refine sw_lv [1, 0, 2] rfl ?_
      exact sX9_alive_L47 hK σ v7 a2 h hk
set_option maxRecDepth 20000 in
theorem sX9_alive {l : Launch} {E : sw_E} {K : Nat} (hK : 2 ≤ K) (σ : sw_M) {res : Int32} (h : fX9_alive σ = some res) : sw_Ct l E K yX9_alive cX9_alive 3 (some .int) [.ref 0] σ (some (.int res)) σ := by
  obtain ⟨t, hk, h⟩ : ∃ t, t = res ∧ fX9_alive σ = some t := ⟨res, rfl, h⟩
  unfold fX9_alive at h
  refine sw_enter2 (own := RX9) (lv := [(0, .ref 0)]) (by decide +kernel) (Nat.le_of_ble_eq_true rfl) rfl rfl ?_
  refine sw_iconst (n := 0) (v := 0) (by decide +kernel) (by decide) ?_
  refine sw_istore_n (k0 := 1) (lv' := [(1, .int 0), (0, .ref 0)]) (by decide +kernel) rfl (by decide) rfl ?_
  refine sw_iconst (n := 0) (v := 0) (by decide +kernel) (by decide) ?_
  refine sw_istore_n (k0 := 2) (lv' := [(2, .int 0), (1, .int 0), (0, .ref 0)]) (by decide +kernel) rfl (by decide) rfl ?_
  refine sw_lv [2, 1, 0] rfl ?_
  exact sw_wh_e (fun s : Int32 × Int32 => sw_Go l E K RX9 cX9_alive 3 (some .int) 4 [(0, .ref 0), (1, .int s.1), (2, .int s.2)] [] σ (some (.int res)) σ) (fun q => q = res) (fun s => fX9_alive_L4 σ s.1 s.2) (fun s t hb hk => sX9_alive_L4 hK σ s.1 s.2 hb hk) _ _ _ h hk
def fX9_thickest_L43 (σ : sw_M) (a1 : Int32) (a2 : Int32) : Option ((Int32 × Int32) ⊕ (Int32)) :=
  sw_let (a2 + 1) fun v1 =>
  some (.inl (a1, v1))
def fX9_thickest_L41 (σ : sw_M) (a2 : Int32) : Option ((Int32 × Int32) ⊕ (Int32)) :=
  fX9_thickest_L43 σ a2 a2
def fX9_thickest_L4 (σ : sw_M) (a1 : Int32) (a2 : Int32) : Option ((Int32 × Int32) ⊕ (Int32)) :=
  if (σ.1 (sw_pl (σ.2.2 0)) 0) ≤ a2 then
    some (.inr (a1))
  else
    if a1 = (-1) then
      fX9_thickest_L41 σ a2
    else
      sw_gd (sw_in a2 5) <|
      sw_gd (sw_in a1 5) <|
      if (σ.1 28 a2.toNatClampNeg) ≤ (σ.1 28 a1.toNatClampNeg) then
        fX9_thickest_L43 σ a1 a2
      else
        fX9_thickest_L41 σ a2
def fX9_thickest (σ : sw_M) : Option (Int32) :=
  sw_wh sw_F (fun s => fX9_thickest_L4 σ s.1 s.2) ((-1), 0)
set_option maxRecDepth 20000 in
theorem sX9_thickest_L43 {l : Launch} {E : sw_E} {K : Nat} (hK : 0 ≤ K) (σ : sw_M) (a1 : Int32) (a2 : Int32) {res : Int32} {t : (Int32 × Int32) ⊕ (Int32)} (h : fX9_thickest_L43 σ a1 a2 = some t) (hk : (Sum.elim (fun s : Int32 × Int32 => sw_Go l E K RX9 cX9_thickest 3 (some .int) 4 [(0, .ref 0), (1, .int s.1), (2, .int s.2)] [] σ (some (.int res)) σ) (fun q => q = res)) t) : sw_Go l E K RX9 cX9_thickest 3 (some .int) 43 [(0, .ref 0), (1, .int a1), (2, .int a2)] [] σ (some (.int res)) σ := by
  unfold fX9_thickest_L43 at h
  obtain ⟨v1, e2, h⟩ := sw_let_e h
  refine sw_iincv (i := 2) (n := 1) (lv' := [(2, .int v1), (0, .ref 0), (1, .int a1)]) 2 rfl e2 (by decide +kernel) (by decide) (by decide) rfl ?_
  refine sw_goto (off := (-42)) 4 (by decide +kernel) (by decide) ?_
  cases h
  refine sw_lv [1, 2, 0] rfl ?_
  exact hk
set_option maxRecDepth 20000 in
theorem sX9_thickest_L41 {l : Launch} {E : sw_E} {K : Nat} (hK : 0 ≤ K) (σ : sw_M) (a2 : Int32) {res : Int32} {t : (Int32 × Int32) ⊕ (Int32)} (h : fX9_thickest_L41 σ a2 = some t) (hk : (Sum.elim (fun s : Int32 × Int32 => sw_Go l E K RX9 cX9_thickest 3 (some .int) 4 [(0, .ref 0), (1, .int s.1), (2, .int s.2)] [] σ (some (.int res)) σ) (fun q => q = res)) t) : sw_Go l E K RX9 cX9_thickest 3 (some .int) 41 [(0, .ref 0), (2, .int a2)] [] σ (some (.int res)) σ := by
  unfold fX9_thickest_L41 at h
  refine sw_iload_n (k0 := 2) 1 rfl (by decide +kernel) rfl ?_
  refine sw_istore_n (k0 := 1) (lv' := [(1, .int a2), (0, .ref 0), (2, .int a2)]) (by decide +kernel) rfl (by decide) rfl ?_
  refine sw_lv [1, 0, 2] rfl ?_
  exact sX9_thickest_L43 hK σ a2 a2 h hk
set_option maxRecDepth 20000 in
theorem sX9_thickest_L4 {l : Launch} {E : sw_E} {K : Nat} (hK : 0 ≤ K) (σ : sw_M) (a1 : Int32) (a2 : Int32) {res : Int32} {t : (Int32 × Int32) ⊕ (Int32)} (h : fX9_thickest_L4 σ a1 a2 = some t) (hk : (Sum.elim (fun s : Int32 × Int32 => sw_Go l E K RX9 cX9_thickest 3 (some .int) 4 [(0, .ref 0), (1, .int s.1), (2, .int s.2)] [] σ (some (.int res)) σ) (fun q => q = res)) t) : sw_Go l E K RX9 cX9_thickest 3 (some .int) 4 [(0, .ref 0), (1, .int a1), (2, .int a2)] [] σ (some (.int res)) σ := by
  unfold fX9_thickest_L4 at h
  refine sw_iload_n (k0 := 2) 2 rfl (by decide +kernel) rfl ?_
  refine sw_aload_n (k0 := 0) 0 rfl (by decide +kernel) rfl ?_
  refine gf_X9_19 (i := 0) (by decide) rfl (by decide +kernel) ?_
  refine gf_X9_164 (i := (sw_pl (σ.2.2 0))) (sw_pl_P _).o.1 (sw_pl_P _).o.2 (by decide +kernel) ?_
  refine sw_icmp_ge (off := 37) 49 (by decide +kernel) (by decide) (fun c1 => ?_) (fun c1 => ?_)
  · rw [if_pos c1] at h
    refine sw_iload_n (k0 := 1) 1 rfl (by decide +kernel) rfl ?_
    cases h
    obtain rfl : _ = res := hk
    exact sw_iret (by decide +kernel)
  · rw [if_neg c1] at h
    refine sw_iload_n (k0 := 1) 1 rfl (by decide +kernel) rfl ?_
    refine sw_iconst (n := (-1)) (v := (-1)) (by decide +kernel) (by decide) ?_
    refine sw_icmp_eq (off := 24) 41 (by decide +kernel) (by decide) (fun c2 => ?_) (fun c2 => ?_)
    · rw [if_pos c2] at h
      refine sw_lv [0, 2] rfl ?_
      exact sX9_thickest_L41 hK σ a2 h hk
    · rw [if_neg c2] at h
      refine sw_aload_n (k0 := 0) 0 rfl (by decide +kernel) rfl ?_
      refine gf_X9_26 (i := 0) (by decide) rfl (by decide +kernel) ?_
      refine sw_refj 27 rfl ?_
      refine gf_X9_113 (i := 27) (by decide) rfl (by decide +kernel) ?_
      refine sw_refj 28 rfl ?_
      refine sw_iload_n (k0 := 2) 2 rfl (by decide +kernel) rfl ?_
      obtain ⟨g3, h⟩ := sw_gd_e h
      refine sw_iaload (a := 28) (by decide) rfl (sw_in_e g3) (by decide +kernel) ?_
      refine sw_aload_n (k0 := 0) 0 rfl (by decide +kernel) rfl ?_
      refine gf_X9_26 (i := 0) (by decide) rfl (by decide +kernel) ?_
      refine sw_refj 27 rfl ?_
      refine gf_X9_113 (i := 27) (by decide) rfl (by decide +kernel) ?_
      refine sw_refj 28 rfl ?_
      refine sw_iload_n (k0 := 1) 1 rfl (by decide +kernel) rfl ?_
      obtain ⟨g4, h⟩ := sw_gd_e h
      refine sw_iaload (a := 28) (by decide) rfl (sw_in_e g4) (by decide +kernel) ?_
      refine sw_icmp_le (off := 5) 43 (by decide +kernel) (by decide) (fun c5 => ?_) (fun c5 => ?_)
      · rw [if_pos c5] at h
        exact sX9_thickest_L43 hK σ a1 a2 h hk
      · rw [if_neg c5] at h
        refine sw_lv [0, 2] rfl ?_
        exact sX9_thickest_L41 hK σ a2 h hk
set_option maxRecDepth 20000 in
theorem sX9_thickest {l : Launch} {E : sw_E} {K : Nat} (hK : 0 ≤ K) (σ : sw_M) {res : Int32} (h : fX9_thickest σ = some res) : sw_Ct l E K yX9_thickest cX9_thickest 3 (some .int) [.ref 0] σ (some (.int res)) σ := by
  obtain ⟨t, hk, h⟩ : ∃ t, t = res ∧ fX9_thickest σ = some t := ⟨res, rfl, h⟩
  unfold fX9_thickest at h
  refine sw_enter2 (own := RX9) (lv := [(0, .ref 0)]) (by decide +kernel) (Nat.le_of_ble_eq_true rfl) rfl rfl ?_
  refine sw_iconst (n := (-1)) (v := (-1)) (by decide +kernel) (by decide) ?_
  refine sw_istore_n (k0 := 1) (lv' := [(1, .int (-1)), (0, .ref 0)]) (by decide +kernel) rfl (by decide) rfl ?_
  refine sw_iconst (n := 0) (v := 0) (by decide +kernel) (by decide) ?_
  refine sw_istore_n (k0 := 2) (lv' := [(2, .int 0), (1, .int (-1)), (0, .ref 0)]) (by decide +kernel) rfl (by decide) rfl ?_
  refine sw_lv [2, 1, 0] rfl ?_
  exact sw_wh_e (fun s : Int32 × Int32 => sw_Go l E K RX9 cX9_thickest 3 (some .int) 4 [(0, .ref 0), (1, .int s.1), (2, .int s.2)] [] σ (some (.int res)) σ) (fun q => q = res) (fun s => fX9_thickest_L4 σ s.1 s.2) (fun s t hb hk => sX9_thickest_L4 hK σ s.1 s.2 hb hk) _ _ _ h hk
def fX9_thinnest_L43 (σ : sw_M) (a1 : Int32) (a2 : Int32) : Option ((Int32 × Int32) ⊕ (Int32)) :=
  sw_let (a2 + 1) fun v1 =>
  some (.inl (a1, v1))
def fX9_thinnest_L41 (σ : sw_M) (a2 : Int32) : Option ((Int32 × Int32) ⊕ (Int32)) :=
  fX9_thinnest_L43 σ a2 a2
def fX9_thinnest_L4 (σ : sw_M) (a1 : Int32) (a2 : Int32) : Option ((Int32 × Int32) ⊕ (Int32)) :=
  if (σ.1 (sw_pl (σ.2.2 0)) 0) ≤ a2 then
    some (.inr (a1))
  else
    if a1 = (-1) then
      fX9_thinnest_L41 σ a2
    else
      sw_gd (sw_in a2 5) <|
      sw_gd (sw_in a1 5) <|
      if (σ.1 28 a1.toNatClampNeg) ≤ (σ.1 28 a2.toNatClampNeg) then
        fX9_thinnest_L43 σ a1 a2
      else
        fX9_thinnest_L41 σ a2
def fX9_thinnest (σ : sw_M) : Option (Int32) :=
  sw_wh sw_F (fun s => fX9_thinnest_L4 σ s.1 s.2) ((-1), 0)
set_option maxRecDepth 20000 in
theorem sX9_thinnest_L43 {l : Launch} {E : sw_E} {K : Nat} (hK : 0 ≤ K) (σ : sw_M) (a1 : Int32) (a2 : Int32) {res : Int32} {t : (Int32 × Int32) ⊕ (Int32)} (h : fX9_thinnest_L43 σ a1 a2 = some t) (hk : (Sum.elim (fun s : Int32 × Int32 => sw_Go l E K RX9 cX9_thinnest 3 (some .int) 4 [(0, .ref 0), (1, .int s.1), (2, .int s.2)] [] σ (some (.int res)) σ) (fun q => q = res)) t) : sw_Go l E K RX9 cX9_thinnest 3 (some .int) 43 [(0, .ref 0), (1, .int a1), (2, .int a2)] [] σ (some (.int res)) σ := by
  unfold fX9_thinnest_L43 at h
  obtain ⟨v1, e2, h⟩ := sw_let_e h
  refine sw_iincv (i := 2) (n := 1) (lv' := [(2, .int v1), (0, .ref 0), (1, .int a1)]) 2 rfl e2 (by decide +kernel) (by decide) (by decide) rfl ?_
  refine sw_goto (off := (-42)) 4 (by decide +kernel) (by decide) ?_
  cases h
  refine sw_lv [1, 2, 0] rfl ?_
  exact hk
set_option maxRecDepth 20000 in
theorem sX9_thinnest_L41 {l : Launch} {E : sw_E} {K : Nat} (hK : 0 ≤ K) (σ : sw_M) (a2 : Int32) {res : Int32} {t : (Int32 × Int32) ⊕ (Int32)} (h : fX9_thinnest_L41 σ a2 = some t) (hk : (Sum.elim (fun s : Int32 × Int32 => sw_Go l E K RX9 cX9_thinnest 3 (some .int) 4 [(0, .ref 0), (1, .int s.1), (2, .int s.2)] [] σ (some (.int res)) σ) (fun q => q = res)) t) : sw_Go l E K RX9 cX9_thinnest 3 (some .int) 41 [(0, .ref 0), (2, .int a2)] [] σ (some (.int res)) σ := by
  unfold fX9_thinnest_L41 at h
  refine sw_iload_n (k0 := 2) 1 rfl (by decide +kernel) rfl ?_
  refine sw_istore_n (k0 := 1) (lv' := [(1, .int a2), (0, .ref 0), (2, .int a2)]) (by decide +kernel) rfl (by decide) rfl ?_
  refine sw_lv [1, 0, 2] rfl ?_
  exact sX9_thinnest_L43 hK σ a2 a2 h hk
set_option maxRecDepth 20000 in
theorem sX9_thinnest_L4 {l : Launch} {E : sw_E} {K : Nat} (hK : 0 ≤ K) (σ : sw_M) (a1 : Int32) (a2 : Int32) {res : Int32} {t : (Int32 × Int32) ⊕ (Int32)} (h : fX9_thinnest_L4 σ a1 a2 = some t) (hk : (Sum.elim (fun s : Int32 × Int32 => sw_Go l E K RX9 cX9_thinnest 3 (some .int) 4 [(0, .ref 0), (1, .int s.1), (2, .int s.2)] [] σ (some (.int res)) σ) (fun q => q = res)) t) : sw_Go l E K RX9 cX9_thinnest 3 (some .int) 4 [(0, .ref 0), (1, .int a1), (2, .int a2)] [] σ (some (.int res)) σ := by
  unfold fX9_thinnest_L4 at h
  refine sw_iload_n (k0 := 2) 2 rfl (by decide +kernel) rfl ?_
  refine sw_aload_n (k0 := 0) 0 rfl (by decide +kernel) rfl ?_
  refine gf_X9_19 (i := 0) (by decide) rfl (by decide +kernel) ?_
  refine gf_X9_164 (i := (sw_pl (σ.2.2 0))) (sw_pl_P _).o.1 (sw_pl_P _).o.2 (by decide +kernel) ?_
  refine sw_icmp_ge (off := 37) 49 (by decide +kernel) (by decide) (fun c1 => ?_) (fun c1 => ?_)
  · rw [if_pos c1] at h
    refine sw_iload_n (k0 := 1) 1 rfl (by decide +kernel) rfl ?_
    cases h
    obtain rfl : _ = res := hk
    exact sw_iret (by decide +kernel)
  · rw [if_neg c1] at h
    refine sw_iload_n (k0 := 1) 1 rfl (by decide +kernel) rfl ?_
    refine sw_iconst (n := (-1)) (v := (-1)) (by decide +kernel) (by decide) ?_
    refine sw_icmp_eq (off := 24) 41 (by decide +kernel) (by decide) (fun c2 => ?_) (fun c2 => ?_)
    · rw [if_pos c2] at h
      refine sw_lv [0, 2] rfl ?_
      exact sX9_thinnest_L41 hK σ a2 h hk
    · rw [if_neg c2] at h
      refine sw_aload_n (k0 := 0) 0 rfl (by decide +kernel) rfl ?_
      refine gf_X9_26 (i := 0) (by decide) rfl (by decide +kernel) ?_
      refine sw_refj 27 rfl ?_
      refine gf_X9_113 (i := 27) (by decide) rfl (by decide +kernel) ?_
      refine sw_refj 28 rfl ?_
      refine sw_iload_n (k0 := 2) 2 rfl (by decide +kernel) rfl ?_
      obtain ⟨g3, h⟩ := sw_gd_e h
      refine sw_iaload (a := 28) (by decide) rfl (sw_in_e g3) (by decide +kernel) ?_
      refine sw_aload_n (k0 := 0) 0 rfl (by decide +kernel) rfl ?_
      refine gf_X9_26 (i := 0) (by decide) rfl (by decide +kernel) ?_
      refine sw_refj 27 rfl ?_
      refine gf_X9_113 (i := 27) (by decide) rfl (by decide +kernel) ?_
      refine sw_refj 28 rfl ?_
      refine sw_iload_n (k0 := 1) 1 rfl (by decide +kernel) rfl ?_
      obtain ⟨g4, h⟩ := sw_gd_e h
      refine sw_iaload (a := 28) (by decide) rfl (sw_in_e g4) (by decide +kernel) ?_
      refine sw_icmp_ge (off := 5) 43 (by decide +kernel) (by decide) (fun c5 => ?_) (fun c5 => ?_)
      · rw [if_pos c5] at h
        exact sX9_thinnest_L43 hK σ a1 a2 h hk
      · rw [if_neg c5] at h
        refine sw_lv [0, 2] rfl ?_
        exact sX9_thinnest_L41 hK σ a2 h hk
set_option maxRecDepth 20000 in
theorem sX9_thinnest {l : Launch} {E : sw_E} {K : Nat} (hK : 0 ≤ K) (σ : sw_M) {res : Int32} (h : fX9_thinnest σ = some res) : sw_Ct l E K yX9_thinnest cX9_thinnest 3 (some .int) [.ref 0] σ (some (.int res)) σ := by
  obtain ⟨t, hk, h⟩ : ∃ t, t = res ∧ fX9_thinnest σ = some t := ⟨res, rfl, h⟩
  unfold fX9_thinnest at h
  refine sw_enter2 (own := RX9) (lv := [(0, .ref 0)]) (by decide +kernel) (Nat.le_of_ble_eq_true rfl) rfl rfl ?_
  refine sw_iconst (n := (-1)) (v := (-1)) (by decide +kernel) (by decide) ?_
  refine sw_istore_n (k0 := 1) (lv' := [(1, .int (-1)), (0, .ref 0)]) (by decide +kernel) rfl (by decide) rfl ?_
  refine sw_iconst (n := 0) (v := 0) (by decide +kernel) (by decide) ?_
  refine sw_istore_n (k0 := 2) (lv' := [(2, .int 0), (1, .int (-1)), (0, .ref 0)]) (by decide +kernel) rfl (by decide) rfl ?_
  refine sw_lv [2, 1, 0] rfl ?_
  exact sw_wh_e (fun s : Int32 × Int32 => sw_Go l E K RX9 cX9_thinnest 3 (some .int) 4 [(0, .ref 0), (1, .int s.1), (2, .int s.2)] [] σ (some (.int res)) σ) (fun q => q = res) (fun s => fX9_thinnest_L4 σ s.1 s.2) (fun s t hb hk => sX9_thinnest_L4 hK σ s.1 s.2 hb hk) _ _ _ h hk
def fX9_makers_L46 (σ : sw_M) (a1 : Int32) (a2 : Int32) (a3 : Int32) : Option ((Int32 × Int32) ⊕ (Int32)) :=
  sw_let (a3 + 1) fun v1 =>
  some (.inl (a2, v1))
def fX9_makers_L17 (σ : sw_M) (a1 : Int32) (a2 : Int32) (a3 : Int32) : Option ((Int32 × Int32) ⊕ (Int32)) :=
  if (σ.1 (sw_pl (σ.2.2 0)) 2) ≤ a3 then
    some (.inr (a2))
  else
    sw_b1 (fX4_third (sw_pl (σ.2.2 0)) σ a3) fun r2 =>
    if r2 = a1 then
      sw_let (a2 ||| (1 <<< (a3 &&& 31))) fun v5 =>
      fX9_makers_L46 σ a1 v5 a3
    else
      fX9_makers_L46 σ a1 a2 a3
def fX9_makers (σ : sw_M) (a1 : Int32) : Option (Int32) :=
  if (fX4_isKind (sw_pl (σ.2.2 0)) σ a1) = 0 then
    some ((-1))
  else
    sw_wh sw_F (fun s => fX9_makers_L17 σ a1 s.1 s.2) (0, 0)
set_option maxRecDepth 20000 in
theorem sX9_makers_L46 {l : Launch} {E : sw_E} {K : Nat} (hK : 1 ≤ K) (σ : sw_M) (a1 : Int32) (a2 : Int32) (a3 : Int32) {res : Int32} {t : (Int32 × Int32) ⊕ (Int32)} (h : fX9_makers_L46 σ a1 a2 a3 = some t) (hk : (Sum.elim (fun s : Int32 × Int32 => sw_Go l E K RX9 cX9_makers 4 (some .int) 17 [(0, .ref 0), (1, .int a1), (2, .int s.1), (3, .int s.2)] [] σ (some (.int res)) σ) (fun q => q = res)) t) : sw_Go l E K RX9 cX9_makers 4 (some .int) 46 [(0, .ref 0), (1, .int a1), (2, .int a2), (3, .int a3)] [] σ (some (.int res)) σ := by
  unfold fX9_makers_L46 at h
  obtain ⟨v1, e2, h⟩ := sw_let_e h
  refine sw_iincv (i := 3) (n := 1) (lv' := [(3, .int v1), (0, .ref 0), (1, .int a1), (2, .int a2)]) 3 rfl e2 (by decide +kernel) (by decide) (by decide) rfl ?_
  refine sw_goto (off := (-32)) 17 (by decide +kernel) (by decide) ?_
  cases h
  refine sw_lv [1, 2, 3, 0] rfl ?_
  exact hk
set_option maxRecDepth 20000 in
theorem sX9_makers_L17 {l : Launch} {E : sw_E} {K : Nat} (hK : 1 ≤ K) (σ : sw_M) (a1 : Int32) (a2 : Int32) (a3 : Int32) {res : Int32} {t : (Int32 × Int32) ⊕ (Int32)} (h : fX9_makers_L17 σ a1 a2 a3 = some t) (hk : (Sum.elim (fun s : Int32 × Int32 => sw_Go l E K RX9 cX9_makers 4 (some .int) 17 [(0, .ref 0), (1, .int a1), (2, .int s.1), (3, .int s.2)] [] σ (some (.int res)) σ) (fun q => q = res)) t) : sw_Go l E K RX9 cX9_makers 4 (some .int) 17 [(0, .ref 0), (1, .int a1), (2, .int a2), (3, .int a3)] [] σ (some (.int res)) σ := by
  unfold fX9_makers_L17 at h
  refine sw_iload_n (k0 := 3) 3 rfl (by decide +kernel) rfl ?_
  refine sw_aload_n (k0 := 0) 0 rfl (by decide +kernel) rfl ?_
  refine gf_X9_19 (i := 0) (by decide) rfl (by decide +kernel) ?_
  refine gf_X9_129 (i := (sw_pl (σ.2.2 0))) (sw_pl_P _).o.1 (sw_pl_P _).o.2 (by decide +kernel) ?_
  refine sw_icmp_ge (off := 27) 52 (by decide +kernel) (by decide) (fun c1 => ?_) (fun c1 => ?_)
  · rw [if_pos c1] at h
    refine sw_iload_n (k0 := 2) 2 rfl (by decide +kernel) rfl ?_
    cases h
    obtain rfl : _ = res := hk
    exact sw_iret (by decide +kernel)
  · rw [if_neg c1] at h
    refine sw_aload_n (k0 := 0) 0 rfl (by decide +kernel) rfl ?_
    refine gf_X9_19 (i := 0) (by decide) rfl (by decide +kernel) ?_
    refine sw_iload_n (k0 := 3) 3 rfl (by decide +kernel) rfl ?_
    obtain ⟨r2, w3, h⟩ := sw_b1_e h
    refine sw_callVi (ci := 4) (i := (sw_pl (σ.2.2 0))) [.int a3] (sX4_third (K := K - 1) (by omega) (sw_pl (σ.2.2 0)) (sw_pl_P _) σ a3 w3) rfl (by omega) rfl gs_X9_239 hy_X4_third (by decide) (sw_pl_P _).o.1 (sw_pl_P _).o.2 rfl (Nat.le_of_ble_eq_true rfl) (by decide +kernel) ?_
    refine sw_iload_n (k0 := 1) 1 rfl (by decide +kernel) rfl ?_
    refine sw_icmp_ne (off := 9) 46 (by decide +kernel) (by decide) (fun c4 => ?_) (fun c4 => ?_)
    · rw [if_neg c4] at h
      exact sX9_makers_L46 hK σ a1 a2 a3 h hk
    · rw [if_pos c4] at h
      refine sw_iload_n (k0 := 2) 2 rfl (by decide +kernel) rfl ?_
      refine sw_iconst (n := 1) (v := 1) (by decide +kernel) (by decide) ?_
      refine sw_iload_n (k0 := 3) 3 rfl (by decide +kernel) rfl ?_
      refine sw_ishl (by decide +kernel) ?_
      refine sw_ior (by decide +kernel) ?_
      obtain ⟨v5, e6, h⟩ := sw_let_e h
      refine sw_topi e6 ?_
      refine sw_istore_n (k0 := 2) (lv' := [(2, .int v5), (0, .ref 0), (1, .int a1), (3, .int a3)]) (by decide +kernel) rfl (by decide) rfl ?_
      refine sw_lv [1, 2, 0, 3] rfl ?_
      exact sX9_makers_L46 hK σ a1 v5 a3 h hk
set_option maxRecDepth 20000 in
theorem sX9_makers {l : Launch} {E : sw_E} {K : Nat} (hK : 1 ≤ K) (σ : sw_M) (a1 : Int32) {res : Int32} (h : fX9_makers σ a1 = some res) : sw_Ct l E K yX9_makers cX9_makers 4 (some .int) [.ref 0, .int a1] σ (some (.int res)) σ := by
  obtain ⟨t, hk, h⟩ : ∃ t, t = res ∧ fX9_makers σ a1 = some t := ⟨res, rfl, h⟩
  unfold fX9_makers at h
  refine sw_enter2 (own := RX9) (lv := [(0, .ref 0), (1, .int a1)]) (by decide +kernel) (Nat.le_of_ble_eq_true rfl) rfl rfl ?_
  refine sw_aload_n (k0 := 0) 0 rfl (by decide +kernel) rfl ?_
  refine gf_X9_19 (i := 0) (by decide) rfl (by decide +kernel) ?_
  refine sw_iload_n (k0 := 1) 1 rfl (by decide +kernel) rfl ?_
  refine sw_callVi (ci := 4) (i := (sw_pl (σ.2.2 0))) [.int a1] (sX4_isKind (K := K - 1) (by omega) (sw_pl (σ.2.2 0)) (sw_pl_P _) σ a1 rfl) rfl (by omega) rfl gs_X9_109 hy_X4_isKind (by decide) (sw_pl_P _).o.1 (sw_pl_P _).o.2 rfl (Nat.le_of_ble_eq_true rfl) (by decide +kernel) ?_
  refine sw_if_ne (off := 5) 13 (by decide +kernel) (by decide) (fun c1 => ?_) (fun c1 => ?_)
  · rw [if_neg c1] at h
    refine sw_iconst (n := 0) (v := 0) (by decide +kernel) (by decide) ?_
    refine sw_istore_n (k0 := 2) (lv' := [(2, .int 0), (0, .ref 0), (1, .int a1)]) (by decide +kernel) rfl (by decide) rfl ?_
    refine sw_iconst (n := 0) (v := 0) (by decide +kernel) (by decide) ?_
    refine sw_istore_n (k0 := 3) (lv' := [(3, .int 0), (2, .int 0), (0, .ref 0), (1, .int a1)]) (by decide +kernel) rfl (by decide) rfl ?_
    refine sw_lv [2, 3, 1, 0] rfl ?_
    exact sw_wh_e (fun s : Int32 × Int32 => sw_Go l E K RX9 cX9_makers 4 (some .int) 17 [(0, .ref 0), (1, .int a1), (2, .int s.1), (3, .int s.2)] [] σ (some (.int res)) σ) (fun q => q = res) (fun s => fX9_makers_L17 σ a1 s.1 s.2) (fun s t hb hk => sX9_makers_L17 hK σ a1 s.1 s.2 hb hk) _ _ _ h hk
  · rw [if_pos c1] at h
    refine sw_iconst (n := (-1)) (v := (-1)) (by decide +kernel) (by decide) ?_
    cases h
    obtain rfl : _ = res := hk
    exact sw_iret (by decide +kernel)
