def fX9_heaviest_L52 (σ : sw_M) (a1 : Int32) (a2 : Int32) : Option ((Int32 × Int32) ⊕ (Int32)) :=
  sw_let (a2 + 1) fun v1 =>
  some (.inl (a1, v1))
def fX9_heaviest_L50 (σ : sw_M) (a2 : Int32) : Option ((Int32 × Int32) ⊕ (Int32)) :=
  fX9_heaviest_L52 σ a2 a2
def fX9_heaviest_L4 (σ : sw_M) (a1 : Int32) (a2 : Int32) : Option ((Int32 × Int32) ⊕ (Int32)) :=
  if (σ.1 (sw_pl (σ.2.2 0)) 1) ≤ a2 then
    some (.inr (a1))
  else
    if (fX9_isSilent σ a2) = 0 then
      fX9_heaviest_L52 σ a1 a2
    else
      if a1 = (-1) then
        fX9_heaviest_L50 σ a2
      else
        sw_b1 (fX4_burden (sw_pl (σ.2.2 0)) σ a2) fun r4 =>
        sw_b1 (fX4_burden (sw_pl (σ.2.2 0)) σ a1) fun r6 =>
        if r4 ≤ r6 then
          fX9_heaviest_L52 σ a1 a2
        else
          fX9_heaviest_L50 σ a2
def fX9_heaviest (σ : sw_M) : Option (Int32) :=
  sw_wh sw_F (fun s => fX9_heaviest_L4 σ s.1 s.2) ((-1), 0)
set_option maxRecDepth 20000 in
theorem sX9_heaviest_L52 {l : Launch} {E : sw_E} {K : Nat} (hK : 2 ≤ K) (σ : sw_M) (a1 : Int32) (a2 : Int32) {res : Int32} {t : (Int32 × Int32) ⊕ (Int32)} (h : fX9_heaviest_L52 σ a1 a2 = some t) (hk : (Sum.elim (fun s : Int32 × Int32 => sw_Go l E K RX9 cX9_heaviest 3 (some .int) 4 [(0, .ref 0), (1, .int s.1), (2, .int s.2)] [] σ (some (.int res)) σ) (fun q => q = res)) t) : sw_Go l E K RX9 cX9_heaviest 3 (some .int) 52 [(0, .ref 0), (1, .int a1), (2, .int a2)] [] σ (some (.int res)) σ := by
  unfold fX9_heaviest_L52 at h
  obtain ⟨v1, e2, h⟩ := sw_let_e h
  refine sw_iincv (i := 2) (n := 1) (lv' := [(2, .int v1), (0, .ref 0), (1, .int a1)]) 2 rfl e2 (by decide +kernel) (by decide) (by decide) rfl ?_
  refine sw_goto (off := (-51)) 4 (by decide +kernel) (by decide) ?_
  cases h
  refine sw_lv [1, 2, 0] rfl ?_
  exact hk
set_option maxRecDepth 20000 in
theorem sX9_heaviest_L50 {l : Launch} {E : sw_E} {K : Nat} (hK : 2 ≤ K) (σ : sw_M) (a2 : Int32) {res : Int32} {t : (Int32 × Int32) ⊕ (Int32)} (h : fX9_heaviest_L50 σ a2 = some t) (hk : (Sum.elim (fun s : Int32 × Int32 => sw_Go l E K RX9 cX9_heaviest 3 (some .int) 4 [(0, .ref 0), (1, .int s.1), (2, .int s.2)] [] σ (some (.int res)) σ) (fun q => q = res)) t) : sw_Go l E K RX9 cX9_heaviest 3 (some .int) 50 [(0, .ref 0), (2, .int a2)] [] σ (some (.int res)) σ := by
  unfold fX9_heaviest_L50 at h
  refine sw_iload_n (k0 := 2) 1 rfl (by decide +kernel) rfl ?_
  refine sw_istore_n (k0 := 1) (lv' := [(1, .int a2), (0, .ref 0), (2, .int a2)]) (by decide +kernel) rfl (by decide) rfl ?_
  refine sw_lv [1, 0, 2] rfl ?_
  exact sX9_heaviest_L52 hK σ a2 a2 h hk
set_option maxRecDepth 20000 in
theorem sX9_heaviest_L4 {l : Launch} {E : sw_E} {K : Nat} (hK : 2 ≤ K) (σ : sw_M) (a1 : Int32) (a2 : Int32) {res : Int32} {t : (Int32 × Int32) ⊕ (Int32)} (h : fX9_heaviest_L4 σ a1 a2 = some t) (hk : (Sum.elim (fun s : Int32 × Int32 => sw_Go l E K RX9 cX9_heaviest 3 (some .int) 4 [(0, .ref 0), (1, .int s.1), (2, .int s.2)] [] σ (some (.int res)) σ) (fun q => q = res)) t) : sw_Go l E K RX9 cX9_heaviest 3 (some .int) 4 [(0, .ref 0), (1, .int a1), (2, .int a2)] [] σ (some (.int res)) σ := by
  unfold fX9_heaviest_L4 at h
  refine sw_iload_n (k0 := 2) 2 rfl (by decide +kernel) rfl ?_
  refine sw_aload_n (k0 := 0) 0 rfl (by decide +kernel) rfl ?_
  refine gf_X9_19 (i := 0) (by decide) rfl (by decide +kernel) ?_
  refine gf_X9_100 (i := (sw_pl (σ.2.2 0))) (sw_pl_P _).o.1 (sw_pl_P _).o.2 (by decide +kernel) ?_
  refine sw_icmp_ge (off := 46) 58 (by decide +kernel) (by decide) (fun c1 => ?_) (fun c1 => ?_)
  · rw [if_pos c1] at h
    refine sw_iload_n (k0 := 1) 1 rfl (by decide +kernel) rfl ?_
    cases h
    obtain rfl : _ = res := hk
    exact sw_iret (by decide +kernel)
  · rw [if_neg c1] at h
    refine sw_aload_n (k0 := 0) 0 rfl (by decide +kernel) rfl ?_
    refine sw_iload_n (k0 := 2) 2 rfl (by decide +kernel) rfl ?_
    refine sw_callVi (ci := 9) (i := 0) [.int a2] (sX9_isSilent (K := K - 1) (by omega) σ a2 rfl) rfl (by omega) rfl gs_X9_135 hy_X9_isSilent (by decide) (by decide) rfl rfl (Nat.le_of_ble_eq_true rfl) (by decide +kernel) ?_
    refine sw_if_ne (off := 6) 26 (by decide +kernel) (by decide) (fun c2 => ?_) (fun c2 => ?_)
    · rw [if_neg c2] at h
      refine sw_iload_n (k0 := 1) 1 rfl (by decide +kernel) rfl ?_
      refine sw_iconst (n := (-1)) (v := (-1)) (by decide +kernel) (by decide) ?_
      refine sw_icmp_eq (off := 22) 50 (by decide +kernel) (by decide) (fun c3 => ?_) (fun c3 => ?_)
      · rw [if_pos c3] at h
        refine sw_lv [0, 2] rfl ?_
        exact sX9_heaviest_L50 hK σ a2 h hk
      · rw [if_neg c3] at h
        refine sw_aload_n (k0 := 0) 0 rfl (by decide +kernel) rfl ?_
        refine gf_X9_19 (i := 0) (by decide) rfl (by decide +kernel) ?_
        refine sw_iload_n (k0 := 2) 2 rfl (by decide +kernel) rfl ?_
        obtain ⟨r4, w5, h⟩ := sw_b1_e h
        refine sw_callVi (ci := 4) (i := (sw_pl (σ.2.2 0))) [.int a2] (sX4_burden (K := K - 1) (by omega) (sw_pl (σ.2.2 0)) (sw_pl_P _) σ a2 w5) rfl (by omega) rfl gs_X9_249 hy_X4_burden (by decide) (sw_pl_P _).o.1 (sw_pl_P _).o.2 rfl (Nat.le_of_ble_eq_true rfl) (by decide +kernel) ?_
        refine sw_aload_n (k0 := 0) 0 rfl (by decide +kernel) rfl ?_
        refine gf_X9_19 (i := 0) (by decide) rfl (by decide +kernel) ?_
        refine sw_iload_n (k0 := 1) 1 rfl (by decide +kernel) rfl ?_
        obtain ⟨r6, w7, h⟩ := sw_b1_e h
        refine sw_callVi (ci := 4) (i := (sw_pl (σ.2.2 0))) [.int a1] (sX4_burden (K := K - 1) (by omega) (sw_pl (σ.2.2 0)) (sw_pl_P _) σ a1 w7) rfl (by omega) rfl gs_X9_249 hy_X4_burden (by decide) (sw_pl_P _).o.1 (sw_pl_P _).o.2 rfl (Nat.le_of_ble_eq_true rfl) (by decide +kernel) ?_
        refine sw_icmp_le (off := 5) 52 (by decide +kernel) (by decide) (fun c8 => ?_) (fun c8 => ?_)
        · rw [if_pos c8] at h
          exact sX9_heaviest_L52 hK σ a1 a2 h hk
        · rw [if_neg c8] at h
          refine sw_lv [0, 2] rfl ?_
          exact sX9_heaviest_L50 hK σ a2 h hk
    · rw [if_pos c2] at h
      refine sw_goto (off := 29) 52 (by decide +kernel) (by decide) ?_
      exact sX9_heaviest_L52 hK σ a1 a2 h hk
set_option maxRecDepth 20000 in
theorem sX9_heaviest {l : Launch} {E : sw_E} {K : Nat} (hK : 2 ≤ K) (σ : sw_M) {res : Int32} (h : fX9_heaviest σ = some res) : sw_Ct l E K yX9_heaviest cX9_heaviest 3 (some .int) [.ref 0] σ (some (.int res)) σ := by
  obtain ⟨t, hk, h⟩ : ∃ t, t = res ∧ fX9_heaviest σ = some t := ⟨res, rfl, h⟩
  unfold fX9_heaviest at h
  refine sw_enter2 (own := RX9) (lv := [(0, .ref 0)]) (by decide +kernel) (Nat.le_of_ble_eq_true rfl) rfl rfl ?_
  refine sw_iconst (n := (-1)) (v := (-1)) (by decide +kernel) (by decide) ?_
  refine sw_istore_n (k0 := 1) (lv' := [(1, .int (-1)), (0, .ref 0)]) (by decide +kernel) rfl (by decide) rfl ?_
  refine sw_iconst (n := 0) (v := 0) (by decide +kernel) (by decide) ?_
  refine sw_istore_n (k0 := 2) (lv' := [(2, .int 0), (1, .int (-1)), (0, .ref 0)]) (by decide +kernel) rfl (by decide) rfl ?_
  refine sw_lv [2, 1, 0] rfl ?_
  exact sw_wh_e (fun s : Int32 × Int32 => sw_Go l E K RX9 cX9_heaviest 3 (some .int) 4 [(0, .ref 0), (1, .int s.1), (2, .int s.2)] [] σ (some (.int res)) σ) (fun q => q = res) (fun s => fX9_heaviest_L4 σ s.1 s.2) (fun s t hb hk => sX9_heaviest_L4 hK σ s.1 s.2 hb hk) _ _ _ h hk
def fX9_law (σ : sw_M) (a1 : Int32) : Option (Int32 × sw_M) :=
  if a1 < 0 then
    some (((-1), σ))
  else
    if a1 ≤ 99 then
      sw_b2 (fX3_allUnderLaw (sw_pl (σ.2.2 0)) 27 σ a1) fun r3 m4 =>
      some ((r3, m4))
    else
      some (((-1), σ))
set_option maxRecDepth 20000 in
theorem sX9_law {l : Launch} {E : sw_E} {K : Nat} (hK : 4 ≤ K) (σ : sw_M) (a1 : Int32) {res : Int32 × sw_M} (h : fX9_law σ a1 = some res) : sw_Ct l E K yX9_law cX9_law 2 (some .int) [.ref 0, .int a1] σ (some (.int res.1)) res.2 := by
  obtain ⟨t, hk, h⟩ : ∃ t, t = res ∧ fX9_law σ a1 = some t := ⟨res, rfl, h⟩
  unfold fX9_law at h
  refine sw_enter2 (own := RX9) (lv := [(0, .ref 0), (1, .int a1)]) (by decide +kernel) (Nat.le_of_ble_eq_true rfl) rfl rfl ?_
  refine sw_iload_n (k0 := 1) 1 rfl (by decide +kernel) rfl ?_
  refine sw_if_lt (off := 9) 10 (by decide +kernel) (by decide) (fun c1 => ?_) (fun c1 => ?_)
  · rw [if_pos c1] at h
    refine sw_iconst (n := (-1)) (v := (-1)) (by decide +kernel) (by decide) ?_
    refine sw_goto (off := 19) 30 (by decide +kernel) (by decide) ?_
    cases h
    obtain rfl : _ = res := hk
    exact sw_iret (by decide +kernel)
  · rw [if_neg c1] at h
    refine sw_iload_n (k0 := 1) 1 rfl (by decide +kernel) rfl ?_
    refine sw_bipush (n := 99) (v := 99) (by decide +kernel) (by decide) ?_
    refine sw_icmp_le (off := 7) 14 (by decide +kernel) (by decide) (fun c2 => ?_) (fun c2 => ?_)
    · rw [if_pos c2] at h
      refine sw_aload_n (k0 := 0) 0 rfl (by decide +kernel) rfl ?_
      refine gf_X9_47 (i := 0) (by decide) rfl (by decide +kernel) ?_
      refine sw_refj 34 rfl ?_
      refine sw_aload_n (k0 := 0) 0 rfl (by decide +kernel) rfl ?_
      refine gf_X9_19 (i := 0) (by decide) rfl (by decide +kernel) ?_
      refine sw_aload_n (k0 := 0) 0 rfl (by decide +kernel) rfl ?_
      refine gf_X9_26 (i := 0) (by decide) rfl (by decide +kernel) ?_
      refine sw_refj 27 rfl ?_
      refine sw_iload_n (k0 := 1) 1 rfl (by decide +kernel) rfl ?_
      obtain ⟨r3, m4, w5, h⟩ := sw_b2_e h
      refine sw_callVi (ci := 3) (i := 34) [.ref (sw_pl (σ.2.2 0)), .ref 27, .int a1] (sX3_allUnderLaw (K := K - 1) (by omega) (sw_pl (σ.2.2 0)) 27 (sw_pl_P _) (Or.inl rfl) σ a1 w5) rfl (by omega) rfl gs_X9_252 hy_X3_allUnderLaw (by decide) (by decide) rfl rfl (Nat.le_of_ble_eq_true rfl) (by decide +kernel) ?_
      cases h
      obtain rfl : _ = res := hk
      exact sw_iret (by decide +kernel)
    · rw [if_neg c2] at h
      refine sw_iconst (n := (-1)) (v := (-1)) (by decide +kernel) (by decide) ?_
      refine sw_goto (off := 19) 30 (by decide +kernel) (by decide) ?_
      cases h
      obtain rfl : _ = res := hk
      exact sw_iret (by decide +kernel)
def fX9_mission_L40 (σ : sw_M) (a1 : Int32) (a2 : Int32) : Option ((Int32 × Int32) ⊕ (Int32)) :=
  sw_let (a2 + 1) fun v1 =>
  some (.inl (a1, v1))
def fX9_mission_L10 (σ : sw_M) (a1 : Int32) (a2 : Int32) : Option ((Int32 × Int32) ⊕ (Int32)) :=
  if (σ.1 (sw_pl (σ.2.2 0)) 1) ≤ a2 then
    some (.inr (a1))
  else
    if (fX9_isSilent σ a2) = 0 then
      fX9_mission_L40 σ a1 a2
    else
      sw_b1 (fX4_burden (sw_pl (σ.2.2 0)) σ a2) fun r3 =>
      sw_let (a1 + r3) fun v5 =>
      fX9_mission_L40 σ v5 a2
def fX9_mission (σ : sw_M) : Option (Int32) :=
  sw_b1 (fX8_all 27 σ) fun r1 =>
  sw_wh sw_F (fun s => fX9_mission_L10 σ s.1 s.2) (r1, 0)
set_option maxRecDepth 20000 in
theorem sX9_mission_L40 {l : Launch} {E : sw_E} {K : Nat} (hK : 2 ≤ K) (σ : sw_M) (a1 : Int32) (a2 : Int32) {res : Int32} {t : (Int32 × Int32) ⊕ (Int32)} (h : fX9_mission_L40 σ a1 a2 = some t) (hk : (Sum.elim (fun s : Int32 × Int32 => sw_Go l E K RX9 cX9_mission 3 (some .int) 10 [(0, .ref 0), (1, .int s.1), (2, .int s.2)] [] σ (some (.int res)) σ) (fun q => q = res)) t) : sw_Go l E K RX9 cX9_mission 3 (some .int) 40 [(0, .ref 0), (1, .int a1), (2, .int a2)] [] σ (some (.int res)) σ := by
  unfold fX9_mission_L40 at h
  obtain ⟨v1, e2, h⟩ := sw_let_e h
  refine sw_iincv (i := 2) (n := 1) (lv' := [(2, .int v1), (0, .ref 0), (1, .int a1)]) 2 rfl e2 (by decide +kernel) (by decide) (by decide) rfl ?_
  refine sw_goto (off := (-33)) 10 (by decide +kernel) (by decide) ?_
  cases h
  refine sw_lv [1, 2, 0] rfl ?_
  exact hk
set_option maxRecDepth 20000 in
theorem sX9_mission_L10 {l : Launch} {E : sw_E} {K : Nat} (hK : 2 ≤ K) (σ : sw_M) (a1 : Int32) (a2 : Int32) {res : Int32} {t : (Int32 × Int32) ⊕ (Int32)} (h : fX9_mission_L10 σ a1 a2 = some t) (hk : (Sum.elim (fun s : Int32 × Int32 => sw_Go l E K RX9 cX9_mission 3 (some .int) 10 [(0, .ref 0), (1, .int s.1), (2, .int s.2)] [] σ (some (.int res)) σ) (fun q => q = res)) t) : sw_Go l E K RX9 cX9_mission 3 (some .int) 10 [(0, .ref 0), (1, .int a1), (2, .int a2)] [] σ (some (.int res)) σ := by
  unfold fX9_mission_L10 at h
  refine sw_iload_n (k0 := 2) 2 rfl (by decide +kernel) rfl ?_
  refine sw_aload_n (k0 := 0) 0 rfl (by decide +kernel) rfl ?_
  refine gf_X9_19 (i := 0) (by decide) rfl (by decide +kernel) ?_
  refine gf_X9_100 (i := (sw_pl (σ.2.2 0))) (sw_pl_P _).o.1 (sw_pl_P _).o.2 (by decide +kernel) ?_
  refine sw_icmp_ge (off := 28) 46 (by decide +kernel) (by decide) (fun c1 => ?_) (fun c1 => ?_)
  · rw [if_pos c1] at h
    refine sw_iload_n (k0 := 1) 1 rfl (by decide +kernel) rfl ?_
    cases h
    obtain rfl : _ = res := hk
    exact sw_iret (by decide +kernel)
  · rw [if_neg c1] at h
    refine sw_aload_n (k0 := 0) 0 rfl (by decide +kernel) rfl ?_
    refine sw_iload_n (k0 := 2) 2 rfl (by decide +kernel) rfl ?_
    refine sw_callVi (ci := 9) (i := 0) [.int a2] (sX9_isSilent (K := K - 1) (by omega) σ a2 rfl) rfl (by omega) rfl gs_X9_135 hy_X9_isSilent (by decide) (by decide) rfl rfl (Nat.le_of_ble_eq_true rfl) (by decide +kernel) ?_
    refine sw_if_eq (off := 14) 40 (by decide +kernel) (by decide) (fun c2 => ?_) (fun c2 => ?_)
    · rw [if_pos c2] at h
      exact sX9_mission_L40 hK σ a1 a2 h hk
    · rw [if_neg c2] at h
      refine sw_iload_n (k0 := 1) 1 rfl (by decide +kernel) rfl ?_
      refine sw_aload_n (k0 := 0) 0 rfl (by decide +kernel) rfl ?_
      refine gf_X9_19 (i := 0) (by decide) rfl (by decide +kernel) ?_
      refine sw_iload_n (k0 := 2) 2 rfl (by decide +kernel) rfl ?_
      obtain ⟨r3, w4, h⟩ := sw_b1_e h
      refine sw_callVi (ci := 4) (i := (sw_pl (σ.2.2 0))) [.int a2] (sX4_burden (K := K - 1) (by omega) (sw_pl (σ.2.2 0)) (sw_pl_P _) σ a2 w4) rfl (by omega) rfl gs_X9_249 hy_X4_burden (by decide) (sw_pl_P _).o.1 (sw_pl_P _).o.2 rfl (Nat.le_of_ble_eq_true rfl) (by decide +kernel) ?_
      refine sw_iadd (by decide +kernel) ?_
      obtain ⟨v5, e6, h⟩ := sw_let_e h
      refine sw_topi e6 ?_
      refine sw_istore_n (k0 := 1) (lv' := [(1, .int v5), (0, .ref 0), (2, .int a2)]) (by decide +kernel) rfl (by decide) rfl ?_
      refine sw_lv [1, 0, 2] rfl ?_
      exact sX9_mission_L40 hK σ v5 a2 h hk
set_option maxRecDepth 20000 in
theorem sX9_mission {l : Launch} {E : sw_E} {K : Nat} (hK : 2 ≤ K) (σ : sw_M) {res : Int32} (h : fX9_mission σ = some res) : sw_Ct l E K yX9_mission cX9_mission 3 (some .int) [.ref 0] σ (some (.int res)) σ := by
  obtain ⟨t, hk, h⟩ : ∃ t, t = res ∧ fX9_mission σ = some t := ⟨res, rfl, h⟩
  unfold fX9_mission at h
  refine sw_enter2 (own := RX9) (lv := [(0, .ref 0)]) (by decide +kernel) (Nat.le_of_ble_eq_true rfl) rfl rfl ?_
  refine sw_aload_n (k0 := 0) 0 rfl (by decide +kernel) rfl ?_
  refine gf_X9_26 (i := 0) (by decide) rfl (by decide +kernel) ?_
  refine sw_refj 27 rfl ?_
  obtain ⟨r1, w2, h⟩ := sw_b1_e h
  refine sw_callVi (ci := 8) (i := 27) [] (sX8_all (K := K - 1) (by omega) 27 (Or.inl rfl) σ w2) rfl (by omega) rfl gs_X9_146 hy_X8_all (by decide) (by decide) rfl rfl (Nat.le_of_ble_eq_true rfl) (by decide +kernel) ?_
  refine sw_istore_n (k0 := 1) (lv' := [(1, .int r1), (0, .ref 0)]) (by decide +kernel) rfl (by decide) rfl ?_
  refine sw_iconst (n := 0) (v := 0) (by decide +kernel) (by decide) ?_
  refine sw_istore_n (k0 := 2) (lv' := [(2, .int 0), (1, .int r1), (0, .ref 0)]) (by decide +kernel) rfl (by decide) rfl ?_
  refine sw_lv [2, 1, 0] rfl ?_
  exact sw_wh_e (fun s : Int32 × Int32 => sw_Go l E K RX9 cX9_mission 3 (some .int) 10 [(0, .ref 0), (1, .int s.1), (2, .int s.2)] [] σ (some (.int res)) σ) (fun q => q = res) (fun s => fX9_mission_L10 σ s.1 s.2) (fun s t hb hk => sX9_mission_L10 hK σ s.1 s.2 hb hk) _ _ _ h hk
def fX9_commonDivisor_L7 (a2 : Int32) (a3 : Int32) (a4 : Int32) : Option ((Int32 × Int32 × Int32) ⊕ (Int32)) :=
  if 64 ≤ a4 then
    some (.inr (a2))
  else
    if a3 = 0 then
      some (.inr (a2))
    else
      sw_gd (sw_nz a3) <|
      sw_let (a2 - a2 / a3 * a3) fun v4 =>
      sw_let (a4 + 1) fun v6 =>
      some (.inl (a3, v4, v6))
def fX9_commonDivisor (a0 : Int32) (a1 : Int32) : Option (Int32) :=
  sw_wh sw_F (fun s => fX9_commonDivisor_L7 s.1 s.2.1 s.2.2) (a0, a1, 0)
set_option maxRecDepth 20000 in
theorem sX9_commonDivisor_L7 {l : Launch} {E : sw_E} {K : Nat} (hK : 0 ≤ K) (σ : sw_M) (a2 : Int32) (a3 : Int32) (a4 : Int32) {res : Int32} {t : (Int32 × Int32 × Int32) ⊕ (Int32)} (h : fX9_commonDivisor_L7 a2 a3 a4 = some t) (hk : (Sum.elim (fun s : Int32 × Int32 × Int32 => sw_Go l E K RX9 cX9_commonDivisor 6 (some .int) 7 [(2, .int s.1), (3, .int s.2.1), (4, .int s.2.2)] [] σ (some (.int res)) σ) (fun q => q = res)) t) : sw_Go l E K RX9 cX9_commonDivisor 6 (some .int) 7 [(2, .int a2), (3, .int a3), (4, .int a4)] [] σ (some (.int res)) σ := by
  unfold fX9_commonDivisor_L7 at h
  refine sw_iload 2 rfl (by decide +kernel) ?_
  refine sw_bipush (n := 64) (v := 64) (by decide +kernel) (by decide) ?_
  refine sw_icmp_ge (off := 23) 34 (by decide +kernel) (by decide) (fun c1 => ?_) (fun c1 => ?_)
  · rw [if_pos c1] at h
    refine sw_iload_n (k0 := 2) 0 rfl (by decide +kernel) rfl ?_
    cases h
    obtain rfl : _ = res := hk
    exact sw_iret (by decide +kernel)
  · rw [if_neg c1] at h
    refine sw_iload_n (k0 := 3) 1 rfl (by decide +kernel) rfl ?_
    refine sw_if_eq (off := 19) 34 (by decide +kernel) (by decide) (fun c2 => ?_) (fun c2 => ?_)
    · rw [if_pos c2] at h
      refine sw_iload_n (k0 := 2) 0 rfl (by decide +kernel) rfl ?_
      cases h
      obtain rfl : _ = res := hk
      exact sw_iret (by decide +kernel)
    · rw [if_neg c2] at h
      refine sw_iload_n (k0 := 2) 0 rfl (by decide +kernel) rfl ?_
      refine sw_iload_n (k0 := 3) 1 rfl (by decide +kernel) rfl ?_
      obtain ⟨g3, h⟩ := sw_gd_e h
      refine sw_irem (by decide +kernel) (sw_nz_e g3) ?_
      obtain ⟨v4, e5, h⟩ := sw_let_e h
      refine sw_topi e5 ?_
      refine sw_istore (i := 5) (lv' := [(5, .int v4), (2, .int a2), (3, .int a3), (4, .int a4)]) (by decide +kernel) (by decide) rfl ?_
      refine sw_iload_n (k0 := 3) 2 rfl (by decide +kernel) rfl ?_
      refine sw_istore_n (k0 := 2) (lv' := [(2, .int a3), (5, .int v4), (3, .int a3), (4, .int a4)]) (by decide +kernel) rfl (by decide) rfl ?_
      refine sw_iload 1 rfl (by decide +kernel) ?_
      refine sw_istore_n (k0 := 3) (lv' := [(3, .int v4), (2, .int a3), (5, .int v4), (4, .int a4)]) (by decide +kernel) rfl (by decide) rfl ?_
      obtain ⟨v6, e7, h⟩ := sw_let_e h
      refine sw_iincv (i := 4) (n := 1) (lv' := [(4, .int v6), (3, .int v4), (2, .int a3), (5, .int v4)]) 3 rfl e7 (by decide +kernel) (by decide) (by decide) rfl ?_
      refine sw_goto (off := (-24)) 7 (by decide +kernel) (by decide) ?_
      cases h
      refine sw_lv [2, 1, 0] rfl ?_
      exact hk
set_option maxRecDepth 20000 in
theorem sX9_commonDivisor {l : Launch} {E : sw_E} {K : Nat} (hK : 0 ≤ K) (σ : sw_M) (a0 : Int32) (a1 : Int32) {res : Int32} (h : fX9_commonDivisor a0 a1 = some res) : sw_Ct l E K yX9_commonDivisor cX9_commonDivisor 6 (some .int) [.int a0, .int a1] σ (some (.int res)) σ := by
  obtain ⟨t, hk, h⟩ : ∃ t, t = res ∧ fX9_commonDivisor a0 a1 = some t := ⟨res, rfl, h⟩
  unfold fX9_commonDivisor at h
  refine sw_enter2 (own := RX9) (lv := [(0, .int a0), (1, .int a1)]) (by decide +kernel) (Nat.le_of_ble_eq_true rfl) rfl rfl ?_
  refine sw_iload_n (k0 := 0) 0 rfl (by decide +kernel) rfl ?_
  refine sw_istore_n (k0 := 2) (lv' := [(2, .int a0), (0, .int a0), (1, .int a1)]) (by decide +kernel) rfl (by decide) rfl ?_
  refine sw_iload_n (k0 := 1) 2 rfl (by decide +kernel) rfl ?_
  refine sw_istore_n (k0 := 3) (lv' := [(3, .int a1), (2, .int a0), (0, .int a0), (1, .int a1)]) (by decide +kernel) rfl (by decide) rfl ?_
  refine sw_iconst (n := 0) (v := 0) (by decide +kernel) (by decide) ?_
  refine sw_istore (i := 4) (lv' := [(4, .int 0), (3, .int a1), (2, .int a0), (0, .int a0), (1, .int a1)]) (by decide +kernel) (by decide) rfl ?_
  refine sw_lv [2, 1, 0] rfl ?_
  exact sw_wh_e (fun s : Int32 × Int32 × Int32 => sw_Go l E K RX9 cX9_commonDivisor 6 (some .int) 7 [(2, .int s.1), (3, .int s.2.1), (4, .int s.2.2)] [] σ (some (.int res)) σ) (fun q => q = res) (fun s => fX9_commonDivisor_L7 s.1 s.2.1 s.2.2) (fun s t hb hk => sX9_commonDivisor_L7 hK σ s.1 s.2.1 s.2.2 hb hk) _ _ _ h hk
def fX9_odds_L28 (σ : sw_M) (a1 : Int32) (a2 : Int32) (a3 : Int32) (a4 : Int32) (a5 : Int32) : Option ((Int32 × Int32 × Int32) ⊕ (Int32)) :=
  if a1 ≤ a5 then
    sw_b1 (fX9_commonDivisor a4 a3) fun r2 =>
    if r2 = 0 then
      some (.inr ((-1)))
    else
      if a2 = 0 then
        sw_gd (sw_nz r2) <|
        some (.inr (a3 / r2))
      else
        sw_gd (sw_nz r2) <|
        some (.inr (a4 / r2))
  else
    sw_let (a3 * (100 - (σ.1 (sw_pl (σ.2.2 0)) 4))) fun v8 =>
    sw_let (a4 * 100) fun v10 =>
    sw_let (a5 + 1) fun v12 =>
    some (.inl (v8, v10, v12))
def fX9_odds (σ : sw_M) (a1 : Int32) (a2 : Int32) : Option (Int32) :=
  if a1 < 0 then
    some ((-1))
  else
    if 4 < a1 then
      some ((-1))
    else
      if a2 < 0 then
        some ((-1))
      else
        if a2 ≤ 1 then
          sw_wh sw_F (fun s => fX9_odds_L28 σ a1 a2 s.1 s.2.1 s.2.2) (1, 1, 0)
        else
          some ((-1))
set_option maxRecDepth 20000 in
theorem sX9_odds_L28 {l : Launch} {E : sw_E} {K : Nat} (hK : 1 ≤ K) (σ : sw_M) (a1 : Int32) (a2 : Int32) (a3 : Int32) (a4 : Int32) (a5 : Int32) {res : Int32} {t : (Int32 × Int32 × Int32) ⊕ (Int32)} (h : fX9_odds_L28 σ a1 a2 a3 a4 a5 = some t) (hk : (Sum.elim (fun s : Int32 × Int32 × Int32 => sw_Go l E K RX9 cX9_odds 6 (some .int) 28 [(0, .ref 0), (1, .int a1), (2, .int a2), (3, .int s.1), (4, .int s.2.1), (5, .int s.2.2)] [] σ (some (.int res)) σ) (fun q => q = res)) t) : sw_Go l E K RX9 cX9_odds 6 (some .int) 28 [(0, .ref 0), (1, .int a1), (2, .int a2), (3, .int a3), (4, .int a4), (5, .int a5)] [] σ (some (.int res)) σ := by
  unfold fX9_odds_L28 at h
  refine sw_iload 5 rfl (by decide +kernel) ?_
  refine sw_iload_n (k0 := 1) 1 rfl (by decide +kernel) rfl ?_
  refine sw_icmp_ge (off := 29) 60 (by decide +kernel) (by decide) (fun c1 => ?_) (fun c1 => ?_)
  · rw [if_pos c1] at h
    refine sw_iload 4 rfl (by decide +kernel) ?_
    refine sw_iload_n (k0 := 3) 3 rfl (by decide +kernel) rfl ?_
    obtain ⟨r2, w3, h⟩ := sw_b1_e h
    refine sw_callSi [.int a4, .int a3] (sX9_commonDivisor (K := K - 1) (by omega) σ a4 a3 w3) rfl (by omega) gs_X9_258 hy_X9_commonDivisor (by decide) rfl (Nat.le_of_ble_eq_true rfl) (by decide +kernel) ?_
    refine sw_istore (i := 5) (lv' := [(5, .int r2), (0, .ref 0), (1, .int a1), (2, .int a2), (3, .int a3), (4, .int a4)]) (by decide +kernel) (by decide) rfl ?_
    refine sw_iload 0 rfl (by decide +kernel) ?_
    refine sw_if_ne (off := 5) 75 (by decide +kernel) (by decide) (fun c4 => ?_) (fun c4 => ?_)
    · rw [if_neg c4] at h
      refine sw_iload_n (k0 := 2) 3 rfl (by decide +kernel) rfl ?_
      refine sw_if_ne (off := 10) 86 (by decide +kernel) (by decide) (fun c5 => ?_) (fun c5 => ?_)
      · rw [if_neg c5] at h
        refine sw_iload 5 rfl (by decide +kernel) ?_
        refine sw_iload 0 rfl (by decide +kernel) ?_
        obtain ⟨g6, h⟩ := sw_gd_e h
        refine sw_idiv (by decide +kernel) (sw_nz_e g6) ?_
        cases h
        obtain rfl : _ = res := hk
        exact sw_iret (by decide +kernel)
      · rw [if_pos c5] at h
        refine sw_iload_n (k0 := 3) 4 rfl (by decide +kernel) rfl ?_
        refine sw_iload 0 rfl (by decide +kernel) ?_
        obtain ⟨g7, h⟩ := sw_gd_e h
        refine sw_idiv (by decide +kernel) (sw_nz_e g7) ?_
        refine sw_goto (off := 8) 91 (by decide +kernel) (by decide) ?_
        cases h
        obtain rfl : _ = res := hk
        exact sw_iret (by decide +kernel)
    · rw [if_pos c4] at h
      refine sw_iconst (n := (-1)) (v := (-1)) (by decide +kernel) (by decide) ?_
      cases h
      obtain rfl : _ = res := hk
      exact sw_iret (by decide +kernel)
  · rw [if_neg c1] at h
    refine sw_iload_n (k0 := 3) 3 rfl (by decide +kernel) rfl ?_
    refine sw_bipush (n := 100) (v := 100) (by decide +kernel) (by decide) ?_
    refine sw_aload_n (k0 := 0) 0 rfl (by decide +kernel) rfl ?_
    refine gf_X9_19 (i := 0) (by decide) rfl (by decide +kernel) ?_
    refine gf_X9_255 (i := (sw_pl (σ.2.2 0))) (sw_pl_P _).o.1 (sw_pl_P _).o.2 (by decide +kernel) ?_
    refine sw_isub (by decide +kernel) ?_
    refine sw_imul (by decide +kernel) ?_
    obtain ⟨v8, e9, h⟩ := sw_let_e h
    refine sw_topi e9 ?_
    refine sw_istore_n (k0 := 3) (lv' := [(3, .int v8), (0, .ref 0), (1, .int a1), (2, .int a2), (4, .int a4), (5, .int a5)]) (by decide +kernel) rfl (by decide) rfl ?_
    refine sw_iload 4 rfl (by decide +kernel) ?_
    refine sw_bipush (n := 100) (v := 100) (by decide +kernel) (by decide) ?_
    refine sw_imul (by decide +kernel) ?_
    obtain ⟨v10, e11, h⟩ := sw_let_e h
    refine sw_topi e11 ?_
    refine sw_istore (i := 4) (lv' := [(4, .int v10), (3, .int v8), (0, .ref 0), (1, .int a1), (2, .int a2), (5, .int a5)]) (by decide +kernel) (by decide) rfl ?_
    obtain ⟨v12, e13, h⟩ := sw_let_e h
    refine sw_iincv (i := 5) (n := 1) (lv' := [(5, .int v12), (4, .int v10), (3, .int v8), (0, .ref 0), (1, .int a1), (2, .int a2)]) 5 rfl e13 (by decide +kernel) (by decide) (by decide) rfl ?_
    refine sw_goto (off := (-29)) 28 (by decide +kernel) (by decide) ?_
    cases h
    refine sw_lv [3, 4, 5, 2, 1, 0] rfl ?_
    exact hk
set_option maxRecDepth 20000 in
theorem sX9_odds {l : Launch} {E : sw_E} {K : Nat} (hK : 1 ≤ K) (σ : sw_M) (a1 : Int32) (a2 : Int32) {res : Int32} (h : fX9_odds σ a1 a2 = some res) : sw_Ct l E K yX9_odds cX9_odds 6 (some .int) [.ref 0, .int a1, .int a2] σ (some (.int res)) σ := by
  obtain ⟨t, hk, h⟩ : ∃ t, t = res ∧ fX9_odds σ a1 a2 = some t := ⟨res, rfl, h⟩
  unfold fX9_odds at h
  refine sw_enter2 (own := RX9) (lv := [(0, .ref 0), (1, .int a1), (2, .int a2)]) (by decide +kernel) (Nat.le_of_ble_eq_true rfl) rfl rfl ?_
  refine sw_iload_n (k0 := 1) 1 rfl (by decide +kernel) rfl ?_
  refine sw_if_lt (off := 17) 18 (by decide +kernel) (by decide) (fun c1 => ?_) (fun c1 => ?_)
  · rw [if_pos c1] at h
    refine sw_iconst (n := (-1)) (v := (-1)) (by decide +kernel) (by decide) ?_
    cases h
    obtain rfl : _ = res := hk
    exact sw_iret (by decide +kernel)
  · rw [if_neg c1] at h
    refine sw_iload_n (k0 := 1) 1 rfl (by decide +kernel) rfl ?_
    refine sw_iconst (n := 4) (v := 4) (by decide +kernel) (by decide) ?_
    refine sw_icmp_gt (off := 12) 18 (by decide +kernel) (by decide) (fun c2 => ?_) (fun c2 => ?_)
    · rw [if_pos c2] at h
      refine sw_iconst (n := (-1)) (v := (-1)) (by decide +kernel) (by decide) ?_
      cases h
      obtain rfl : _ = res := hk
      exact sw_iret (by decide +kernel)
    · rw [if_neg c2] at h
      refine sw_iload_n (k0 := 2) 2 rfl (by decide +kernel) rfl ?_
      refine sw_if_lt (off := 8) 18 (by decide +kernel) (by decide) (fun c3 => ?_) (fun c3 => ?_)
      · rw [if_pos c3] at h
        refine sw_iconst (n := (-1)) (v := (-1)) (by decide +kernel) (by decide) ?_
        cases h
        obtain rfl : _ = res := hk
        exact sw_iret (by decide +kernel)
      · rw [if_neg c3] at h
        refine sw_iload_n (k0 := 2) 2 rfl (by decide +kernel) rfl ?_
        refine sw_iconst (n := 1) (v := 1) (by decide +kernel) (by decide) ?_
        refine sw_icmp_le (off := 5) 20 (by decide +kernel) (by decide) (fun c4 => ?_) (fun c4 => ?_)
        · rw [if_pos c4] at h
          refine sw_iconst (n := 1) (v := 1) (by decide +kernel) (by decide) ?_
          refine sw_istore_n (k0 := 3) (lv' := [(3, .int 1), (0, .ref 0), (1, .int a1), (2, .int a2)]) (by decide +kernel) rfl (by decide) rfl ?_
          refine sw_iconst (n := 1) (v := 1) (by decide +kernel) (by decide) ?_
          refine sw_istore (i := 4) (lv' := [(4, .int 1), (3, .int 1), (0, .ref 0), (1, .int a1), (2, .int a2)]) (by decide +kernel) (by decide) rfl ?_
          refine sw_iconst (n := 0) (v := 0) (by decide +kernel) (by decide) ?_
          refine sw_istore (i := 5) (lv' := [(5, .int 0), (4, .int 1), (3, .int 1), (0, .ref 0), (1, .int a1), (2, .int a2)]) (by decide +kernel) (by decide) rfl ?_
          refine sw_lv [3, 4, 5, 2, 1, 0] rfl ?_
          exact sw_wh_e (fun s : Int32 × Int32 × Int32 => sw_Go l E K RX9 cX9_odds 6 (some .int) 28 [(0, .ref 0), (1, .int a1), (2, .int a2), (3, .int s.1), (4, .int s.2.1), (5, .int s.2.2)] [] σ (some (.int res)) σ) (fun q => q = res) (fun s => fX9_odds_L28 σ a1 a2 s.1 s.2.1 s.2.2) (fun s t hb hk => sX9_odds_L28 hK σ a1 a2 s.1 s.2.1 s.2.2 hb hk) _ _ _ h hk
        · rw [if_neg c4] at h
          refine sw_iconst (n := (-1)) (v := (-1)) (by decide +kernel) (by decide) ?_
          cases h
          obtain rfl : _ = res := hk
          exact sw_iret (by decide +kernel)
def fX9_lies (σ : sw_M) (a1 : Int32) : Option (Int32) :=
  if a1 < 0 then
    some ((-2))
  else
    if (σ.1 0 8) ≤ a1 then
      some ((-2))
    else
      if a1 < 6 then
        sw_gd (sw_in a1 6) <|
        some (σ.1 48 a1.toNatClampNeg)
      else
        some ((-2))
set_option maxRecDepth 20000 in
theorem sX9_lies {l : Launch} {E : sw_E} {K : Nat} (hK : 0 ≤ K) (σ : sw_M) (a1 : Int32) {res : Int32} (h : fX9_lies σ a1 = some res) : sw_Ct l E K yX9_lies cX9_lies 2 (some .int) [.ref 0, .int a1] σ (some (.int res)) σ := by
  obtain ⟨t, hk, h⟩ : ∃ t, t = res ∧ fX9_lies σ a1 = some t := ⟨res, rfl, h⟩
  unfold fX9_lies at h
  refine sw_enter2 (own := RX9) (lv := [(0, .ref 0), (1, .int a1)]) (by decide +kernel) (Nat.le_of_ble_eq_true rfl) rfl rfl ?_
  refine sw_iload_n (k0 := 1) 1 rfl (by decide +kernel) rfl ?_
  refine sw_if_lt (off := 20) 21 (by decide +kernel) (by decide) (fun c1 => ?_) (fun c1 => ?_)
  · rw [if_pos c1] at h
    refine sw_bipush (n := (-2)) (v := (-2)) (by decide +kernel) (by decide) ?_
    refine sw_goto (off := 9) 32 (by decide +kernel) (by decide) ?_
    cases h
    obtain rfl : _ = res := hk
    exact sw_iret (by decide +kernel)
  · rw [if_neg c1] at h
    refine sw_iload_n (k0 := 1) 1 rfl (by decide +kernel) rfl ?_
    refine sw_aload_n (k0 := 0) 0 rfl (by decide +kernel) rfl ?_
    refine gf_X9_97 (i := 0) (by decide) rfl (by decide +kernel) ?_
    refine sw_icmp_ge (off := 12) 21 (by decide +kernel) (by decide) (fun c2 => ?_) (fun c2 => ?_)
    · rw [if_pos c2] at h
      refine sw_bipush (n := (-2)) (v := (-2)) (by decide +kernel) (by decide) ?_
      refine sw_goto (off := 9) 32 (by decide +kernel) (by decide) ?_
      cases h
      obtain rfl : _ = res := hk
      exact sw_iret (by decide +kernel)
    · rw [if_neg c2] at h
      refine sw_iload_n (k0 := 1) 1 rfl (by decide +kernel) rfl ?_
      refine sw_aload_n (k0 := 0) 0 rfl (by decide +kernel) rfl ?_
      refine gf_X9_58 (i := 0) (by decide) rfl (by decide +kernel) ?_
      refine sw_refj 48 rfl ?_
      refine sw_alen (a := 48) (v := 6) (by decide) rfl (by decide) (by decide) (by decide +kernel) ?_
      refine sw_icmp_lt (off := 8) 26 (by decide +kernel) (by decide) (fun c3 => ?_) (fun c3 => ?_)
      · rw [if_pos c3] at h
        refine sw_aload_n (k0 := 0) 0 rfl (by decide +kernel) rfl ?_
        refine gf_X9_58 (i := 0) (by decide) rfl (by decide +kernel) ?_
        refine sw_refj 48 rfl ?_
        refine sw_iload_n (k0 := 1) 1 rfl (by decide +kernel) rfl ?_
        obtain ⟨g4, h⟩ := sw_gd_e h
        refine sw_iaload (a := 48) (by decide) rfl (sw_in_e g4) (by decide +kernel) ?_
        cases h
        obtain rfl : _ = res := hk
        exact sw_iret (by decide +kernel)
      · rw [if_neg c3] at h
        refine sw_bipush (n := (-2)) (v := (-2)) (by decide +kernel) (by decide) ?_
        refine sw_goto (off := 9) 32 (by decide +kernel) (by decide) ?_
        cases h
        obtain rfl : _ = res := hk
        exact sw_iret (by decide +kernel)
def fX9_seen (σ : sw_M) (a1 : Int32) (a2 : Int32) (a3 : Int32) (a4 : Int32) : Option (Int32 × sw_M) :=
  if (σ.1 (sw_pl (σ.2.2 0)) 1) = 0 then
    some (((-1), σ))
  else
    if (fX4_isKind (sw_pl (σ.2.2 0)) σ a2) = 0 then
      some (((-1), σ))
    else
      if a1 < 0 then
        some (((-1), σ))
      else
        if a1 ≤ 12 then
          if a3 < 0 then
            some (((-1), σ))
          else
            if a3 ≤ 999 then
              sw_b2 (fX6_add σ a1 a2 a3 a4 (σ.1 0 9)) fun r7 m8 =>
              some ((r7, m8))
            else
              some (((-1), σ))
        else
          some (((-1), σ))
set_option maxRecDepth 20000 in
theorem sX9_seen {l : Launch} {E : sw_E} {K : Nat} (hK : 1 ≤ K) (σ : sw_M) (a1 : Int32) (a2 : Int32) (a3 : Int32) (a4 : Int32) {res : Int32 × sw_M} (h : fX9_seen σ a1 a2 a3 a4 = some res) : sw_Ct l E K yX9_seen cX9_seen 5 (some .int) [.ref 0, .int a1, .int a2, .int a3, .int a4] σ (some (.int res.1)) res.2 := by
  obtain ⟨t, hk, h⟩ : ∃ t, t = res ∧ fX9_seen σ a1 a2 a3 a4 = some t := ⟨res, rfl, h⟩
  unfold fX9_seen at h
  refine sw_enter2 (own := RX9) (lv := [(0, .ref 0), (1, .int a1), (2, .int a2), (3, .int a3), (4, .int a4)]) (by decide +kernel) (Nat.le_of_ble_eq_true rfl) rfl rfl ?_
  refine sw_aload_n (k0 := 0) 0 rfl (by decide +kernel) rfl ?_
  refine gf_X9_19 (i := 0) (by decide) rfl (by decide +kernel) ?_
  refine gf_X9_100 (i := (sw_pl (σ.2.2 0))) (sw_pl_P _).o.1 (sw_pl_P _).o.2 (by decide +kernel) ?_
  refine sw_if_eq (off := 14) 21 (by decide +kernel) (by decide) (fun c1 => ?_) (fun c1 => ?_)
  · rw [if_pos c1] at h
    refine sw_iconst (n := (-1)) (v := (-1)) (by decide +kernel) (by decide) ?_
    cases h
    obtain rfl : _ = res := hk
    exact sw_iret (by decide +kernel)
  · rw [if_neg c1] at h
    refine sw_aload_n (k0 := 0) 0 rfl (by decide +kernel) rfl ?_
    refine gf_X9_19 (i := 0) (by decide) rfl (by decide +kernel) ?_
    refine sw_iload_n (k0 := 2) 2 rfl (by decide +kernel) rfl ?_
    refine sw_callVi (ci := 4) (i := (sw_pl (σ.2.2 0))) [.int a2] (sX4_isKind (K := K - 1) (by omega) (sw_pl (σ.2.2 0)) (sw_pl_P _) σ a2 rfl) rfl (by omega) rfl gs_X9_109 hy_X4_isKind (by decide) (sw_pl_P _).o.1 (sw_pl_P _).o.2 rfl (Nat.le_of_ble_eq_true rfl) (by decide +kernel) ?_
    refine sw_if_ne (off := 5) 23 (by decide +kernel) (by decide) (fun c2 => ?_) (fun c2 => ?_)
    · rw [if_neg c2] at h
      refine sw_iload_n (k0 := 1) 1 rfl (by decide +kernel) rfl ?_
      refine sw_if_lt (off := 9) 33 (by decide +kernel) (by decide) (fun c3 => ?_) (fun c3 => ?_)
      · rw [if_pos c3] at h
        refine sw_iconst (n := (-1)) (v := (-1)) (by decide +kernel) (by decide) ?_
        cases h
        obtain rfl : _ = res := hk
        exact sw_iret (by decide +kernel)
      · rw [if_neg c3] at h
        refine sw_iload_n (k0 := 1) 1 rfl (by decide +kernel) rfl ?_
        refine sw_bipush (n := 12) (v := 12) (by decide +kernel) (by decide) ?_
        refine sw_icmp_le (off := 5) 35 (by decide +kernel) (by decide) (fun c4 => ?_) (fun c4 => ?_)
        · rw [if_pos c4] at h
          refine sw_iload_n (k0 := 3) 3 rfl (by decide +kernel) rfl ?_
          refine sw_if_lt (off := 10) 46 (by decide +kernel) (by decide) (fun c5 => ?_) (fun c5 => ?_)
          · rw [if_pos c5] at h
            refine sw_iconst (n := (-1)) (v := (-1)) (by decide +kernel) (by decide) ?_
            cases h
            obtain rfl : _ = res := hk
            exact sw_iret (by decide +kernel)
          · rw [if_neg c5] at h
            refine sw_iload_n (k0 := 3) 3 rfl (by decide +kernel) rfl ?_
            refine sw_sipush (n := 999) (v := 999) (by decide +kernel) (by decide) ?_
            refine sw_icmp_le (off := 5) 48 (by decide +kernel) (by decide) (fun c6 => ?_) (fun c6 => ?_)
            · rw [if_pos c6] at h
              refine sw_aload_n (k0 := 0) 0 rfl (by decide +kernel) rfl ?_
              refine gf_X9_54 (i := 0) (by decide) rfl (by decide +kernel) ?_
              refine sw_refj 39 rfl ?_
              refine sw_iload_n (k0 := 1) 1 rfl (by decide +kernel) rfl ?_
              refine sw_iload_n (k0 := 2) 2 rfl (by decide +kernel) rfl ?_
              refine sw_iload_n (k0 := 3) 3 rfl (by decide +kernel) rfl ?_
              refine sw_iload 4 rfl (by decide +kernel) ?_
              refine sw_aload_n (k0 := 0) 0 rfl (by decide +kernel) rfl ?_
              refine gf_X9_261 (i := 0) (by decide) rfl (by decide +kernel) ?_
              obtain ⟨r7, m8, w9, h⟩ := sw_b2_e h
              refine sw_callVi (ci := 6) (i := 39) [.int a1, .int a2, .int a3, .int a4, .int (σ.1 0 9)] (sX6_add (K := K - 1) (by omega) σ a1 a2 a3 a4 (σ.1 0 9) w9) rfl (by omega) rfl gs_X9_264 hy_X6_add (by decide) (by decide) rfl rfl (Nat.le_of_ble_eq_true rfl) (by decide +kernel) ?_
              cases h
              obtain rfl : _ = res := hk
              exact sw_iret (by decide +kernel)
            · rw [if_neg c6] at h
              refine sw_iconst (n := (-1)) (v := (-1)) (by decide +kernel) (by decide) ?_
              cases h
              obtain rfl : _ = res := hk
              exact sw_iret (by decide +kernel)
        · rw [if_neg c4] at h
          refine sw_iconst (n := (-1)) (v := (-1)) (by decide +kernel) (by decide) ?_
          cases h
          obtain rfl : _ = res := hk
          exact sw_iret (by decide +kernel)
    · rw [if_pos c2] at h
      refine sw_iconst (n := (-1)) (v := (-1)) (by decide +kernel) (by decide) ?_
      cases h
      obtain rfl : _ = res := hk
      exact sw_iret (by decide +kernel)
def fX9_untell (σ : sw_M) (a1 : Int32) : Option (Int32 × sw_M) :=
  sw_b2 (fX6_takeBack σ a1 (σ.1 0 9)) fun r1 m2 =>
  sw_gd (sw_bo r1) <|
  some ((r1, m2))
set_option maxRecDepth 20000 in
theorem sX9_untell {l : Launch} {E : sw_E} {K : Nat} (hK : 1 ≤ K) (σ : sw_M) (a1 : Int32) {res : Int32 × sw_M} (h : fX9_untell σ a1 = some res) : sw_Ct l E K yX9_untell cX9_untell 2 (some .boolean) [.ref 0, .int a1] σ (some (.int res.1)) res.2 := by
  obtain ⟨t, hk, h⟩ : ∃ t, t = res ∧ fX9_untell σ a1 = some t := ⟨res, rfl, h⟩
  unfold fX9_untell at h
  refine sw_enter2 (own := RX9) (lv := [(0, .ref 0), (1, .int a1)]) (by decide +kernel) (Nat.le_of_ble_eq_true rfl) rfl rfl ?_
  refine sw_aload_n (k0 := 0) 0 rfl (by decide +kernel) rfl ?_
  refine gf_X9_54 (i := 0) (by decide) rfl (by decide +kernel) ?_
  refine sw_refj 39 rfl ?_
  refine sw_iload_n (k0 := 1) 1 rfl (by decide +kernel) rfl ?_
  refine sw_aload_n (k0 := 0) 0 rfl (by decide +kernel) rfl ?_
  refine gf_X9_261 (i := 0) (by decide) rfl (by decide +kernel) ?_
  obtain ⟨r1, m2, w3, h⟩ := sw_b2_e h
  refine sw_callVi (ci := 6) (i := 39) [.int a1, .int (σ.1 0 9)] (sX6_takeBack (K := K - 1) (by omega) σ a1 (σ.1 0 9) w3) rfl (by omega) rfl gs_X9_268 hy_X6_takeBack (by decide) (by decide) rfl rfl (Nat.le_of_ble_eq_true rfl) (by decide +kernel) ?_
  obtain ⟨g4, h⟩ := sw_gd_e h
  cases h
  obtain rfl : _ = res := hk
  exact sw_zret (sw_bo_n (sw_bo_e g4)) (by decide +kernel)
def fX9_later (σ : sw_M) (a1 : Int32) : Option (Int32 × sw_M) :=
  if a1 < 0 then
    some (((-1), σ))
  else
    if 1000 < a1 then
      some (((-1), σ))
    else
      if ((σ.1 0 9) + a1) ≤ 100000 then
        sw_let (sw_w σ 0 9 ((σ.1 0 9) + a1)) fun m4 =>
        some ((m4.1 0 9, m4))
      else
        some (((-1), σ))
set_option maxRecDepth 20000 in
theorem sX9_later {l : Launch} {E : sw_E} {K : Nat} (hK : 0 ≤ K) (σ : sw_M) (a1 : Int32) {res : Int32 × sw_M} (h : fX9_later σ a1 = some res) : sw_Ct l E K yX9_later cX9_later 2 (some .int) [.ref 0, .int a1] σ (some (.int res.1)) res.2 := by
  obtain ⟨t, hk, h⟩ : ∃ t, t = res ∧ fX9_later σ a1 = some t := ⟨res, rfl, h⟩
  unfold fX9_later at h
  refine sw_enter2 (own := RX9) (lv := [(0, .ref 0), (1, .int a1)]) (by decide +kernel) (Nat.le_of_ble_eq_true rfl) rfl rfl ?_
  refine sw_iload_n (k0 := 1) 1 rfl (by decide +kernel) rfl ?_
  refine sw_if_lt (off := 22) 23 (by decide +kernel) (by decide) (fun c1 => ?_) (fun c1 => ?_)
  · rw [if_pos c1] at h
    refine sw_iconst (n := (-1)) (v := (-1)) (by decide +kernel) (by decide) ?_
    cases h
    obtain rfl : _ = res := hk
    exact sw_iret (by decide +kernel)
  · rw [if_neg c1] at h
    refine sw_iload_n (k0 := 1) 1 rfl (by decide +kernel) rfl ?_
    refine sw_sipush (n := 1000) (v := 1000) (by decide +kernel) (by decide) ?_
    refine sw_icmp_gt (off := 15) 23 (by decide +kernel) (by decide) (fun c2 => ?_) (fun c2 => ?_)
    · rw [if_pos c2] at h
      refine sw_iconst (n := (-1)) (v := (-1)) (by decide +kernel) (by decide) ?_
      cases h
      obtain rfl : _ = res := hk
      exact sw_iret (by decide +kernel)
    · rw [if_neg c2] at h
      refine sw_aload_n (k0 := 0) 0 rfl (by decide +kernel) rfl ?_
      refine gf_X9_261 (i := 0) (by decide) rfl (by decide +kernel) ?_
      refine sw_iload_n (k0 := 1) 1 rfl (by decide +kernel) rfl ?_
      refine sw_iadd (by decide +kernel) ?_
      refine sw_ldcw kn_X9_270 (by decide +kernel) ?_
      refine sw_icmp_le (off := 5) 25 (by decide +kernel) (by decide) (fun c3 => ?_) (fun c3 => ?_)
      · rw [if_pos c3] at h
        refine sw_aload_n (k0 := 0) 0 rfl (by decide +kernel) rfl ?_
        refine sw_dup (by decide +kernel) rfl ?_
        refine gf_X9_261 (i := 0) (by decide) rfl (by decide +kernel) ?_
        refine sw_iload_n (k0 := 1) 1 rfl (by decide +kernel) rfl ?_
        refine sw_iadd (by decide +kernel) ?_
        obtain ⟨m4, e5, h⟩ := sw_let_e h
        refine pf_X9_261 (by decide) rfl (by decide +kernel) ?_
        refine sw_mem e5 ?_
        refine sw_aload_n (k0 := 0) 0 rfl (by decide +kernel) rfl ?_
        refine gf_X9_261 (i := 0) (by decide) rfl (by decide +kernel) ?_
        cases h
        obtain rfl : _ = res := hk
        exact sw_iret (by decide +kernel)
      · rw [if_neg c3] at h
        refine sw_iconst (n := (-1)) (v := (-1)) (by decide +kernel) (by decide) ?_
        cases h
        obtain rfl : _ = res := hk
        exact sw_iret (by decide +kernel)
def fX9_fits (σ : sw_M) (a1 : Int32) : Option (Int32 × sw_M) :=
  sw_b2 (fX6_fitting (sw_pl (σ.2.2 0)) σ a1) fun r1 m2 =>
  some ((fJ6_bitCount_0f7a4 r1, m2))
set_option maxRecDepth 20000 in
theorem sX9_fits {l : Launch} {E : sw_E} {K : Nat} (hK : 6 ≤ K) (σ : sw_M) (a1 : Int32) {res : Int32 × sw_M} (h : fX9_fits σ a1 = some res) : sw_Ct l E K yX9_fits cX9_fits 2 (some .int) [.ref 0, .int a1] σ (some (.int res.1)) res.2 := by
  obtain ⟨t, hk, h⟩ : ∃ t, t = res ∧ fX9_fits σ a1 = some t := ⟨res, rfl, h⟩
  unfold fX9_fits at h
  refine sw_enter2 (own := RX9) (lv := [(0, .ref 0), (1, .int a1)]) (by decide +kernel) (Nat.le_of_ble_eq_true rfl) rfl rfl ?_
  refine sw_aload_n (k0 := 0) 0 rfl (by decide +kernel) rfl ?_
  refine gf_X9_54 (i := 0) (by decide) rfl (by decide +kernel) ?_
  refine sw_refj 39 rfl ?_
  refine sw_aload_n (k0 := 0) 0 rfl (by decide +kernel) rfl ?_
  refine gf_X9_19 (i := 0) (by decide) rfl (by decide +kernel) ?_
  refine sw_iload_n (k0 := 1) 1 rfl (by decide +kernel) rfl ?_
  obtain ⟨r1, m2, w3, h⟩ := sw_b2_e h
  refine sw_callVi (ci := 6) (i := 39) [.ref (sw_pl (σ.2.2 0)), .int a1] (sX6_fitting (K := K - 1) (by omega) (sw_pl (σ.2.2 0)) (sw_pl_P _) σ a1 w3) rfl (by omega) rfl gs_X9_271 hy_X6_fitting (by decide) (by decide) rfl rfl (Nat.le_of_ble_eq_true rfl) (by decide +kernel) ?_
  refine sw_callSi [.int r1] (sJ6_bitCount_0f7a4 (K := K - 1) (by omega) m2 r1 rfl) rfl (by omega) gs_X9_230 hy_J6_bitCount_0f7a4 (by decide) rfl (Nat.le_of_ble_eq_true rfl) (by decide +kernel) ?_
  cases h
  obtain rfl : _ = res := hk
  exact sw_iret (by decide +kernel)
def fJ6_numberOfLeadingZeros_0f7a4_L73 (a0 : Int32) (a1 : Int32) : Int32 :=
  a1 - ((a0.toUInt32 >>> ((1 : Int32).toUInt32 &&& Int32.toUInt32 31)).toInt32)
def fJ6_numberOfLeadingZeros_0f7a4_L61 (a0 : Int32) (a1 : Int32) : Int32 :=
  if a0 < 4 then
    fJ6_numberOfLeadingZeros_0f7a4_L73 a0 a1
  else
    sw_let (a1 + (-2)) fun v2 =>
    sw_let ((a0.toUInt32 >>> ((2 : Int32).toUInt32 &&& Int32.toUInt32 31)).toInt32) fun v4 =>
    fJ6_numberOfLeadingZeros_0f7a4_L73 v4 v2
def fJ6_numberOfLeadingZeros_0f7a4_L48 (a0 : Int32) (a1 : Int32) : Int32 :=
  if a0 < 16 then
    fJ6_numberOfLeadingZeros_0f7a4_L61 a0 a1
  else
    sw_let (a1 + (-4)) fun v2 =>
    sw_let ((a0.toUInt32 >>> ((4 : Int32).toUInt32 &&& Int32.toUInt32 31)).toInt32) fun v4 =>
    fJ6_numberOfLeadingZeros_0f7a4_L61 v4 v2
def fJ6_numberOfLeadingZeros_0f7a4_L33 (a0 : Int32) (a1 : Int32) : Int32 :=
  if a0 < 256 then
    fJ6_numberOfLeadingZeros_0f7a4_L48 a0 a1
  else
    sw_let (a1 + (-8)) fun v2 =>
    sw_let ((a0.toUInt32 >>> ((8 : Int32).toUInt32 &&& Int32.toUInt32 31)).toInt32) fun v4 =>
    fJ6_numberOfLeadingZeros_0f7a4_L48 v4 v2
def fJ6_numberOfLeadingZeros_0f7a4 (a0 : Int32) : Int32 :=
  if (0 : Int32) < a0 then
    if a0 < 65536 then
      fJ6_numberOfLeadingZeros_0f7a4_L33 a0 31
    else
      sw_let (31 + (-16)) fun v3 =>
      sw_let ((a0.toUInt32 >>> ((16 : Int32).toUInt32 &&& Int32.toUInt32 31)).toInt32) fun v5 =>
      fJ6_numberOfLeadingZeros_0f7a4_L33 v5 v3
  else
    if a0 = 0 then
      32
    else
      0
set_option maxRecDepth 20000 in
theorem sJ6_numberOfLeadingZeros_0f7a4_L73 {l : Launch} {E : sw_E} {K : Nat} (hK : 0 ≤ K) (σ : sw_M) (a0 : Int32) (a1 : Int32) {res : Int32} {t : (Int32)} (h : fJ6_numberOfLeadingZeros_0f7a4_L73 a0 a1 = t) (hk : (fun q => q = res) t) : sw_Go l E K RJ6 cJ6_numberOfLeadingZeros_0f7a4 2 (some .int) 73 [(0, .int a0), (1, .int a1)] [] σ (some (.int res)) σ := by
  unfold fJ6_numberOfLeadingZeros_0f7a4_L73 at h
  refine sw_iload_n (k0 := 1) 1 rfl (by decide +kernel) rfl ?_
  refine sw_iload_n (k0 := 0) 0 rfl (by decide +kernel) rfl ?_
  refine sw_iconst (n := 1) (v := 1) (by decide +kernel) (by decide) ?_
  refine sw_iushr (by decide +kernel) ?_
  refine sw_isub (by decide +kernel) ?_
  subst h
  obtain rfl : _ = res := hk
  exact sw_iret (by decide +kernel)
set_option maxRecDepth 20000 in
theorem sJ6_numberOfLeadingZeros_0f7a4_L61 {l : Launch} {E : sw_E} {K : Nat} (hK : 0 ≤ K) (σ : sw_M) (a0 : Int32) (a1 : Int32) {res : Int32} {t : (Int32)} (h : fJ6_numberOfLeadingZeros_0f7a4_L61 a0 a1 = t) (hk : (fun q => q = res) t) : sw_Go l E K RJ6 cJ6_numberOfLeadingZeros_0f7a4 2 (some .int) 61 [(0, .int a0), (1, .int a1)] [] σ (some (.int res)) σ := by
  unfold fJ6_numberOfLeadingZeros_0f7a4_L61 at h
  refine sw_iload_n (k0 := 0) 0 rfl (by decide +kernel) rfl ?_
  refine sw_iconst (n := 4) (v := 4) (by decide +kernel) (by decide) ?_
  refine sw_icmp_lt (off := 10) 73 (by decide +kernel) (by decide) (fun c1 => ?_) (fun c1 => ?_)
  · rw [if_pos c1] at h
    exact sJ6_numberOfLeadingZeros_0f7a4_L73 hK σ a0 a1 h hk
  · rw [if_neg c1] at h
    obtain ⟨v2, e3, h⟩ := sw_let_e h
    refine sw_iincv (i := 1) (n := (-2)) (lv' := [(1, .int v2), (0, .int a0)]) 1 rfl e3 (by decide +kernel) (by decide) (by decide) rfl ?_
    refine sw_iload_n (k0 := 0) 1 rfl (by decide +kernel) rfl ?_
    refine sw_iconst (n := 2) (v := 2) (by decide +kernel) (by decide) ?_
    refine sw_iushr (by decide +kernel) ?_
    obtain ⟨v4, e5, h⟩ := sw_let_e h
    refine sw_topi e5 ?_
    refine sw_istore_n (k0 := 0) (lv' := [(0, .int v4), (1, .int v2)]) (by decide +kernel) rfl (by decide) rfl ?_
    exact sJ6_numberOfLeadingZeros_0f7a4_L73 hK σ v4 v2 h hk
set_option maxRecDepth 20000 in
theorem sJ6_numberOfLeadingZeros_0f7a4_L48 {l : Launch} {E : sw_E} {K : Nat} (hK : 0 ≤ K) (σ : sw_M) (a0 : Int32) (a1 : Int32) {res : Int32} {t : (Int32)} (h : fJ6_numberOfLeadingZeros_0f7a4_L48 a0 a1 = t) (hk : (fun q => q = res) t) : sw_Go l E K RJ6 cJ6_numberOfLeadingZeros_0f7a4 2 (some .int) 48 [(0, .int a0), (1, .int a1)] [] σ (some (.int res)) σ := by
  unfold fJ6_numberOfLeadingZeros_0f7a4_L48 at h
  refine sw_iload_n (k0 := 0) 0 rfl (by decide +kernel) rfl ?_
  refine sw_bipush (n := 16) (v := 16) (by decide +kernel) (by decide) ?_
  refine sw_icmp_lt (off := 10) 61 (by decide +kernel) (by decide) (fun c1 => ?_) (fun c1 => ?_)
  · rw [if_pos c1] at h
    exact sJ6_numberOfLeadingZeros_0f7a4_L61 hK σ a0 a1 h hk
  · rw [if_neg c1] at h
    obtain ⟨v2, e3, h⟩ := sw_let_e h
    refine sw_iincv (i := 1) (n := (-4)) (lv' := [(1, .int v2), (0, .int a0)]) 1 rfl e3 (by decide +kernel) (by decide) (by decide) rfl ?_
    refine sw_iload_n (k0 := 0) 1 rfl (by decide +kernel) rfl ?_
    refine sw_iconst (n := 4) (v := 4) (by decide +kernel) (by decide) ?_
    refine sw_iushr (by decide +kernel) ?_
    obtain ⟨v4, e5, h⟩ := sw_let_e h
    refine sw_topi e5 ?_
    refine sw_istore_n (k0 := 0) (lv' := [(0, .int v4), (1, .int v2)]) (by decide +kernel) rfl (by decide) rfl ?_
    exact sJ6_numberOfLeadingZeros_0f7a4_L61 hK σ v4 v2 h hk
set_option maxRecDepth 20000 in
theorem sJ6_numberOfLeadingZeros_0f7a4_L33 {l : Launch} {E : sw_E} {K : Nat} (hK : 0 ≤ K) (σ : sw_M) (a0 : Int32) (a1 : Int32) {res : Int32} {t : (Int32)} (h : fJ6_numberOfLeadingZeros_0f7a4_L33 a0 a1 = t) (hk : (fun q => q = res) t) : sw_Go l E K RJ6 cJ6_numberOfLeadingZeros_0f7a4 2 (some .int) 33 [(0, .int a0), (1, .int a1)] [] σ (some (.int res)) σ := by
  unfold fJ6_numberOfLeadingZeros_0f7a4_L33 at h
  refine sw_iload_n (k0 := 0) 0 rfl (by decide +kernel) rfl ?_
  refine sw_sipush (n := 256) (v := 256) (by decide +kernel) (by decide) ?_
  refine sw_icmp_lt (off := 11) 48 (by decide +kernel) (by decide) (fun c1 => ?_) (fun c1 => ?_)
  · rw [if_pos c1] at h
    exact sJ6_numberOfLeadingZeros_0f7a4_L48 hK σ a0 a1 h hk
  · rw [if_neg c1] at h
    obtain ⟨v2, e3, h⟩ := sw_let_e h
    refine sw_iincv (i := 1) (n := (-8)) (lv' := [(1, .int v2), (0, .int a0)]) 1 rfl e3 (by decide +kernel) (by decide) (by decide) rfl ?_
    refine sw_iload_n (k0 := 0) 1 rfl (by decide +kernel) rfl ?_
    refine sw_bipush (n := 8) (v := 8) (by decide +kernel) (by decide) ?_
    refine sw_iushr (by decide +kernel) ?_
    obtain ⟨v4, e5, h⟩ := sw_let_e h
    refine sw_topi e5 ?_
    refine sw_istore_n (k0 := 0) (lv' := [(0, .int v4), (1, .int v2)]) (by decide +kernel) rfl (by decide) rfl ?_
    exact sJ6_numberOfLeadingZeros_0f7a4_L48 hK σ v4 v2 h hk
set_option maxRecDepth 20000 in
theorem sJ6_numberOfLeadingZeros_0f7a4 {l : Launch} {E : sw_E} {K : Nat} (hK : 0 ≤ K) (σ : sw_M) (a0 : Int32) {res : Int32} (h : fJ6_numberOfLeadingZeros_0f7a4 a0 = res) : sw_Ct l E K yJ6_numberOfLeadingZeros_0f7a4 cJ6_numberOfLeadingZeros_0f7a4 2 (some .int) [.int a0] σ (some (.int res)) σ := by
  obtain ⟨t, hk, h⟩ : ∃ t, t = res ∧ fJ6_numberOfLeadingZeros_0f7a4 a0 = t := ⟨res, rfl, h⟩
  unfold fJ6_numberOfLeadingZeros_0f7a4 at h
  refine sw_enter2 (own := RJ6) (lv := [(0, .int a0)]) (by decide +kernel) (Nat.le_of_ble_eq_true rfl) rfl rfl ?_
  refine sw_iload_n (k0 := 0) 0 rfl (by decide +kernel) rfl ?_
  refine sw_if_gt (off := 14) 15 (by decide +kernel) (by decide) (fun c1 => ?_) (fun c1 => ?_)
  · rw [if_pos c1] at h
    refine sw_bipush (n := 31) (v := 31) (by decide +kernel) (by decide) ?_
    refine sw_istore_n (k0 := 1) (lv' := [(1, .int 31), (0, .int a0)]) (by decide +kernel) rfl (by decide) rfl ?_
    refine sw_iload_n (k0 := 0) 1 rfl (by decide +kernel) rfl ?_
    refine sw_ldcw kn_J6_264 (by decide +kernel) ?_
    refine sw_icmp_lt (off := 11) 33 (by decide +kernel) (by decide) (fun c2 => ?_) (fun c2 => ?_)
    · rw [if_pos c2] at h
      refine sw_lv [1, 0] rfl ?_
      exact sJ6_numberOfLeadingZeros_0f7a4_L33 hK σ a0 31 h hk
    · rw [if_neg c2] at h
      obtain ⟨v3, e4, h⟩ := sw_let_e h
      refine sw_iincv (i := 1) (n := (-16)) (lv' := [(1, .int v3), (0, .int a0)]) 0 rfl e4 (by decide +kernel) (by decide) (by decide) rfl ?_
      refine sw_iload_n (k0 := 0) 1 rfl (by decide +kernel) rfl ?_
      refine sw_bipush (n := 16) (v := 16) (by decide +kernel) (by decide) ?_
      refine sw_iushr (by decide +kernel) ?_
      obtain ⟨v5, e6, h⟩ := sw_let_e h
      refine sw_topi e6 ?_
      refine sw_istore_n (k0 := 0) (lv' := [(0, .int v5), (1, .int v3)]) (by decide +kernel) rfl (by decide) rfl ?_
      exact sJ6_numberOfLeadingZeros_0f7a4_L33 hK σ v5 v3 h hk
  · rw [if_neg c1] at h
    refine sw_iload_n (k0 := 0) 0 rfl (by decide +kernel) rfl ?_
    refine sw_if_ne (off := 8) 13 (by decide +kernel) (by decide) (fun c7 => ?_) (fun c7 => ?_)
    · rw [if_neg c7] at h
      refine sw_iconst (n := 0) (v := 0) (by decide +kernel) (by decide) ?_
      subst h
      obtain rfl : _ = res := hk
      exact sw_iret (by decide +kernel)
    · rw [if_pos c7] at h
      refine sw_bipush (n := 32) (v := 32) (by decide +kernel) (by decide) ?_
      refine sw_goto (off := 4) 14 (by decide +kernel) (by decide) ?_
      subst h
      obtain rfl : _ = res := hk
      exact sw_iret (by decide +kernel)
def fX9_sure (σ : sw_M) (a1 : Int32) (a2 : Int32) : Option (Int32 × sw_M) :=
  if a1 < 0 then
    some (((-1), σ))
  else
    if a1 ≤ 1 then
      sw_b2 (fX6_fitting (sw_pl (σ.2.2 0)) σ a2) fun r3 m4 =>
      if r3 = 0 then
        some (((-1), m4))
      else
        if a1 = 0 then
          some ((fJ6_numberOfTrailingZeros_0f7a4 r3, m4))
        else
          some ((31 - (fJ6_numberOfLeadingZeros_0f7a4 r3), m4))
    else
      some (((-1), σ))
set_option maxRecDepth 20000 in
theorem sX9_sure {l : Launch} {E : sw_E} {K : Nat} (hK : 6 ≤ K) (σ : sw_M) (a1 : Int32) (a2 : Int32) {res : Int32 × sw_M} (h : fX9_sure σ a1 a2 = some res) : sw_Ct l E K yX9_sure cX9_sure 4 (some .int) [.ref 0, .int a1, .int a2] σ (some (.int res.1)) res.2 := by
  obtain ⟨t, hk, h⟩ : ∃ t, t = res ∧ fX9_sure σ a1 a2 = some t := ⟨res, rfl, h⟩
  unfold fX9_sure at h
  refine sw_enter2 (own := RX9) (lv := [(0, .ref 0), (1, .int a1), (2, .int a2)]) (by decide +kernel) (Nat.le_of_ble_eq_true rfl) rfl rfl ?_
  refine sw_iload_n (k0 := 1) 1 rfl (by decide +kernel) rfl ?_
  refine sw_if_lt (off := 8) 9 (by decide +kernel) (by decide) (fun c1 => ?_) (fun c1 => ?_)
  · rw [if_pos c1] at h
    refine sw_iconst (n := (-1)) (v := (-1)) (by decide +kernel) (by decide) ?_
    cases h
    obtain rfl : _ = res := hk
    exact sw_iret (by decide +kernel)
  · rw [if_neg c1] at h
    refine sw_iload_n (k0 := 1) 1 rfl (by decide +kernel) rfl ?_
    refine sw_iconst (n := 1) (v := 1) (by decide +kernel) (by decide) ?_
    refine sw_icmp_le (off := 5) 11 (by decide +kernel) (by decide) (fun c2 => ?_) (fun c2 => ?_)
    · rw [if_pos c2] at h
      refine sw_aload_n (k0 := 0) 0 rfl (by decide +kernel) rfl ?_
      refine gf_X9_54 (i := 0) (by decide) rfl (by decide +kernel) ?_
      refine sw_refj 39 rfl ?_
      refine sw_aload_n (k0 := 0) 0 rfl (by decide +kernel) rfl ?_
      refine gf_X9_19 (i := 0) (by decide) rfl (by decide +kernel) ?_
      refine sw_iload_n (k0 := 2) 2 rfl (by decide +kernel) rfl ?_
      obtain ⟨r3, m4, w5, h⟩ := sw_b2_e h
      refine sw_callVi (ci := 6) (i := 39) [.ref (sw_pl (σ.2.2 0)), .int a2] (sX6_fitting (K := K - 1) (by omega) (sw_pl (σ.2.2 0)) (sw_pl_P _) σ a2 w5) rfl (by omega) rfl gs_X9_271 hy_X6_fitting (by decide) (by decide) rfl rfl (Nat.le_of_ble_eq_true rfl) (by decide +kernel) ?_
      refine sw_istore_n (k0 := 3) (lv' := [(3, .int r3), (0, .ref 0), (1, .int a1), (2, .int a2)]) (by decide +kernel) rfl (by decide) rfl ?_
      refine sw_iload_n (k0 := 3) 0 rfl (by decide +kernel) rfl ?_
      refine sw_if_ne (off := 5) 30 (by decide +kernel) (by decide) (fun c6 => ?_) (fun c6 => ?_)
      · rw [if_neg c6] at h
        refine sw_iload_n (k0 := 1) 2 rfl (by decide +kernel) rfl ?_
        refine sw_if_ne (off := 10) 41 (by decide +kernel) (by decide) (fun c7 => ?_) (fun c7 => ?_)
        · rw [if_neg c7] at h
          refine sw_bipush (n := 31) (v := 31) (by decide +kernel) (by decide) ?_
          refine sw_iload_n (k0 := 3) 0 rfl (by decide +kernel) rfl ?_
          refine sw_callSi [.int r3] (sJ6_numberOfLeadingZeros_0f7a4 (K := K - 1) (by omega) m4 r3 rfl) rfl (by omega) gs_X9_275 hy_J6_numberOfLeadingZeros_0f7a4 (by decide) rfl (Nat.le_of_ble_eq_true rfl) (by decide +kernel) ?_
          refine sw_isub (by decide +kernel) ?_
          cases h
          obtain rfl : _ = res := hk
          exact sw_iret (by decide +kernel)
        · rw [if_pos c7] at h
          refine sw_iload_n (k0 := 3) 0 rfl (by decide +kernel) rfl ?_
          refine sw_callSi [.int r3] (sJ6_numberOfTrailingZeros_0f7a4 (K := K - 1) (by omega) m4 r3 rfl) rfl (by omega) gs_X9_225 hy_J6_numberOfTrailingZeros_0f7a4 (by decide) rfl (Nat.le_of_ble_eq_true rfl) (by decide +kernel) ?_
          refine sw_goto (off := 10) 48 (by decide +kernel) (by decide) ?_
          cases h
          obtain rfl : _ = res := hk
          exact sw_iret (by decide +kernel)
      · rw [if_pos c6] at h
        refine sw_iconst (n := (-1)) (v := (-1)) (by decide +kernel) (by decide) ?_
        cases h
        obtain rfl : _ = res := hk
        exact sw_iret (by decide +kernel)
    · rw [if_neg c2] at h
      refine sw_iconst (n := (-1)) (v := (-1)) (by decide +kernel) (by decide) ?_
      cases h
      obtain rfl : _ = res := hk
      exact sw_iret (by decide +kernel)
def fX9_ask_L98 (σ : sw_M) (a1 : Int32) (a2 : Int32) (a4 : Int32) (a5 : Int32) (a6 : Int32) (a7 : Int32) : Option ((Int32 × Int32 × Int32) ⊕ (Int32 × sw_M)) :=
  sw_let (a7 + 1) fun v1 =>
  some (.inl (a5, a6, v1))
def fX9_ask_L90 (σ : sw_M) (a1 : Int32) (a2 : Int32) (a4 : Int32) (a7 : Int32) (a8 : Int32) : Option ((Int32 × Int32 × Int32) ⊕ (Int32 × sw_M)) :=
  fX9_ask_L98 σ a1 a2 a4 a7 a8 a7
def fX9_ask_L51 (σ : sw_M) (a1 : Int32) (a2 : Int32) (a4 : Int32) (a5 : Int32) (a6 : Int32) (a7 : Int32) : Option ((Int32 × Int32 × Int32) ⊕ (Int32 × sw_M)) :=
  if (σ.1 (sw_pl (σ.2.2 0)) 0) ≤ a7 then
    if a2 = 0 then
      some (.inr ((a5, σ)))
    else
      some (.inr ((a6, σ)))
  else
    sw_b1 (fX6_leftAtMost σ a4 a1 a7) fun r3 =>
    if a5 = (-1) then
      fX9_ask_L90 σ a1 a2 a4 a7 r3
    else
      if a6 ≤ r3 then
        fX9_ask_L98 σ a1 a2 a4 a5 a6 a7
      else
        fX9_ask_L90 σ a1 a2 a4 a7 r3
def fX9_ask (σ : sw_M) (a1 : Int32) (a2 : Int32) (a3 : Int32) : Option (Int32 × sw_M) :=
  if a1 < 0 then
    some (((-1), σ))
  else
    if 12 < a1 then
      some (((-1), σ))
    else
      if a2 < 0 then
        some (((-1), σ))
      else
        if a2 ≤ 1 then
          sw_b2 (fX6_fitting (sw_pl (σ.2.2 0)) σ a3) fun r5 m6 =>
          if r5 = 0 then
            some (((-1), m6))
          else
            sw_wh sw_F (fun s => fX9_ask_L51 m6 a1 a2 r5 s.1 s.2.1 s.2.2) ((-1), 0, 0)
        else
          some (((-1), σ))
set_option maxRecDepth 20000 in
theorem sX9_ask_L98 {l : Launch} {E : sw_E} {K : Nat} (hK : 6 ≤ K) (σ : sw_M) (a1 : Int32) (a2 : Int32) (a4 : Int32) (a5 : Int32) (a6 : Int32) (a7 : Int32) {res : Int32 × sw_M} {t : (Int32 × Int32 × Int32) ⊕ (Int32 × sw_M)} (h : fX9_ask_L98 σ a1 a2 a4 a5 a6 a7 = some t) (hk : (Sum.elim (fun s : Int32 × Int32 × Int32 => sw_Go l E K RX9 cX9_ask 9 (some .int) 51 [(0, .ref 0), (1, .int a1), (2, .int a2), (4, .int a4), (5, .int s.1), (6, .int s.2.1), (7, .int s.2.2)] [] σ (some (.int res.1)) res.2) (fun q => q = res)) t) : sw_Go l E K RX9 cX9_ask 9 (some .int) 98 [(0, .ref 0), (1, .int a1), (2, .int a2), (4, .int a4), (5, .int a5), (6, .int a6), (7, .int a7)] [] σ (some (.int res.1)) res.2 := by
  unfold fX9_ask_L98 at h
  obtain ⟨v1, e2, h⟩ := sw_let_e h
  refine sw_iincv (i := 7) (n := 1) (lv' := [(7, .int v1), (0, .ref 0), (1, .int a1), (2, .int a2), (4, .int a4), (5, .int a5), (6, .int a6)]) 6 rfl e2 (by decide +kernel) (by decide) (by decide) rfl ?_
  refine sw_goto (off := (-50)) 51 (by decide +kernel) (by decide) ?_
  cases h
  refine sw_lv [1, 2, 3, 4, 5, 6, 0] rfl ?_
  exact hk
set_option maxRecDepth 20000 in
theorem sX9_ask_L90 {l : Launch} {E : sw_E} {K : Nat} (hK : 6 ≤ K) (σ : sw_M) (a1 : Int32) (a2 : Int32) (a4 : Int32) (a7 : Int32) (a8 : Int32) {res : Int32 × sw_M} {t : (Int32 × Int32 × Int32) ⊕ (Int32 × sw_M)} (h : fX9_ask_L90 σ a1 a2 a4 a7 a8 = some t) (hk : (Sum.elim (fun s : Int32 × Int32 × Int32 => sw_Go l E K RX9 cX9_ask 9 (some .int) 51 [(0, .ref 0), (1, .int a1), (2, .int a2), (4, .int a4), (5, .int s.1), (6, .int s.2.1), (7, .int s.2.2)] [] σ (some (.int res.1)) res.2) (fun q => q = res)) t) : sw_Go l E K RX9 cX9_ask 9 (some .int) 90 [(0, .ref 0), (1, .int a1), (2, .int a2), (4, .int a4), (7, .int a7), (8, .int a8)] [] σ (some (.int res.1)) res.2 := by
  unfold fX9_ask_L90 at h
  refine sw_iload 5 rfl (by decide +kernel) ?_
  refine sw_istore (i := 6) (lv' := [(6, .int a8), (0, .ref 0), (1, .int a1), (2, .int a2), (4, .int a4), (7, .int a7), (8, .int a8)]) (by decide +kernel) (by decide) rfl ?_
  refine sw_iload 5 rfl (by decide +kernel) ?_
  refine sw_istore (i := 5) (lv' := [(5, .int a7), (6, .int a8), (0, .ref 0), (1, .int a1), (2, .int a2), (4, .int a4), (7, .int a7), (8, .int a8)]) (by decide +kernel) (by decide) rfl ?_
  refine sw_lv [2, 3, 4, 5, 0, 1, 6] rfl ?_
  exact sX9_ask_L98 hK σ a1 a2 a4 a7 a8 a7 h hk
set_option maxRecDepth 20000 in
theorem sX9_ask_L51 {l : Launch} {E : sw_E} {K : Nat} (hK : 6 ≤ K) (σ : sw_M) (a1 : Int32) (a2 : Int32) (a4 : Int32) (a5 : Int32) (a6 : Int32) (a7 : Int32) {res : Int32 × sw_M} {t : (Int32 × Int32 × Int32) ⊕ (Int32 × sw_M)} (h : fX9_ask_L51 σ a1 a2 a4 a5 a6 a7 = some t) (hk : (Sum.elim (fun s : Int32 × Int32 × Int32 => sw_Go l E K RX9 cX9_ask 9 (some .int) 51 [(0, .ref 0), (1, .int a1), (2, .int a2), (4, .int a4), (5, .int s.1), (6, .int s.2.1), (7, .int s.2.2)] [] σ (some (.int res.1)) res.2) (fun q => q = res)) t) : sw_Go l E K RX9 cX9_ask 9 (some .int) 51 [(0, .ref 0), (1, .int a1), (2, .int a2), (4, .int a4), (5, .int a5), (6, .int a6), (7, .int a7)] [] σ (some (.int res.1)) res.2 := by
  unfold fX9_ask_L51 at h
  refine sw_iload 6 rfl (by decide +kernel) ?_
  refine sw_aload_n (k0 := 0) 0 rfl (by decide +kernel) rfl ?_
  refine gf_X9_19 (i := 0) (by decide) rfl (by decide +kernel) ?_
  refine gf_X9_164 (i := (sw_pl (σ.2.2 0))) (sw_pl_P _).o.1 (sw_pl_P _).o.2 (by decide +kernel) ?_
  refine sw_icmp_ge (off := 44) 104 (by decide +kernel) (by decide) (fun c1 => ?_) (fun c1 => ?_)
  · rw [if_pos c1] at h
    refine sw_iload_n (k0 := 2) 2 rfl (by decide +kernel) rfl ?_
    refine sw_if_ne (off := 8) 113 (by decide +kernel) (by decide) (fun c2 => ?_) (fun c2 => ?_)
    · rw [if_neg c2] at h
      refine sw_iload 5 rfl (by decide +kernel) ?_
      cases h
      obtain rfl : _ = res := hk
      exact sw_iret (by decide +kernel)
    · rw [if_pos c2] at h
      refine sw_iload 4 rfl (by decide +kernel) ?_
      refine sw_goto (off := 5) 115 (by decide +kernel) (by decide) ?_
      cases h
      obtain rfl : _ = res := hk
      exact sw_iret (by decide +kernel)
  · rw [if_neg c1] at h
    refine sw_aload_n (k0 := 0) 0 rfl (by decide +kernel) rfl ?_
    refine gf_X9_54 (i := 0) (by decide) rfl (by decide +kernel) ?_
    refine sw_refj 39 rfl ?_
    refine sw_iload 3 rfl (by decide +kernel) ?_
    refine sw_iload_n (k0 := 1) 1 rfl (by decide +kernel) rfl ?_
    refine sw_iload 6 rfl (by decide +kernel) ?_
    obtain ⟨r3, w4, h⟩ := sw_b1_e h
    refine sw_callVi (ci := 6) (i := 39) [.int a4, .int a1, .int a7] (sX6_leftAtMost (K := K - 1) (by omega) σ a4 a1 a7 w4) rfl (by omega) rfl gs_X9_278 hy_X6_leftAtMost (by decide) (by decide) rfl rfl (Nat.le_of_ble_eq_true rfl) (by decide +kernel) ?_
    refine sw_istore (i := 8) (lv' := [(8, .int r3), (0, .ref 0), (1, .int a1), (2, .int a2), (4, .int a4), (5, .int a5), (6, .int a6), (7, .int a7)]) (by decide +kernel) (by decide) rfl ?_
    refine sw_iload 5 rfl (by decide +kernel) ?_
    refine sw_iconst (n := (-1)) (v := (-1)) (by decide +kernel) (by decide) ?_
    refine sw_icmp_eq (off := 10) 90 (by decide +kernel) (by decide) (fun c5 => ?_) (fun c5 => ?_)
    · rw [if_pos c5] at h
      refine sw_lv [1, 2, 3, 4, 7, 0] rfl ?_
      exact sX9_ask_L90 hK σ a1 a2 a4 a7 r3 h hk
    · rw [if_neg c5] at h
      refine sw_iload 0 rfl (by decide +kernel) ?_
      refine sw_iload 6 rfl (by decide +kernel) ?_
      refine sw_icmp_ge (off := 11) 98 (by decide +kernel) (by decide) (fun c6 => ?_) (fun c6 => ?_)
      · rw [if_pos c6] at h
        refine sw_lv [1, 2, 3, 4, 5, 6, 7] rfl ?_
        exact sX9_ask_L98 hK σ a1 a2 a4 a5 a6 a7 h hk
      · rw [if_neg c6] at h
        refine sw_lv [1, 2, 3, 4, 7, 0] rfl ?_
        exact sX9_ask_L90 hK σ a1 a2 a4 a7 r3 h hk
set_option maxRecDepth 20000 in
theorem sX9_ask {l : Launch} {E : sw_E} {K : Nat} (hK : 6 ≤ K) (σ : sw_M) (a1 : Int32) (a2 : Int32) (a3 : Int32) {res : Int32 × sw_M} (h : fX9_ask σ a1 a2 a3 = some res) : sw_Ct l E K yX9_ask cX9_ask 9 (some .int) [.ref 0, .int a1, .int a2, .int a3] σ (some (.int res.1)) res.2 := by
  obtain ⟨t, hk, h⟩ : ∃ t, t = res ∧ fX9_ask σ a1 a2 a3 = some t := ⟨res, rfl, h⟩
  unfold fX9_ask at h
  refine sw_enter2 (own := RX9) (lv := [(0, .ref 0), (1, .int a1), (2, .int a2), (3, .int a3)]) (by decide +kernel) (Nat.le_of_ble_eq_true rfl) rfl rfl ?_
  refine sw_iload_n (k0 := 1) 1 rfl (by decide +kernel) rfl ?_
  refine sw_if_lt (off := 18) 19 (by decide +kernel) (by decide) (fun c1 => ?_) (fun c1 => ?_)
  · rw [if_pos c1] at h
    refine sw_iconst (n := (-1)) (v := (-1)) (by decide +kernel) (by decide) ?_
    cases h
    obtain rfl : _ = res := hk
    exact sw_iret (by decide +kernel)
  · rw [if_neg c1] at h
    refine sw_iload_n (k0 := 1) 1 rfl (by decide +kernel) rfl ?_
    refine sw_bipush (n := 12) (v := 12) (by decide +kernel) (by decide) ?_
    refine sw_icmp_gt (off := 12) 19 (by decide +kernel) (by decide) (fun c2 => ?_) (fun c2 => ?_)
    · rw [if_pos c2] at h
      refine sw_iconst (n := (-1)) (v := (-1)) (by decide +kernel) (by decide) ?_
      cases h
      obtain rfl : _ = res := hk
      exact sw_iret (by decide +kernel)
    · rw [if_neg c2] at h
      refine sw_iload_n (k0 := 2) 2 rfl (by decide +kernel) rfl ?_
      refine sw_if_lt (off := 8) 19 (by decide +kernel) (by decide) (fun c3 => ?_) (fun c3 => ?_)
      · rw [if_pos c3] at h
        refine sw_iconst (n := (-1)) (v := (-1)) (by decide +kernel) (by decide) ?_
        cases h
        obtain rfl : _ = res := hk
        exact sw_iret (by decide +kernel)
      · rw [if_neg c3] at h
        refine sw_iload_n (k0 := 2) 2 rfl (by decide +kernel) rfl ?_
        refine sw_iconst (n := 1) (v := 1) (by decide +kernel) (by decide) ?_
        refine sw_icmp_le (off := 5) 21 (by decide +kernel) (by decide) (fun c4 => ?_) (fun c4 => ?_)
        · rw [if_pos c4] at h
          refine sw_aload_n (k0 := 0) 0 rfl (by decide +kernel) rfl ?_
          refine gf_X9_54 (i := 0) (by decide) rfl (by decide +kernel) ?_
          refine sw_refj 39 rfl ?_
          refine sw_aload_n (k0 := 0) 0 rfl (by decide +kernel) rfl ?_
          refine gf_X9_19 (i := 0) (by decide) rfl (by decide +kernel) ?_
          refine sw_iload_n (k0 := 3) 3 rfl (by decide +kernel) rfl ?_
          obtain ⟨r5, m6, w7, h⟩ := sw_b2_e h
          refine sw_callVi (ci := 6) (i := 39) [.ref (sw_pl (σ.2.2 0)), .int a3] (sX6_fitting (K := K - 1) (by omega) (sw_pl (σ.2.2 0)) (sw_pl_P _) σ a3 w7) rfl (by omega) rfl gs_X9_271 hy_X6_fitting (by decide) (by decide) rfl rfl (Nat.le_of_ble_eq_true rfl) (by decide +kernel) ?_
          refine sw_istore (i := 4) (lv' := [(4, .int r5), (0, .ref 0), (1, .int a1), (2, .int a2), (3, .int a3)]) (by decide +kernel) (by decide) rfl ?_
          refine sw_iload 0 rfl (by decide +kernel) ?_
          refine sw_if_ne (off := 5) 42 (by decide +kernel) (by decide) (fun c8 => ?_) (fun c8 => ?_)
          · rw [if_neg c8] at h
            refine sw_iconst (n := (-1)) (v := (-1)) (by decide +kernel) (by decide) ?_
            refine sw_istore (i := 5) (lv' := [(5, .int (-1)), (4, .int r5), (0, .ref 0), (1, .int a1), (2, .int a2), (3, .int a3)]) (by decide +kernel) (by decide) rfl ?_
            refine sw_iconst (n := 0) (v := 0) (by decide +kernel) (by decide) ?_
            refine sw_istore (i := 6) (lv' := [(6, .int 0), (5, .int (-1)), (4, .int r5), (0, .ref 0), (1, .int a1), (2, .int a2), (3, .int a3)]) (by decide +kernel) (by decide) rfl ?_
            refine sw_iconst (n := 0) (v := 0) (by decide +kernel) (by decide) ?_
            refine sw_istore (i := 7) (lv' := [(7, .int 0), (6, .int 0), (5, .int (-1)), (4, .int r5), (0, .ref 0), (1, .int a1), (2, .int a2), (3, .int a3)]) (by decide +kernel) (by decide) rfl ?_
            refine sw_lv [4, 5, 6, 3, 2, 1, 0] rfl ?_
            exact sw_wh_e (fun s : Int32 × Int32 × Int32 => sw_Go l E K RX9 cX9_ask 9 (some .int) 51 [(0, .ref 0), (1, .int a1), (2, .int a2), (4, .int r5), (5, .int s.1), (6, .int s.2.1), (7, .int s.2.2)] [] m6 (some (.int res.1)) res.2) (fun q => q = res) (fun s => fX9_ask_L51 m6 a1 a2 r5 s.1 s.2.1 s.2.2) (fun s t hb hk => sX9_ask_L51 hK m6 a1 a2 r5 s.1 s.2.1 s.2.2 hb hk) _ _ _ h hk
          · rw [if_pos c8] at h
            refine sw_iconst (n := (-1)) (v := (-1)) (by decide +kernel) (by decide) ?_
            cases h
            obtain rfl : _ = res := hk
            exact sw_iret (by decide +kernel)
        · rw [if_neg c4] at h
          refine sw_iconst (n := (-1)) (v := (-1)) (by decide +kernel) (by decide) ?_
          cases h
          obtain rfl : _ = res := hk
          exact sw_iret (by decide +kernel)
def fX9_image (σ : sw_M) (a1 : Int32) : Option (Int32 × sw_M) :=
  if (fX1_isBox a1) = 0 then
    some (((-1), σ))
  else
    sw_b1 (fX1_put 27 σ a1) fun m2 =>
    some ((m2.1 27 4, m2))
set_option maxRecDepth 20000 in
theorem sX9_image {l : Launch} {E : sw_E} {K : Nat} (hK : 3 ≤ K) (σ : sw_M) (a1 : Int32) {res : Int32 × sw_M} (h : fX9_image σ a1 = some res) : sw_Ct l E K yX9_image cX9_image 2 (some .int) [.ref 0, .int a1] σ (some (.int res.1)) res.2 := by
  obtain ⟨t, hk, h⟩ : ∃ t, t = res ∧ fX9_image σ a1 = some t := ⟨res, rfl, h⟩
  unfold fX9_image at h
  refine sw_enter2 (own := RX9) (lv := [(0, .ref 0), (1, .int a1)]) (by decide +kernel) (Nat.le_of_ble_eq_true rfl) rfl rfl ?_
  refine sw_aload_n (k0 := 0) 0 rfl (by decide +kernel) rfl ?_
  refine gf_X9_40 (i := 0) (by decide) rfl (by decide +kernel) ?_
  refine sw_refj 31 rfl ?_
  refine sw_iload_n (k0 := 1) 1 rfl (by decide +kernel) rfl ?_
  refine sw_callVi (ci := 1) (i := 31) [.int a1] (sX1_isBox (K := K - 1) (by omega) σ a1 rfl) rfl (by omega) rfl gs_X9_282 hy_X1_isBox (by decide) (by decide) rfl rfl (Nat.le_of_ble_eq_true rfl) (by decide +kernel) ?_
  refine sw_if_ne (off := 5) 13 (by decide +kernel) (by decide) (fun c1 => ?_) (fun c1 => ?_)
  · rw [if_neg c1] at h
    refine sw_aload_n (k0 := 0) 0 rfl (by decide +kernel) rfl ?_
    refine gf_X9_40 (i := 0) (by decide) rfl (by decide +kernel) ?_
    refine sw_refj 31 rfl ?_
    refine sw_iload_n (k0 := 1) 1 rfl (by decide +kernel) rfl ?_
    refine sw_aload_n (k0 := 0) 0 rfl (by decide +kernel) rfl ?_
    refine gf_X9_26 (i := 0) (by decide) rfl (by decide +kernel) ?_
    refine sw_refj 27 rfl ?_
    obtain ⟨m2, w3, h⟩ := sw_b1_e h
    refine sw_callVv (ci := 1) (i := 31) [.int a1, .ref 27] (sX1_put (K := K - 1) (by omega) 27 (Or.inl rfl) σ a1 w3) rfl (by omega) rfl gs_X9_285 hy_X1_put (by decide) (by decide) rfl rfl (Nat.le_of_ble_eq_true rfl) (by decide +kernel) ?_
    refine sw_aload_n (k0 := 0) 0 rfl (by decide +kernel) rfl ?_
    refine gf_X9_26 (i := 0) (by decide) rfl (by decide +kernel) ?_
    refine sw_refj 27 rfl ?_
    refine gf_X9_150 (i := 27) (by decide) rfl (by decide +kernel) ?_
    cases h
    obtain rfl : _ = res := hk
    exact sw_iret (by decide +kernel)
  · rw [if_pos c1] at h
    refine sw_iconst (n := (-1)) (v := (-1)) (by decide +kernel) (by decide) ?_
    cases h
    obtain rfl : _ = res := hk
    exact sw_iret (by decide +kernel)
def fX9_back (σ : sw_M) (a1 : Int32) : Option (Int32 × sw_M) :=
  if (fX1_isBox a1) = 0 then
    some (((-1), σ))
  else
    sw_gd (sw_in a1 3) <|
    if (σ.1 32 a1.toNatClampNeg) = 0 then
      some (((-1), σ))
    else
      sw_b1 (fX1_take 27 σ a1) fun m4 =>
      sw_b1 (fX0_forget m4) fun m6 =>
      some ((m6.1 27 4, m6))
set_option maxRecDepth 20000 in
theorem sX9_back {l : Launch} {E : sw_E} {K : Nat} (hK : 3 ≤ K) (σ : sw_M) (a1 : Int32) {res : Int32 × sw_M} (h : fX9_back σ a1 = some res) : sw_Ct l E K yX9_back cX9_back 2 (some .int) [.ref 0, .int a1] σ (some (.int res.1)) res.2 := by
  obtain ⟨t, hk, h⟩ : ∃ t, t = res ∧ fX9_back σ a1 = some t := ⟨res, rfl, h⟩
  unfold fX9_back at h
  refine sw_enter2 (own := RX9) (lv := [(0, .ref 0), (1, .int a1)]) (by decide +kernel) (Nat.le_of_ble_eq_true rfl) rfl rfl ?_
  refine sw_aload_n (k0 := 0) 0 rfl (by decide +kernel) rfl ?_
  refine gf_X9_40 (i := 0) (by decide) rfl (by decide +kernel) ?_
  refine sw_refj 31 rfl ?_
  refine sw_iload_n (k0 := 1) 1 rfl (by decide +kernel) rfl ?_
  refine sw_callVi (ci := 1) (i := 31) [.int a1] (sX1_isBox (K := K - 1) (by omega) σ a1 rfl) rfl (by omega) rfl gs_X9_282 hy_X1_isBox (by decide) (by decide) rfl rfl (Nat.le_of_ble_eq_true rfl) (by decide +kernel) ?_
  refine sw_if_eq (off := 15) 23 (by decide +kernel) (by decide) (fun c1 => ?_) (fun c1 => ?_)
  · rw [if_pos c1] at h
    refine sw_iconst (n := (-1)) (v := (-1)) (by decide +kernel) (by decide) ?_
    cases h
    obtain rfl : _ = res := hk
    exact sw_iret (by decide +kernel)
  · rw [if_neg c1] at h
    refine sw_aload_n (k0 := 0) 0 rfl (by decide +kernel) rfl ?_
    refine gf_X9_40 (i := 0) (by decide) rfl (by decide +kernel) ?_
    refine sw_refj 31 rfl ?_
    refine gf_X9_289 (i := 31) (by decide) rfl (by decide +kernel) ?_
    refine sw_refj 32 rfl ?_
    refine sw_iload_n (k0 := 1) 1 rfl (by decide +kernel) rfl ?_
    obtain ⟨g2, h⟩ := sw_gd_e h
    refine sw_zaload (a := 32) (by decide) rfl (sw_in_e g2) (by decide +kernel) ?_
    refine sw_if_ne (off := 5) 25 (by decide +kernel) (by decide) (fun c3 => ?_) (fun c3 => ?_)
    · rw [if_neg c3] at h
      refine sw_aload_n (k0 := 0) 0 rfl (by decide +kernel) rfl ?_
      refine gf_X9_40 (i := 0) (by decide) rfl (by decide +kernel) ?_
      refine sw_refj 31 rfl ?_
      refine sw_iload_n (k0 := 1) 1 rfl (by decide +kernel) rfl ?_
      refine sw_aload_n (k0 := 0) 0 rfl (by decide +kernel) rfl ?_
      refine gf_X9_26 (i := 0) (by decide) rfl (by decide +kernel) ?_
      refine sw_refj 27 rfl ?_
      obtain ⟨m4, w5, h⟩ := sw_b1_e h
      refine sw_callVv (ci := 1) (i := 31) [.int a1, .ref 27] (sX1_take (K := K - 1) (by omega) 27 (Or.inl rfl) σ a1 w5) rfl (by omega) rfl gs_X9_293 hy_X1_take (by decide) (by decide) rfl rfl (Nat.le_of_ble_eq_true rfl) (by decide +kernel) ?_
      refine sw_aload_n (k0 := 0) 0 rfl (by decide +kernel) rfl ?_
      refine gf_X9_33 (i := 0) (by decide) rfl (by decide +kernel) ?_
      refine sw_refj 29 rfl ?_
      obtain ⟨m6, w7, h⟩ := sw_b1_e h
      refine sw_callVv (ci := 0) (i := 29) [] (sX0_forget (K := K - 1) (by omega) m4 w7) rfl (by omega) rfl gs_X9_92 hy_X0_forget (by decide) (by decide) rfl rfl (Nat.le_of_ble_eq_true rfl) (by decide +kernel) ?_
      refine sw_aload_n (k0 := 0) 0 rfl (by decide +kernel) rfl ?_
      refine gf_X9_26 (i := 0) (by decide) rfl (by decide +kernel) ?_
      refine sw_refj 27 rfl ?_
      refine gf_X9_150 (i := 27) (by decide) rfl (by decide +kernel) ?_
      cases h
      obtain rfl : _ = res := hk
      exact sw_iret (by decide +kernel)
    · rw [if_pos c3] at h
      refine sw_iconst (n := (-1)) (v := (-1)) (by decide +kernel) (by decide) ?_
      cases h
      obtain rfl : _ = res := hk
      exact sw_iret (by decide +kernel)
def fX9_about (σ : sw_M) (a1 : Int32) : Int32 :=
  if a1 = 0 then
    σ.1 (sw_pl (σ.2.2 0)) 1
  else
    if a1 = 1 then
      σ.1 (sw_pl (σ.2.2 0)) 0
    else
      if a1 = 2 then
        σ.1 (sw_pl (σ.2.2 0)) 2
      else
        if a1 = 3 then
          σ.1 (sw_pl (σ.2.2 0)) 3
        else
          if a1 = 4 then
            σ.1 27 1
          else
            if a1 = 5 then
              σ.1 27 2
            else
              if a1 = 6 then
                σ.1 27 3
              else
                if a1 = 7 then
                  σ.1 27 4
                else
                  if a1 = 8 then
                    σ.1 27 5
                  else
                    if a1 = 9 then
                      fX0_undoable σ
                    else
                      if a1 = 10 then
                        fX0_redoable σ
                      else
                        if a1 = 11 then
                          σ.1 39 0
                        else
                          if a1 = 12 then
                            σ.1 0 9
                          else
                            if a1 = 13 then
                              σ.1 2 1
                            else
                              if a1 = 14 then
                                σ.1 ((sw_pl (σ.2.2 0)) + 7) 0
                              else
                                if a1 = 15 then
                                  σ.1 0 8
                                else
                                  if a1 = 16 then
                                    σ.1 (sw_pl (σ.2.2 0)) 4
                                  else
                                    (-1)
set_option maxRecDepth 20000 in
theorem sX9_about {l : Launch} {E : sw_E} {K : Nat} (hK : 1 ≤ K) (σ : sw_M) (a1 : Int32) {res : Int32} (h : fX9_about σ a1 = res) : sw_Ct l E K yX9_about cX9_about 2 (some .int) [.ref 0, .int a1] σ (some (.int res)) σ := by
  obtain ⟨t, hk, h⟩ : ∃ t, t = res ∧ fX9_about σ a1 = t := ⟨res, rfl, h⟩
  unfold fX9_about at h
  refine sw_enter2 (own := RX9) (lv := [(0, .ref 0), (1, .int a1)]) (by decide +kernel) (Nat.le_of_ble_eq_true rfl) rfl rfl ?_
  refine sw_iload_n (k0 := 1) 1 rfl (by decide +kernel) rfl ?_
  by_cases c1 : a1 = 0
  · rw [if_pos c1] at h
    refine sw_tabIn (dflt := 219) (lo := 0) (hi := 16) (offs := #[83, 91, 99, 107, 115, 123, 131, 139, 147, 155, 163, 171, 179, 184, 195, 206, 211]) (len := 83) (off := 83) 84 (by decide +kernel) (by rw [c1]; decide) (by rw [c1]; decide) (by rw [c1]; decide) (by decide) ?_
    refine sw_aload_n (k0 := 0) 0 rfl (by decide +kernel) rfl ?_
    refine gf_X9_19 (i := 0) (by decide) rfl (by decide +kernel) ?_
    refine gf_X9_100 (i := (sw_pl (σ.2.2 0))) (sw_pl_P _).o.1 (sw_pl_P _).o.2 (by decide +kernel) ?_
    subst h
    obtain rfl : _ = res := hk
    exact sw_iret (by decide +kernel)
  · rw [if_neg c1] at h
    by_cases c2 : a1 = 1
    · rw [if_pos c2] at h
      refine sw_tabIn (dflt := 219) (lo := 0) (hi := 16) (offs := #[83, 91, 99, 107, 115, 123, 131, 139, 147, 155, 163, 171, 179, 184, 195, 206, 211]) (len := 83) (off := 91) 92 (by decide +kernel) (by rw [c2]; decide) (by rw [c2]; decide) (by rw [c2]; decide) (by decide) ?_
      refine sw_aload_n (k0 := 0) 0 rfl (by decide +kernel) rfl ?_
      refine gf_X9_19 (i := 0) (by decide) rfl (by decide +kernel) ?_
      refine gf_X9_164 (i := (sw_pl (σ.2.2 0))) (sw_pl_P _).o.1 (sw_pl_P _).o.2 (by decide +kernel) ?_
      subst h
      obtain rfl : _ = res := hk
      exact sw_iret (by decide +kernel)
    · rw [if_neg c2] at h
      by_cases c3 : a1 = 2
      · rw [if_pos c3] at h
        refine sw_tabIn (dflt := 219) (lo := 0) (hi := 16) (offs := #[83, 91, 99, 107, 115, 123, 131, 139, 147, 155, 163, 171, 179, 184, 195, 206, 211]) (len := 83) (off := 99) 100 (by decide +kernel) (by rw [c3]; decide) (by rw [c3]; decide) (by rw [c3]; decide) (by decide) ?_
        refine sw_aload_n (k0 := 0) 0 rfl (by decide +kernel) rfl ?_
        refine gf_X9_19 (i := 0) (by decide) rfl (by decide +kernel) ?_
        refine gf_X9_129 (i := (sw_pl (σ.2.2 0))) (sw_pl_P _).o.1 (sw_pl_P _).o.2 (by decide +kernel) ?_
        subst h
        obtain rfl : _ = res := hk
        exact sw_iret (by decide +kernel)
      · rw [if_neg c3] at h
        by_cases c4 : a1 = 3
        · rw [if_pos c4] at h
          refine sw_tabIn (dflt := 219) (lo := 0) (hi := 16) (offs := #[83, 91, 99, 107, 115, 123, 131, 139, 147, 155, 163, 171, 179, 184, 195, 206, 211]) (len := 83) (off := 107) 108 (by decide +kernel) (by rw [c4]; decide) (by rw [c4]; decide) (by rw [c4]; decide) (by decide) ?_
          refine sw_aload_n (k0 := 0) 0 rfl (by decide +kernel) rfl ?_
          refine gf_X9_19 (i := 0) (by decide) rfl (by decide +kernel) ?_
          refine gf_X9_195 (i := (sw_pl (σ.2.2 0))) (sw_pl_P _).o.1 (sw_pl_P _).o.2 (by decide +kernel) ?_
          subst h
          obtain rfl : _ = res := hk
          exact sw_iret (by decide +kernel)
        · rw [if_neg c4] at h
          by_cases c5 : a1 = 4
          · rw [if_pos c5] at h
            refine sw_tabIn (dflt := 219) (lo := 0) (hi := 16) (offs := #[83, 91, 99, 107, 115, 123, 131, 139, 147, 155, 163, 171, 179, 184, 195, 206, 211]) (len := 83) (off := 115) 116 (by decide +kernel) (by rw [c5]; decide) (by rw [c5]; decide) (by rw [c5]; decide) (by decide) ?_
            refine sw_aload_n (k0 := 0) 0 rfl (by decide +kernel) rfl ?_
            refine gf_X9_26 (i := 0) (by decide) rfl (by decide +kernel) ?_
            refine sw_refj 27 rfl ?_
            refine gf_X9_296 (i := 27) (by decide) rfl (by decide +kernel) ?_
            subst h
            obtain rfl : _ = res := hk
            exact sw_iret (by decide +kernel)
          · rw [if_neg c5] at h
            by_cases c6 : a1 = 5
            · rw [if_pos c6] at h
              refine sw_tabIn (dflt := 219) (lo := 0) (hi := 16) (offs := #[83, 91, 99, 107, 115, 123, 131, 139, 147, 155, 163, 171, 179, 184, 195, 206, 211]) (len := 83) (off := 123) 124 (by decide +kernel) (by rw [c6]; decide) (by rw [c6]; decide) (by rw [c6]; decide) (by decide) ?_
              refine sw_aload_n (k0 := 0) 0 rfl (by decide +kernel) rfl ?_
              refine gf_X9_26 (i := 0) (by decide) rfl (by decide +kernel) ?_
              refine sw_refj 27 rfl ?_
              refine gf_X9_167 (i := 27) (by decide) rfl (by decide +kernel) ?_
              subst h
              obtain rfl : _ = res := hk
              exact sw_iret (by decide +kernel)
            · rw [if_neg c6] at h
              by_cases c7 : a1 = 6
              · rw [if_pos c7] at h
                refine sw_tabIn (dflt := 219) (lo := 0) (hi := 16) (offs := #[83, 91, 99, 107, 115, 123, 131, 139, 147, 155, 163, 171, 179, 184, 195, 206, 211]) (len := 83) (off := 131) 132 (by decide +kernel) (by rw [c7]; decide) (by rw [c7]; decide) (by rw [c7]; decide) (by decide) ?_
                refine sw_aload_n (k0 := 0) 0 rfl (by decide +kernel) rfl ?_
                refine gf_X9_26 (i := 0) (by decide) rfl (by decide +kernel) ?_
                refine sw_refj 27 rfl ?_
                refine gf_X9_299 (i := 27) (by decide) rfl (by decide +kernel) ?_
                subst h
                obtain rfl : _ = res := hk
                exact sw_iret (by decide +kernel)
              · rw [if_neg c7] at h
                by_cases c8 : a1 = 7
                · rw [if_pos c8] at h
                  refine sw_tabIn (dflt := 219) (lo := 0) (hi := 16) (offs := #[83, 91, 99, 107, 115, 123, 131, 139, 147, 155, 163, 171, 179, 184, 195, 206, 211]) (len := 83) (off := 139) 140 (by decide +kernel) (by rw [c8]; decide) (by rw [c8]; decide) (by rw [c8]; decide) (by decide) ?_
                  refine sw_aload_n (k0 := 0) 0 rfl (by decide +kernel) rfl ?_
                  refine gf_X9_26 (i := 0) (by decide) rfl (by decide +kernel) ?_
                  refine sw_refj 27 rfl ?_
                  refine gf_X9_150 (i := 27) (by decide) rfl (by decide +kernel) ?_
                  subst h
                  obtain rfl : _ = res := hk
                  exact sw_iret (by decide +kernel)
                · rw [if_neg c8] at h
                  by_cases c9 : a1 = 8
                  · rw [if_pos c9] at h
                    refine sw_tabIn (dflt := 219) (lo := 0) (hi := 16) (offs := #[83, 91, 99, 107, 115, 123, 131, 139, 147, 155, 163, 171, 179, 184, 195, 206, 211]) (len := 83) (off := 147) 148 (by decide +kernel) (by rw [c9]; decide) (by rw [c9]; decide) (by rw [c9]; decide) (by decide) ?_
                    refine sw_aload_n (k0 := 0) 0 rfl (by decide +kernel) rfl ?_
                    refine gf_X9_26 (i := 0) (by decide) rfl (by decide +kernel) ?_
                    refine sw_refj 27 rfl ?_
                    refine gf_X9_302 (i := 27) (by decide) rfl (by decide +kernel) ?_
                    subst h
                    obtain rfl : _ = res := hk
                    exact sw_iret (by decide +kernel)
                  · rw [if_neg c9] at h
                    by_cases c10 : a1 = 9
                    · rw [if_pos c10] at h
                      refine sw_tabIn (dflt := 219) (lo := 0) (hi := 16) (offs := #[83, 91, 99, 107, 115, 123, 131, 139, 147, 155, 163, 171, 179, 184, 195, 206, 211]) (len := 83) (off := 155) 156 (by decide +kernel) (by rw [c10]; decide) (by rw [c10]; decide) (by rw [c10]; decide) (by decide) ?_
                      refine sw_aload_n (k0 := 0) 0 rfl (by decide +kernel) rfl ?_
                      refine gf_X9_33 (i := 0) (by decide) rfl (by decide +kernel) ?_
                      refine sw_refj 29 rfl ?_
                      refine sw_callVi (ci := 0) (i := 29) [] (sX0_undoable (K := K - 1) (by omega) σ rfl) rfl (by omega) rfl gs_X9_305 hy_X0_undoable (by decide) (by decide) rfl rfl (Nat.le_of_ble_eq_true rfl) (by decide +kernel) ?_
                      subst h
                      obtain rfl : _ = res := hk
                      exact sw_iret (by decide +kernel)
                    · rw [if_neg c10] at h
                      by_cases c11 : a1 = 10
                      · rw [if_pos c11] at h
                        refine sw_tabIn (dflt := 219) (lo := 0) (hi := 16) (offs := #[83, 91, 99, 107, 115, 123, 131, 139, 147, 155, 163, 171, 179, 184, 195, 206, 211]) (len := 83) (off := 163) 164 (by decide +kernel) (by rw [c11]; decide) (by rw [c11]; decide) (by rw [c11]; decide) (by decide) ?_
                        refine sw_aload_n (k0 := 0) 0 rfl (by decide +kernel) rfl ?_
                        refine gf_X9_33 (i := 0) (by decide) rfl (by decide +kernel) ?_
                        refine sw_refj 29 rfl ?_
                        refine sw_callVi (ci := 0) (i := 29) [] (sX0_redoable (K := K - 1) (by omega) σ rfl) rfl (by omega) rfl gs_X9_308 hy_X0_redoable (by decide) (by decide) rfl rfl (Nat.le_of_ble_eq_true rfl) (by decide +kernel) ?_
                        subst h
                        obtain rfl : _ = res := hk
                        exact sw_iret (by decide +kernel)
                      · rw [if_neg c11] at h
                        by_cases c12 : a1 = 11
                        · rw [if_pos c12] at h
                          refine sw_tabIn (dflt := 219) (lo := 0) (hi := 16) (offs := #[83, 91, 99, 107, 115, 123, 131, 139, 147, 155, 163, 171, 179, 184, 195, 206, 211]) (len := 83) (off := 171) 172 (by decide +kernel) (by rw [c12]; decide) (by rw [c12]; decide) (by rw [c12]; decide) (by decide) ?_
                          refine sw_aload_n (k0 := 0) 0 rfl (by decide +kernel) rfl ?_
                          refine gf_X9_54 (i := 0) (by decide) rfl (by decide +kernel) ?_
                          refine sw_refj 39 rfl ?_
                          refine gf_X9_311 (i := 39) (by decide) rfl (by decide +kernel) ?_
                          subst h
                          obtain rfl : _ = res := hk
                          exact sw_iret (by decide +kernel)
                        · rw [if_neg c12] at h
                          by_cases c13 : a1 = 12
                          · rw [if_pos c13] at h
                            refine sw_tabIn (dflt := 219) (lo := 0) (hi := 16) (offs := #[83, 91, 99, 107, 115, 123, 131, 139, 147, 155, 163, 171, 179, 184, 195, 206, 211]) (len := 83) (off := 179) 180 (by decide +kernel) (by rw [c13]; decide) (by rw [c13]; decide) (by rw [c13]; decide) (by decide) ?_
                            refine sw_aload_n (k0 := 0) 0 rfl (by decide +kernel) rfl ?_
                            refine gf_X9_261 (i := 0) (by decide) rfl (by decide +kernel) ?_
                            subst h
                            obtain rfl : _ = res := hk
                            exact sw_iret (by decide +kernel)
                          · rw [if_neg c13] at h
                            by_cases c14 : a1 = 13
                            · rw [if_pos c14] at h
                              refine sw_tabIn (dflt := 219) (lo := 0) (hi := 16) (offs := #[83, 91, 99, 107, 115, 123, 131, 139, 147, 155, 163, 171, 179, 184, 195, 206, 211]) (len := 83) (off := 184) 185 (by decide +kernel) (by rw [c14]; decide) (by rw [c14]; decide) (by rw [c14]; decide) (by decide) ?_
                              refine sw_aload_n (k0 := 0) 0 rfl (by decide +kernel) rfl ?_
                              refine gf_X9_10 (i := 0) (by decide) rfl (by decide +kernel) ?_
                              refine sw_refj 1 rfl ?_
                              refine gf_X9_62 (i := 1) (by decide) rfl (by decide +kernel) ?_
                              refine sw_refj 2 rfl ?_
                              refine gf_X9_66 (i := 2) (by decide) rfl (by decide +kernel) ?_
                              subst h
                              obtain rfl : _ = res := hk
                              exact sw_iret (by decide +kernel)
                            · rw [if_neg c14] at h
                              by_cases c15 : a1 = 14
                              · rw [if_pos c15] at h
                                refine sw_tabIn (dflt := 219) (lo := 0) (hi := 16) (offs := #[83, 91, 99, 107, 115, 123, 131, 139, 147, 155, 163, 171, 179, 184, 195, 206, 211]) (len := 83) (off := 195) 196 (by decide +kernel) (by rw [c15]; decide) (by rw [c15]; decide) (by rw [c15]; decide) (by decide) ?_
                                refine sw_aload_n (k0 := 0) 0 rfl (by decide +kernel) rfl ?_
                                refine gf_X9_19 (i := 0) (by decide) rfl (by decide +kernel) ?_
                                refine gf_X9_314 (i := (sw_pl (σ.2.2 0))) (sw_pl_P _).o.1 (sw_pl_P _).o.2 (by decide +kernel) ?_
                                refine gf_X9_318 (i := ((sw_pl (σ.2.2 0)) + 7)) (sw_pl_P _).F.o.1 (sw_pl_P _).F.o.2 (by decide +kernel) ?_
                                subst h
                                obtain rfl : _ = res := hk
                                exact sw_iret (by decide +kernel)
                              · rw [if_neg c15] at h
                                by_cases c16 : a1 = 15
                                · rw [if_pos c16] at h
                                  refine sw_tabIn (dflt := 219) (lo := 0) (hi := 16) (offs := #[83, 91, 99, 107, 115, 123, 131, 139, 147, 155, 163, 171, 179, 184, 195, 206, 211]) (len := 83) (off := 206) 207 (by decide +kernel) (by rw [c16]; decide) (by rw [c16]; decide) (by rw [c16]; decide) (by decide) ?_
                                  refine sw_aload_n (k0 := 0) 0 rfl (by decide +kernel) rfl ?_
                                  refine gf_X9_97 (i := 0) (by decide) rfl (by decide +kernel) ?_
                                  subst h
                                  obtain rfl : _ = res := hk
                                  exact sw_iret (by decide +kernel)
                                · rw [if_neg c16] at h
                                  by_cases c17 : a1 = 16
                                  · rw [if_pos c17] at h
                                    refine sw_tabIn (dflt := 219) (lo := 0) (hi := 16) (offs := #[83, 91, 99, 107, 115, 123, 131, 139, 147, 155, 163, 171, 179, 184, 195, 206, 211]) (len := 83) (off := 211) 212 (by decide +kernel) (by rw [c17]; decide) (by rw [c17]; decide) (by rw [c17]; decide) (by decide) ?_
                                    refine sw_aload_n (k0 := 0) 0 rfl (by decide +kernel) rfl ?_
                                    refine gf_X9_19 (i := 0) (by decide) rfl (by decide +kernel) ?_
                                    refine gf_X9_255 (i := (sw_pl (σ.2.2 0))) (sw_pl_P _).o.1 (sw_pl_P _).o.2 (by decide +kernel) ?_
                                    subst h
                                    obtain rfl : _ = res := hk
                                    exact sw_iret (by decide +kernel)
                                  · rw [if_neg c17] at h
                                    have n0 := lv_neT (a := 0) c1 (by decide)
                                    have n1 := lv_neT (a := 1) c2 (by decide)
                                    have n2 := lv_neT (a := 2) c3 (by decide)
                                    have n3 := lv_neT (a := 3) c4 (by decide)
                                    have n4 := lv_neT (a := 4) c5 (by decide)
                                    have n5 := lv_neT (a := 5) c6 (by decide)
                                    have n6 := lv_neT (a := 6) c7 (by decide)
                                    have n7 := lv_neT (a := 7) c8 (by decide)
                                    have n8 := lv_neT (a := 8) c9 (by decide)
                                    have n9 := lv_neT (a := 9) c10 (by decide)
                                    have n10 := lv_neT (a := 10) c11 (by decide)
                                    have n11 := lv_neT (a := 11) c12 (by decide)
                                    have n12 := lv_neT (a := 12) c13 (by decide)
                                    have n13 := lv_neT (a := 13) c14 (by decide)
                                    have n14 := lv_neT (a := 14) c15 (by decide)
                                    have n15 := lv_neT (a := 15) c16 (by decide)
                                    have n16 := lv_neT (a := 16) c17 (by decide)
                                    refine sw_tabOut (dflt := 219) (lo := 0) (hi := 16) (offs := #[83, 91, 99, 107, 115, 123, 131, 139, 147, 155, 163, 171, 179, 184, 195, 206, 211]) (len := 83) 220 (by decide +kernel) (by omega) (by decide) ?_
                                    refine sw_iconst (n := (-1)) (v := (-1)) (by decide +kernel) (by decide) ?_
                                    subst h
                                    obtain rfl : _ = res := hk
                                    exact sw_iret (by decide +kernel)
