def fX10_rouser_L78 (σ : sw_M) (a1 : Int32) (a2 : Int32) (a3 : Int32) (a4 : Int32) : Option ((Int32 × Int32 × Int32 × sw_M) ⊕ (Int32 × sw_M)) :=
  sw_let (a4 + 1) fun v1 =>
  some (.inl (a2, a3, v1, σ))
def fX10_rouser_L19 (σ : sw_M) (a1 : Int32) (a2 : Int32) (a3 : Int32) (a4 : Int32) : Option ((Int32 × Int32 × Int32 × sw_M) ⊕ (Int32 × sw_M)) :=
  if (σ.1 49 41) ≤ a4 then
    if (0 : Int32) ≤ a2 then
      if a1 = 0 then
        some (.inr ((a2, σ)))
      else
        some (.inr ((a3, σ)))
    else
      some (.inr (((-1), σ)))
  else
    if (fX10_hasTold σ a4) = 0 then
      sw_b1 (fX10_fill σ) fun m5 =>
      sw_b1 (fX10_tells m5 a4) fun m7 =>
      sw_b2 (fX10_risesIn m7 60) fun r9 m10 =>
      if r9 < 0 then
        fX10_rouser_L78 m10 a1 a2 a3 a4
      else
        if r9 < a3 then
          fX10_rouser_L78 m10 a1 a4 r9 a4
        else
          fX10_rouser_L78 m10 a1 a2 a3 a4
    else
      fX10_rouser_L78 σ a1 a2 a3 a4
def fX10_rouser (σ : sw_M) (a1 : Int32) : Option (Int32 × sw_M) :=
  if (fX10_isIn a1 0 1) = 0 then
    some (((-1), σ))
  else
    sw_wh sw_F (fun s => fX10_rouser_L19 s.2.2.2 a1 s.1 s.2.1 s.2.2.1) ((-1), 61, 0, σ)
set_option maxRecDepth 20000 in
theorem sX10_rouser_L78 {l : Launch} {E : sw_E} {K : Nat} (hK : 6 ≤ K) (σ : sw_M) (a1 : Int32) (a2 : Int32) (a3 : Int32) (a4 : Int32) {res : Int32 × sw_M} {t : (Int32 × Int32 × Int32 × sw_M) ⊕ (Int32 × sw_M)} (h : fX10_rouser_L78 σ a1 a2 a3 a4 = some t) (hk : (Sum.elim (fun s : Int32 × Int32 × Int32 × sw_M => sw_Go l E K RX10 cX10_rouser 6 (some .int) 19 [(0, .ref 49), (1, .int a1), (2, .int s.1), (3, .int s.2.1), (4, .int s.2.2.1)] [] s.2.2.2 (some (.int res.1)) res.2) (fun q => q = res)) t) : sw_Go l E K RX10 cX10_rouser 6 (some .int) 78 [(0, .ref 49), (1, .int a1), (2, .int a2), (3, .int a3), (4, .int a4)] [] σ (some (.int res.1)) res.2 := by
  unfold fX10_rouser_L78 at h
  obtain ⟨v1, e2, h⟩ := sw_let_e h
  refine sw_iincv (i := 4) (n := 1) (lv' := [(4, .int v1), (0, .ref 49), (1, .int a1), (2, .int a2), (3, .int a3)]) 4 rfl e2 (by decide +kernel) (by decide) (by decide) rfl ?_
  refine sw_goto (off := (-62)) 19 (by decide +kernel) (by decide) ?_
  cases h
  refine sw_lv [1, 2, 3, 4, 0] rfl ?_
  exact hk
set_option maxRecDepth 20000 in
theorem sX10_rouser_L19 {l : Launch} {E : sw_E} {K : Nat} (hK : 6 ≤ K) (σ : sw_M) (a1 : Int32) (a2 : Int32) (a3 : Int32) (a4 : Int32) {res : Int32 × sw_M} {t : (Int32 × Int32 × Int32 × sw_M) ⊕ (Int32 × sw_M)} (h : fX10_rouser_L19 σ a1 a2 a3 a4 = some t) (hk : (Sum.elim (fun s : Int32 × Int32 × Int32 × sw_M => sw_Go l E K RX10 cX10_rouser 6 (some .int) 19 [(0, .ref 49), (1, .int a1), (2, .int s.1), (3, .int s.2.1), (4, .int s.2.2.1)] [] s.2.2.2 (some (.int res.1)) res.2) (fun q => q = res)) t) : sw_Go l E K RX10 cX10_rouser 6 (some .int) 19 [(0, .ref 49), (1, .int a1), (2, .int a2), (3, .int a3), (4, .int a4)] [] σ (some (.int res.1)) res.2 := by
  unfold fX10_rouser_L19 at h
  refine sw_iload 4 rfl (by decide +kernel) ?_
  refine sw_aload_n (k0 := 0) 0 rfl (by decide +kernel) rfl ?_
  refine gf_X10_381 (i := 49) (by decide) rfl (by decide +kernel) ?_
  refine sw_icmp_ge (off := 59) 84 (by decide +kernel) (by decide) (fun c1 => ?_) (fun c1 => ?_)
  · rw [if_pos c1] at h
    refine sw_iload_n (k0 := 2) 2 rfl (by decide +kernel) rfl ?_
    refine sw_if_ge (off := 7) 92 (by decide +kernel) (by decide) (fun c2 => ?_) (fun c2 => ?_)
    · rw [if_pos c2] at h
      refine sw_iload_n (k0 := 1) 1 rfl (by decide +kernel) rfl ?_
      refine sw_if_ne (off := 7) 100 (by decide +kernel) (by decide) (fun c3 => ?_) (fun c3 => ?_)
      · rw [if_neg c3] at h
        refine sw_iload_n (k0 := 3) 3 rfl (by decide +kernel) rfl ?_
        cases h
        obtain rfl : _ = res := hk
        exact sw_iret (by decide +kernel)
      · rw [if_pos c3] at h
        refine sw_iload_n (k0 := 2) 2 rfl (by decide +kernel) rfl ?_
        refine sw_goto (off := 4) 101 (by decide +kernel) (by decide) ?_
        cases h
        obtain rfl : _ = res := hk
        exact sw_iret (by decide +kernel)
    · rw [if_neg c2] at h
      refine sw_iconst (n := (-1)) (v := (-1)) (by decide +kernel) (by decide) ?_
      refine sw_goto (off := 12) 101 (by decide +kernel) (by decide) ?_
      cases h
      obtain rfl : _ = res := hk
      exact sw_iret (by decide +kernel)
  · rw [if_neg c1] at h
    refine sw_aload_n (k0 := 0) 0 rfl (by decide +kernel) rfl ?_
    refine sw_iload 4 rfl (by decide +kernel) ?_
    refine sw_callVi (ci := 10) (i := 49) [.int a4] (sX10_hasTold (K := K - 1) (by omega) σ a4 rfl) rfl (by omega) rfl gs_X10_448 hy_X10_hasTold (by decide) (by decide) rfl rfl (Nat.le_of_ble_eq_true rfl) (by decide +kernel) ?_
    refine sw_if_eq (off := 6) 40 (by decide +kernel) (by decide) (fun c4 => ?_) (fun c4 => ?_)
    · rw [if_pos c4] at h
      refine sw_aload_n (k0 := 0) 0 rfl (by decide +kernel) rfl ?_
      obtain ⟨m5, w6, h⟩ := sw_b1_e h
      refine sw_callVv (ci := 10) (i := 49) [] (sX10_fill (K := K - 1) (by omega) σ w6) rfl (by omega) rfl gs_X10_445 hy_X10_fill (by decide) (by decide) rfl rfl (Nat.le_of_ble_eq_true rfl) (by decide +kernel) ?_
      refine sw_aload_n (k0 := 0) 0 rfl (by decide +kernel) rfl ?_
      refine sw_iload 4 rfl (by decide +kernel) ?_
      obtain ⟨m7, w8, h⟩ := sw_b1_e h
      refine sw_callVv (ci := 10) (i := 49) [.int a4] (sX10_tells (K := K - 1) (by omega) m5 a4 w8) rfl (by omega) rfl gs_X10_415 hy_X10_tells (by decide) (by decide) rfl rfl (Nat.le_of_ble_eq_true rfl) (by decide +kernel) ?_
      refine sw_aload_n (k0 := 0) 0 rfl (by decide +kernel) rfl ?_
      refine sw_bipush (n := 60) (v := 60) (by decide +kernel) (by decide) ?_
      obtain ⟨r9, m10, w11, h⟩ := sw_b2_e h
      refine sw_callVi (ci := 10) (i := 49) [.int 60] (sX10_risesIn (K := K - 1) (by omega) m7 60 w11) rfl (by omega) rfl gs_X10_470 hy_X10_risesIn (by decide) (by decide) rfl rfl (Nat.le_of_ble_eq_true rfl) (by decide +kernel) ?_
      refine sw_istore (i := 5) (lv' := [(5, .int r9), (0, .ref 49), (1, .int a1), (2, .int a2), (3, .int a3), (4, .int a4)]) (by decide +kernel) (by decide) rfl ?_
      refine sw_iload 0 rfl (by decide +kernel) ?_
      refine sw_if_lt (off := 18) 78 (by decide +kernel) (by decide) (fun c12 => ?_) (fun c12 => ?_)
      · rw [if_pos c12] at h
        refine sw_lv [1, 2, 3, 4, 5] rfl ?_
        exact sX10_rouser_L78 hK m10 a1 a2 a3 a4 h hk
      · rw [if_neg c12] at h
        refine sw_iload 0 rfl (by decide +kernel) ?_
        refine sw_iload_n (k0 := 3) 4 rfl (by decide +kernel) rfl ?_
        refine sw_icmp_lt (off := 6) 72 (by decide +kernel) (by decide) (fun c13 => ?_) (fun c13 => ?_)
        · rw [if_pos c13] at h
          refine sw_iload 5 rfl (by decide +kernel) ?_
          refine sw_istore_n (k0 := 2) (lv' := [(2, .int a4), (5, .int r9), (0, .ref 49), (1, .int a1), (3, .int a3), (4, .int a4)]) (by decide +kernel) rfl (by decide) rfl ?_
          refine sw_iload 1 rfl (by decide +kernel) ?_
          refine sw_istore_n (k0 := 3) (lv' := [(3, .int r9), (2, .int a4), (5, .int r9), (0, .ref 49), (1, .int a1), (4, .int a4)]) (by decide +kernel) rfl (by decide) rfl ?_
          refine sw_lv [3, 4, 1, 0, 5] rfl ?_
          exact sX10_rouser_L78 hK m10 a1 a4 r9 a4 h hk
        · rw [if_neg c13] at h
          refine sw_goto (off := 9) 78 (by decide +kernel) (by decide) ?_
          refine sw_lv [1, 2, 3, 4, 5] rfl ?_
          exact sX10_rouser_L78 hK m10 a1 a2 a3 a4 h hk
    · rw [if_neg c4] at h
      refine sw_goto (off := 41) 78 (by decide +kernel) (by decide) ?_
      exact sX10_rouser_L78 hK σ a1 a2 a3 a4 h hk
set_option maxRecDepth 20000 in
theorem sX10_rouser {l : Launch} {E : sw_E} {K : Nat} (hK : 6 ≤ K) (σ : sw_M) (a1 : Int32) {res : Int32 × sw_M} (h : fX10_rouser σ a1 = some res) : sw_Ct l E K yX10_rouser cX10_rouser 6 (some .int) [.ref 49, .int a1] σ (some (.int res.1)) res.2 := by
  obtain ⟨t, hk, h⟩ : ∃ t, t = res ∧ fX10_rouser σ a1 = some t := ⟨res, rfl, h⟩
  unfold fX10_rouser at h
  refine sw_enter2 (own := RX10) (lv := [(0, .ref 49), (1, .int a1)]) (by decide +kernel) (Nat.le_of_ble_eq_true rfl) rfl rfl ?_
  refine sw_iload_n (k0 := 1) 1 rfl (by decide +kernel) rfl ?_
  refine sw_iconst (n := 0) (v := 0) (by decide +kernel) (by decide) ?_
  refine sw_iconst (n := 1) (v := 1) (by decide +kernel) (by decide) ?_
  refine sw_callSi [.int a1, .int 0, .int 1] (sX10_isIn (K := K - 1) (by omega) σ a1 0 1 rfl) rfl (by omega) gs_X10_411 hy_X10_isIn (by decide) rfl (Nat.le_of_ble_eq_true rfl) (by decide +kernel) ?_
  refine sw_if_ne (off := 5) 11 (by decide +kernel) (by decide) (fun c1 => ?_) (fun c1 => ?_)
  · rw [if_neg c1] at h
    refine sw_iconst (n := (-1)) (v := (-1)) (by decide +kernel) (by decide) ?_
    refine sw_istore_n (k0 := 2) (lv' := [(2, .int (-1)), (0, .ref 49), (1, .int a1)]) (by decide +kernel) rfl (by decide) rfl ?_
    refine sw_bipush (n := 61) (v := 61) (by decide +kernel) (by decide) ?_
    refine sw_istore_n (k0 := 3) (lv' := [(3, .int 61), (2, .int (-1)), (0, .ref 49), (1, .int a1)]) (by decide +kernel) rfl (by decide) rfl ?_
    refine sw_iconst (n := 0) (v := 0) (by decide +kernel) (by decide) ?_
    refine sw_istore (i := 4) (lv' := [(4, .int 0), (3, .int 61), (2, .int (-1)), (0, .ref 49), (1, .int a1)]) (by decide +kernel) (by decide) rfl ?_
    refine sw_lv [3, 4, 2, 1, 0] rfl ?_
    exact sw_wh_e (fun s : Int32 × Int32 × Int32 × sw_M => sw_Go l E K RX10 cX10_rouser 6 (some .int) 19 [(0, .ref 49), (1, .int a1), (2, .int s.1), (3, .int s.2.1), (4, .int s.2.2.1)] [] s.2.2.2 (some (.int res.1)) res.2) (fun q => q = res) (fun s => fX10_rouser_L19 s.2.2.2 a1 s.1 s.2.1 s.2.2.1) (fun s t hb hk => sX10_rouser_L19 hK s.2.2.2 a1 s.1 s.2.1 s.2.2.1 hb hk) _ _ _ h hk
  · rw [if_pos c1] at h
    refine sw_iconst (n := (-1)) (v := (-1)) (by decide +kernel) (by decide) ?_
    cases h
    obtain rfl : _ = res := hk
    exact sw_iret (by decide +kernel)
def fX10_silent (σ : sw_M) : Int32 :=
  ((1 <<< ((σ.1 49 41) &&& 31)) - 1) &&& ((σ.1 65 5) ^^^ (-1))
set_option maxRecDepth 20000 in
theorem sX10_silent {l : Launch} {E : sw_E} {K : Nat} (hK : 0 ≤ K) (σ : sw_M) {res : Int32} (h : fX10_silent σ = res) : sw_Ct l E K yX10_silent cX10_silent 1 (some .int) [.ref 49] σ (some (.int res)) σ := by
  obtain ⟨t, hk, h⟩ : ∃ t, t = res ∧ fX10_silent σ = t := ⟨res, rfl, h⟩
  unfold fX10_silent at h
  refine sw_enter2 (own := RX10) (lv := [(0, .ref 49)]) (by decide +kernel) (Nat.le_of_ble_eq_true rfl) rfl rfl ?_
  refine sw_iconst (n := 1) (v := 1) (by decide +kernel) (by decide) ?_
  refine sw_aload_n (k0 := 0) 0 rfl (by decide +kernel) rfl ?_
  refine gf_X10_381 (i := 49) (by decide) rfl (by decide +kernel) ?_
  refine sw_ishl (by decide +kernel) ?_
  refine sw_iconst (n := 1) (v := 1) (by decide +kernel) (by decide) ?_
  refine sw_isub (by decide +kernel) ?_
  refine sw_aload_n (k0 := 0) 0 rfl (by decide +kernel) rfl ?_
  refine gf_X10_60 (i := 49) (by decide) rfl (by decide +kernel) ?_
  refine sw_refj 65 rfl ?_
  refine sw_iconst (n := 5) (v := 5) (by decide +kernel) (by decide) ?_
  refine sw_iaload (a := 65) (by decide) rfl (sw_in_e (by decide)) (by decide +kernel) ?_
  refine sw_topi (x := σ.1 65 5) rfl ?_
  refine sw_iconst (n := (-1)) (v := (-1)) (by decide +kernel) (by decide) ?_
  refine sw_ixor (by decide +kernel) ?_
  refine sw_iand (by decide +kernel) ?_
  subst h
  obtain rfl : _ = res := hk
  exact sw_iret (by decide +kernel)
def fX10_choir_L90 (σ : sw_M) (a1 : Int32) (a2 : Int32) (a3 : Int32) (a4 : Int32) (a5 : Int32) : Option ((Int32 × Int32 × sw_M) ⊕ (Int32 × sw_M)) :=
  sw_let (a5 + 1) fun v1 =>
  some (.inl (a4, v1, σ))
def fX10_choir_L68 (σ : sw_M) (a1 : Int32) (a2 : Int32) (a3 : Int32) (a4 : Int32) (a5 : Int32) : Option ((Int32 × Int32 × sw_M) ⊕ (Int32 × sw_M)) :=
  sw_b1 (fX10_fill σ) fun m1 =>
  sw_b1 (fX10_tellAll m1 a5) fun m3 =>
  sw_b2 (fX10_risesIn m3 a1) fun r5 m6 =>
  if r5 ≤ 0 then
    fX10_choir_L90 m6 a1 a2 a3 a4 a5
  else
    fX10_choir_L90 m6 a1 a2 a3 a5 a5
def fX10_choir_L32 (σ : sw_M) (a1 : Int32) (a2 : Int32) (a3 : Int32) (a4 : Int32) (a5 : Int32) : Option ((Int32 × Int32 × sw_M) ⊕ (Int32 × sw_M)) :=
  if a3 < a5 then
    if (0 : Int32) ≤ a4 then
      if a2 = 0 then
        sw_b1 (fX10_members a4) fun r4 =>
        some (.inr ((r4, σ)))
      else
        some (.inr ((a4, σ)))
    else
      some (.inr (((-1), σ)))
  else
    if (a5 &&& (a3 ^^^ (-1))) = 0 then
      if a4 < 0 then
        fX10_choir_L68 σ a1 a2 a3 a4 a5
      else
        sw_b1 (fX10_members a5) fun r8 =>
        sw_b1 (fX10_members a4) fun r10 =>
        if r8 < r10 then
          fX10_choir_L68 σ a1 a2 a3 a4 a5
        else
          fX10_choir_L90 σ a1 a2 a3 a4 a5
    else
      fX10_choir_L90 σ a1 a2 a3 a4 a5
def fX10_choir (σ : sw_M) (a1 : Int32) (a2 : Int32) : Option (Int32 × sw_M) :=
  if (fX10_isIn a1 1 30) = 0 then
    some (((-1), σ))
  else
    if (fX10_isIn a2 0 1) = 0 then
      some (((-1), σ))
    else
      sw_let (fX10_silent σ) fun v3 =>
      sw_wh sw_F (fun s => fX10_choir_L32 s.2.2 a1 a2 v3 s.1 s.2.1) ((-1), 0, σ)
set_option maxRecDepth 20000 in
theorem sX10_choir_L90 {l : Launch} {E : sw_E} {K : Nat} (hK : 6 ≤ K) (σ : sw_M) (a1 : Int32) (a2 : Int32) (a3 : Int32) (a4 : Int32) (a5 : Int32) {res : Int32 × sw_M} {t : (Int32 × Int32 × sw_M) ⊕ (Int32 × sw_M)} (h : fX10_choir_L90 σ a1 a2 a3 a4 a5 = some t) (hk : (Sum.elim (fun s : Int32 × Int32 × sw_M => sw_Go l E K RX10 cX10_choir 6 (some .int) 32 [(0, .ref 49), (1, .int a1), (2, .int a2), (3, .int a3), (4, .int s.1), (5, .int s.2.1)] [] s.2.2 (some (.int res.1)) res.2) (fun q => q = res)) t) : sw_Go l E K RX10 cX10_choir 6 (some .int) 90 [(0, .ref 49), (1, .int a1), (2, .int a2), (3, .int a3), (4, .int a4), (5, .int a5)] [] σ (some (.int res.1)) res.2 := by
  unfold fX10_choir_L90 at h
  obtain ⟨v1, e2, h⟩ := sw_let_e h
  refine sw_iincv (i := 5) (n := 1) (lv' := [(5, .int v1), (0, .ref 49), (1, .int a1), (2, .int a2), (3, .int a3), (4, .int a4)]) 5 rfl e2 (by decide +kernel) (by decide) (by decide) rfl ?_
  refine sw_goto (off := (-61)) 32 (by decide +kernel) (by decide) ?_
  cases h
  refine sw_lv [1, 2, 3, 4, 5, 0] rfl ?_
  exact hk
set_option maxRecDepth 20000 in
theorem sX10_choir_L68 {l : Launch} {E : sw_E} {K : Nat} (hK : 6 ≤ K) (σ : sw_M) (a1 : Int32) (a2 : Int32) (a3 : Int32) (a4 : Int32) (a5 : Int32) {res : Int32 × sw_M} {t : (Int32 × Int32 × sw_M) ⊕ (Int32 × sw_M)} (h : fX10_choir_L68 σ a1 a2 a3 a4 a5 = some t) (hk : (Sum.elim (fun s : Int32 × Int32 × sw_M => sw_Go l E K RX10 cX10_choir 6 (some .int) 32 [(0, .ref 49), (1, .int a1), (2, .int a2), (3, .int a3), (4, .int s.1), (5, .int s.2.1)] [] s.2.2 (some (.int res.1)) res.2) (fun q => q = res)) t) : sw_Go l E K RX10 cX10_choir 6 (some .int) 68 [(0, .ref 49), (1, .int a1), (2, .int a2), (3, .int a3), (4, .int a4), (5, .int a5)] [] σ (some (.int res.1)) res.2 := by
  unfold fX10_choir_L68 at h
  refine sw_aload_n (k0 := 0) 0 rfl (by decide +kernel) rfl ?_
  obtain ⟨m1, w2, h⟩ := sw_b1_e h
  refine sw_callVv (ci := 10) (i := 49) [] (sX10_fill (K := K - 1) (by omega) σ w2) rfl (by omega) rfl gs_X10_445 hy_X10_fill (by decide) (by decide) rfl rfl (Nat.le_of_ble_eq_true rfl) (by decide +kernel) ?_
  refine sw_aload_n (k0 := 0) 0 rfl (by decide +kernel) rfl ?_
  refine sw_iload 5 rfl (by decide +kernel) ?_
  obtain ⟨m3, w4, h⟩ := sw_b1_e h
  refine sw_callVv (ci := 10) (i := 49) [.int a5] (sX10_tellAll (K := K - 1) (by omega) m1 a5 w4) rfl (by omega) rfl gs_X10_476 hy_X10_tellAll (by decide) (by decide) rfl rfl (Nat.le_of_ble_eq_true rfl) (by decide +kernel) ?_
  refine sw_aload_n (k0 := 0) 0 rfl (by decide +kernel) rfl ?_
  refine sw_iload_n (k0 := 1) 1 rfl (by decide +kernel) rfl ?_
  obtain ⟨r5, m6, w7, h⟩ := sw_b2_e h
  refine sw_callVi (ci := 10) (i := 49) [.int a1] (sX10_risesIn (K := K - 1) (by omega) m3 a1 w7) rfl (by omega) rfl gs_X10_470 hy_X10_risesIn (by decide) (by decide) rfl rfl (Nat.le_of_ble_eq_true rfl) (by decide +kernel) ?_
  refine sw_if_le (off := 7) 90 (by decide +kernel) (by decide) (fun c8 => ?_) (fun c8 => ?_)
  · rw [if_pos c8] at h
    exact sX10_choir_L90 hK m6 a1 a2 a3 a4 a5 h hk
  · rw [if_neg c8] at h
    refine sw_iload 5 rfl (by decide +kernel) ?_
    refine sw_istore (i := 4) (lv' := [(4, .int a5), (0, .ref 49), (1, .int a1), (2, .int a2), (3, .int a3), (5, .int a5)]) (by decide +kernel) (by decide) rfl ?_
    refine sw_lv [1, 2, 3, 4, 0, 5] rfl ?_
    exact sX10_choir_L90 hK m6 a1 a2 a3 a5 a5 h hk
set_option maxRecDepth 20000 in
theorem sX10_choir_L32 {l : Launch} {E : sw_E} {K : Nat} (hK : 6 ≤ K) (σ : sw_M) (a1 : Int32) (a2 : Int32) (a3 : Int32) (a4 : Int32) (a5 : Int32) {res : Int32 × sw_M} {t : (Int32 × Int32 × sw_M) ⊕ (Int32 × sw_M)} (h : fX10_choir_L32 σ a1 a2 a3 a4 a5 = some t) (hk : (Sum.elim (fun s : Int32 × Int32 × sw_M => sw_Go l E K RX10 cX10_choir 6 (some .int) 32 [(0, .ref 49), (1, .int a1), (2, .int a2), (3, .int a3), (4, .int s.1), (5, .int s.2.1)] [] s.2.2 (some (.int res.1)) res.2) (fun q => q = res)) t) : sw_Go l E K RX10 cX10_choir 6 (some .int) 32 [(0, .ref 49), (1, .int a1), (2, .int a2), (3, .int a3), (4, .int a4), (5, .int a5)] [] σ (some (.int res.1)) res.2 := by
  unfold fX10_choir_L32 at h
  refine sw_iload 5 rfl (by decide +kernel) ?_
  refine sw_iload_n (k0 := 3) 3 rfl (by decide +kernel) rfl ?_
  refine sw_icmp_gt (off := 61) 96 (by decide +kernel) (by decide) (fun c1 => ?_) (fun c1 => ?_)
  · rw [if_pos c1] at h
    refine sw_iload 4 rfl (by decide +kernel) ?_
    refine sw_if_ge (off := 7) 105 (by decide +kernel) (by decide) (fun c2 => ?_) (fun c2 => ?_)
    · rw [if_pos c2] at h
      refine sw_iload_n (k0 := 2) 2 rfl (by decide +kernel) rfl ?_
      refine sw_if_ne (off := 11) 117 (by decide +kernel) (by decide) (fun c3 => ?_) (fun c3 => ?_)
      · rw [if_neg c3] at h
        refine sw_iload 4 rfl (by decide +kernel) ?_
        cases h
        obtain rfl : _ = res := hk
        exact sw_iret (by decide +kernel)
      · rw [if_pos c3] at h
        refine sw_iload 4 rfl (by decide +kernel) ?_
        obtain ⟨r4, w5, h⟩ := sw_b1_e h
        refine sw_callSi [.int a4] (sX10_members (K := K - 1) (by omega) σ a4 w5) rfl (by omega) gs_X10_303 hy_X10_members (by decide) rfl (Nat.le_of_ble_eq_true rfl) (by decide +kernel) ?_
        refine sw_goto (off := 5) 119 (by decide +kernel) (by decide) ?_
        cases h
        obtain rfl : _ = res := hk
        exact sw_iret (by decide +kernel)
    · rw [if_neg c2] at h
      refine sw_iconst (n := (-1)) (v := (-1)) (by decide +kernel) (by decide) ?_
      refine sw_goto (off := 17) 119 (by decide +kernel) (by decide) ?_
      cases h
      obtain rfl : _ = res := hk
      exact sw_iret (by decide +kernel)
  · rw [if_neg c1] at h
    refine sw_iload 5 rfl (by decide +kernel) ?_
    refine sw_iload_n (k0 := 3) 3 rfl (by decide +kernel) rfl ?_
    refine sw_iconst (n := (-1)) (v := (-1)) (by decide +kernel) (by decide) ?_
    refine sw_ixor (by decide +kernel) ?_
    refine sw_iand (by decide +kernel) ?_
    refine sw_if_ne (off := 46) 90 (by decide +kernel) (by decide) (fun c6 => ?_) (fun c6 => ?_)
    · rw [if_neg c6] at h
      exact sX10_choir_L90 hK σ a1 a2 a3 a4 a5 h hk
    · rw [if_pos c6] at h
      refine sw_iload 4 rfl (by decide +kernel) ?_
      refine sw_if_lt (off := 19) 68 (by decide +kernel) (by decide) (fun c7 => ?_) (fun c7 => ?_)
      · rw [if_pos c7] at h
        exact sX10_choir_L68 hK σ a1 a2 a3 a4 a5 h hk
      · rw [if_neg c7] at h
        refine sw_iload 5 rfl (by decide +kernel) ?_
        obtain ⟨r8, w9, h⟩ := sw_b1_e h
        refine sw_callSi [.int a5] (sX10_members (K := K - 1) (by omega) σ a5 w9) rfl (by omega) gs_X10_303 hy_X10_members (by decide) rfl (Nat.le_of_ble_eq_true rfl) (by decide +kernel) ?_
        refine sw_iload 4 rfl (by decide +kernel) ?_
        obtain ⟨r10, w11, h⟩ := sw_b1_e h
        refine sw_callSi [.int a4] (sX10_members (K := K - 1) (by omega) σ a4 w11) rfl (by omega) gs_X10_303 hy_X10_members (by decide) rfl (Nat.le_of_ble_eq_true rfl) (by decide +kernel) ?_
        refine sw_icmp_lt (off := 6) 68 (by decide +kernel) (by decide) (fun c12 => ?_) (fun c12 => ?_)
        · rw [if_pos c12] at h
          exact sX10_choir_L68 hK σ a1 a2 a3 a4 a5 h hk
        · rw [if_neg c12] at h
          refine sw_goto (off := 25) 90 (by decide +kernel) (by decide) ?_
          exact sX10_choir_L90 hK σ a1 a2 a3 a4 a5 h hk
set_option maxRecDepth 20000 in
theorem sX10_choir {l : Launch} {E : sw_E} {K : Nat} (hK : 6 ≤ K) (σ : sw_M) (a1 : Int32) (a2 : Int32) {res : Int32 × sw_M} (h : fX10_choir σ a1 a2 = some res) : sw_Ct l E K yX10_choir cX10_choir 6 (some .int) [.ref 49, .int a1, .int a2] σ (some (.int res.1)) res.2 := by
  obtain ⟨t, hk, h⟩ : ∃ t, t = res ∧ fX10_choir σ a1 a2 = some t := ⟨res, rfl, h⟩
  unfold fX10_choir at h
  refine sw_enter2 (own := RX10) (lv := [(0, .ref 49), (1, .int a1), (2, .int a2)]) (by decide +kernel) (Nat.le_of_ble_eq_true rfl) rfl rfl ?_
  refine sw_iload_n (k0 := 1) 1 rfl (by decide +kernel) rfl ?_
  refine sw_iconst (n := 1) (v := 1) (by decide +kernel) (by decide) ?_
  refine sw_bipush (n := 30) (v := 30) (by decide +kernel) (by decide) ?_
  refine sw_callSi [.int a1, .int 1, .int 30] (sX10_isIn (K := K - 1) (by omega) σ a1 1 30 rfl) rfl (by omega) gs_X10_411 hy_X10_isIn (by decide) rfl (Nat.le_of_ble_eq_true rfl) (by decide +kernel) ?_
  refine sw_if_eq (off := 12) 19 (by decide +kernel) (by decide) (fun c1 => ?_) (fun c1 => ?_)
  · rw [if_pos c1] at h
    refine sw_iconst (n := (-1)) (v := (-1)) (by decide +kernel) (by decide) ?_
    cases h
    obtain rfl : _ = res := hk
    exact sw_iret (by decide +kernel)
  · rw [if_neg c1] at h
    refine sw_iload_n (k0 := 2) 2 rfl (by decide +kernel) rfl ?_
    refine sw_iconst (n := 0) (v := 0) (by decide +kernel) (by decide) ?_
    refine sw_iconst (n := 1) (v := 1) (by decide +kernel) (by decide) ?_
    refine sw_callSi [.int a2, .int 0, .int 1] (sX10_isIn (K := K - 1) (by omega) σ a2 0 1 rfl) rfl (by omega) gs_X10_411 hy_X10_isIn (by decide) rfl (Nat.le_of_ble_eq_true rfl) (by decide +kernel) ?_
    refine sw_if_ne (off := 5) 21 (by decide +kernel) (by decide) (fun c2 => ?_) (fun c2 => ?_)
    · rw [if_neg c2] at h
      refine sw_aload_n (k0 := 0) 0 rfl (by decide +kernel) rfl ?_
      refine sw_callVi (ci := 10) (i := 49) [] (sX10_silent (K := K - 1) (by omega) σ rfl) rfl (by omega) rfl gs_X10_473 hy_X10_silent (by decide) (by decide) rfl rfl (Nat.le_of_ble_eq_true rfl) (by decide +kernel) ?_
      obtain ⟨v3, e4, h⟩ := sw_let_e h
      refine sw_topi e4 ?_
      refine sw_istore_n (k0 := 3) (lv' := [(3, .int v3), (0, .ref 49), (1, .int a1), (2, .int a2)]) (by decide +kernel) rfl (by decide) rfl ?_
      refine sw_iconst (n := (-1)) (v := (-1)) (by decide +kernel) (by decide) ?_
      refine sw_istore (i := 4) (lv' := [(4, .int (-1)), (3, .int v3), (0, .ref 49), (1, .int a1), (2, .int a2)]) (by decide +kernel) (by decide) rfl ?_
      refine sw_iconst (n := 0) (v := 0) (by decide +kernel) (by decide) ?_
      refine sw_istore (i := 5) (lv' := [(5, .int 0), (4, .int (-1)), (3, .int v3), (0, .ref 49), (1, .int a1), (2, .int a2)]) (by decide +kernel) (by decide) rfl ?_
      refine sw_lv [3, 4, 5, 2, 1, 0] rfl ?_
      exact sw_wh_e (fun s : Int32 × Int32 × sw_M => sw_Go l E K RX10 cX10_choir 6 (some .int) 32 [(0, .ref 49), (1, .int a1), (2, .int a2), (3, .int v3), (4, .int s.1), (5, .int s.2.1)] [] s.2.2 (some (.int res.1)) res.2) (fun q => q = res) (fun s => fX10_choir_L32 s.2.2 a1 a2 v3 s.1 s.2.1) (fun s t hb hk => sX10_choir_L32 hK s.2.2 a1 a2 v3 s.1 s.2.1 hb hk) _ _ _ h hk
    · rw [if_pos c2] at h
      refine sw_iconst (n := (-1)) (v := (-1)) (by decide +kernel) (by decide) ?_
      cases h
      obtain rfl : _ = res := hk
      exact sw_iret (by decide +kernel)
def fX10_risesWith (σ : sw_M) (a1 : Int32) : Option (Int32 × sw_M) :=
  sw_b1 (fX10_fill σ) fun m1 =>
  sw_b1 (fX10_tellAll m1 a1) fun m3 =>
  sw_b2 (fX10_goBoiling m3 0) fun r5 m6 =>
  sw_gd (sw_bo r5) <|
  some ((r5, m6))
set_option maxRecDepth 20000 in
theorem sX10_risesWith {l : Launch} {E : sw_E} {K : Nat} (hK : 5 ≤ K) (σ : sw_M) (a1 : Int32) {res : Int32 × sw_M} (h : fX10_risesWith σ a1 = some res) : sw_Ct l E K yX10_risesWith cX10_risesWith 2 (some .boolean) [.ref 49, .int a1] σ (some (.int res.1)) res.2 := by
  obtain ⟨t, hk, h⟩ : ∃ t, t = res ∧ fX10_risesWith σ a1 = some t := ⟨res, rfl, h⟩
  unfold fX10_risesWith at h
  refine sw_enter2 (own := RX10) (lv := [(0, .ref 49), (1, .int a1)]) (by decide +kernel) (Nat.le_of_ble_eq_true rfl) rfl rfl ?_
  refine sw_aload_n (k0 := 0) 0 rfl (by decide +kernel) rfl ?_
  obtain ⟨m1, w2, h⟩ := sw_b1_e h
  refine sw_callVv (ci := 10) (i := 49) [] (sX10_fill (K := K - 1) (by omega) σ w2) rfl (by omega) rfl gs_X10_445 hy_X10_fill (by decide) (by decide) rfl rfl (Nat.le_of_ble_eq_true rfl) (by decide +kernel) ?_
  refine sw_aload_n (k0 := 0) 0 rfl (by decide +kernel) rfl ?_
  refine sw_iload_n (k0 := 1) 1 rfl (by decide +kernel) rfl ?_
  obtain ⟨m3, w4, h⟩ := sw_b1_e h
  refine sw_callVv (ci := 10) (i := 49) [.int a1] (sX10_tellAll (K := K - 1) (by omega) m1 a1 w4) rfl (by omega) rfl gs_X10_476 hy_X10_tellAll (by decide) (by decide) rfl rfl (Nat.le_of_ble_eq_true rfl) (by decide +kernel) ?_
  refine sw_aload_n (k0 := 0) 0 rfl (by decide +kernel) rfl ?_
  refine sw_iconst (n := 0) (v := 0) (by decide +kernel) (by decide) ?_
  obtain ⟨r5, m6, w7, h⟩ := sw_b2_e h
  refine sw_callVi (ci := 10) (i := 49) [.int 0] (sX10_goBoiling (K := K - 1) (by omega) m3 0 w7) rfl (by omega) rfl gs_X10_457 hy_X10_goBoiling (by decide) (by decide) rfl rfl (Nat.le_of_ble_eq_true rfl) (by decide +kernel) ?_
  obtain ⟨g8, h⟩ := sw_gd_e h
  cases h
  obtain rfl : _ = res := hk
  exact sw_zret (sw_bo_n (sw_bo_e g8)) (by decide +kernel)
def fX10_power_L74 (σ : sw_M) (a1 : Int32) (a2 : Int32) (a3 : Int32) (a4 : Int32) : Option ((Int32 × Int32 × sw_M) ⊕ (Int32 × sw_M)) :=
  sw_let (a4 + 1) fun v1 =>
  some (.inl (a3, v1, σ))
def fX10_power_L34 (σ : sw_M) (a1 : Int32) (a2 : Int32) (a3 : Int32) (a4 : Int32) : Option ((Int32 × Int32 × sw_M) ⊕ (Int32 × sw_M)) :=
  if a2 < a4 then
    some (.inr ((a3, σ)))
  else
    if (a4 &&& (a2 ^^^ (-1))) = 0 then
      sw_b2 (fX10_risesWith σ a4) fun r3 m4 =>
      if r3 = 0 then
        sw_b2 (fX10_risesWith m4 (a4 ||| (1 <<< (a1 &&& 31)))) fun r7 m8 =>
        if r7 = 0 then
          fX10_power_L74 m8 a1 a2 a3 a4
        else
          sw_let (a3 + 1) fun v11 =>
          fX10_power_L74 m8 a1 a2 v11 a4
      else
        fX10_power_L74 m4 a1 a2 a3 a4
    else
      fX10_power_L74 σ a1 a2 a3 a4
def fX10_power (σ : sw_M) (a1 : Int32) : Option (Int32 × sw_M) :=
  if (fX10_isPerson σ a1) = 0 then
    some (((-1), σ))
  else
    if (fX10_hasTold σ a1) = 0 then
      sw_let ((fX10_silent σ) &&& ((1 <<< (a1 &&& 31)) ^^^ (-1))) fun v3 =>
      sw_wh sw_F (fun s => fX10_power_L34 s.2.2 a1 v3 s.1 s.2.1) (0, 0, σ)
    else
      some (((-1), σ))
set_option maxRecDepth 20000 in
theorem sX10_power_L74 {l : Launch} {E : sw_E} {K : Nat} (hK : 6 ≤ K) (σ : sw_M) (a1 : Int32) (a2 : Int32) (a3 : Int32) (a4 : Int32) {res : Int32 × sw_M} {t : (Int32 × Int32 × sw_M) ⊕ (Int32 × sw_M)} (h : fX10_power_L74 σ a1 a2 a3 a4 = some t) (hk : (Sum.elim (fun s : Int32 × Int32 × sw_M => sw_Go l E K RX10 cX10_power 5 (some .int) 34 [(0, .ref 49), (1, .int a1), (2, .int a2), (3, .int s.1), (4, .int s.2.1)] [] s.2.2 (some (.int res.1)) res.2) (fun q => q = res)) t) : sw_Go l E K RX10 cX10_power 5 (some .int) 74 [(0, .ref 49), (1, .int a1), (2, .int a2), (3, .int a3), (4, .int a4)] [] σ (some (.int res.1)) res.2 := by
  unfold fX10_power_L74 at h
  obtain ⟨v1, e2, h⟩ := sw_let_e h
  refine sw_iincv (i := 4) (n := 1) (lv' := [(4, .int v1), (0, .ref 49), (1, .int a1), (2, .int a2), (3, .int a3)]) 4 rfl e2 (by decide +kernel) (by decide) (by decide) rfl ?_
  refine sw_goto (off := (-43)) 34 (by decide +kernel) (by decide) ?_
  cases h
  refine sw_lv [1, 2, 3, 4, 0] rfl ?_
  exact hk
set_option maxRecDepth 20000 in
theorem sX10_power_L34 {l : Launch} {E : sw_E} {K : Nat} (hK : 6 ≤ K) (σ : sw_M) (a1 : Int32) (a2 : Int32) (a3 : Int32) (a4 : Int32) {res : Int32 × sw_M} {t : (Int32 × Int32 × sw_M) ⊕ (Int32 × sw_M)} (h : fX10_power_L34 σ a1 a2 a3 a4 = some t) (hk : (Sum.elim (fun s : Int32 × Int32 × sw_M => sw_Go l E K RX10 cX10_power 5 (some .int) 34 [(0, .ref 49), (1, .int a1), (2, .int a2), (3, .int s.1), (4, .int s.2.1)] [] s.2.2 (some (.int res.1)) res.2) (fun q => q = res)) t) : sw_Go l E K RX10 cX10_power 5 (some .int) 34 [(0, .ref 49), (1, .int a1), (2, .int a2), (3, .int a3), (4, .int a4)] [] σ (some (.int res.1)) res.2 := by
  unfold fX10_power_L34 at h
  refine sw_iload 4 rfl (by decide +kernel) ?_
  refine sw_iload_n (k0 := 2) 2 rfl (by decide +kernel) rfl ?_
  refine sw_icmp_gt (off := 43) 80 (by decide +kernel) (by decide) (fun c1 => ?_) (fun c1 => ?_)
  · rw [if_pos c1] at h
    refine sw_iload_n (k0 := 3) 3 rfl (by decide +kernel) rfl ?_
    cases h
    obtain rfl : _ = res := hk
    exact sw_iret (by decide +kernel)
  · rw [if_neg c1] at h
    refine sw_iload 4 rfl (by decide +kernel) ?_
    refine sw_iload_n (k0 := 2) 2 rfl (by decide +kernel) rfl ?_
    refine sw_iconst (n := (-1)) (v := (-1)) (by decide +kernel) (by decide) ?_
    refine sw_ixor (by decide +kernel) ?_
    refine sw_iand (by decide +kernel) ?_
    refine sw_if_ne (off := 28) 74 (by decide +kernel) (by decide) (fun c2 => ?_) (fun c2 => ?_)
    · rw [if_neg c2] at h
      exact sX10_power_L74 hK σ a1 a2 a3 a4 h hk
    · rw [if_pos c2] at h
      refine sw_aload_n (k0 := 0) 0 rfl (by decide +kernel) rfl ?_
      refine sw_iload 4 rfl (by decide +kernel) ?_
      obtain ⟨r3, m4, w5, h⟩ := sw_b2_e h
      refine sw_callVi (ci := 10) (i := 49) [.int a4] (sX10_risesWith (K := K - 1) (by omega) σ a4 w5) rfl (by omega) rfl gs_X10_479 hy_X10_risesWith (by decide) (by decide) rfl rfl (Nat.le_of_ble_eq_true rfl) (by decide +kernel) ?_
      refine sw_if_ne (off := 19) 74 (by decide +kernel) (by decide) (fun c6 => ?_) (fun c6 => ?_)
      · rw [if_neg c6] at h
        exact sX10_power_L74 hK m4 a1 a2 a3 a4 h hk
      · rw [if_pos c6] at h
        refine sw_aload_n (k0 := 0) 0 rfl (by decide +kernel) rfl ?_
        refine sw_iload 4 rfl (by decide +kernel) ?_
        refine sw_iconst (n := 1) (v := 1) (by decide +kernel) (by decide) ?_
        refine sw_iload_n (k0 := 1) 1 rfl (by decide +kernel) rfl ?_
        refine sw_ishl (by decide +kernel) ?_
        refine sw_ior (by decide +kernel) ?_
        obtain ⟨r7, m8, w9, h⟩ := sw_b2_e h
        refine sw_callVi (ci := 10) (i := 49) [.int (a4 ||| (1 <<< (a1 &&& 31)))] (sX10_risesWith (K := K - 1) (by omega) m4 (a4 ||| (1 <<< (a1 &&& 31))) w9) rfl (by omega) rfl gs_X10_479 hy_X10_risesWith (by decide) (by decide) rfl rfl (Nat.le_of_ble_eq_true rfl) (by decide +kernel) ?_
        refine sw_if_eq (off := 6) 74 (by decide +kernel) (by decide) (fun c10 => ?_) (fun c10 => ?_)
        · rw [if_pos c10] at h
          exact sX10_power_L74 hK m8 a1 a2 a3 a4 h hk
        · rw [if_neg c10] at h
          obtain ⟨v11, e12, h⟩ := sw_let_e h
          refine sw_iincv (i := 3) (n := 1) (lv' := [(3, .int v11), (0, .ref 49), (1, .int a1), (2, .int a2), (4, .int a4)]) 3 rfl e12 (by decide +kernel) (by decide) (by decide) rfl ?_
          refine sw_lv [1, 2, 3, 0, 4] rfl ?_
          exact sX10_power_L74 hK m8 a1 a2 v11 a4 h hk
set_option maxRecDepth 20000 in
theorem sX10_power {l : Launch} {E : sw_E} {K : Nat} (hK : 6 ≤ K) (σ : sw_M) (a1 : Int32) {res : Int32 × sw_M} (h : fX10_power σ a1 = some res) : sw_Ct l E K yX10_power cX10_power 5 (some .int) [.ref 49, .int a1] σ (some (.int res.1)) res.2 := by
  obtain ⟨t, hk, h⟩ : ∃ t, t = res ∧ fX10_power σ a1 = some t := ⟨res, rfl, h⟩
  unfold fX10_power at h
  refine sw_enter2 (own := RX10) (lv := [(0, .ref 49), (1, .int a1)]) (by decide +kernel) (Nat.le_of_ble_eq_true rfl) rfl rfl ?_
  refine sw_aload_n (k0 := 0) 0 rfl (by decide +kernel) rfl ?_
  refine sw_iload_n (k0 := 1) 1 rfl (by decide +kernel) rfl ?_
  refine sw_callVi (ci := 10) (i := 49) [.int a1] (sX10_isPerson (K := K - 1) (by omega) σ a1 rfl) rfl (by omega) rfl gs_X10_436 hy_X10_isPerson (by decide) (by decide) rfl rfl (Nat.le_of_ble_eq_true rfl) (by decide +kernel) ?_
  refine sw_if_eq (off := 11) 16 (by decide +kernel) (by decide) (fun c1 => ?_) (fun c1 => ?_)
  · rw [if_pos c1] at h
    refine sw_iconst (n := (-1)) (v := (-1)) (by decide +kernel) (by decide) ?_
    cases h
    obtain rfl : _ = res := hk
    exact sw_iret (by decide +kernel)
  · rw [if_neg c1] at h
    refine sw_aload_n (k0 := 0) 0 rfl (by decide +kernel) rfl ?_
    refine sw_iload_n (k0 := 1) 1 rfl (by decide +kernel) rfl ?_
    refine sw_callVi (ci := 10) (i := 49) [.int a1] (sX10_hasTold (K := K - 1) (by omega) σ a1 rfl) rfl (by omega) rfl gs_X10_448 hy_X10_hasTold (by decide) (by decide) rfl rfl (Nat.le_of_ble_eq_true rfl) (by decide +kernel) ?_
    refine sw_if_eq (off := 5) 18 (by decide +kernel) (by decide) (fun c2 => ?_) (fun c2 => ?_)
    · rw [if_pos c2] at h
      refine sw_aload_n (k0 := 0) 0 rfl (by decide +kernel) rfl ?_
      refine sw_callVi (ci := 10) (i := 49) [] (sX10_silent (K := K - 1) (by omega) σ rfl) rfl (by omega) rfl gs_X10_473 hy_X10_silent (by decide) (by decide) rfl rfl (Nat.le_of_ble_eq_true rfl) (by decide +kernel) ?_
      refine sw_iconst (n := 1) (v := 1) (by decide +kernel) (by decide) ?_
      refine sw_iload_n (k0 := 1) 1 rfl (by decide +kernel) rfl ?_
      refine sw_ishl (by decide +kernel) ?_
      refine sw_iconst (n := (-1)) (v := (-1)) (by decide +kernel) (by decide) ?_
      refine sw_ixor (by decide +kernel) ?_
      refine sw_iand (by decide +kernel) ?_
      obtain ⟨v3, e4, h⟩ := sw_let_e h
      refine sw_topi e4 ?_
      refine sw_istore_n (k0 := 2) (lv' := [(2, .int v3), (0, .ref 49), (1, .int a1)]) (by decide +kernel) rfl (by decide) rfl ?_
      refine sw_iconst (n := 0) (v := 0) (by decide +kernel) (by decide) ?_
      refine sw_istore_n (k0 := 3) (lv' := [(3, .int 0), (2, .int v3), (0, .ref 49), (1, .int a1)]) (by decide +kernel) rfl (by decide) rfl ?_
      refine sw_iconst (n := 0) (v := 0) (by decide +kernel) (by decide) ?_
      refine sw_istore (i := 4) (lv' := [(4, .int 0), (3, .int 0), (2, .int v3), (0, .ref 49), (1, .int a1)]) (by decide +kernel) (by decide) rfl ?_
      refine sw_lv [3, 4, 2, 1, 0] rfl ?_
      exact sw_wh_e (fun s : Int32 × Int32 × sw_M => sw_Go l E K RX10 cX10_power 5 (some .int) 34 [(0, .ref 49), (1, .int a1), (2, .int v3), (3, .int s.1), (4, .int s.2.1)] [] s.2.2 (some (.int res.1)) res.2) (fun q => q = res) (fun s => fX10_power_L34 s.2.2 a1 v3 s.1 s.2.1) (fun s t hb hk => sX10_power_L34 hK s.2.2 a1 v3 s.1 s.2.1 hb hk) _ _ _ h hk
    · rw [if_neg c2] at h
      refine sw_iconst (n := (-1)) (v := (-1)) (by decide +kernel) (by decide) ?_
      cases h
      obtain rfl : _ = res := hk
      exact sw_iret (by decide +kernel)
def fX10_serve_L171 (σ : sw_M) (a1 : Int32) (a2 : Int32) (a3 : Int32) (a4 : Int32) : Option ((Int32 × Int32) ⊕ (Int32)) :=
  sw_let (a4 + 1) fun v1 =>
  some (.inl (a3, v1))
def fX10_serve_L155 (σ : sw_M) (a1 : Int32) (a2 : Int32) (a3 : Int32) (a4 : Int32) (a6 : Int32) (b0 : Int32) : Option ((Int32 × Int32) ⊕ ((Int32 × Int32) ⊕ (Int32))) :=
  sw_let (a6 + 1) fun v1 =>
  some (.inl (b0, v1))
def fX10_serve_L154 (σ : sw_M) (a1 : Int32) (a2 : Int32) (a3 : Int32) (a4 : Int32) (a6 : Int32) : Option ((Int32 × Int32) ⊕ ((Int32 × Int32) ⊕ (Int32))) :=
  fX10_serve_L155 σ a1 a2 a3 a4 a6 0
def fX10_serve_L124 (σ : sw_M) (a1 : Int32) (a2 : Int32) (a3 : Int32) (a4 : Int32) (a5 : Int32) (a6 : Int32) (a8 : Int32) (b0 : Int32) (b1 : Int32) : Option ((Int32 × Int32) ⊕ ((Int32 × Int32) ⊕ ((Int32 × Int32) ⊕ (Int32)))) :=
  sw_let (b1 + b0) fun v1 =>
  sw_let (a8 + 1) fun v3 =>
  some (.inl (v1, v3))
def fX10_serve_L86 (σ : sw_M) (a1 : Int32) (a2 : Int32) (a3 : Int32) (a4 : Int32) (a5 : Int32) (a6 : Int32) (a7 : Int32) (a8 : Int32) : Option ((Int32 × Int32) ⊕ ((Int32 × Int32) ⊕ ((Int32 × Int32) ⊕ (Int32)))) :=
  if (σ.1 49 42) ≤ a8 then
    if a5 = 0 then
      sw_up (fX10_serve_L154 σ a1 a2 a3 a4 a6)
    else
      sw_gd (sw_in a6 10) <|
      if (σ.1 65 a6.toNatClampNeg) < a7 then
        sw_up (fX10_serve_L154 σ a1 a2 a3 a4 a6)
      else
        sw_up (fX10_serve_L155 σ a1 a2 a3 a4 a6 1)
  else
    if ((a4 >>> (a8 &&& 31)) &&& 1) = 1 then
      sw_gd (sw_in ((5 * a8) + a6) 20) <|
      fX10_serve_L124 σ a1 a2 a3 a4 a5 a6 a8 (σ.1 63 ((5 * a8) + a6).toNatClampNeg) a7
    else
      fX10_serve_L124 σ a1 a2 a3 a4 a5 a6 a8 0 a7
def fX10_serve_L71 (σ : sw_M) (a1 : Int32) (a2 : Int32) (a3 : Int32) (a4 : Int32) (a5 : Int32) (a6 : Int32) : Option ((Int32 × Int32) ⊕ ((Int32 × Int32) ⊕ (Int32))) :=
  if (σ.1 49 40) ≤ a6 then
    if a5 = 0 then
      sw_up (fX10_serve_L171 σ a1 a2 a3 a4)
    else
      sw_up (fX10_serve_L171 σ a1 a2 a4 a4)
  else
    sw_wh sw_F (fun s => fX10_serve_L86 σ a1 a2 a3 a4 a5 a6 s.1 s.2) (0, 0)
def fX10_serve_L35 (σ : sw_M) (a1 : Int32) (a2 : Int32) (a3 : Int32) (a4 : Int32) : Option ((Int32 × Int32) ⊕ (Int32)) :=
  if a2 < a4 then
    if a1 = 0 then
      sw_b1 (fX10_members a3) fun r3 =>
      some (.inr (r3))
    else
      some (.inr (a3))
  else
    if (a4 &&& (a2 ^^^ (-1))) = 0 then
      sw_b1 (fX10_members a4) fun r6 =>
      sw_b1 (fX10_members a3) fun r8 =>
      if r8 < r6 then
        sw_wh sw_F (fun s => fX10_serve_L71 σ a1 a2 a3 a4 s.1 s.2) (1, 0)
      else
        fX10_serve_L171 σ a1 a2 a3 a4
    else
      fX10_serve_L171 σ a1 a2 a3 a4
def fX10_serve (σ : sw_M) (a1 : Int32) : Option (Int32) :=
  if (fX10_isIn a1 0 1) = 0 then
    some ((-1))
  else
    sw_let (((1 <<< ((σ.1 49 42) &&& 31)) - 1) &&& ((σ.1 65 6) ^^^ (-1))) fun v2 =>
    sw_wh sw_F (fun s => fX10_serve_L35 σ a1 v2 s.1 s.2) (0, 1)
set_option maxRecDepth 20000 in
theorem sX10_serve_L171 {l : Launch} {E : sw_E} {K : Nat} (hK : 1 ≤ K) (σ : sw_M) (a1 : Int32) (a2 : Int32) (a3 : Int32) (a4 : Int32) {res : Int32} {t : (Int32 × Int32) ⊕ (Int32)} (h : fX10_serve_L171 σ a1 a2 a3 a4 = some t) (hk : (Sum.elim (fun s : Int32 × Int32 => sw_Go l E K RX10 cX10_serve 9 (some .int) 35 [(0, .ref 49), (1, .int a1), (2, .int a2), (3, .int s.1), (4, .int s.2)] [] σ (some (.int res)) σ) (fun q => q = res)) t) : sw_Go l E K RX10 cX10_serve 9 (some .int) 171 [(0, .ref 49), (1, .int a1), (2, .int a2), (3, .int a3), (4, .int a4)] [] σ (some (.int res)) σ := by
  unfold fX10_serve_L171 at h
  obtain ⟨v1, e2, h⟩ := sw_let_e h
  refine sw_iincv (i := 4) (n := 1) (lv' := [(4, .int v1), (0, .ref 49), (1, .int a1), (2, .int a2), (3, .int a3)]) 4 rfl e2 (by decide +kernel) (by decide) (by decide) rfl ?_
  refine sw_goto (off := (-139)) 35 (by decide +kernel) (by decide) ?_
  cases h
  refine sw_lv [1, 2, 3, 4, 0] rfl ?_
  exact hk
set_option maxRecDepth 20000 in
theorem sX10_serve_L155 {l : Launch} {E : sw_E} {K : Nat} (hK : 1 ≤ K) (σ : sw_M) (a1 : Int32) (a2 : Int32) (a3 : Int32) (a4 : Int32) (a6 : Int32) (b0 : Int32) {res : Int32} {t : (Int32 × Int32) ⊕ ((Int32 × Int32) ⊕ (Int32))} (h : fX10_serve_L155 σ a1 a2 a3 a4 a6 b0 = some t) (hk : (Sum.elim (fun s : Int32 × Int32 => sw_Go l E K RX10 cX10_serve 9 (some .int) 71 [(0, .ref 49), (1, .int a1), (2, .int a2), (3, .int a3), (4, .int a4), (5, .int s.1), (6, .int s.2)] [] σ (some (.int res)) σ) (Sum.elim (fun s : Int32 × Int32 => sw_Go l E K RX10 cX10_serve 9 (some .int) 35 [(0, .ref 49), (1, .int a1), (2, .int a2), (3, .int s.1), (4, .int s.2)] [] σ (some (.int res)) σ) (fun q => q = res))) t) : sw_Go l E K RX10 cX10_serve 9 (some .int) 155 [(0, .ref 49), (1, .int a1), (2, .int a2), (3, .int a3), (4, .int a4), (6, .int a6)] [.int b0] σ (some (.int res)) σ := by
  unfold fX10_serve_L155 at h
  refine sw_istore (i := 5) (lv' := [(5, .int b0), (0, .ref 49), (1, .int a1), (2, .int a2), (3, .int a3), (4, .int a4), (6, .int a6)]) (by decide +kernel) (by decide) rfl ?_
  obtain ⟨v1, e2, h⟩ := sw_let_e h
  refine sw_iincv (i := 6) (n := 1) (lv' := [(6, .int v1), (5, .int b0), (0, .ref 49), (1, .int a1), (2, .int a2), (3, .int a3), (4, .int a4)]) 6 rfl e2 (by decide +kernel) (by decide) (by decide) rfl ?_
  refine sw_goto (off := (-89)) 71 (by decide +kernel) (by decide) ?_
  cases h
  refine sw_lv [2, 3, 4, 5, 6, 1, 0] rfl ?_
  exact hk
set_option maxRecDepth 20000 in
theorem sX10_serve_L154 {l : Launch} {E : sw_E} {K : Nat} (hK : 1 ≤ K) (σ : sw_M) (a1 : Int32) (a2 : Int32) (a3 : Int32) (a4 : Int32) (a6 : Int32) {res : Int32} {t : (Int32 × Int32) ⊕ ((Int32 × Int32) ⊕ (Int32))} (h : fX10_serve_L154 σ a1 a2 a3 a4 a6 = some t) (hk : (Sum.elim (fun s : Int32 × Int32 => sw_Go l E K RX10 cX10_serve 9 (some .int) 71 [(0, .ref 49), (1, .int a1), (2, .int a2), (3, .int a3), (4, .int a4), (5, .int s.1), (6, .int s.2)] [] σ (some (.int res)) σ) (Sum.elim (fun s : Int32 × Int32 => sw_Go l E K RX10 cX10_serve 9 (some .int) 35 [(0, .ref 49), (1, .int a1), (2, .int a2), (3, .int s.1), (4, .int s.2)] [] σ (some (.int res)) σ) (fun q => q = res))) t) : sw_Go l E K RX10 cX10_serve 9 (some .int) 154 [(0, .ref 49), (1, .int a1), (2, .int a2), (3, .int a3), (4, .int a4), (6, .int a6)] [] σ (some (.int res)) σ := by
  unfold fX10_serve_L154 at h
  refine sw_iconst (n := 0) (v := 0) (by decide +kernel) (by decide) ?_
  exact sX10_serve_L155 hK σ a1 a2 a3 a4 a6 0 h hk
set_option maxRecDepth 20000 in
theorem sX10_serve_L124 {l : Launch} {E : sw_E} {K : Nat} (hK : 1 ≤ K) (σ : sw_M) (a1 : Int32) (a2 : Int32) (a3 : Int32) (a4 : Int32) (a5 : Int32) (a6 : Int32) (a8 : Int32) (b0 : Int32) (b1 : Int32) {res : Int32} {t : (Int32 × Int32) ⊕ ((Int32 × Int32) ⊕ ((Int32 × Int32) ⊕ (Int32)))} (h : fX10_serve_L124 σ a1 a2 a3 a4 a5 a6 a8 b0 b1 = some t) (hk : (Sum.elim (fun s : Int32 × Int32 => sw_Go l E K RX10 cX10_serve 9 (some .int) 86 [(0, .ref 49), (1, .int a1), (2, .int a2), (3, .int a3), (4, .int a4), (5, .int a5), (6, .int a6), (7, .int s.1), (8, .int s.2)] [] σ (some (.int res)) σ) (Sum.elim (fun s : Int32 × Int32 => sw_Go l E K RX10 cX10_serve 9 (some .int) 71 [(0, .ref 49), (1, .int a1), (2, .int a2), (3, .int a3), (4, .int a4), (5, .int s.1), (6, .int s.2)] [] σ (some (.int res)) σ) (Sum.elim (fun s : Int32 × Int32 => sw_Go l E K RX10 cX10_serve 9 (some .int) 35 [(0, .ref 49), (1, .int a1), (2, .int a2), (3, .int s.1), (4, .int s.2)] [] σ (some (.int res)) σ) (fun q => q = res)))) t) : sw_Go l E K RX10 cX10_serve 9 (some .int) 124 [(0, .ref 49), (1, .int a1), (2, .int a2), (3, .int a3), (4, .int a4), (5, .int a5), (6, .int a6), (8, .int a8)] [.int b0, .int b1] σ (some (.int res)) σ := by
  unfold fX10_serve_L124 at h
  refine sw_iadd (by decide +kernel) ?_
  obtain ⟨v1, e2, h⟩ := sw_let_e h
  refine sw_topi e2 ?_
  refine sw_istore (i := 7) (lv' := [(7, .int v1), (0, .ref 49), (1, .int a1), (2, .int a2), (3, .int a3), (4, .int a4), (5, .int a5), (6, .int a6), (8, .int a8)]) (by decide +kernel) (by decide) rfl ?_
  obtain ⟨v3, e4, h⟩ := sw_let_e h
  refine sw_iincv (i := 8) (n := 1) (lv' := [(8, .int v3), (7, .int v1), (0, .ref 49), (1, .int a1), (2, .int a2), (3, .int a3), (4, .int a4), (5, .int a5), (6, .int a6)]) 8 rfl e4 (by decide +kernel) (by decide) (by decide) rfl ?_
  refine sw_goto (off := (-44)) 86 (by decide +kernel) (by decide) ?_
  cases h
  refine sw_lv [2, 3, 4, 5, 6, 7, 8, 1, 0] rfl ?_
  exact hk
set_option maxRecDepth 20000 in
theorem sX10_serve_L86 {l : Launch} {E : sw_E} {K : Nat} (hK : 1 ≤ K) (σ : sw_M) (a1 : Int32) (a2 : Int32) (a3 : Int32) (a4 : Int32) (a5 : Int32) (a6 : Int32) (a7 : Int32) (a8 : Int32) {res : Int32} {t : (Int32 × Int32) ⊕ ((Int32 × Int32) ⊕ ((Int32 × Int32) ⊕ (Int32)))} (h : fX10_serve_L86 σ a1 a2 a3 a4 a5 a6 a7 a8 = some t) (hk : (Sum.elim (fun s : Int32 × Int32 => sw_Go l E K RX10 cX10_serve 9 (some .int) 86 [(0, .ref 49), (1, .int a1), (2, .int a2), (3, .int a3), (4, .int a4), (5, .int a5), (6, .int a6), (7, .int s.1), (8, .int s.2)] [] σ (some (.int res)) σ) (Sum.elim (fun s : Int32 × Int32 => sw_Go l E K RX10 cX10_serve 9 (some .int) 71 [(0, .ref 49), (1, .int a1), (2, .int a2), (3, .int a3), (4, .int a4), (5, .int s.1), (6, .int s.2)] [] σ (some (.int res)) σ) (Sum.elim (fun s : Int32 × Int32 => sw_Go l E K RX10 cX10_serve 9 (some .int) 35 [(0, .ref 49), (1, .int a1), (2, .int a2), (3, .int s.1), (4, .int s.2)] [] σ (some (.int res)) σ) (fun q => q = res)))) t) : sw_Go l E K RX10 cX10_serve 9 (some .int) 86 [(0, .ref 49), (1, .int a1), (2, .int a2), (3, .int a3), (4, .int a4), (5, .int a5), (6, .int a6), (7, .int a7), (8, .int a8)] [] σ (some (.int res)) σ := by
  unfold fX10_serve_L86 at h
  refine sw_iload 8 rfl (by decide +kernel) ?_
  refine sw_aload_n (k0 := 0) 0 rfl (by decide +kernel) rfl ?_
  refine gf_X10_384 (i := 49) (by decide) rfl (by decide +kernel) ?_
  refine sw_icmp_ge (off := 41) 133 (by decide +kernel) (by decide) (fun c1 => ?_) (fun c1 => ?_)
  · rw [if_pos c1] at h
    refine sw_iload 5 rfl (by decide +kernel) ?_
    refine sw_if_eq (off := 19) 154 (by decide +kernel) (by decide) (fun c2 => ?_) (fun c2 => ?_)
    · rw [if_pos c2] at h
      obtain ⟨q2, h2, rfl⟩ := sw_up_e h
      replace h := h2
      refine sw_lv [0, 1, 2, 3, 4, 6] rfl ?_
      exact sX10_serve_L154 hK σ a1 a2 a3 a4 a6 h hk
    · rw [if_neg c2] at h
      refine sw_iload 7 rfl (by decide +kernel) ?_
      refine sw_aload_n (k0 := 0) 0 rfl (by decide +kernel) rfl ?_
      refine gf_X10_60 (i := 49) (by decide) rfl (by decide +kernel) ?_
      refine sw_refj 65 rfl ?_
      refine sw_iload 6 rfl (by decide +kernel) ?_
      obtain ⟨g4, h⟩ := sw_gd_e h
      refine sw_iaload (a := 65) (by decide) rfl (sw_in_e g4) (by decide +kernel) ?_
      refine sw_icmp_gt (off := 7) 154 (by decide +kernel) (by decide) (fun c5 => ?_) (fun c5 => ?_)
      · rw [if_pos c5] at h
        obtain ⟨q5, h5, rfl⟩ := sw_up_e h
        replace h := h5
        refine sw_lv [0, 1, 2, 3, 4, 6] rfl ?_
        exact sX10_serve_L154 hK σ a1 a2 a3 a4 a6 h hk
      · rw [if_neg c5] at h
        refine sw_iconst (n := 1) (v := 1) (by decide +kernel) (by decide) ?_
        refine sw_goto (off := 4) 155 (by decide +kernel) (by decide) ?_
        obtain ⟨q6, h6, rfl⟩ := sw_up_e h
        replace h := h6
        refine sw_lv [0, 1, 2, 3, 4, 6] rfl ?_
        exact sX10_serve_L155 hK σ a1 a2 a3 a4 a6 1 h hk
  · rw [if_neg c1] at h
    refine sw_iload 7 rfl (by decide +kernel) ?_
    refine sw_iload 4 rfl (by decide +kernel) ?_
    refine sw_iload 8 rfl (by decide +kernel) ?_
    refine sw_ishr (by decide +kernel) ?_
    refine sw_iconst (n := 1) (v := 1) (by decide +kernel) (by decide) ?_
    refine sw_iand (by decide +kernel) ?_
    refine sw_iconst (n := 1) (v := 1) (by decide +kernel) (by decide) ?_
    refine sw_icmp_ne (off := 18) 123 (by decide +kernel) (by decide) (fun c8 => ?_) (fun c8 => ?_)
    · rw [if_neg c8] at h
      refine sw_iconst (n := 0) (v := 0) (by decide +kernel) (by decide) ?_
      refine sw_lv [0, 1, 2, 3, 4, 5, 6, 8] rfl ?_
      exact sX10_serve_L124 hK σ a1 a2 a3 a4 a5 a6 a8 0 a7 h hk
    · rw [if_pos c8] at h
      refine sw_aload_n (k0 := 0) 0 rfl (by decide +kernel) rfl ?_
      refine gf_X10_54 (i := 49) (by decide) rfl (by decide +kernel) ?_
      refine sw_refj 63 rfl ?_
      refine sw_iconst (n := 5) (v := 5) (by decide +kernel) (by decide) ?_
      refine sw_iload 8 rfl (by decide +kernel) ?_
      refine sw_imul (by decide +kernel) ?_
      refine sw_iload 6 rfl (by decide +kernel) ?_
      refine sw_iadd (by decide +kernel) ?_
      obtain ⟨g9, h⟩ := sw_gd_e h
      refine sw_iaload (a := 63) (by decide) rfl (sw_in_e g9) (by decide +kernel) ?_
      refine sw_goto (off := 4) 124 (by decide +kernel) (by decide) ?_
      refine sw_lv [0, 1, 2, 3, 4, 5, 6, 8] rfl ?_
      exact sX10_serve_L124 hK σ a1 a2 a3 a4 a5 a6 a8 (σ.1 63 ((5 * a8) + a6).toNatClampNeg) a7 h hk
set_option maxRecDepth 20000 in
theorem sX10_serve_L71 {l : Launch} {E : sw_E} {K : Nat} (hK : 1 ≤ K) (σ : sw_M) (a1 : Int32) (a2 : Int32) (a3 : Int32) (a4 : Int32) (a5 : Int32) (a6 : Int32) {res : Int32} {t : (Int32 × Int32) ⊕ ((Int32 × Int32) ⊕ (Int32))} (h : fX10_serve_L71 σ a1 a2 a3 a4 a5 a6 = some t) (hk : (Sum.elim (fun s : Int32 × Int32 => sw_Go l E K RX10 cX10_serve 9 (some .int) 71 [(0, .ref 49), (1, .int a1), (2, .int a2), (3, .int a3), (4, .int a4), (5, .int s.1), (6, .int s.2)] [] σ (some (.int res)) σ) (Sum.elim (fun s : Int32 × Int32 => sw_Go l E K RX10 cX10_serve 9 (some .int) 35 [(0, .ref 49), (1, .int a1), (2, .int a2), (3, .int s.1), (4, .int s.2)] [] σ (some (.int res)) σ) (fun q => q = res))) t) : sw_Go l E K RX10 cX10_serve 9 (some .int) 71 [(0, .ref 49), (1, .int a1), (2, .int a2), (3, .int a3), (4, .int a4), (5, .int a5), (6, .int a6)] [] σ (some (.int res)) σ := by
  unfold fX10_serve_L71 at h
  refine sw_iload 6 rfl (by decide +kernel) ?_
  refine sw_aload_n (k0 := 0) 0 rfl (by decide +kernel) rfl ?_
  refine gf_X10_291 (i := 49) (by decide) rfl (by decide +kernel) ?_
  refine sw_icmp_ge (off := 86) 163 (by decide +kernel) (by decide) (fun c1 => ?_) (fun c1 => ?_)
  · rw [if_pos c1] at h
    refine sw_iload 5 rfl (by decide +kernel) ?_
    refine sw_if_eq (off := 6) 171 (by decide +kernel) (by decide) (fun c2 => ?_) (fun c2 => ?_)
    · rw [if_pos c2] at h
      obtain ⟨q2, h2, rfl⟩ := sw_up_e h
      replace h := h2
      refine sw_lv [0, 1, 2, 3, 4] rfl ?_
      exact sX10_serve_L171 hK σ a1 a2 a3 a4 h hk
    · rw [if_neg c2] at h
      refine sw_iload 4 rfl (by decide +kernel) ?_
      refine sw_istore_n (k0 := 3) (lv' := [(3, .int a4), (0, .ref 49), (1, .int a1), (2, .int a2), (4, .int a4), (5, .int a5), (6, .int a6)]) (by decide +kernel) rfl (by decide) rfl ?_
      obtain ⟨q3, h3, rfl⟩ := sw_up_e h
      replace h := h3
      refine sw_lv [1, 2, 3, 0, 4] rfl ?_
      exact sX10_serve_L171 hK σ a1 a2 a4 a4 h hk
  · rw [if_neg c1] at h
    refine sw_iconst (n := 0) (v := 0) (by decide +kernel) (by decide) ?_
    refine sw_istore (i := 7) (lv' := [(7, .int 0), (0, .ref 49), (1, .int a1), (2, .int a2), (3, .int a3), (4, .int a4), (5, .int a5), (6, .int a6)]) (by decide +kernel) (by decide) rfl ?_
    refine sw_iconst (n := 0) (v := 0) (by decide +kernel) (by decide) ?_
    refine sw_istore (i := 8) (lv' := [(8, .int 0), (7, .int 0), (0, .ref 49), (1, .int a1), (2, .int a2), (3, .int a3), (4, .int a4), (5, .int a5), (6, .int a6)]) (by decide +kernel) (by decide) rfl ?_
    refine sw_lv [2, 3, 4, 5, 6, 7, 8, 1, 0] rfl ?_
    exact sw_wh_e (fun s : Int32 × Int32 => sw_Go l E K RX10 cX10_serve 9 (some .int) 86 [(0, .ref 49), (1, .int a1), (2, .int a2), (3, .int a3), (4, .int a4), (5, .int a5), (6, .int a6), (7, .int s.1), (8, .int s.2)] [] σ (some (.int res)) σ) (Sum.elim (fun s : Int32 × Int32 => sw_Go l E K RX10 cX10_serve 9 (some .int) 71 [(0, .ref 49), (1, .int a1), (2, .int a2), (3, .int a3), (4, .int a4), (5, .int s.1), (6, .int s.2)] [] σ (some (.int res)) σ) (Sum.elim (fun s : Int32 × Int32 => sw_Go l E K RX10 cX10_serve 9 (some .int) 35 [(0, .ref 49), (1, .int a1), (2, .int a2), (3, .int s.1), (4, .int s.2)] [] σ (some (.int res)) σ) (fun q => q = res))) (fun s => fX10_serve_L86 σ a1 a2 a3 a4 a5 a6 s.1 s.2) (fun s t hb hk => sX10_serve_L86 hK σ a1 a2 a3 a4 a5 a6 s.1 s.2 hb hk) _ _ _ h hk
set_option maxRecDepth 20000 in
theorem sX10_serve_L35 {l : Launch} {E : sw_E} {K : Nat} (hK : 1 ≤ K) (σ : sw_M) (a1 : Int32) (a2 : Int32) (a3 : Int32) (a4 : Int32) {res : Int32} {t : (Int32 × Int32) ⊕ (Int32)} (h : fX10_serve_L35 σ a1 a2 a3 a4 = some t) (hk : (Sum.elim (fun s : Int32 × Int32 => sw_Go l E K RX10 cX10_serve 9 (some .int) 35 [(0, .ref 49), (1, .int a1), (2, .int a2), (3, .int s.1), (4, .int s.2)] [] σ (some (.int res)) σ) (fun q => q = res)) t) : sw_Go l E K RX10 cX10_serve 9 (some .int) 35 [(0, .ref 49), (1, .int a1), (2, .int a2), (3, .int a3), (4, .int a4)] [] σ (some (.int res)) σ := by
  unfold fX10_serve_L35 at h
  refine sw_iload 4 rfl (by decide +kernel) ?_
  refine sw_iload_n (k0 := 2) 2 rfl (by decide +kernel) rfl ?_
  refine sw_icmp_gt (off := 139) 177 (by decide +kernel) (by decide) (fun c1 => ?_) (fun c1 => ?_)
  · rw [if_pos c1] at h
    refine sw_iload_n (k0 := 1) 1 rfl (by decide +kernel) rfl ?_
    refine sw_if_ne (off := 10) 188 (by decide +kernel) (by decide) (fun c2 => ?_) (fun c2 => ?_)
    · rw [if_neg c2] at h
      refine sw_iload_n (k0 := 3) 3 rfl (by decide +kernel) rfl ?_
      cases h
      obtain rfl : _ = res := hk
      exact sw_iret (by decide +kernel)
    · rw [if_pos c2] at h
      refine sw_iload_n (k0 := 3) 3 rfl (by decide +kernel) rfl ?_
      obtain ⟨r3, w4, h⟩ := sw_b1_e h
      refine sw_callSi [.int a3] (sX10_members (K := K - 1) (by omega) σ a3 w4) rfl (by omega) gs_X10_303 hy_X10_members (by decide) rfl (Nat.le_of_ble_eq_true rfl) (by decide +kernel) ?_
      refine sw_goto (off := 4) 189 (by decide +kernel) (by decide) ?_
      cases h
      obtain rfl : _ = res := hk
      exact sw_iret (by decide +kernel)
  · rw [if_neg c1] at h
    refine sw_iload 4 rfl (by decide +kernel) ?_
    refine sw_iload_n (k0 := 2) 2 rfl (by decide +kernel) rfl ?_
    refine sw_iconst (n := (-1)) (v := (-1)) (by decide +kernel) (by decide) ?_
    refine sw_ixor (by decide +kernel) ?_
    refine sw_iand (by decide +kernel) ?_
    refine sw_if_ne (off := 124) 171 (by decide +kernel) (by decide) (fun c5 => ?_) (fun c5 => ?_)
    · rw [if_neg c5] at h
      exact sX10_serve_L171 hK σ a1 a2 a3 a4 h hk
    · rw [if_pos c5] at h
      refine sw_iload 4 rfl (by decide +kernel) ?_
      obtain ⟨r6, w7, h⟩ := sw_b1_e h
      refine sw_callSi [.int a4] (sX10_members (K := K - 1) (by omega) σ a4 w7) rfl (by omega) gs_X10_303 hy_X10_members (by decide) rfl (Nat.le_of_ble_eq_true rfl) (by decide +kernel) ?_
      refine sw_iload_n (k0 := 3) 3 rfl (by decide +kernel) rfl ?_
      obtain ⟨r8, w9, h⟩ := sw_b1_e h
      refine sw_callSi [.int a3] (sX10_members (K := K - 1) (by omega) σ a3 w9) rfl (by omega) gs_X10_303 hy_X10_members (by decide) rfl (Nat.le_of_ble_eq_true rfl) (by decide +kernel) ?_
      refine sw_icmp_gt (off := 6) 65 (by decide +kernel) (by decide) (fun c10 => ?_) (fun c10 => ?_)
      · rw [if_pos c10] at h
        refine sw_iconst (n := 1) (v := 1) (by decide +kernel) (by decide) ?_
        refine sw_istore (i := 5) (lv' := [(5, .int 1), (0, .ref 49), (1, .int a1), (2, .int a2), (3, .int a3), (4, .int a4)]) (by decide +kernel) (by decide) rfl ?_
        refine sw_iconst (n := 0) (v := 0) (by decide +kernel) (by decide) ?_
        refine sw_istore (i := 6) (lv' := [(6, .int 0), (5, .int 1), (0, .ref 49), (1, .int a1), (2, .int a2), (3, .int a3), (4, .int a4)]) (by decide +kernel) (by decide) rfl ?_
        refine sw_lv [2, 3, 4, 5, 6, 1, 0] rfl ?_
        exact sw_wh_e (fun s : Int32 × Int32 => sw_Go l E K RX10 cX10_serve 9 (some .int) 71 [(0, .ref 49), (1, .int a1), (2, .int a2), (3, .int a3), (4, .int a4), (5, .int s.1), (6, .int s.2)] [] σ (some (.int res)) σ) (Sum.elim (fun s : Int32 × Int32 => sw_Go l E K RX10 cX10_serve 9 (some .int) 35 [(0, .ref 49), (1, .int a1), (2, .int a2), (3, .int s.1), (4, .int s.2)] [] σ (some (.int res)) σ) (fun q => q = res)) (fun s => fX10_serve_L71 σ a1 a2 a3 a4 s.1 s.2) (fun s t hb hk => sX10_serve_L71 hK σ a1 a2 a3 a4 s.1 s.2 hb hk) _ _ _ h hk
      · rw [if_neg c10] at h
        refine sw_goto (off := 109) 171 (by decide +kernel) (by decide) ?_
        exact sX10_serve_L171 hK σ a1 a2 a3 a4 h hk
set_option maxRecDepth 20000 in
theorem sX10_serve {l : Launch} {E : sw_E} {K : Nat} (hK : 1 ≤ K) (σ : sw_M) (a1 : Int32) {res : Int32} (h : fX10_serve σ a1 = some res) : sw_Ct l E K yX10_serve cX10_serve 9 (some .int) [.ref 49, .int a1] σ (some (.int res)) σ := by
  obtain ⟨t, hk, h⟩ : ∃ t, t = res ∧ fX10_serve σ a1 = some t := ⟨res, rfl, h⟩
  unfold fX10_serve at h
  refine sw_enter2 (own := RX10) (lv := [(0, .ref 49), (1, .int a1)]) (by decide +kernel) (Nat.le_of_ble_eq_true rfl) rfl rfl ?_
  refine sw_iload_n (k0 := 1) 1 rfl (by decide +kernel) rfl ?_
  refine sw_iconst (n := 0) (v := 0) (by decide +kernel) (by decide) ?_
  refine sw_iconst (n := 1) (v := 1) (by decide +kernel) (by decide) ?_
  refine sw_callSi [.int a1, .int 0, .int 1] (sX10_isIn (K := K - 1) (by omega) σ a1 0 1 rfl) rfl (by omega) gs_X10_411 hy_X10_isIn (by decide) rfl (Nat.le_of_ble_eq_true rfl) (by decide +kernel) ?_
  refine sw_if_ne (off := 5) 11 (by decide +kernel) (by decide) (fun c1 => ?_) (fun c1 => ?_)
  · rw [if_neg c1] at h
    refine sw_iconst (n := 1) (v := 1) (by decide +kernel) (by decide) ?_
    refine sw_aload_n (k0 := 0) 0 rfl (by decide +kernel) rfl ?_
    refine gf_X10_384 (i := 49) (by decide) rfl (by decide +kernel) ?_
    refine sw_ishl (by decide +kernel) ?_
    refine sw_iconst (n := 1) (v := 1) (by decide +kernel) (by decide) ?_
    refine sw_isub (by decide +kernel) ?_
    refine sw_aload_n (k0 := 0) 0 rfl (by decide +kernel) rfl ?_
    refine gf_X10_60 (i := 49) (by decide) rfl (by decide +kernel) ?_
    refine sw_refj 65 rfl ?_
    refine sw_bipush (n := 6) (v := 6) (by decide +kernel) (by decide) ?_
    refine sw_iaload (a := 65) (by decide) rfl (sw_in_e (by decide)) (by decide +kernel) ?_
    refine sw_topi (x := σ.1 65 6) rfl ?_
    refine sw_iconst (n := (-1)) (v := (-1)) (by decide +kernel) (by decide) ?_
    refine sw_ixor (by decide +kernel) ?_
    refine sw_iand (by decide +kernel) ?_
    obtain ⟨v2, e3, h⟩ := sw_let_e h
    refine sw_topi e3 ?_
    refine sw_istore_n (k0 := 2) (lv' := [(2, .int v2), (0, .ref 49), (1, .int a1)]) (by decide +kernel) rfl (by decide) rfl ?_
    refine sw_iconst (n := 0) (v := 0) (by decide +kernel) (by decide) ?_
    refine sw_istore_n (k0 := 3) (lv' := [(3, .int 0), (2, .int v2), (0, .ref 49), (1, .int a1)]) (by decide +kernel) rfl (by decide) rfl ?_
    refine sw_iconst (n := 1) (v := 1) (by decide +kernel) (by decide) ?_
    refine sw_istore (i := 4) (lv' := [(4, .int 1), (3, .int 0), (2, .int v2), (0, .ref 49), (1, .int a1)]) (by decide +kernel) (by decide) rfl ?_
    refine sw_lv [3, 4, 2, 1, 0] rfl ?_
    exact sw_wh_e (fun s : Int32 × Int32 => sw_Go l E K RX10 cX10_serve 9 (some .int) 35 [(0, .ref 49), (1, .int a1), (2, .int v2), (3, .int s.1), (4, .int s.2)] [] σ (some (.int res)) σ) (fun q => q = res) (fun s => fX10_serve_L35 σ a1 v2 s.1 s.2) (fun s t hb hk => sX10_serve_L35 hK σ a1 v2 s.1 s.2 hb hk) _ _ _ h hk
  · rw [if_pos c1] at h
    refine sw_iconst (n := (-1)) (v := (-1)) (by decide +kernel) (by decide) ?_
    cases h
    obtain rfl : _ = res := hk
    exact sw_iret (by decide +kernel)
def fX10_balm_L88 (σ : sw_M) (a1 : Int32) (a2 : Int32) (a3 : Int32) (a4 : Int32) (a5 : Int32) : Option ((Int32 × Int32 × sw_M) ⊕ (Int32 × sw_M)) :=
  sw_let (a5 + 1) fun v1 =>
  some (.inl (a4, v1, σ))
def fX10_balm_L66 (σ : sw_M) (a1 : Int32) (a2 : Int32) (a3 : Int32) (a4 : Int32) (a5 : Int32) : Option ((Int32 × Int32 × sw_M) ⊕ (Int32 × sw_M)) :=
  sw_b1 (fX10_fill σ) fun m1 =>
  sw_b1 (fX10_tellAll m1 a5) fun m3 =>
  sw_b1 (fX10_holds m3 a1) fun r5 =>
  if r5 = 0 then
    fX10_balm_L88 m3 a1 a2 a3 a4 a5
  else
    fX10_balm_L88 m3 a1 a2 a3 a5 a5
def fX10_balm_L30 (σ : sw_M) (a1 : Int32) (a2 : Int32) (a3 : Int32) (a4 : Int32) (a5 : Int32) : Option ((Int32 × Int32 × sw_M) ⊕ (Int32 × sw_M)) :=
  if a3 < a5 then
    if (0 : Int32) ≤ a4 then
      if a2 = 0 then
        sw_b1 (fX10_members a4) fun r4 =>
        some (.inr ((r4, σ)))
      else
        some (.inr ((a4, σ)))
    else
      some (.inr (((-1), σ)))
  else
    if (a5 &&& (a3 ^^^ (-1))) = 0 then
      if a4 < 0 then
        fX10_balm_L66 σ a1 a2 a3 a4 a5
      else
        sw_b1 (fX10_members a5) fun r8 =>
        sw_b1 (fX10_members a4) fun r10 =>
        if r8 < r10 then
          fX10_balm_L66 σ a1 a2 a3 a4 a5
        else
          fX10_balm_L88 σ a1 a2 a3 a4 a5
    else
      fX10_balm_L88 σ a1 a2 a3 a4 a5
def fX10_balm (σ : sw_M) (a1 : Int32) (a2 : Int32) : Option (Int32 × sw_M) :=
  if (fX10_isBasin σ a1) = 0 then
    some (((-1), σ))
  else
    if (fX10_isIn a2 0 1) = 0 then
      some (((-1), σ))
    else
      sw_let (fX10_silent σ) fun v3 =>
      sw_wh sw_F (fun s => fX10_balm_L30 s.2.2 a1 a2 v3 s.1 s.2.1) ((-1), 0, σ)
set_option maxRecDepth 20000 in
theorem sX10_balm_L88 {l : Launch} {E : sw_E} {K : Nat} (hK : 3 ≤ K) (σ : sw_M) (a1 : Int32) (a2 : Int32) (a3 : Int32) (a4 : Int32) (a5 : Int32) {res : Int32 × sw_M} {t : (Int32 × Int32 × sw_M) ⊕ (Int32 × sw_M)} (h : fX10_balm_L88 σ a1 a2 a3 a4 a5 = some t) (hk : (Sum.elim (fun s : Int32 × Int32 × sw_M => sw_Go l E K RX10 cX10_balm 6 (some .int) 30 [(0, .ref 49), (1, .int a1), (2, .int a2), (3, .int a3), (4, .int s.1), (5, .int s.2.1)] [] s.2.2 (some (.int res.1)) res.2) (fun q => q = res)) t) : sw_Go l E K RX10 cX10_balm 6 (some .int) 88 [(0, .ref 49), (1, .int a1), (2, .int a2), (3, .int a3), (4, .int a4), (5, .int a5)] [] σ (some (.int res.1)) res.2 := by
  unfold fX10_balm_L88 at h
  obtain ⟨v1, e2, h⟩ := sw_let_e h
  refine sw_iincv (i := 5) (n := 1) (lv' := [(5, .int v1), (0, .ref 49), (1, .int a1), (2, .int a2), (3, .int a3), (4, .int a4)]) 5 rfl e2 (by decide +kernel) (by decide) (by decide) rfl ?_
  refine sw_goto (off := (-61)) 30 (by decide +kernel) (by decide) ?_
  cases h
  refine sw_lv [1, 2, 3, 4, 5, 0] rfl ?_
  exact hk
set_option maxRecDepth 20000 in
theorem sX10_balm_L66 {l : Launch} {E : sw_E} {K : Nat} (hK : 3 ≤ K) (σ : sw_M) (a1 : Int32) (a2 : Int32) (a3 : Int32) (a4 : Int32) (a5 : Int32) {res : Int32 × sw_M} {t : (Int32 × Int32 × sw_M) ⊕ (Int32 × sw_M)} (h : fX10_balm_L66 σ a1 a2 a3 a4 a5 = some t) (hk : (Sum.elim (fun s : Int32 × Int32 × sw_M => sw_Go l E K RX10 cX10_balm 6 (some .int) 30 [(0, .ref 49), (1, .int a1), (2, .int a2), (3, .int a3), (4, .int s.1), (5, .int s.2.1)] [] s.2.2 (some (.int res.1)) res.2) (fun q => q = res)) t) : sw_Go l E K RX10 cX10_balm 6 (some .int) 66 [(0, .ref 49), (1, .int a1), (2, .int a2), (3, .int a3), (4, .int a4), (5, .int a5)] [] σ (some (.int res.1)) res.2 := by
  unfold fX10_balm_L66 at h
  refine sw_aload_n (k0 := 0) 0 rfl (by decide +kernel) rfl ?_
  obtain ⟨m1, w2, h⟩ := sw_b1_e h
  refine sw_callVv (ci := 10) (i := 49) [] (sX10_fill (K := K - 1) (by omega) σ w2) rfl (by omega) rfl gs_X10_445 hy_X10_fill (by decide) (by decide) rfl rfl (Nat.le_of_ble_eq_true rfl) (by decide +kernel) ?_
  refine sw_aload_n (k0 := 0) 0 rfl (by decide +kernel) rfl ?_
  refine sw_iload 5 rfl (by decide +kernel) ?_
  obtain ⟨m3, w4, h⟩ := sw_b1_e h
  refine sw_callVv (ci := 10) (i := 49) [.int a5] (sX10_tellAll (K := K - 1) (by omega) m1 a5 w4) rfl (by omega) rfl gs_X10_476 hy_X10_tellAll (by decide) (by decide) rfl rfl (Nat.le_of_ble_eq_true rfl) (by decide +kernel) ?_
  refine sw_aload_n (k0 := 0) 0 rfl (by decide +kernel) rfl ?_
  refine sw_iload_n (k0 := 1) 1 rfl (by decide +kernel) rfl ?_
  obtain ⟨r5, w6, h⟩ := sw_b1_e h
  refine sw_callVi (ci := 10) (i := 49) [.int a1] (sX10_holds (K := K - 1) (by omega) m3 a1 w6) rfl (by omega) rfl gs_X10_464 hy_X10_holds (by decide) (by decide) rfl rfl (Nat.le_of_ble_eq_true rfl) (by decide +kernel) ?_
  refine sw_if_eq (off := 7) 88 (by decide +kernel) (by decide) (fun c7 => ?_) (fun c7 => ?_)
  · rw [if_pos c7] at h
    exact sX10_balm_L88 hK m3 a1 a2 a3 a4 a5 h hk
  · rw [if_neg c7] at h
    refine sw_iload 5 rfl (by decide +kernel) ?_
    refine sw_istore (i := 4) (lv' := [(4, .int a5), (0, .ref 49), (1, .int a1), (2, .int a2), (3, .int a3), (5, .int a5)]) (by decide +kernel) (by decide) rfl ?_
    refine sw_lv [1, 2, 3, 4, 0, 5] rfl ?_
    exact sX10_balm_L88 hK m3 a1 a2 a3 a5 a5 h hk
set_option maxRecDepth 20000 in
theorem sX10_balm_L30 {l : Launch} {E : sw_E} {K : Nat} (hK : 3 ≤ K) (σ : sw_M) (a1 : Int32) (a2 : Int32) (a3 : Int32) (a4 : Int32) (a5 : Int32) {res : Int32 × sw_M} {t : (Int32 × Int32 × sw_M) ⊕ (Int32 × sw_M)} (h : fX10_balm_L30 σ a1 a2 a3 a4 a5 = some t) (hk : (Sum.elim (fun s : Int32 × Int32 × sw_M => sw_Go l E K RX10 cX10_balm 6 (some .int) 30 [(0, .ref 49), (1, .int a1), (2, .int a2), (3, .int a3), (4, .int s.1), (5, .int s.2.1)] [] s.2.2 (some (.int res.1)) res.2) (fun q => q = res)) t) : sw_Go l E K RX10 cX10_balm 6 (some .int) 30 [(0, .ref 49), (1, .int a1), (2, .int a2), (3, .int a3), (4, .int a4), (5, .int a5)] [] σ (some (.int res.1)) res.2 := by
  unfold fX10_balm_L30 at h
  refine sw_iload 5 rfl (by decide +kernel) ?_
  refine sw_iload_n (k0 := 3) 3 rfl (by decide +kernel) rfl ?_
  refine sw_icmp_gt (off := 61) 94 (by decide +kernel) (by decide) (fun c1 => ?_) (fun c1 => ?_)
  · rw [if_pos c1] at h
    refine sw_iload 4 rfl (by decide +kernel) ?_
    refine sw_if_ge (off := 7) 103 (by decide +kernel) (by decide) (fun c2 => ?_) (fun c2 => ?_)
    · rw [if_pos c2] at h
      refine sw_iload_n (k0 := 2) 2 rfl (by decide +kernel) rfl ?_
      refine sw_if_ne (off := 11) 115 (by decide +kernel) (by decide) (fun c3 => ?_) (fun c3 => ?_)
      · rw [if_neg c3] at h
        refine sw_iload 4 rfl (by decide +kernel) ?_
        cases h
        obtain rfl : _ = res := hk
        exact sw_iret (by decide +kernel)
      · rw [if_pos c3] at h
        refine sw_iload 4 rfl (by decide +kernel) ?_
        obtain ⟨r4, w5, h⟩ := sw_b1_e h
        refine sw_callSi [.int a4] (sX10_members (K := K - 1) (by omega) σ a4 w5) rfl (by omega) gs_X10_303 hy_X10_members (by decide) rfl (Nat.le_of_ble_eq_true rfl) (by decide +kernel) ?_
        refine sw_goto (off := 5) 117 (by decide +kernel) (by decide) ?_
        cases h
        obtain rfl : _ = res := hk
        exact sw_iret (by decide +kernel)
    · rw [if_neg c2] at h
      refine sw_iconst (n := (-1)) (v := (-1)) (by decide +kernel) (by decide) ?_
      refine sw_goto (off := 17) 117 (by decide +kernel) (by decide) ?_
      cases h
      obtain rfl : _ = res := hk
      exact sw_iret (by decide +kernel)
  · rw [if_neg c1] at h
    refine sw_iload 5 rfl (by decide +kernel) ?_
    refine sw_iload_n (k0 := 3) 3 rfl (by decide +kernel) rfl ?_
    refine sw_iconst (n := (-1)) (v := (-1)) (by decide +kernel) (by decide) ?_
    refine sw_ixor (by decide +kernel) ?_
    refine sw_iand (by decide +kernel) ?_
    refine sw_if_ne (off := 46) 88 (by decide +kernel) (by decide) (fun c6 => ?_) (fun c6 => ?_)
    · rw [if_neg c6] at h
      exact sX10_balm_L88 hK σ a1 a2 a3 a4 a5 h hk
    · rw [if_pos c6] at h
      refine sw_iload 4 rfl (by decide +kernel) ?_
      refine sw_if_lt (off := 19) 66 (by decide +kernel) (by decide) (fun c7 => ?_) (fun c7 => ?_)
      · rw [if_pos c7] at h
        exact sX10_balm_L66 hK σ a1 a2 a3 a4 a5 h hk
      · rw [if_neg c7] at h
        refine sw_iload 5 rfl (by decide +kernel) ?_
        obtain ⟨r8, w9, h⟩ := sw_b1_e h
        refine sw_callSi [.int a5] (sX10_members (K := K - 1) (by omega) σ a5 w9) rfl (by omega) gs_X10_303 hy_X10_members (by decide) rfl (Nat.le_of_ble_eq_true rfl) (by decide +kernel) ?_
        refine sw_iload 4 rfl (by decide +kernel) ?_
        obtain ⟨r10, w11, h⟩ := sw_b1_e h
        refine sw_callSi [.int a4] (sX10_members (K := K - 1) (by omega) σ a4 w11) rfl (by omega) gs_X10_303 hy_X10_members (by decide) rfl (Nat.le_of_ble_eq_true rfl) (by decide +kernel) ?_
        refine sw_icmp_lt (off := 6) 66 (by decide +kernel) (by decide) (fun c12 => ?_) (fun c12 => ?_)
        · rw [if_pos c12] at h
          exact sX10_balm_L66 hK σ a1 a2 a3 a4 a5 h hk
        · rw [if_neg c12] at h
          refine sw_goto (off := 25) 88 (by decide +kernel) (by decide) ?_
          exact sX10_balm_L88 hK σ a1 a2 a3 a4 a5 h hk
set_option maxRecDepth 20000 in
theorem sX10_balm {l : Launch} {E : sw_E} {K : Nat} (hK : 3 ≤ K) (σ : sw_M) (a1 : Int32) (a2 : Int32) {res : Int32 × sw_M} (h : fX10_balm σ a1 a2 = some res) : sw_Ct l E K yX10_balm cX10_balm 6 (some .int) [.ref 49, .int a1, .int a2] σ (some (.int res.1)) res.2 := by
  obtain ⟨t, hk, h⟩ : ∃ t, t = res ∧ fX10_balm σ a1 a2 = some t := ⟨res, rfl, h⟩
  unfold fX10_balm at h
  refine sw_enter2 (own := RX10) (lv := [(0, .ref 49), (1, .int a1), (2, .int a2)]) (by decide +kernel) (Nat.le_of_ble_eq_true rfl) rfl rfl ?_
  refine sw_aload_n (k0 := 0) 0 rfl (by decide +kernel) rfl ?_
  refine sw_iload_n (k0 := 1) 1 rfl (by decide +kernel) rfl ?_
  refine sw_callVi (ci := 10) (i := 49) [.int a1] (sX10_isBasin (K := K - 1) (by omega) σ a1 rfl) rfl (by omega) rfl gs_X10_439 hy_X10_isBasin (by decide) (by decide) rfl rfl (Nat.le_of_ble_eq_true rfl) (by decide +kernel) ?_
  refine sw_if_eq (off := 12) 17 (by decide +kernel) (by decide) (fun c1 => ?_) (fun c1 => ?_)
  · rw [if_pos c1] at h
    refine sw_iconst (n := (-1)) (v := (-1)) (by decide +kernel) (by decide) ?_
    cases h
    obtain rfl : _ = res := hk
    exact sw_iret (by decide +kernel)
  · rw [if_neg c1] at h
    refine sw_iload_n (k0 := 2) 2 rfl (by decide +kernel) rfl ?_
    refine sw_iconst (n := 0) (v := 0) (by decide +kernel) (by decide) ?_
    refine sw_iconst (n := 1) (v := 1) (by decide +kernel) (by decide) ?_
    refine sw_callSi [.int a2, .int 0, .int 1] (sX10_isIn (K := K - 1) (by omega) σ a2 0 1 rfl) rfl (by omega) gs_X10_411 hy_X10_isIn (by decide) rfl (Nat.le_of_ble_eq_true rfl) (by decide +kernel) ?_
    refine sw_if_ne (off := 5) 19 (by decide +kernel) (by decide) (fun c2 => ?_) (fun c2 => ?_)
    · rw [if_neg c2] at h
      refine sw_aload_n (k0 := 0) 0 rfl (by decide +kernel) rfl ?_
      refine sw_callVi (ci := 10) (i := 49) [] (sX10_silent (K := K - 1) (by omega) σ rfl) rfl (by omega) rfl gs_X10_473 hy_X10_silent (by decide) (by decide) rfl rfl (Nat.le_of_ble_eq_true rfl) (by decide +kernel) ?_
      obtain ⟨v3, e4, h⟩ := sw_let_e h
      refine sw_topi e4 ?_
      refine sw_istore_n (k0 := 3) (lv' := [(3, .int v3), (0, .ref 49), (1, .int a1), (2, .int a2)]) (by decide +kernel) rfl (by decide) rfl ?_
      refine sw_iconst (n := (-1)) (v := (-1)) (by decide +kernel) (by decide) ?_
      refine sw_istore (i := 4) (lv' := [(4, .int (-1)), (3, .int v3), (0, .ref 49), (1, .int a1), (2, .int a2)]) (by decide +kernel) (by decide) rfl ?_
      refine sw_iconst (n := 0) (v := 0) (by decide +kernel) (by decide) ?_
      refine sw_istore (i := 5) (lv' := [(5, .int 0), (4, .int (-1)), (3, .int v3), (0, .ref 49), (1, .int a1), (2, .int a2)]) (by decide +kernel) (by decide) rfl ?_
      refine sw_lv [3, 4, 5, 2, 1, 0] rfl ?_
      exact sw_wh_e (fun s : Int32 × Int32 × sw_M => sw_Go l E K RX10 cX10_balm 6 (some .int) 30 [(0, .ref 49), (1, .int a1), (2, .int a2), (3, .int v3), (4, .int s.1), (5, .int s.2.1)] [] s.2.2 (some (.int res.1)) res.2) (fun q => q = res) (fun s => fX10_balm_L30 s.2.2 a1 a2 v3 s.1 s.2.1) (fun s t hb hk => sX10_balm_L30 hK s.2.2 a1 a2 v3 s.1 s.2.1 hb hk) _ _ _ h hk
    · rw [if_pos c2] at h
      refine sw_iconst (n := (-1)) (v := (-1)) (by decide +kernel) (by decide) ?_
      cases h
      obtain rfl : _ = res := hk
      exact sw_iret (by decide +kernel)
def fX10_cook_L16 (σ : sw_M) (a1 : Int32) (a2 : Int32) : Option ((Int32 × sw_M) ⊕ (Int32 × sw_M)) :=
  if 60 < a2 then
    some (.inr (((-1), σ)))
  else
    sw_b1 (fX10_holds σ a1) fun r2 =>
    if r2 = 0 then
      sw_b2 (fX10_goBoiling σ 0) fun r5 m6 =>
      sw_let (a2 + 1) fun v8 =>
      some (.inl (v8, m6))
    else
      some (.inr ((a2, σ)))
def fX10_cook (σ : sw_M) (a1 : Int32) : Option (Int32 × sw_M) :=
  if (fX10_isBasin σ a1) = 0 then
    some (((-1), σ))
  else
    sw_b1 (fX10_fill σ) fun m2 =>
    sw_wh sw_F (fun s => fX10_cook_L16 s.2 a1 s.1) (0, m2)
set_option maxRecDepth 20000 in
theorem sX10_cook_L16 {l : Launch} {E : sw_E} {K : Nat} (hK : 5 ≤ K) (σ : sw_M) (a1 : Int32) (a2 : Int32) {res : Int32 × sw_M} {t : (Int32 × sw_M) ⊕ (Int32 × sw_M)} (h : fX10_cook_L16 σ a1 a2 = some t) (hk : (Sum.elim (fun s : Int32 × sw_M => sw_Go l E K RX10 cX10_cook 3 (some .int) 16 [(0, .ref 49), (1, .int a1), (2, .int s.1)] [] s.2 (some (.int res.1)) res.2) (fun q => q = res)) t) : sw_Go l E K RX10 cX10_cook 3 (some .int) 16 [(0, .ref 49), (1, .int a1), (2, .int a2)] [] σ (some (.int res.1)) res.2 := by
  unfold fX10_cook_L16 at h
  refine sw_iload_n (k0 := 2) 2 rfl (by decide +kernel) rfl ?_
  refine sw_bipush (n := 60) (v := 60) (by decide +kernel) (by decide) ?_
  refine sw_icmp_gt (off := 25) 44 (by decide +kernel) (by decide) (fun c1 => ?_) (fun c1 => ?_)
  · rw [if_pos c1] at h
    refine sw_iconst (n := (-1)) (v := (-1)) (by decide +kernel) (by decide) ?_
    cases h
    obtain rfl : _ = res := hk
    exact sw_iret (by decide +kernel)
  · rw [if_neg c1] at h
    refine sw_aload_n (k0 := 0) 0 rfl (by decide +kernel) rfl ?_
    refine sw_iload_n (k0 := 1) 1 rfl (by decide +kernel) rfl ?_
    obtain ⟨r2, w3, h⟩ := sw_b1_e h
    refine sw_callVi (ci := 10) (i := 49) [.int a1] (sX10_holds (K := K - 1) (by omega) σ a1 w3) rfl (by omega) rfl gs_X10_464 hy_X10_holds (by decide) (by decide) rfl rfl (Nat.le_of_ble_eq_true rfl) (by decide +kernel) ?_
    refine sw_if_eq (off := 5) 32 (by decide +kernel) (by decide) (fun c4 => ?_) (fun c4 => ?_)
    · rw [if_pos c4] at h
      refine sw_aload_n (k0 := 0) 0 rfl (by decide +kernel) rfl ?_
      refine sw_iconst (n := 0) (v := 0) (by decide +kernel) (by decide) ?_
      obtain ⟨r5, m6, w7, h⟩ := sw_b2_e h
      refine sw_callVi (ci := 10) (i := 49) [.int 0] (sX10_goBoiling (K := K - 1) (by omega) σ 0 w7) rfl (by omega) rfl gs_X10_457 hy_X10_goBoiling (by decide) (by decide) rfl rfl (Nat.le_of_ble_eq_true rfl) (by decide +kernel) ?_
      refine sw_pop (by decide +kernel) rfl ?_
      obtain ⟨v8, e9, h⟩ := sw_let_e h
      refine sw_iincv (i := 2) (n := 1) (lv' := [(2, .int v8), (0, .ref 49), (1, .int a1)]) 2 rfl e9 (by decide +kernel) (by decide) (by decide) rfl ?_
      refine sw_goto (off := (-25)) 16 (by decide +kernel) (by decide) ?_
      cases h
      refine sw_lv [1, 2, 0] rfl ?_
      exact hk
    · rw [if_neg c4] at h
      refine sw_iload_n (k0 := 2) 2 rfl (by decide +kernel) rfl ?_
      cases h
      obtain rfl : _ = res := hk
      exact sw_iret (by decide +kernel)
set_option maxRecDepth 20000 in
theorem sX10_cook {l : Launch} {E : sw_E} {K : Nat} (hK : 5 ≤ K) (σ : sw_M) (a1 : Int32) {res : Int32 × sw_M} (h : fX10_cook σ a1 = some res) : sw_Ct l E K yX10_cook cX10_cook 3 (some .int) [.ref 49, .int a1] σ (some (.int res.1)) res.2 := by
  obtain ⟨t, hk, h⟩ : ∃ t, t = res ∧ fX10_cook σ a1 = some t := ⟨res, rfl, h⟩
  unfold fX10_cook at h
  refine sw_enter2 (own := RX10) (lv := [(0, .ref 49), (1, .int a1)]) (by decide +kernel) (Nat.le_of_ble_eq_true rfl) rfl rfl ?_
  refine sw_aload_n (k0 := 0) 0 rfl (by decide +kernel) rfl ?_
  refine sw_iload_n (k0 := 1) 1 rfl (by decide +kernel) rfl ?_
  refine sw_callVi (ci := 10) (i := 49) [.int a1] (sX10_isBasin (K := K - 1) (by omega) σ a1 rfl) rfl (by omega) rfl gs_X10_439 hy_X10_isBasin (by decide) (by decide) rfl rfl (Nat.le_of_ble_eq_true rfl) (by decide +kernel) ?_
  refine sw_if_ne (off := 5) 10 (by decide +kernel) (by decide) (fun c1 => ?_) (fun c1 => ?_)
  · rw [if_neg c1] at h
    refine sw_aload_n (k0 := 0) 0 rfl (by decide +kernel) rfl ?_
    obtain ⟨m2, w3, h⟩ := sw_b1_e h
    refine sw_callVv (ci := 10) (i := 49) [] (sX10_fill (K := K - 1) (by omega) σ w3) rfl (by omega) rfl gs_X10_445 hy_X10_fill (by decide) (by decide) rfl rfl (Nat.le_of_ble_eq_true rfl) (by decide +kernel) ?_
    refine sw_iconst (n := 0) (v := 0) (by decide +kernel) (by decide) ?_
    refine sw_istore_n (k0 := 2) (lv' := [(2, .int 0), (0, .ref 49), (1, .int a1)]) (by decide +kernel) rfl (by decide) rfl ?_
    refine sw_lv [1, 2, 0] rfl ?_
    exact sw_wh_e (fun s : Int32 × sw_M => sw_Go l E K RX10 cX10_cook 3 (some .int) 16 [(0, .ref 49), (1, .int a1), (2, .int s.1)] [] s.2 (some (.int res.1)) res.2) (fun q => q = res) (fun s => fX10_cook_L16 s.2 a1 s.1) (fun s t hb hk => sX10_cook_L16 hK s.2 a1 s.1 hb hk) _ _ _ h hk
  · rw [if_pos c1] at h
    refine sw_iconst (n := (-1)) (v := (-1)) (by decide +kernel) (by decide) ?_
    cases h
    obtain rfl : _ = res := hk
    exact sw_iret (by decide +kernel)
def fX10_lackOf_L4 (σ : sw_M) (a1 : Int32) (a2 : Int32) (a3 : Int32) : Option ((Int32 × Int32) ⊕ (Int32)) :=
  if (σ.1 49 40) ≤ a3 then
    some (.inr (a2))
  else
    sw_gd (sw_in ((5 * a1) + a3) 20) <|
    sw_gd (sw_in a3 10) <|
    sw_let (a2 + (fX10_greater 0 ((σ.1 63 ((5 * a1) + a3).toNatClampNeg) - (σ.1 65 a3.toNatClampNeg)))) fun v4 =>
    sw_let (a3 + 1) fun v6 =>
    some (.inl (v4, v6))
def fX10_lackOf (σ : sw_M) (a1 : Int32) : Option (Int32) :=
  sw_wh sw_F (fun s => fX10_lackOf_L4 σ a1 s.1 s.2) (0, 0)
set_option maxRecDepth 20000 in
theorem sX10_lackOf_L4 {l : Launch} {E : sw_E} {K : Nat} (hK : 1 ≤ K) (σ : sw_M) (a1 : Int32) (a2 : Int32) (a3 : Int32) {res : Int32} {t : (Int32 × Int32) ⊕ (Int32)} (h : fX10_lackOf_L4 σ a1 a2 a3 = some t) (hk : (Sum.elim (fun s : Int32 × Int32 => sw_Go l E K RX10 cX10_lackOf 4 (some .int) 4 [(0, .ref 49), (1, .int a1), (2, .int s.1), (3, .int s.2)] [] σ (some (.int res)) σ) (fun q => q = res)) t) : sw_Go l E K RX10 cX10_lackOf 4 (some .int) 4 [(0, .ref 49), (1, .int a1), (2, .int a2), (3, .int a3)] [] σ (some (.int res)) σ := by
  unfold fX10_lackOf_L4 at h
  refine sw_iload_n (k0 := 3) 3 rfl (by decide +kernel) rfl ?_
  refine sw_aload_n (k0 := 0) 0 rfl (by decide +kernel) rfl ?_
  refine gf_X10_291 (i := 49) (by decide) rfl (by decide +kernel) ?_
  refine sw_icmp_ge (off := 33) 42 (by decide +kernel) (by decide) (fun c1 => ?_) (fun c1 => ?_)
  · rw [if_pos c1] at h
    refine sw_iload_n (k0 := 2) 2 rfl (by decide +kernel) rfl ?_
    cases h
    obtain rfl : _ = res := hk
    exact sw_iret (by decide +kernel)
  · rw [if_neg c1] at h
    refine sw_iload_n (k0 := 2) 2 rfl (by decide +kernel) rfl ?_
    refine sw_iconst (n := 0) (v := 0) (by decide +kernel) (by decide) ?_
    refine sw_aload_n (k0 := 0) 0 rfl (by decide +kernel) rfl ?_
    refine gf_X10_54 (i := 49) (by decide) rfl (by decide +kernel) ?_
    refine sw_refj 63 rfl ?_
    refine sw_iconst (n := 5) (v := 5) (by decide +kernel) (by decide) ?_
    refine sw_iload_n (k0 := 1) 1 rfl (by decide +kernel) rfl ?_
    refine sw_imul (by decide +kernel) ?_
    refine sw_iload_n (k0 := 3) 3 rfl (by decide +kernel) rfl ?_
    refine sw_iadd (by decide +kernel) ?_
    obtain ⟨g2, h⟩ := sw_gd_e h
    refine sw_iaload (a := 63) (by decide) rfl (sw_in_e g2) (by decide +kernel) ?_
    refine sw_aload_n (k0 := 0) 0 rfl (by decide +kernel) rfl ?_
    refine gf_X10_60 (i := 49) (by decide) rfl (by decide +kernel) ?_
    refine sw_refj 65 rfl ?_
    refine sw_iload_n (k0 := 3) 3 rfl (by decide +kernel) rfl ?_
    obtain ⟨g3, h⟩ := sw_gd_e h
    refine sw_iaload (a := 65) (by decide) rfl (sw_in_e g3) (by decide +kernel) ?_
    refine sw_isub (by decide +kernel) ?_
    refine sw_callSi [.int 0, .int ((σ.1 63 ((5 * a1) + a3).toNatClampNeg) - (σ.1 65 a3.toNatClampNeg))] (sX10_greater (K := K - 1) (by omega) σ 0 ((σ.1 63 ((5 * a1) + a3).toNatClampNeg) - (σ.1 65 a3.toNatClampNeg)) rfl) rfl (by omega) gs_X10_297 hy_X10_greater (by decide) rfl (Nat.le_of_ble_eq_true rfl) (by decide +kernel) ?_
    refine sw_iadd (by decide +kernel) ?_
    obtain ⟨v4, e5, h⟩ := sw_let_e h
    refine sw_topi e5 ?_
    refine sw_istore_n (k0 := 2) (lv' := [(2, .int v4), (0, .ref 49), (1, .int a1), (3, .int a3)]) (by decide +kernel) rfl (by decide) rfl ?_
    obtain ⟨v6, e7, h⟩ := sw_let_e h
    refine sw_iincv (i := 3) (n := 1) (lv' := [(3, .int v6), (2, .int v4), (0, .ref 49), (1, .int a1)]) 3 rfl e7 (by decide +kernel) (by decide) (by decide) rfl ?_
    refine sw_goto (off := (-35)) 4 (by decide +kernel) (by decide) ?_
    cases h
    refine sw_lv [2, 3, 1, 0] rfl ?_
    exact hk
set_option maxRecDepth 20000 in
theorem sX10_lackOf {l : Launch} {E : sw_E} {K : Nat} (hK : 1 ≤ K) (σ : sw_M) (a1 : Int32) {res : Int32} (h : fX10_lackOf σ a1 = some res) : sw_Ct l E K yX10_lackOf cX10_lackOf 4 (some .int) [.ref 49, .int a1] σ (some (.int res)) σ := by
  obtain ⟨t, hk, h⟩ : ∃ t, t = res ∧ fX10_lackOf σ a1 = some t := ⟨res, rfl, h⟩
  unfold fX10_lackOf at h
  refine sw_enter2 (own := RX10) (lv := [(0, .ref 49), (1, .int a1)]) (by decide +kernel) (Nat.le_of_ble_eq_true rfl) rfl rfl ?_
  refine sw_iconst (n := 0) (v := 0) (by decide +kernel) (by decide) ?_
  refine sw_istore_n (k0 := 2) (lv' := [(2, .int 0), (0, .ref 49), (1, .int a1)]) (by decide +kernel) rfl (by decide) rfl ?_
  refine sw_iconst (n := 0) (v := 0) (by decide +kernel) (by decide) ?_
  refine sw_istore_n (k0 := 3) (lv' := [(3, .int 0), (2, .int 0), (0, .ref 49), (1, .int a1)]) (by decide +kernel) rfl (by decide) rfl ?_
  refine sw_lv [2, 3, 1, 0] rfl ?_
  exact sw_wh_e (fun s : Int32 × Int32 => sw_Go l E K RX10 cX10_lackOf 4 (some .int) 4 [(0, .ref 49), (1, .int a1), (2, .int s.1), (3, .int s.2)] [] σ (some (.int res)) σ) (fun q => q = res) (fun s => fX10_lackOf_L4 σ a1 s.1 s.2) (fun s t hb hk => sX10_lackOf_L4 hK σ a1 s.1 s.2 hb hk) _ _ _ h hk
def fX10_lacks (σ : sw_M) (a1 : Int32) : Option (Int32) :=
  if (fX10_isBasin σ a1) = 0 then
    some ((-1))
  else
    sw_b1 (fX10_lackOf σ a1) fun r2 =>
    some (r2)
set_option maxRecDepth 20000 in
theorem sX10_lacks {l : Launch} {E : sw_E} {K : Nat} (hK : 2 ≤ K) (σ : sw_M) (a1 : Int32) {res : Int32} (h : fX10_lacks σ a1 = some res) : sw_Ct l E K yX10_lacks cX10_lacks 2 (some .int) [.ref 49, .int a1] σ (some (.int res)) σ := by
  obtain ⟨t, hk, h⟩ : ∃ t, t = res ∧ fX10_lacks σ a1 = some t := ⟨res, rfl, h⟩
  unfold fX10_lacks at h
  refine sw_enter2 (own := RX10) (lv := [(0, .ref 49), (1, .int a1)]) (by decide +kernel) (Nat.le_of_ble_eq_true rfl) rfl rfl ?_
  refine sw_aload_n (k0 := 0) 0 rfl (by decide +kernel) rfl ?_
  refine sw_iload_n (k0 := 1) 1 rfl (by decide +kernel) rfl ?_
  refine sw_callVi (ci := 10) (i := 49) [.int a1] (sX10_isBasin (K := K - 1) (by omega) σ a1 rfl) rfl (by omega) rfl gs_X10_439 hy_X10_isBasin (by decide) (by decide) rfl rfl (Nat.le_of_ble_eq_true rfl) (by decide +kernel) ?_
  refine sw_if_eq (off := 11) 16 (by decide +kernel) (by decide) (fun c1 => ?_) (fun c1 => ?_)
  · rw [if_pos c1] at h
    refine sw_iconst (n := (-1)) (v := (-1)) (by decide +kernel) (by decide) ?_
    cases h
    obtain rfl : _ = res := hk
    exact sw_iret (by decide +kernel)
  · rw [if_neg c1] at h
    refine sw_aload_n (k0 := 0) 0 rfl (by decide +kernel) rfl ?_
    refine sw_iload_n (k0 := 1) 1 rfl (by decide +kernel) rfl ?_
    obtain ⟨r2, w3, h⟩ := sw_b1_e h
    refine sw_callVi (ci := 10) (i := 49) [.int a1] (sX10_lackOf (K := K - 1) (by omega) σ a1 w3) rfl (by omega) rfl gs_X10_482 hy_X10_lackOf (by decide) (by decide) rfl rfl (Nat.le_of_ble_eq_true rfl) (by decide +kernel) ?_
    refine sw_goto (off := 4) 17 (by decide +kernel) (by decide) ?_
    cases h
    obtain rfl : _ = res := hk
    exact sw_iret (by decide +kernel)
def fX10_rest_L80 (σ : sw_M) (a1 : Int32) (a3 : Int32) (b0 : Int32) : Option ((Int32 × Int32) ⊕ ((Int32 × sw_M) ⊕ (Int32 × sw_M))) :=
  sw_let (a3 + 1) fun v1 =>
  some (.inl (b0, v1))
def fX10_rest_L79 (σ : sw_M) (a1 : Int32) (a3 : Int32) : Option ((Int32 × Int32) ⊕ ((Int32 × sw_M) ⊕ (Int32 × sw_M))) :=
  fX10_rest_L80 σ a1 a3 0
def fX10_rest_L48 (σ : sw_M) (a1 : Int32) (a2 : Int32) (a3 : Int32) : Option ((Int32 × Int32) ⊕ ((Int32 × sw_M) ⊕ (Int32 × sw_M))) :=
  if (σ.1 49 40) ≤ a3 then
    if a2 = 0 then
      sw_let (a1 + 1) fun v3 =>
      some (.inr (.inl (v3, σ)))
    else
      some (.inr (.inr ((a1, σ))))
  else
    if a2 = 0 then
      fX10_rest_L79 σ a1 a3
    else
      sw_gd (sw_in a3 5) <|
      sw_gd (sw_in a3 10) <|
      if (σ.1 68 a3.toNatClampNeg) = (σ.1 66 a3.toNatClampNeg) then
        fX10_rest_L80 σ a1 a3 1
      else
        fX10_rest_L79 σ a1 a3
def fX10_rest_L14 (σ : sw_M) (a1 : Int32) (a2 : Int32) : Option ((Int32 × sw_M) ⊕ ((Int32 × sw_M) ⊕ (Int32 × sw_M))) :=
  if (σ.1 49 40) ≤ a2 then
    sw_b1 (fX10_boilAll σ) fun m2 =>
    sw_up (sw_wh sw_F (fun s => fX10_rest_L48 m2 a1 s.1 s.2) (1, 0))
  else
    sw_gd (sw_in a2 10) <|
    sw_gd (sw_in a2 5) <|
    sw_let (sw_w σ 68 a2.toNatClampNeg (σ.1 66 a2.toNatClampNeg)) fun m7 =>
    sw_let (a2 + 1) fun v9 =>
    some (.inl (v9, m7))
def fX10_rest_L6 (σ : sw_M) (a1 : Int32) : Option ((Int32 × sw_M) ⊕ (Int32 × sw_M)) :=
  if 60 < a1 then
    some (.inr (((-1), σ)))
  else
    sw_wh sw_F (fun s => fX10_rest_L14 s.2 a1 s.1) (0, σ)
def fX10_rest (σ : sw_M) : Option (Int32 × sw_M) :=
  sw_b1 (fX10_fill σ) fun m1 =>
  sw_wh sw_F (fun s => fX10_rest_L6 s.2 s.1) (0, m1)
set_option maxRecDepth 20000 in
theorem sX10_rest_L80 {l : Launch} {E : sw_E} {K : Nat} (hK : 4 ≤ K) (σ : sw_M) (a1 : Int32) (a3 : Int32) (b0 : Int32) {res : Int32 × sw_M} {t : (Int32 × Int32) ⊕ ((Int32 × sw_M) ⊕ (Int32 × sw_M))} (h : fX10_rest_L80 σ a1 a3 b0 = some t) (hk : (Sum.elim (fun s : Int32 × Int32 => sw_Go l E K RX10 cX10_rest 4 (some .int) 48 [(0, .ref 49), (1, .int a1), (2, .int s.1), (3, .int s.2)] [] σ (some (.int res.1)) res.2) (Sum.elim (fun s : Int32 × sw_M => sw_Go l E K RX10 cX10_rest 4 (some .int) 6 [(0, .ref 49), (1, .int s.1)] [] s.2 (some (.int res.1)) res.2) (fun q => q = res))) t) : sw_Go l E K RX10 cX10_rest 4 (some .int) 80 [(0, .ref 49), (1, .int a1), (3, .int a3)] [.int b0] σ (some (.int res.1)) res.2 := by
  unfold fX10_rest_L80 at h
  refine sw_istore_n (k0 := 2) (lv' := [(2, .int b0), (0, .ref 49), (1, .int a1), (3, .int a3)]) (by decide +kernel) rfl (by decide) rfl ?_
  obtain ⟨v1, e2, h⟩ := sw_let_e h
  refine sw_iincv (i := 3) (n := 1) (lv' := [(3, .int v1), (2, .int b0), (0, .ref 49), (1, .int a1)]) 3 rfl e2 (by decide +kernel) (by decide) (by decide) rfl ?_
  refine sw_goto (off := (-36)) 48 (by decide +kernel) (by decide) ?_
  cases h
  refine sw_lv [2, 3, 1, 0] rfl ?_
  exact hk
set_option maxRecDepth 20000 in
theorem sX10_rest_L79 {l : Launch} {E : sw_E} {K : Nat} (hK : 4 ≤ K) (σ : sw_M) (a1 : Int32) (a3 : Int32) {res : Int32 × sw_M} {t : (Int32 × Int32) ⊕ ((Int32 × sw_M) ⊕ (Int32 × sw_M))} (h : fX10_rest_L79 σ a1 a3 = some t) (hk : (Sum.elim (fun s : Int32 × Int32 => sw_Go l E K RX10 cX10_rest 4 (some .int) 48 [(0, .ref 49), (1, .int a1), (2, .int s.1), (3, .int s.2)] [] σ (some (.int res.1)) res.2) (Sum.elim (fun s : Int32 × sw_M => sw_Go l E K RX10 cX10_rest 4 (some .int) 6 [(0, .ref 49), (1, .int s.1)] [] s.2 (some (.int res.1)) res.2) (fun q => q = res))) t) : sw_Go l E K RX10 cX10_rest 4 (some .int) 79 [(0, .ref 49), (1, .int a1), (3, .int a3)] [] σ (some (.int res.1)) res.2 := by
  unfold fX10_rest_L79 at h
  refine sw_iconst (n := 0) (v := 0) (by decide +kernel) (by decide) ?_
  exact sX10_rest_L80 hK σ a1 a3 0 h hk
set_option maxRecDepth 20000 in
theorem sX10_rest_L48 {l : Launch} {E : sw_E} {K : Nat} (hK : 4 ≤ K) (σ : sw_M) (a1 : Int32) (a2 : Int32) (a3 : Int32) {res : Int32 × sw_M} {t : (Int32 × Int32) ⊕ ((Int32 × sw_M) ⊕ (Int32 × sw_M))} (h : fX10_rest_L48 σ a1 a2 a3 = some t) (hk : (Sum.elim (fun s : Int32 × Int32 => sw_Go l E K RX10 cX10_rest 4 (some .int) 48 [(0, .ref 49), (1, .int a1), (2, .int s.1), (3, .int s.2)] [] σ (some (.int res.1)) res.2) (Sum.elim (fun s : Int32 × sw_M => sw_Go l E K RX10 cX10_rest 4 (some .int) 6 [(0, .ref 49), (1, .int s.1)] [] s.2 (some (.int res.1)) res.2) (fun q => q = res))) t) : sw_Go l E K RX10 cX10_rest 4 (some .int) 48 [(0, .ref 49), (1, .int a1), (2, .int a2), (3, .int a3)] [] σ (some (.int res.1)) res.2 := by
  unfold fX10_rest_L48 at h
  refine sw_iload_n (k0 := 3) 3 rfl (by decide +kernel) rfl ?_
  refine sw_aload_n (k0 := 0) 0 rfl (by decide +kernel) rfl ?_
  refine gf_X10_291 (i := 49) (by decide) rfl (by decide +kernel) ?_
  refine sw_icmp_ge (off := 34) 87 (by decide +kernel) (by decide) (fun c1 => ?_) (fun c1 => ?_)
  · rw [if_pos c1] at h
    refine sw_iload_n (k0 := 2) 2 rfl (by decide +kernel) rfl ?_
    refine sw_if_eq (off := 5) 93 (by decide +kernel) (by decide) (fun c2 => ?_) (fun c2 => ?_)
    · rw [if_pos c2] at h
      obtain ⟨v3, e4, h⟩ := sw_let_e h
      refine sw_iincv (i := 1) (n := 1) (lv' := [(1, .int v3), (0, .ref 49), (2, .int a2), (3, .int a3)]) 1 rfl e4 (by decide +kernel) (by decide) (by decide) rfl ?_
      refine sw_goto (off := (-90)) 6 (by decide +kernel) (by decide) ?_
      cases h
      refine sw_lv [1, 0] rfl ?_
      exact hk
    · rw [if_neg c2] at h
      refine sw_iload_n (k0 := 1) 1 rfl (by decide +kernel) rfl ?_
      cases h
      obtain rfl : _ = res := hk
      exact sw_iret (by decide +kernel)
  · rw [if_neg c1] at h
    refine sw_iload_n (k0 := 2) 2 rfl (by decide +kernel) rfl ?_
    refine sw_if_eq (off := 22) 79 (by decide +kernel) (by decide) (fun c5 => ?_) (fun c5 => ?_)
    · rw [if_pos c5] at h
      refine sw_lv [0, 1, 3] rfl ?_
      exact sX10_rest_L79 hK σ a1 a3 h hk
    · rw [if_neg c5] at h
      refine sw_aload_n (k0 := 0) 0 rfl (by decide +kernel) rfl ?_
      refine gf_X10_69 (i := 49) (by decide) rfl (by decide +kernel) ?_
      refine sw_refj 68 rfl ?_
      refine sw_iload_n (k0 := 3) 3 rfl (by decide +kernel) rfl ?_
      obtain ⟨g6, h⟩ := sw_gd_e h
      refine sw_iaload (a := 68) (by decide) rfl (sw_in_e g6) (by decide +kernel) ?_
      refine sw_aload_n (k0 := 0) 0 rfl (by decide +kernel) rfl ?_
      refine gf_X10_63 (i := 49) (by decide) rfl (by decide +kernel) ?_
      refine sw_refj 66 rfl ?_
      refine sw_iload_n (k0 := 3) 3 rfl (by decide +kernel) rfl ?_
      obtain ⟨g7, h⟩ := sw_gd_e h
      refine sw_iaload (a := 66) (by decide) rfl (sw_in_e g7) (by decide +kernel) ?_
      refine sw_icmp_ne (off := 7) 79 (by decide +kernel) (by decide) (fun c8 => ?_) (fun c8 => ?_)
      · rw [if_neg c8] at h
        refine sw_lv [0, 1, 3] rfl ?_
        exact sX10_rest_L79 hK σ a1 a3 h hk
      · rw [if_pos c8] at h
        refine sw_iconst (n := 1) (v := 1) (by decide +kernel) (by decide) ?_
        refine sw_goto (off := 4) 80 (by decide +kernel) (by decide) ?_
        refine sw_lv [0, 1, 3] rfl ?_
        exact sX10_rest_L80 hK σ a1 a3 1 h hk
set_option maxRecDepth 20000 in
theorem sX10_rest_L14 {l : Launch} {E : sw_E} {K : Nat} (hK : 4 ≤ K) (σ : sw_M) (a1 : Int32) (a2 : Int32) {res : Int32 × sw_M} {t : (Int32 × sw_M) ⊕ ((Int32 × sw_M) ⊕ (Int32 × sw_M))} (h : fX10_rest_L14 σ a1 a2 = some t) (hk : (Sum.elim (fun s : Int32 × sw_M => sw_Go l E K RX10 cX10_rest 4 (some .int) 14 [(0, .ref 49), (1, .int a1), (2, .int s.1)] [] s.2 (some (.int res.1)) res.2) (Sum.elim (fun s : Int32 × sw_M => sw_Go l E K RX10 cX10_rest 4 (some .int) 6 [(0, .ref 49), (1, .int s.1)] [] s.2 (some (.int res.1)) res.2) (fun q => q = res))) t) : sw_Go l E K RX10 cX10_rest 4 (some .int) 14 [(0, .ref 49), (1, .int a1), (2, .int a2)] [] σ (some (.int res.1)) res.2 := by
  unfold fX10_rest_L14 at h
  refine sw_iload_n (k0 := 2) 2 rfl (by decide +kernel) rfl ?_
  refine sw_aload_n (k0 := 0) 0 rfl (by decide +kernel) rfl ?_
  refine gf_X10_291 (i := 49) (by decide) rfl (by decide +kernel) ?_
  refine sw_icmp_ge (off := 21) 40 (by decide +kernel) (by decide) (fun c1 => ?_) (fun c1 => ?_)
  · rw [if_pos c1] at h
    refine sw_aload_n (k0 := 0) 0 rfl (by decide +kernel) rfl ?_
    obtain ⟨m2, w3, h⟩ := sw_b1_e h
    refine sw_callVv (ci := 10) (i := 49) [] (sX10_boilAll (K := K - 1) (by omega) σ w3) rfl (by omega) rfl gs_X10_424 hy_X10_boilAll (by decide) (by decide) rfl rfl (Nat.le_of_ble_eq_true rfl) (by decide +kernel) ?_
    refine sw_iconst (n := 1) (v := 1) (by decide +kernel) (by decide) ?_
    refine sw_istore_n (k0 := 2) (lv' := [(2, .int 1), (0, .ref 49), (1, .int a1)]) (by decide +kernel) rfl (by decide) rfl ?_
    refine sw_iconst (n := 0) (v := 0) (by decide +kernel) (by decide) ?_
    refine sw_istore_n (k0 := 3) (lv' := [(3, .int 0), (2, .int 1), (0, .ref 49), (1, .int a1)]) (by decide +kernel) rfl (by decide) rfl ?_
    obtain ⟨q3, h3, rfl⟩ := sw_up_e h
    replace h := h3
    refine sw_lv [2, 3, 1, 0] rfl ?_
    exact sw_wh_e (fun s : Int32 × Int32 => sw_Go l E K RX10 cX10_rest 4 (some .int) 48 [(0, .ref 49), (1, .int a1), (2, .int s.1), (3, .int s.2)] [] m2 (some (.int res.1)) res.2) (Sum.elim (fun s : Int32 × sw_M => sw_Go l E K RX10 cX10_rest 4 (some .int) 6 [(0, .ref 49), (1, .int s.1)] [] s.2 (some (.int res.1)) res.2) (fun q => q = res)) (fun s => fX10_rest_L48 m2 a1 s.1 s.2) (fun s t hb hk => sX10_rest_L48 hK m2 a1 s.1 s.2 hb hk) _ _ _ h hk
  · rw [if_neg c1] at h
    refine sw_aload_n (k0 := 0) 0 rfl (by decide +kernel) rfl ?_
    refine gf_X10_69 (i := 49) (by decide) rfl (by decide +kernel) ?_
    refine sw_refj 68 rfl ?_
    refine sw_iload_n (k0 := 2) 2 rfl (by decide +kernel) rfl ?_
    refine sw_aload_n (k0 := 0) 0 rfl (by decide +kernel) rfl ?_
    refine gf_X10_63 (i := 49) (by decide) rfl (by decide +kernel) ?_
    refine sw_refj 66 rfl ?_
    refine sw_iload_n (k0 := 2) 2 rfl (by decide +kernel) rfl ?_
    obtain ⟨g5, h⟩ := sw_gd_e h
    refine sw_iaload (a := 66) (by decide) rfl (sw_in_e g5) (by decide +kernel) ?_
    obtain ⟨g6, h⟩ := sw_gd_e h
    obtain ⟨m7, e8, h⟩ := sw_let_e h
    refine sw_iastore (a := 68) (by decide) rfl (sw_in_e g6) (by decide +kernel) ?_
    refine sw_mem e8 ?_
    obtain ⟨v9, e10, h⟩ := sw_let_e h
    refine sw_iincv (i := 2) (n := 1) (lv' := [(2, .int v9), (0, .ref 49), (1, .int a1)]) 2 rfl e10 (by decide +kernel) (by decide) (by decide) rfl ?_
    refine sw_goto (off := (-23)) 14 (by decide +kernel) (by decide) ?_
    cases h
    refine sw_lv [1, 2, 0] rfl ?_
    exact hk
set_option maxRecDepth 20000 in
theorem sX10_rest_L6 {l : Launch} {E : sw_E} {K : Nat} (hK : 4 ≤ K) (σ : sw_M) (a1 : Int32) {res : Int32 × sw_M} {t : (Int32 × sw_M) ⊕ (Int32 × sw_M)} (h : fX10_rest_L6 σ a1 = some t) (hk : (Sum.elim (fun s : Int32 × sw_M => sw_Go l E K RX10 cX10_rest 4 (some .int) 6 [(0, .ref 49), (1, .int s.1)] [] s.2 (some (.int res.1)) res.2) (fun q => q = res)) t) : sw_Go l E K RX10 cX10_rest 4 (some .int) 6 [(0, .ref 49), (1, .int a1)] [] σ (some (.int res.1)) res.2 := by
  unfold fX10_rest_L6 at h
  refine sw_iload_n (k0 := 1) 1 rfl (by decide +kernel) rfl ?_
  refine sw_bipush (n := 60) (v := 60) (by decide +kernel) (by decide) ?_
  refine sw_icmp_gt (off := 90) 99 (by decide +kernel) (by decide) (fun c1 => ?_) (fun c1 => ?_)
  · rw [if_pos c1] at h
    refine sw_iconst (n := (-1)) (v := (-1)) (by decide +kernel) (by decide) ?_
    cases h
    obtain rfl : _ = res := hk
    exact sw_iret (by decide +kernel)
  · rw [if_neg c1] at h
    refine sw_iconst (n := 0) (v := 0) (by decide +kernel) (by decide) ?_
    refine sw_istore_n (k0 := 2) (lv' := [(2, .int 0), (0, .ref 49), (1, .int a1)]) (by decide +kernel) rfl (by decide) rfl ?_
    refine sw_lv [1, 2, 0] rfl ?_
    exact sw_wh_e (fun s : Int32 × sw_M => sw_Go l E K RX10 cX10_rest 4 (some .int) 14 [(0, .ref 49), (1, .int a1), (2, .int s.1)] [] s.2 (some (.int res.1)) res.2) (Sum.elim (fun s : Int32 × sw_M => sw_Go l E K RX10 cX10_rest 4 (some .int) 6 [(0, .ref 49), (1, .int s.1)] [] s.2 (some (.int res.1)) res.2) (fun q => q = res)) (fun s => fX10_rest_L14 s.2 a1 s.1) (fun s t hb hk => sX10_rest_L14 hK s.2 a1 s.1 hb hk) _ _ _ h hk
set_option maxRecDepth 20000 in
theorem sX10_rest {l : Launch} {E : sw_E} {K : Nat} (hK : 4 ≤ K) (σ : sw_M) {res : Int32 × sw_M} (h : fX10_rest σ = some res) : sw_Ct l E K yX10_rest cX10_rest 4 (some .int) [.ref 49] σ (some (.int res.1)) res.2 := by
  obtain ⟨t, hk, h⟩ : ∃ t, t = res ∧ fX10_rest σ = some t := ⟨res, rfl, h⟩
  unfold fX10_rest at h
  refine sw_enter2 (own := RX10) (lv := [(0, .ref 49)]) (by decide +kernel) (Nat.le_of_ble_eq_true rfl) rfl rfl ?_
  refine sw_aload_n (k0 := 0) 0 rfl (by decide +kernel) rfl ?_
  obtain ⟨m1, w2, h⟩ := sw_b1_e h
  refine sw_callVv (ci := 10) (i := 49) [] (sX10_fill (K := K - 1) (by omega) σ w2) rfl (by omega) rfl gs_X10_445 hy_X10_fill (by decide) (by decide) rfl rfl (Nat.le_of_ble_eq_true rfl) (by decide +kernel) ?_
  refine sw_iconst (n := 0) (v := 0) (by decide +kernel) (by decide) ?_
  refine sw_istore_n (k0 := 1) (lv' := [(1, .int 0), (0, .ref 49)]) (by decide +kernel) rfl (by decide) rfl ?_
  refine sw_lv [1, 0] rfl ?_
  exact sw_wh_e (fun s : Int32 × sw_M => sw_Go l E K RX10 cX10_rest 4 (some .int) 6 [(0, .ref 49), (1, .int s.1)] [] s.2 (some (.int res.1)) res.2) (fun q => q = res) (fun s => fX10_rest_L6 s.2 s.1) (fun s t hb hk => sX10_rest_L6 hK s.2 s.1 hb hk) _ _ _ h hk
def fX10_swap (σ : sw_M) (a1 : Int32) (a2 : Int32) : Option (sw_M) :=
  sw_gd (sw_in a1 6) <|
  sw_let (σ.1 70 a1.toNatClampNeg) fun v2 =>
  sw_gd (sw_in a2 6) <|
  sw_gd (sw_in a1 6) <|
  sw_let (sw_w σ 70 a1.toNatClampNeg (σ.1 70 a2.toNatClampNeg)) fun m6 =>
  sw_gd (sw_in a2 6) <|
  sw_let (sw_w m6 70 a2.toNatClampNeg v2) fun m9 =>
  some (m9)
set_option maxRecDepth 20000 in
theorem sX10_swap {l : Launch} {E : sw_E} {K : Nat} (hK : 0 ≤ K) (σ : sw_M) (a1 : Int32) (a2 : Int32) {res : sw_M} (h : fX10_swap σ a1 a2 = some res) : sw_Ct l E K yX10_swap cX10_swap 4 none [.ref 49, .int a1, .int a2] σ none res := by
  obtain ⟨t, hk, h⟩ : ∃ t, t = res ∧ fX10_swap σ a1 a2 = some t := ⟨res, rfl, h⟩
  unfold fX10_swap at h
  refine sw_enter2 (own := RX10) (lv := [(0, .ref 49), (1, .int a1), (2, .int a2)]) (by decide +kernel) (Nat.le_of_ble_eq_true rfl) rfl rfl ?_
  refine sw_aload_n (k0 := 0) 0 rfl (by decide +kernel) rfl ?_
  refine gf_X10_75 (i := 49) (by decide) rfl (by decide +kernel) ?_
  refine sw_refj 70 rfl ?_
  refine sw_iload_n (k0 := 1) 1 rfl (by decide +kernel) rfl ?_
  obtain ⟨g1, h⟩ := sw_gd_e h
  refine sw_iaload (a := 70) (by decide) rfl (sw_in_e g1) (by decide +kernel) ?_
  obtain ⟨v2, e3, h⟩ := sw_let_e h
  refine sw_topi e3 ?_
  refine sw_istore_n (k0 := 3) (lv' := [(3, .int v2), (0, .ref 49), (1, .int a1), (2, .int a2)]) (by decide +kernel) rfl (by decide) rfl ?_
  refine sw_aload_n (k0 := 0) 1 rfl (by decide +kernel) rfl ?_
  refine gf_X10_75 (i := 49) (by decide) rfl (by decide +kernel) ?_
  refine sw_refj 70 rfl ?_
  refine sw_iload_n (k0 := 1) 2 rfl (by decide +kernel) rfl ?_
  refine sw_aload_n (k0 := 0) 1 rfl (by decide +kernel) rfl ?_
  refine gf_X10_75 (i := 49) (by decide) rfl (by decide +kernel) ?_
  refine sw_refj 70 rfl ?_
  refine sw_iload_n (k0 := 2) 3 rfl (by decide +kernel) rfl ?_
  obtain ⟨g4, h⟩ := sw_gd_e h
  refine sw_iaload (a := 70) (by decide) rfl (sw_in_e g4) (by decide +kernel) ?_
  obtain ⟨g5, h⟩ := sw_gd_e h
  obtain ⟨m6, e7, h⟩ := sw_let_e h
  refine sw_iastore (a := 70) (by decide) rfl (sw_in_e g5) (by decide +kernel) ?_
  refine sw_mem e7 ?_
  refine sw_aload_n (k0 := 0) 1 rfl (by decide +kernel) rfl ?_
  refine gf_X10_75 (i := 49) (by decide) rfl (by decide +kernel) ?_
  refine sw_refj 70 rfl ?_
  refine sw_iload_n (k0 := 2) 3 rfl (by decide +kernel) rfl ?_
  refine sw_iload_n (k0 := 3) 0 rfl (by decide +kernel) rfl ?_
  obtain ⟨g8, h⟩ := sw_gd_e h
  obtain ⟨m9, e10, h⟩ := sw_let_e h
  refine sw_iastore (a := 70) (by decide) rfl (sw_in_e g8) (by decide +kernel) ?_
  refine sw_mem e10 ?_
  cases h
  obtain rfl : _ = res := hk
  exact sw_vret (by decide +kernel)
