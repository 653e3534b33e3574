def fX2_worth_L169 (P0 : Nat) (P1 : Nat) (σ : sw_M) (a3 : Int32) (a4 : Int32) : Option ((Int32 × Int32 × sw_M) ⊕ (Int32 × sw_M)) :=
  sw_let (a4 + 1) fun v1 =>
  some (.inl (a3, v1, σ))
def fX2_worth_L126 (P0 : Nat) (P1 : Nat) (q2 : Nat) (σ : sw_M) (a3 : Int32) (a4 : Int32) (b0 : Int32) (b1 : Int32) : Option ((Int32 × Int32 × sw_M) ⊕ (Int32 × sw_M)) :=
  sw_gd (sw_in b1 (sw_s q2).2) <|
  sw_let (sw_w σ q2 b1.toNatClampNeg b0) fun m2 =>
  sw_let (a3 + 1) fun v4 =>
  fX2_worth_L169 P0 P1 m2 v4 a4
def fX2_worth_L80 (P0 : Nat) (P1 : Nat) (q2 : Nat) (σ : sw_M) (a3 : Int32) (a4 : Int32) (b0 : Int32) (b1 : Int32) : Option ((Int32 × Int32 × sw_M) ⊕ (Int32 × sw_M)) :=
  sw_gd (sw_in b1 (sw_s q2).2) <|
  sw_let (sw_w σ q2 b1.toNatClampNeg b0) fun m2 =>
  fX2_worth_L169 P0 P1 m2 a3 a4
def fX2_worth_L28 (P0 : Nat) (P1 : Nat) (σ : sw_M) (a3 : Int32) (a4 : Int32) : Option ((Int32 × Int32 × sw_M) ⊕ (Int32 × sw_M)) :=
  if (σ.1 P0 2) ≤ a4 then
    some (.inr ((σ.1 (P0 + 2) 0, σ)))
  else
    sw_gd (sw_in a4 270) <|
    sw_let (σ.1 (P0 + 1) a4.toNatClampNeg) fun v3 =>
    if v3 = (-33) then
      if a3 ≤ 0 then
        fX2_worth_L169 P0 P1 σ a3 a4
      else
        sw_gd (sw_in (a3 - 1) 31) <|
        if (σ.1 (P0 + 2) (a3 - 1).toNatClampNeg) = 0 then
          fX2_worth_L80 P0 P1 (P0 + 2) σ a3 a4 1 (a3 - 1)
        else
          fX2_worth_L80 P0 P1 (P0 + 2) σ a3 a4 0 (a3 - 1)
    else
      if v3 < (-6) then
        if a3 ≤ 1 then
          fX2_worth_L169 P0 P1 σ a3 a4
        else
          sw_let (a3 + (-1)) fun v8 =>
          sw_gd (sw_in (v8 - 1) 31) <|
          sw_gd (sw_in v8 31) <|
          sw_b1 (fX2_joined (-v3) (σ.1 (P0 + 2) (v8 - 1).toNatClampNeg) (σ.1 (P0 + 2) v8.toNatClampNeg)) fun r12 =>
          sw_gd (sw_in (v8 - 1) 31) <|
          sw_let (sw_w σ (P0 + 2) (v8 - 1).toNatClampNeg r12) fun m15 =>
          fX2_worth_L169 P0 P1 m15 v8 a4
      else
        if a3 < 31 then
          if v3 < 0 then
            sw_gd (sw_in ((-1) - v3) 6) <|
            fX2_worth_L126 P0 P1 (P0 + 2) σ a3 a4 (σ.1 (P0 + 3) ((-1) - v3).toNatClampNeg) a3
          else
            fX2_worth_L126 P0 P1 (P0 + 2) σ a3 a4 v3 a3
        else
          some (.inr ((0, σ)))
def fX2_worth (P0 : Nat) (P1 : Nat) (σ : sw_M) (a2 : Int32) : Option (Int32 × sw_M) :=
  sw_b1 (fX2_measure P0 P1 σ a2) fun m1 =>
  if (m1.1 P0 2) = 0 then
    some (((m1.1 (P0 + 3) 0) - 50, m1))
  else
    sw_wh sw_F (fun s => fX2_worth_L28 P0 P1 s.2.2 s.1 s.2.1) (0, 0, m1)
set_option maxRecDepth 20000 in
theorem sX2_worth_L169 {l : Launch} {E : sw_E} {K : Nat} (hK : 2 ≤ K) (P0 : Nat) (P1 : Nat) (hP0 : sw_isF P0) (hP1 : sw_isV P1) (σ : sw_M) (a3 : Int32) (a4 : Int32) {res : Int32 × sw_M} {t : (Int32 × Int32 × sw_M) ⊕ (Int32 × sw_M)} (h : fX2_worth_L169 P0 P1 σ a3 a4 = some t) (hk : (Sum.elim (fun s : Int32 × Int32 × sw_M => sw_Go l E K RX2 cX2_worth 6 (some .int) 28 [(0, .ref P0), (3, .int s.1), (4, .int s.2.1)] [] s.2.2 (some (.int res.1)) res.2) (fun q => q = res)) t) : sw_Go l E K RX2 cX2_worth 6 (some .int) 169 [(0, .ref P0), (3, .int a3), (4, .int a4)] [] σ (some (.int res.1)) res.2 := by
  unfold fX2_worth_L169 at h
  obtain ⟨v1, e2, h⟩ := sw_let_e h
  refine sw_iincv (i := 4) (n := 1) (lv' := [(4, .int v1), (0, .ref P0), (3, .int a3)]) 2 rfl e2 (by decide +kernel) (by decide) (by decide) rfl ?_
  refine sw_goto (off := (-144)) 28 (by decide +kernel) (by decide) ?_
  cases h
  refine sw_lv [1, 2, 0] rfl ?_
  exact hk
set_option maxRecDepth 20000 in
theorem sX2_worth_L126 {l : Launch} {E : sw_E} {K : Nat} (hK : 2 ≤ K) (P0 : Nat) (P1 : Nat) (q2 : Nat) (hP0 : sw_isF P0) (hP1 : sw_isV P1) (hq2 : sw_isA 1 q2) (σ : sw_M) (a3 : Int32) (a4 : Int32) (b0 : Int32) (b1 : Int32) {res : Int32 × sw_M} {t : (Int32 × Int32 × sw_M) ⊕ (Int32 × sw_M)} (h : fX2_worth_L126 P0 P1 q2 σ a3 a4 b0 b1 = some t) (hk : (Sum.elim (fun s : Int32 × Int32 × sw_M => sw_Go l E K RX2 cX2_worth 6 (some .int) 28 [(0, .ref P0), (3, .int s.1), (4, .int s.2.1)] [] s.2.2 (some (.int res.1)) res.2) (fun q => q = res)) t) : sw_Go l E K RX2 cX2_worth 6 (some .int) 126 [(0, .ref P0), (3, .int a3), (4, .int a4)] [.int b0, .int b1, .ref q2] σ (some (.int res.1)) res.2 := by
  unfold fX2_worth_L126 at h
  obtain ⟨g1, h⟩ := sw_gd_e h
  obtain ⟨m2, e3, h⟩ := sw_let_e h
  refine sw_iastore (a := q2) hq2.1 hq2.s (sw_in_e g1) (by decide +kernel) ?_
  refine sw_mem e3 ?_
  obtain ⟨v4, e5, h⟩ := sw_let_e h
  refine sw_iincv (i := 3) (n := 1) (lv' := [(3, .int v4), (0, .ref P0), (4, .int a4)]) 1 rfl e5 (by decide +kernel) (by decide) (by decide) rfl ?_
  refine sw_goto (off := 39) 169 (by decide +kernel) (by decide) ?_
  refine sw_lv [1, 0, 2] rfl ?_
  exact sX2_worth_L169 hK P0 P1 hP0 hP1 m2 v4 a4 h hk
set_option maxRecDepth 20000 in
theorem sX2_worth_L80 {l : Launch} {E : sw_E} {K : Nat} (hK : 2 ≤ K) (P0 : Nat) (P1 : Nat) (q2 : Nat) (hP0 : sw_isF P0) (hP1 : sw_isV P1) (hq2 : sw_isA 1 q2) (σ : sw_M) (a3 : Int32) (a4 : Int32) (b0 : Int32) (b1 : Int32) {res : Int32 × sw_M} {t : (Int32 × Int32 × sw_M) ⊕ (Int32 × sw_M)} (h : fX2_worth_L80 P0 P1 q2 σ a3 a4 b0 b1 = some t) (hk : (Sum.elim (fun s : Int32 × Int32 × sw_M => sw_Go l E K RX2 cX2_worth 6 (some .int) 28 [(0, .ref P0), (3, .int s.1), (4, .int s.2.1)] [] s.2.2 (some (.int res.1)) res.2) (fun q => q = res)) t) : sw_Go l E K RX2 cX2_worth 6 (some .int) 80 [(0, .ref P0), (3, .int a3), (4, .int a4)] [.int b0, .int b1, .ref q2] σ (some (.int res.1)) res.2 := by
  unfold fX2_worth_L80 at h
  obtain ⟨g1, h⟩ := sw_gd_e h
  obtain ⟨m2, e3, h⟩ := sw_let_e h
  refine sw_iastore (a := q2) hq2.1 hq2.s (sw_in_e g1) (by decide +kernel) ?_
  refine sw_mem e3 ?_
  refine sw_goto (off := 88) 169 (by decide +kernel) (by decide) ?_
  exact sX2_worth_L169 hK P0 P1 hP0 hP1 m2 a3 a4 h hk
set_option maxRecDepth 20000 in
theorem sX2_worth_L28 {l : Launch} {E : sw_E} {K : Nat} (hK : 2 ≤ K) (P0 : Nat) (P1 : Nat) (hP0 : sw_isF P0) (hP1 : sw_isV P1) (σ : sw_M) (a3 : Int32) (a4 : Int32) {res : Int32 × sw_M} {t : (Int32 × Int32 × sw_M) ⊕ (Int32 × sw_M)} (h : fX2_worth_L28 P0 P1 σ a3 a4 = some t) (hk : (Sum.elim (fun s : Int32 × Int32 × sw_M => sw_Go l E K RX2 cX2_worth 6 (some .int) 28 [(0, .ref P0), (3, .int s.1), (4, .int s.2.1)] [] s.2.2 (some (.int res.1)) res.2) (fun q => q = res)) t) : sw_Go l E K RX2 cX2_worth 6 (some .int) 28 [(0, .ref P0), (3, .int a3), (4, .int a4)] [] σ (some (.int res.1)) res.2 := by
  unfold fX2_worth_L28 at h
  refine sw_iload 2 rfl (by decide +kernel) ?_
  refine sw_aload_n (k0 := 0) 0 rfl (by decide +kernel) rfl ?_
  refine gf_X2_25 (i := P0) hP0.o.1 hP0.o.2 (by decide +kernel) ?_
  refine sw_icmp_ge (off := 141) 175 (by decide +kernel) (by decide) (fun c1 => ?_) (fun c1 => ?_)
  · rw [if_pos c1] at h
    refine sw_aload_n (k0 := 0) 0 rfl (by decide +kernel) rfl ?_
    refine gf_X2_15 (i := P0) hP0.o.1 hP0.o.2 (by decide +kernel) ?_
    refine sw_iconst (n := 0) (v := 0) (by decide +kernel) (by decide) ?_
    refine sw_iaload (a := (P0 + 2)) hP0.p2.1 hP0.p2.2 (sw_in_e (by decide)) (by decide +kernel) ?_
    refine sw_topi (x := σ.1 (P0 + 2) 0) rfl ?_
    cases h
    obtain rfl : _ = res := hk
    exact sw_iret (by decide +kernel)
  · rw [if_neg c1] at h
    refine sw_aload_n (k0 := 0) 0 rfl (by decide +kernel) rfl ?_
    refine gf_X2_11 (i := P0) hP0.o.1 hP0.o.2 (by decide +kernel) ?_
    refine sw_iload 2 rfl (by decide +kernel) ?_
    obtain ⟨g2, h⟩ := sw_gd_e h
    refine sw_iaload (a := (P0 + 1)) hP0.p1.1 hP0.p1.2 (sw_in_e g2) (by decide +kernel) ?_
    obtain ⟨v3, e4, h⟩ := sw_let_e h
    refine sw_topi e4 ?_
    refine sw_istore (i := 5) (lv' := [(5, .int v3), (0, .ref P0), (3, .int a3), (4, .int a4)]) (by decide +kernel) (by decide) rfl ?_
    refine sw_iload 0 rfl (by decide +kernel) ?_
    refine sw_bipush (n := (-33)) (v := (-33)) (by decide +kernel) (by decide) ?_
    refine sw_icmp_ne (off := 34) 84 (by decide +kernel) (by decide) (fun c5 => ?_) (fun c5 => ?_)
    · rw [if_neg c5] at h
      refine sw_iload 0 rfl (by decide +kernel) ?_
      refine sw_bipush (n := (-6)) (v := (-6)) (by decide +kernel) (by decide) ?_
      refine sw_icmp_lt (off := 45) 133 (by decide +kernel) (by decide) (fun c6 => ?_) (fun c6 => ?_)
      · rw [if_pos c6] at h
        refine sw_iload_n (k0 := 3) 2 rfl (by decide +kernel) rfl ?_
        refine sw_iconst (n := 1) (v := 1) (by decide +kernel) (by decide) ?_
        refine sw_icmp_le (off := 34) 169 (by decide +kernel) (by decide) (fun c7 => ?_) (fun c7 => ?_)
        · rw [if_pos c7] at h
          refine sw_lv [1, 2, 3] rfl ?_
          exact sX2_worth_L169 hK P0 P1 hP0 hP1 σ a3 a4 h hk
        · rw [if_neg c7] at h
          obtain ⟨v8, e9, h⟩ := sw_let_e h
          refine sw_iincv (i := 3) (n := (-1)) (lv' := [(3, .int v8), (5, .int v3), (0, .ref P0), (4, .int a4)]) 2 rfl e9 (by decide +kernel) (by decide) (by decide) rfl ?_
          refine sw_aload_n (k0 := 0) 2 rfl (by decide +kernel) rfl ?_
          refine gf_X2_15 (i := P0) hP0.o.1 hP0.o.2 (by decide +kernel) ?_
          refine sw_iload_n (k0 := 3) 0 rfl (by decide +kernel) rfl ?_
          refine sw_iconst (n := 1) (v := 1) (by decide +kernel) (by decide) ?_
          refine sw_isub (by decide +kernel) ?_
          refine sw_iload 1 rfl (by decide +kernel) ?_
          refine sw_ineg (by decide +kernel) ?_
          refine sw_aload_n (k0 := 0) 2 rfl (by decide +kernel) rfl ?_
          refine gf_X2_15 (i := P0) hP0.o.1 hP0.o.2 (by decide +kernel) ?_
          refine sw_iload_n (k0 := 3) 0 rfl (by decide +kernel) rfl ?_
          refine sw_iconst (n := 1) (v := 1) (by decide +kernel) (by decide) ?_
          refine sw_isub (by decide +kernel) ?_
          obtain ⟨g10, h⟩ := sw_gd_e h
          refine sw_iaload (a := (P0 + 2)) hP0.p2.1 hP0.p2.2 (sw_in_e g10) (by decide +kernel) ?_
          refine sw_aload_n (k0 := 0) 2 rfl (by decide +kernel) rfl ?_
          refine gf_X2_15 (i := P0) hP0.o.1 hP0.o.2 (by decide +kernel) ?_
          refine sw_iload_n (k0 := 3) 0 rfl (by decide +kernel) rfl ?_
          obtain ⟨g11, h⟩ := sw_gd_e h
          refine sw_iaload (a := (P0 + 2)) hP0.p2.1 hP0.p2.2 (sw_in_e g11) (by decide +kernel) ?_
          obtain ⟨r12, w13, h⟩ := sw_b1_e h
          refine sw_callSi [.int (-v3), .int (σ.1 (P0 + 2) (v8 - 1).toNatClampNeg), .int (σ.1 (P0 + 2) v8.toNatClampNeg)] (sX2_joined (K := K - 1) (by omega) σ (-v3) (σ.1 (P0 + 2) (v8 - 1).toNatClampNeg) (σ.1 (P0 + 2) v8.toNatClampNeg) w13) rfl (by omega) gs_X2_36 hy_X2_joined (by decide) rfl (Nat.le_of_ble_eq_true rfl) (by decide +kernel) ?_
          obtain ⟨g14, h⟩ := sw_gd_e h
          obtain ⟨m15, e16, h⟩ := sw_let_e h
          refine sw_iastore (a := (P0 + 2)) hP0.p2.1 hP0.p2.2 (sw_in_e g14) (by decide +kernel) ?_
          refine sw_mem e16 ?_
          refine sw_lv [2, 0, 3] rfl ?_
          exact sX2_worth_L169 hK P0 P1 hP0 hP1 m15 v8 a4 h hk
      · rw [if_neg c6] at h
        refine sw_iload_n (k0 := 3) 2 rfl (by decide +kernel) rfl ?_
        refine sw_aload_n (k0 := 0) 1 rfl (by decide +kernel) rfl ?_
        refine gf_X2_15 (i := P0) hP0.o.1 hP0.o.2 (by decide +kernel) ?_
        refine sw_alen (a := (P0 + 2)) (v := 31) hP0.p2.1 hP0.p2.2 (by decide) (by decide) (by decide +kernel) ?_
        refine sw_icmp_lt (off := 5) 102 (by decide +kernel) (by decide) (fun c17 => ?_) (fun c17 => ?_)
        · rw [if_pos c17] at h
          refine sw_aload_n (k0 := 0) 1 rfl (by decide +kernel) rfl ?_
          refine gf_X2_15 (i := P0) hP0.o.1 hP0.o.2 (by decide +kernel) ?_
          refine sw_iload_n (k0 := 3) 2 rfl (by decide +kernel) rfl ?_
          refine sw_iload 0 rfl (by decide +kernel) ?_
          refine sw_if_lt (off := 8) 117 (by decide +kernel) (by decide) (fun c18 => ?_) (fun c18 => ?_)
          · rw [if_pos c18] at h
            refine sw_aload_n (k0 := 0) 1 rfl (by decide +kernel) rfl ?_
            refine gf_X2_18 (i := P0) hP0.o.1 hP0.o.2 (by decide +kernel) ?_
            refine sw_iconst (n := (-1)) (v := (-1)) (by decide +kernel) (by decide) ?_
            refine sw_iload 0 rfl (by decide +kernel) ?_
            refine sw_isub (by decide +kernel) ?_
            obtain ⟨g19, h⟩ := sw_gd_e h
            refine sw_iaload (a := (P0 + 3)) hP0.p3.1 hP0.p3.2 (sw_in_e g19) (by decide +kernel) ?_
            refine sw_lv [1, 2, 3] rfl ?_
            exact sX2_worth_L126 hK P0 P1 (P0 + 2) hP0 hP1 (sw_A_of hP0.p2.1 hP0.p2.2) σ a3 a4 (σ.1 (P0 + 3) ((-1) - v3).toNatClampNeg) a3 h hk
          · rw [if_neg c18] at h
            refine sw_iload 0 rfl (by decide +kernel) ?_
            refine sw_goto (off := 12) 126 (by decide +kernel) (by decide) ?_
            refine sw_lv [1, 2, 3] rfl ?_
            exact sX2_worth_L126 hK P0 P1 (P0 + 2) hP0 hP1 (sw_A_of hP0.p2.1 hP0.p2.2) σ a3 a4 v3 a3 h hk
        · rw [if_neg c17] at h
          refine sw_iconst (n := 0) (v := 0) (by decide +kernel) (by decide) ?_
          cases h
          obtain rfl : _ = res := hk
          exact sw_iret (by decide +kernel)
    · rw [if_pos c5] at h
      refine sw_iload_n (k0 := 3) 2 rfl (by decide +kernel) rfl ?_
      refine sw_if_le (off := 115) 169 (by decide +kernel) (by decide) (fun c20 => ?_) (fun c20 => ?_)
      · rw [if_pos c20] at h
        refine sw_lv [1, 2, 3] rfl ?_
        exact sX2_worth_L169 hK P0 P1 hP0 hP1 σ a3 a4 h hk
      · rw [if_neg c20] at h
        refine sw_aload_n (k0 := 0) 1 rfl (by decide +kernel) rfl ?_
        refine gf_X2_15 (i := P0) hP0.o.1 hP0.o.2 (by decide +kernel) ?_
        refine sw_iload_n (k0 := 3) 2 rfl (by decide +kernel) rfl ?_
        refine sw_iconst (n := 1) (v := 1) (by decide +kernel) (by decide) ?_
        refine sw_isub (by decide +kernel) ?_
        refine sw_aload_n (k0 := 0) 1 rfl (by decide +kernel) rfl ?_
        refine gf_X2_15 (i := P0) hP0.o.1 hP0.o.2 (by decide +kernel) ?_
        refine sw_iload_n (k0 := 3) 2 rfl (by decide +kernel) rfl ?_
        refine sw_iconst (n := 1) (v := 1) (by decide +kernel) (by decide) ?_
        refine sw_isub (by decide +kernel) ?_
        obtain ⟨g21, h⟩ := sw_gd_e h
        refine sw_iaload (a := (P0 + 2)) hP0.p2.1 hP0.p2.2 (sw_in_e g21) (by decide +kernel) ?_
        refine sw_if_ne (off := 7) 79 (by decide +kernel) (by decide) (fun c22 => ?_) (fun c22 => ?_)
        · rw [if_neg c22] at h
          refine sw_iconst (n := 0) (v := 0) (by decide +kernel) (by decide) ?_
          refine sw_lv [1, 2, 3] rfl ?_
          exact sX2_worth_L80 hK P0 P1 (P0 + 2) hP0 hP1 (sw_A_of hP0.p2.1 hP0.p2.2) σ a3 a4 0 (a3 - 1) h hk
        · rw [if_pos c22] at h
          refine sw_iconst (n := 1) (v := 1) (by decide +kernel) (by decide) ?_
          refine sw_goto (off := 4) 80 (by decide +kernel) (by decide) ?_
          refine sw_lv [1, 2, 3] rfl ?_
          exact sX2_worth_L80 hK P0 P1 (P0 + 2) hP0 hP1 (sw_A_of hP0.p2.1 hP0.p2.2) σ a3 a4 1 (a3 - 1) h hk
set_option maxRecDepth 20000 in
theorem sX2_worth {l : Launch} {E : sw_E} {K : Nat} (hK : 2 ≤ K) (P0 : Nat) (P1 : Nat) (hP0 : sw_isF P0) (hP1 : sw_isV P1) (σ : sw_M) (a2 : Int32) {res : Int32 × sw_M} (h : fX2_worth P0 P1 σ a2 = some res) : sw_Ct l E K yX2_worth cX2_worth 6 (some .int) [.ref P0, .ref P1, .int a2] σ (some (.int res.1)) res.2 := by
  obtain ⟨t, hk, h⟩ : ∃ t, t = res ∧ fX2_worth P0 P1 σ a2 = some t := ⟨res, rfl, h⟩
  unfold fX2_worth at h
  refine sw_enter2 (own := RX2) (lv := [(0, .ref P0), (1, .ref P1), (2, .int a2)]) (by decide +kernel) (Nat.le_of_ble_eq_true rfl) rfl rfl ?_
  refine sw_aload_n (k0 := 0) 0 rfl (by decide +kernel) rfl ?_
  refine sw_aload_n (k0 := 1) 1 rfl (by decide +kernel) rfl ?_
  refine sw_iload_n (k0 := 2) 2 rfl (by decide +kernel) rfl ?_
  obtain ⟨m1, w2, h⟩ := sw_b1_e h
  refine sw_callVv (ci := 2) (i := P0) [.ref P1, .int a2] (sX2_measure (K := K - 1) (by omega) P0 P1 hP0 hP1 σ a2 w2) rfl (by omega) rfl gs_X2_32 hy_X2_measure (by decide) hP0.o.1 hP0.o.2 rfl (Nat.le_of_ble_eq_true rfl) (by decide +kernel) ?_
  refine sw_aload_n (k0 := 0) 0 rfl (by decide +kernel) rfl ?_
  refine gf_X2_25 (i := P0) hP0.o.1 hP0.o.2 (by decide +kernel) ?_
  refine sw_if_ne (off := 13) 23 (by decide +kernel) (by decide) (fun c3 => ?_) (fun c3 => ?_)
  · rw [if_neg c3] at h
    refine sw_iconst (n := 0) (v := 0) (by decide +kernel) (by decide) ?_
    refine sw_istore_n (k0 := 3) (lv' := [(3, .int 0), (0, .ref P0), (1, .ref P1), (2, .int a2)]) (by decide +kernel) rfl (by decide) rfl ?_
    refine sw_iconst (n := 0) (v := 0) (by decide +kernel) (by decide) ?_
    refine sw_istore (i := 4) (lv' := [(4, .int 0), (3, .int 0), (0, .ref P0), (1, .ref P1), (2, .int a2)]) (by decide +kernel) (by decide) rfl ?_
    refine sw_lv [2, 1, 0] rfl ?_
    exact sw_wh_e (fun s : Int32 × Int32 × sw_M => sw_Go l E K RX2 cX2_worth 6 (some .int) 28 [(0, .ref P0), (3, .int s.1), (4, .int s.2.1)] [] s.2.2 (some (.int res.1)) res.2) (fun q => q = res) (fun s => fX2_worth_L28 P0 P1 s.2.2 s.1 s.2.1) (fun s t hb hk => sX2_worth_L28 hK P0 P1 hP0 hP1 s.2.2 s.1 s.2.1 hb hk) _ _ _ h hk
  · rw [if_pos c3] at h
    refine sw_aload_n (k0 := 0) 0 rfl (by decide +kernel) rfl ?_
    refine gf_X2_18 (i := P0) hP0.o.1 hP0.o.2 (by decide +kernel) ?_
    refine sw_iconst (n := 0) (v := 0) (by decide +kernel) (by decide) ?_
    refine sw_iaload (a := (P0 + 3)) hP0.p3.1 hP0.p3.2 (sw_in_e (by decide)) (by decide +kernel) ?_
    refine sw_topi (x := m1.1 (P0 + 3) 0) rfl ?_
    refine sw_bipush (n := 50) (v := 50) (by decide +kernel) (by decide) ?_
    refine sw_isub (by decide +kernel) ?_
    cases h
    obtain rfl : _ = res := hk
    exact sw_iret (by decide +kernel)
def fX8_copy (P0 : Nat) (P1 : Nat) (σ : sw_M) : Option (sw_M) :=
  sw_gd (sw_cg 0 0 5 5 5) <|
  sw_let (sw_wA σ (P0 + 1) (va_cpy (σ.1 (P1 + 1)) (σ.1 (P0 + 1)) (0 : Int32).toNatClampNeg (0 : Int32).toNatClampNeg (5 : Int32).toNatClampNeg)) fun m2 =>
  sw_let (sw_w m2 P0 1 (m2.1 P1 1)) fun m4 =>
  sw_let (sw_w m4 P0 2 (m4.1 P1 2)) fun m6 =>
  sw_let (sw_w m6 P0 3 (m6.1 P1 3)) fun m8 =>
  sw_let (sw_w m8 P0 4 (m8.1 P1 4)) fun m10 =>
  sw_let (sw_w m10 P0 5 (m10.1 P1 5)) fun m12 =>
  some (m12)
set_option maxRecDepth 20000 in
theorem sX8_copy {l : Launch} {E : sw_E} {K : Nat} (hK : 1 ≤ K) (P0 : Nat) (P1 : Nat) (hP0 : sw_isV P0) (hP1 : sw_isV P1) (σ : sw_M) {res : sw_M} (h : fX8_copy P0 P1 σ = some res) : sw_Ct l E K yX8_copy cX8_copy 2 none [.ref P0, .ref P1] σ none res := by
  obtain ⟨t, hk, h⟩ : ∃ t, t = res ∧ fX8_copy P0 P1 σ = some t := ⟨res, rfl, h⟩
  unfold fX8_copy at h
  refine sw_enter2 (own := RX8) (lv := [(0, .ref P0), (1, .ref P1)]) (by decide +kernel) (Nat.le_of_ble_eq_true rfl) rfl rfl ?_
  refine sw_aload_n (k0 := 1) 1 rfl (by decide +kernel) rfl ?_
  refine gf_X8_9 (i := P1) hP1.o.1 hP1.o.2 (by decide +kernel) ?_
  refine sw_iconst (n := 0) (v := 0) (by decide +kernel) (by decide) ?_
  refine sw_aload_n (k0 := 0) 0 rfl (by decide +kernel) rfl ?_
  refine gf_X8_9 (i := P0) hP0.o.1 hP0.o.2 (by decide +kernel) ?_
  refine sw_iconst (n := 0) (v := 0) (by decide +kernel) (by decide) ?_
  refine sw_iconst (n := 5) (v := 5) (by decide +kernel) (by decide) ?_
  obtain ⟨g1, h⟩ := sw_gd_e h
  obtain ⟨m2, e3, h⟩ := sw_let_e h
  refine sw_acopy (a0 := (P1 + 1)) (a := (P0 + 1)) ac_X8_37 ac_nat ac_sta ac_ini hP1.p1.1 hP1.p1.2 hP0.p1.1 hP0.p1.2 (sw_cg_e g1).1 (sw_cg_e g1).2.1 (sw_cg_e g1).2.2.1 (sw_cg_e g1).2.2.2.1 (sw_cg_e g1).2.2.2.2 (by omega) (by decide) (by decide +kernel) ?_
  refine sw_mem e3 ?_
  refine sw_aload_n (k0 := 0) 0 rfl (by decide +kernel) rfl ?_
  refine sw_aload_n (k0 := 1) 1 rfl (by decide +kernel) rfl ?_
  refine gf_X8_21 (i := P1) hP1.o.1 hP1.o.2 (by decide +kernel) ?_
  obtain ⟨m4, e5, h⟩ := sw_let_e h
  refine pf_X8_21 hP0.o.1 hP0.o.2 (by decide +kernel) ?_
  refine sw_mem e5 ?_
  refine sw_aload_n (k0 := 0) 0 rfl (by decide +kernel) rfl ?_
  refine sw_aload_n (k0 := 1) 1 rfl (by decide +kernel) rfl ?_
  refine gf_X8_25 (i := P1) hP1.o.1 hP1.o.2 (by decide +kernel) ?_
  obtain ⟨m6, e7, h⟩ := sw_let_e h
  refine pf_X8_25 hP0.o.1 hP0.o.2 (by decide +kernel) ?_
  refine sw_mem e7 ?_
  refine sw_aload_n (k0 := 0) 0 rfl (by decide +kernel) rfl ?_
  refine sw_aload_n (k0 := 1) 1 rfl (by decide +kernel) rfl ?_
  refine gf_X8_28 (i := P1) hP1.o.1 hP1.o.2 (by decide +kernel) ?_
  obtain ⟨m8, e9, h⟩ := sw_let_e h
  refine pf_X8_28 hP0.o.1 hP0.o.2 (by decide +kernel) ?_
  refine sw_mem e9 ?_
  refine sw_aload_n (k0 := 0) 0 rfl (by decide +kernel) rfl ?_
  refine sw_aload_n (k0 := 1) 1 rfl (by decide +kernel) rfl ?_
  refine gf_X8_31 (i := P1) hP1.o.1 hP1.o.2 (by decide +kernel) ?_
  obtain ⟨m10, e11, h⟩ := sw_let_e h
  refine pf_X8_31 hP0.o.1 hP0.o.2 (by decide +kernel) ?_
  refine sw_mem e11 ?_
  refine sw_aload_n (k0 := 0) 0 rfl (by decide +kernel) rfl ?_
  refine sw_aload_n (k0 := 1) 1 rfl (by decide +kernel) rfl ?_
  refine gf_X8_34 (i := P1) hP1.o.1 hP1.o.2 (by decide +kernel) ?_
  obtain ⟨m12, e13, h⟩ := sw_let_e h
  refine pf_X8_34 hP0.o.1 hP0.o.2 (by decide +kernel) ?_
  refine sw_mem e13 ?_
  cases h
  obtain rfl : _ = res := hk
  exact sw_vret (by decide +kernel)
def fX4_has (P0 : Nat) (σ : sw_M) (a1 : Int32) (a2 : Int32) : Option (Int32) :=
  sw_gd (sw_in ((a1 * 5) + a2) 35) <|
  some (σ.1 (P0 + 4) ((a1 * 5) + a2).toNatClampNeg)
set_option maxRecDepth 20000 in
theorem sX4_has {l : Launch} {E : sw_E} {K : Nat} (hK : 0 ≤ K) (P0 : Nat) (hP0 : sw_isP P0) (σ : sw_M) (a1 : Int32) (a2 : Int32) {res : Int32} (h : fX4_has P0 σ a1 a2 = some res) : sw_Ct l E K yX4_has cX4_has 3 (some .int) [.ref P0, .int a1, .int a2] σ (some (.int res)) σ := by
  obtain ⟨t, hk, h⟩ : ∃ t, t = res ∧ fX4_has P0 σ a1 a2 = some t := ⟨res, rfl, h⟩
  unfold fX4_has at h
  refine sw_enter2 (own := RX4) (lv := [(0, .ref P0), (1, .int a1), (2, .int a2)]) (by decide +kernel) (Nat.le_of_ble_eq_true rfl) rfl rfl ?_
  refine sw_aload_n (k0 := 0) 0 rfl (by decide +kernel) rfl ?_
  refine gf_X4_21 (i := P0) hP0.o.1 hP0.o.2 (by decide +kernel) ?_
  refine sw_iload_n (k0 := 1) 1 rfl (by decide +kernel) rfl ?_
  refine sw_iconst (n := 5) (v := 5) (by decide +kernel) (by decide) ?_
  refine sw_imul (by decide +kernel) ?_
  refine sw_iload_n (k0 := 2) 2 rfl (by decide +kernel) rfl ?_
  refine sw_iadd (by decide +kernel) ?_
  obtain ⟨g1, h⟩ := sw_gd_e h
  refine sw_iaload (a := (P0 + 4)) hP0.p4.1 hP0.p4.2 (sw_in_e g1) (by decide +kernel) ?_
  cases h
  obtain rfl : _ = res := hk
  exact sw_iret (by decide +kernel)
def fX4_pour_L2 (P0 : Nat) (P1 : Nat) (σ : sw_M) (a2 : Int32) (a3 : Int32) : Option ((Int32 × sw_M) ⊕ (sw_M)) :=
  if (σ.1 P0 0) ≤ a3 then
    some (.inr (σ))
  else
    sw_gd (sw_in a3 (sw_s P1).2) <|
    sw_b1 (fX4_has P0 σ a2 a3) fun r3 =>
    sw_gd (sw_in a3 (sw_s P1).2) <|
    sw_let (sw_w σ P1 a3.toNatClampNeg (sw_min 999 ((σ.1 P1 a3.toNatClampNeg) + r3))) fun m6 =>
    sw_let (a3 + 1) fun v8 =>
    some (.inl (v8, m6))
def fX4_pour (P0 : Nat) (P1 : Nat) (σ : sw_M) (a2 : Int32) : Option (sw_M) :=
  sw_wh sw_F (fun s => fX4_pour_L2 P0 P1 s.2 a2 s.1) (0, σ)
set_option maxRecDepth 20000 in
theorem sX4_pour_L2 {l : Launch} {E : sw_E} {K : Nat} (hK : 1 ≤ K) (P0 : Nat) (P1 : Nat) (hP0 : sw_isP P0) (hP1 : sw_isA 1 P1) (σ : sw_M) (a2 : Int32) (a3 : Int32) {res : sw_M} {t : (Int32 × sw_M) ⊕ (sw_M)} (h : fX4_pour_L2 P0 P1 σ a2 a3 = some t) (hk : (Sum.elim (fun s : Int32 × sw_M => sw_Go l E K RX4 cX4_pour 4 none 2 [(0, .ref P0), (1, .ref P1), (2, .int a2), (3, .int s.1)] [] s.2 none res) (fun q => q = res)) t) : sw_Go l E K RX4 cX4_pour 4 none 2 [(0, .ref P0), (1, .ref P1), (2, .int a2), (3, .int a3)] [] σ none res := by
  unfold fX4_pour_L2 at h
  refine sw_iload_n (k0 := 3) 3 rfl (by decide +kernel) rfl ?_
  refine sw_aload_n (k0 := 0) 0 rfl (by decide +kernel) rfl ?_
  refine gf_X4_38 (i := P0) hP0.o.1 hP0.o.2 (by decide +kernel) ?_
  refine sw_icmp_ge (off := 28) 35 (by decide +kernel) (by decide) (fun c1 => ?_) (fun c1 => ?_)
  · rw [if_pos c1] at h
    cases h
    obtain rfl : _ = res := hk
    exact sw_vret (by decide +kernel)
  · rw [if_neg c1] at h
    refine sw_aload_n (k0 := 1) 1 rfl (by decide +kernel) rfl ?_
    refine sw_iload_n (k0 := 3) 3 rfl (by decide +kernel) rfl ?_
    refine sw_sipush (n := 999) (v := 999) (by decide +kernel) (by decide) ?_
    refine sw_aload_n (k0 := 1) 1 rfl (by decide +kernel) rfl ?_
    refine sw_iload_n (k0 := 3) 3 rfl (by decide +kernel) rfl ?_
    obtain ⟨g2, h⟩ := sw_gd_e h
    refine sw_iaload (a := P1) hP1.1 hP1.s (sw_in_e g2) (by decide +kernel) ?_
    refine sw_aload_n (k0 := 0) 0 rfl (by decide +kernel) rfl ?_
    refine sw_iload_n (k0 := 2) 2 rfl (by decide +kernel) rfl ?_
    refine sw_iload_n (k0 := 3) 3 rfl (by decide +kernel) rfl ?_
    obtain ⟨r3, w4, h⟩ := sw_b1_e h
    refine sw_callVi (ci := 4) (i := P0) [.int a2, .int a3] (sX4_has (K := K - 1) (by omega) P0 hP0 σ a2 a3 w4) rfl (by omega) rfl gs_X4_76 hy_X4_has (by decide) hP0.o.1 hP0.o.2 rfl (Nat.le_of_ble_eq_true rfl) (by decide +kernel) ?_
    refine sw_iadd (by decide +kernel) ?_
    refine sw_mmin mx_X4_91 mx_min_s mx_i mx_min_c (by omega) (Nat.le_of_ble_eq_true rfl) (by decide +kernel) ?_
    obtain ⟨g5, h⟩ := sw_gd_e h
    obtain ⟨m6, e7, h⟩ := sw_let_e h
    refine sw_iastore (a := P1) hP1.1 hP1.s (sw_in_e g5) (by decide +kernel) ?_
    refine sw_mem e7 ?_
    obtain ⟨v8, e9, h⟩ := sw_let_e h
    refine sw_iincv (i := 3) (n := 1) (lv' := [(3, .int v8), (0, .ref P0), (1, .ref P1), (2, .int a2)]) 3 rfl e9 (by decide +kernel) (by decide) (by decide) rfl ?_
    refine sw_goto (off := (-30)) 2 (by decide +kernel) (by decide) ?_
    cases h
    refine sw_lv [1, 2, 3, 0] rfl ?_
    exact hk
set_option maxRecDepth 20000 in
theorem sX4_pour {l : Launch} {E : sw_E} {K : Nat} (hK : 1 ≤ K) (P0 : Nat) (P1 : Nat) (hP0 : sw_isP P0) (hP1 : sw_isA 1 P1) (σ : sw_M) (a2 : Int32) {res : sw_M} (h : fX4_pour P0 P1 σ a2 = some res) : sw_Ct l E K yX4_pour cX4_pour 4 none [.ref P0, .ref P1, .int a2] σ none res := by
  obtain ⟨t, hk, h⟩ : ∃ t, t = res ∧ fX4_pour P0 P1 σ a2 = some t := ⟨res, rfl, h⟩
  unfold fX4_pour at h
  refine sw_enter2 (own := RX4) (lv := [(0, .ref P0), (1, .ref P1), (2, .int a2)]) (by decide +kernel) (Nat.le_of_ble_eq_true rfl) rfl rfl ?_
  refine sw_iconst (n := 0) (v := 0) (by decide +kernel) (by decide) ?_
  refine sw_istore_n (k0 := 3) (lv' := [(3, .int 0), (0, .ref P0), (1, .ref P1), (2, .int a2)]) (by decide +kernel) rfl (by decide) rfl ?_
  refine sw_lv [1, 2, 3, 0] rfl ?_
  exact sw_wh_e (fun s : Int32 × sw_M => sw_Go l E K RX4 cX4_pour 4 none 2 [(0, .ref P0), (1, .ref P1), (2, .int a2), (3, .int s.1)] [] s.2 none res) (fun q => q = res) (fun s => fX4_pour_L2 P0 P1 s.2 a2 s.1) (fun s t hb hk => sX4_pour_L2 hK P0 P1 hP0 hP1 s.2 a2 s.1 hb hk) _ _ _ h hk
def fX4_tell_L28 (P0 : Nat) (P1 : Nat) (σ : sw_M) (a2 : Int32) (a3 : Int32) : Option ((Int32 × sw_M) ⊕ (sw_M)) :=
  sw_let (a3 + 1) fun v1 =>
  some (.inl (v1, σ))
def fX4_tell_L2 (P0 : Nat) (P1 : Nat) (σ : sw_M) (a2 : Int32) (a3 : Int32) : Option ((Int32 × sw_M) ⊕ (sw_M)) :=
  if (σ.1 P0 1) ≤ a3 then
    sw_let (sw_w σ P1 1 ((σ.1 P1 1) ||| a2)) fun m2 =>
    some (.inr (m2))
  else
    if ((a2 >>> (a3 &&& 31)) &&& 1) = 1 then
      sw_b1 (fX4_pour P0 (P1 + 1) σ a3) fun m5 =>
      fX4_tell_L28 P0 P1 m5 a2 a3
    else
      fX4_tell_L28 P0 P1 σ a2 a3
def fX4_tell (P0 : Nat) (P1 : Nat) (σ : sw_M) (a2 : Int32) : Option (sw_M) :=
  sw_wh sw_F (fun s => fX4_tell_L2 P0 P1 s.2 a2 s.1) (0, σ)
set_option maxRecDepth 20000 in
theorem sX4_tell_L28 {l : Launch} {E : sw_E} {K : Nat} (hK : 2 ≤ K) (P0 : Nat) (P1 : Nat) (hP0 : sw_isP P0) (hP1 : sw_isV P1) (σ : sw_M) (a2 : Int32) (a3 : Int32) {res : sw_M} {t : (Int32 × sw_M) ⊕ (sw_M)} (h : fX4_tell_L28 P0 P1 σ a2 a3 = some t) (hk : (Sum.elim (fun s : Int32 × sw_M => sw_Go l E K RX4 cX4_tell 4 none 2 [(0, .ref P0), (1, .ref P1), (2, .int a2), (3, .int s.1)] [] s.2 none res) (fun q => q = res)) t) : sw_Go l E K RX4 cX4_tell 4 none 28 [(0, .ref P0), (1, .ref P1), (2, .int a2), (3, .int a3)] [] σ none res := by
  unfold fX4_tell_L28 at h
  obtain ⟨v1, e2, h⟩ := sw_let_e h
  refine sw_iincv (i := 3) (n := 1) (lv' := [(3, .int v1), (0, .ref P0), (1, .ref P1), (2, .int a2)]) 3 rfl e2 (by decide +kernel) (by decide) (by decide) rfl ?_
  refine sw_goto (off := (-29)) 2 (by decide +kernel) (by decide) ?_
  cases h
  refine sw_lv [1, 2, 3, 0] rfl ?_
  exact hk
set_option maxRecDepth 20000 in
theorem sX4_tell_L2 {l : Launch} {E : sw_E} {K : Nat} (hK : 2 ≤ K) (P0 : Nat) (P1 : Nat) (hP0 : sw_isP P0) (hP1 : sw_isV P1) (σ : sw_M) (a2 : Int32) (a3 : Int32) {res : sw_M} {t : (Int32 × sw_M) ⊕ (sw_M)} (h : fX4_tell_L2 P0 P1 σ a2 a3 = some t) (hk : (Sum.elim (fun s : Int32 × sw_M => sw_Go l E K RX4 cX4_tell 4 none 2 [(0, .ref P0), (1, .ref P1), (2, .int a2), (3, .int s.1)] [] s.2 none res) (fun q => q = res)) t) : sw_Go l E K RX4 cX4_tell 4 none 2 [(0, .ref P0), (1, .ref P1), (2, .int a2), (3, .int a3)] [] σ none res := by
  unfold fX4_tell_L2 at h
  refine sw_iload_n (k0 := 3) 3 rfl (by decide +kernel) rfl ?_
  refine sw_aload_n (k0 := 0) 0 rfl (by decide +kernel) rfl ?_
  refine gf_X4_42 (i := P0) hP0.o.1 hP0.o.2 (by decide +kernel) ?_
  refine sw_icmp_ge (off := 27) 34 (by decide +kernel) (by decide) (fun c1 => ?_) (fun c1 => ?_)
  · rw [if_pos c1] at h
    refine sw_aload_n (k0 := 1) 1 rfl (by decide +kernel) rfl ?_
    refine sw_dup (by decide +kernel) rfl ?_
    refine gf_X4_88 (i := P1) hP1.o.1 hP1.o.2 (by decide +kernel) ?_
    refine sw_iload_n (k0 := 2) 2 rfl (by decide +kernel) rfl ?_
    refine sw_ior (by decide +kernel) ?_
    obtain ⟨m2, e3, h⟩ := sw_let_e h
    refine pf_X4_88 hP1.o.1 hP1.o.2 (by decide +kernel) ?_
    refine sw_mem e3 ?_
    cases h
    obtain rfl : _ = res := hk
    exact sw_vret (by decide +kernel)
  · rw [if_neg c1] at h
    refine sw_iload_n (k0 := 2) 2 rfl (by decide +kernel) rfl ?_
    refine sw_iload_n (k0 := 3) 3 rfl (by decide +kernel) rfl ?_
    refine sw_ishr (by decide +kernel) ?_
    refine sw_iconst (n := 1) (v := 1) (by decide +kernel) (by decide) ?_
    refine sw_iand (by decide +kernel) ?_
    refine sw_iconst (n := 1) (v := 1) (by decide +kernel) (by decide) ?_
    refine sw_icmp_ne (off := 12) 28 (by decide +kernel) (by decide) (fun c4 => ?_) (fun c4 => ?_)
    · rw [if_neg c4] at h
      exact sX4_tell_L28 hK P0 P1 hP0 hP1 σ a2 a3 h hk
    · rw [if_pos c4] at h
      refine sw_aload_n (k0 := 0) 0 rfl (by decide +kernel) rfl ?_
      refine sw_aload_n (k0 := 1) 1 rfl (by decide +kernel) rfl ?_
      refine gf_X4_80 (i := P1) hP1.o.1 hP1.o.2 (by decide +kernel) ?_
      refine sw_iload_n (k0 := 3) 3 rfl (by decide +kernel) rfl ?_
      obtain ⟨m5, w6, h⟩ := sw_b1_e h
      refine sw_callVv (ci := 4) (i := P0) [.ref (P1 + 1), .int a3] (sX4_pour (K := K - 1) (by omega) P0 (P1 + 1) hP0 (sw_A_of hP1.p1.1 hP1.p1.2) σ a3 w6) rfl (by omega) rfl gs_X4_85 hy_X4_pour (by decide) hP0.o.1 hP0.o.2 rfl (Nat.le_of_ble_eq_true rfl) (by decide +kernel) ?_
      exact sX4_tell_L28 hK P0 P1 hP0 hP1 m5 a2 a3 h hk
set_option maxRecDepth 20000 in
theorem sX4_tell {l : Launch} {E : sw_E} {K : Nat} (hK : 2 ≤ K) (P0 : Nat) (P1 : Nat) (hP0 : sw_isP P0) (hP1 : sw_isV P1) (σ : sw_M) (a2 : Int32) {res : sw_M} (h : fX4_tell P0 P1 σ a2 = some res) : sw_Ct l E K yX4_tell cX4_tell 4 none [.ref P0, .ref P1, .int a2] σ none res := by
  obtain ⟨t, hk, h⟩ : ∃ t, t = res ∧ fX4_tell P0 P1 σ a2 = some t := ⟨res, rfl, h⟩
  unfold fX4_tell at h
  refine sw_enter2 (own := RX4) (lv := [(0, .ref P0), (1, .ref P1), (2, .int a2)]) (by decide +kernel) (Nat.le_of_ble_eq_true rfl) rfl rfl ?_
  refine sw_iconst (n := 0) (v := 0) (by decide +kernel) (by decide) ?_
  refine sw_istore_n (k0 := 3) (lv' := [(3, .int 0), (0, .ref P0), (1, .ref P1), (2, .int a2)]) (by decide +kernel) rfl (by decide) rfl ?_
  refine sw_lv [1, 2, 3, 0] rfl ?_
  exact sw_wh_e (fun s : Int32 × sw_M => sw_Go l E K RX4 cX4_tell 4 none 2 [(0, .ref P0), (1, .ref P1), (2, .int a2), (3, .int s.1)] [] s.2 none res) (fun q => q = res) (fun s => fX4_tell_L2 P0 P1 s.2 a2 s.1) (fun s t hb hk => sX4_tell_L2 hK P0 P1 hP0 hP1 s.2 a2 s.1 hb hk) _ _ _ h hk
def fX4_limit (P0 : Nat) (σ : sw_M) (a1 : Int32) : Option (Int32) :=
  sw_gd (sw_in ((a1 * 4) + 3) 24) <|
  some (σ.1 (P0 + 6) ((a1 * 4) + 3).toNatClampNeg)
set_option maxRecDepth 20000 in
theorem sX4_limit {l : Launch} {E : sw_E} {K : Nat} (hK : 0 ≤ K) (P0 : Nat) (hP0 : sw_isP P0) (σ : sw_M) (a1 : Int32) {res : Int32} (h : fX4_limit P0 σ a1 = some res) : sw_Ct l E K yX4_limit cX4_limit 2 (some .int) [.ref P0, .int a1] σ (some (.int res)) σ := by
  obtain ⟨t, hk, h⟩ : ∃ t, t = res ∧ fX4_limit P0 σ a1 = some t := ⟨res, rfl, h⟩
  unfold fX4_limit at h
  refine sw_enter2 (own := RX4) (lv := [(0, .ref P0), (1, .int a1)]) (by decide +kernel) (Nat.le_of_ble_eq_true rfl) rfl rfl ?_
  refine sw_aload_n (k0 := 0) 0 rfl (by decide +kernel) rfl ?_
  refine gf_X4_28 (i := P0) hP0.o.1 hP0.o.2 (by decide +kernel) ?_
  refine sw_iload_n (k0 := 1) 1 rfl (by decide +kernel) rfl ?_
  refine sw_iconst (n := 4) (v := 4) (by decide +kernel) (by decide) ?_
  refine sw_imul (by decide +kernel) ?_
  refine sw_iconst (n := 3) (v := 3) (by decide +kernel) (by decide) ?_
  refine sw_iadd (by decide +kernel) ?_
  obtain ⟨g1, h⟩ := sw_gd_e h
  refine sw_iaload (a := (P0 + 6)) hP0.p6.1 hP0.p6.2 (sw_in_e g1) (by decide +kernel) ?_
  cases h
  obtain rfl : _ = res := hk
  exact sw_iret (by decide +kernel)
def fX4_first (P0 : Nat) (σ : sw_M) (a1 : Int32) : Option (Int32) :=
  sw_gd (sw_in (a1 * 4) 24) <|
  some (σ.1 (P0 + 6) (a1 * 4).toNatClampNeg)
set_option maxRecDepth 20000 in
theorem sX4_first {l : Launch} {E : sw_E} {K : Nat} (hK : 0 ≤ K) (P0 : Nat) (hP0 : sw_isP P0) (σ : sw_M) (a1 : Int32) {res : Int32} (h : fX4_first P0 σ a1 = some res) : sw_Ct l E K yX4_first cX4_first 2 (some .int) [.ref P0, .int a1] σ (some (.int res)) σ := by
  obtain ⟨t, hk, h⟩ : ∃ t, t = res ∧ fX4_first P0 σ a1 = some t := ⟨res, rfl, h⟩
  unfold fX4_first at h
  refine sw_enter2 (own := RX4) (lv := [(0, .ref P0), (1, .int a1)]) (by decide +kernel) (Nat.le_of_ble_eq_true rfl) rfl rfl ?_
  refine sw_aload_n (k0 := 0) 0 rfl (by decide +kernel) rfl ?_
  refine gf_X4_28 (i := P0) hP0.o.1 hP0.o.2 (by decide +kernel) ?_
  refine sw_iload_n (k0 := 1) 1 rfl (by decide +kernel) rfl ?_
  refine sw_iconst (n := 4) (v := 4) (by decide +kernel) (by decide) ?_
  refine sw_imul (by decide +kernel) ?_
  obtain ⟨g1, h⟩ := sw_gd_e h
  refine sw_iaload (a := (P0 + 6)) hP0.p6.1 hP0.p6.2 (sw_in_e g1) (by decide +kernel) ?_
  cases h
  obtain rfl : _ = res := hk
  exact sw_iret (by decide +kernel)
def fX4_second (P0 : Nat) (σ : sw_M) (a1 : Int32) : Option (Int32) :=
  sw_gd (sw_in ((a1 * 4) + 1) 24) <|
  some (σ.1 (P0 + 6) ((a1 * 4) + 1).toNatClampNeg)
set_option maxRecDepth 20000 in
theorem sX4_second {l : Launch} {E : sw_E} {K : Nat} (hK : 0 ≤ K) (P0 : Nat) (hP0 : sw_isP P0) (σ : sw_M) (a1 : Int32) {res : Int32} (h : fX4_second P0 σ a1 = some res) : sw_Ct l E K yX4_second cX4_second 2 (some .int) [.ref P0, .int a1] σ (some (.int res)) σ := by
  obtain ⟨t, hk, h⟩ : ∃ t, t = res ∧ fX4_second P0 σ a1 = some t := ⟨res, rfl, h⟩
  unfold fX4_second at h
  refine sw_enter2 (own := RX4) (lv := [(0, .ref P0), (1, .int a1)]) (by decide +kernel) (Nat.le_of_ble_eq_true rfl) rfl rfl ?_
  refine sw_aload_n (k0 := 0) 0 rfl (by decide +kernel) rfl ?_
  refine gf_X4_28 (i := P0) hP0.o.1 hP0.o.2 (by decide +kernel) ?_
  refine sw_iload_n (k0 := 1) 1 rfl (by decide +kernel) rfl ?_
  refine sw_iconst (n := 4) (v := 4) (by decide +kernel) (by decide) ?_
  refine sw_imul (by decide +kernel) ?_
  refine sw_iconst (n := 1) (v := 1) (by decide +kernel) (by decide) ?_
  refine sw_iadd (by decide +kernel) ?_
  obtain ⟨g1, h⟩ := sw_gd_e h
  refine sw_iaload (a := (P0 + 6)) hP0.p6.1 hP0.p6.2 (sw_in_e g1) (by decide +kernel) ?_
  cases h
  obtain rfl : _ = res := hk
  exact sw_iret (by decide +kernel)
def fX4_turning_L41 (P0 : Nat) (P1 : Nat) (σ : sw_M) (a3 : Int32) (b0 : Int32) : Option ((Int32)) :=
  some (sw_min a3 b0)
def fX4_turning (P0 : Nat) (P1 : Nat) (σ : sw_M) (a2 : Int32) (a3 : Int32) : Option (Int32) :=
  sw_b1 (fX4_first P0 σ a2) fun r1 =>
  sw_b1 (fX4_second P0 σ a2) fun r3 =>
  if r1 = r3 then
    sw_gd (sw_in r1 (sw_s P1).2) <|
    fX4_turning_L41 P0 P1 σ a3 ((σ.1 P1 r1.toNatClampNeg) / 2)
  else
    sw_gd (sw_in r1 (sw_s P1).2) <|
    sw_gd (sw_in r3 (sw_s P1).2) <|
    fX4_turning_L41 P0 P1 σ a3 (sw_min (σ.1 P1 r1.toNatClampNeg) (σ.1 P1 r3.toNatClampNeg))
set_option maxRecDepth 20000 in
theorem sX4_turning_L41 {l : Launch} {E : sw_E} {K : Nat} (hK : 1 ≤ K) (P0 : Nat) (P1 : Nat) (hP0 : sw_isP P0) (hP1 : sw_isA 1 P1) (σ : sw_M) (a3 : Int32) (b0 : Int32) {res : Int32} {t : (Int32)} (h : fX4_turning_L41 P0 P1 σ a3 b0 = some t) (hk : (fun q => q = res) t) : sw_Go l E K RX4 cX4_turning 7 (some .int) 41 [(3, .int a3)] [.int b0] σ (some (.int res)) σ := by
  unfold fX4_turning_L41 at h
  refine sw_istore (i := 6) (lv' := [(6, .int b0), (3, .int a3)]) (by decide +kernel) (by decide) rfl ?_
  refine sw_iload_n (k0 := 3) 1 rfl (by decide +kernel) rfl ?_
  refine sw_iload 0 rfl (by decide +kernel) ?_
  refine sw_mmin mx_X4_91 mx_min_s mx_i mx_min_c (by omega) (Nat.le_of_ble_eq_true rfl) (by decide +kernel) ?_
  cases h
  obtain rfl : _ = res := hk
  exact sw_iret (by decide +kernel)
set_option maxRecDepth 20000 in
theorem sX4_turning {l : Launch} {E : sw_E} {K : Nat} (hK : 1 ≤ K) (P0 : Nat) (P1 : Nat) (hP0 : sw_isP P0) (hP1 : sw_isA 1 P1) (σ : sw_M) (a2 : Int32) (a3 : Int32) {res : Int32} (h : fX4_turning P0 P1 σ a2 a3 = some res) : sw_Ct l E K yX4_turning cX4_turning 7 (some .int) [.ref P0, .ref P1, .int a2, .int a3] σ (some (.int res)) σ := by
  obtain ⟨t, hk, h⟩ : ∃ t, t = res ∧ fX4_turning P0 P1 σ a2 a3 = some t := ⟨res, rfl, h⟩
  unfold fX4_turning at h
  refine sw_enter2 (own := RX4) (lv := [(0, .ref P0), (1, .ref P1), (2, .int a2), (3, .int a3)]) (by decide +kernel) (Nat.le_of_ble_eq_true rfl) rfl rfl ?_
  refine sw_aload_n (k0 := 0) 0 rfl (by decide +kernel) rfl ?_
  refine sw_iload_n (k0 := 2) 2 rfl (by decide +kernel) rfl ?_
  obtain ⟨r1, w2, h⟩ := sw_b1_e h
  refine sw_callVi (ci := 4) (i := P0) [.int a2] (sX4_first (K := K - 1) (by omega) P0 hP0 σ a2 w2) rfl (by omega) rfl gs_X4_102 hy_X4_first (by decide) hP0.o.1 hP0.o.2 rfl (Nat.le_of_ble_eq_true rfl) (by decide +kernel) ?_
  refine sw_istore (i := 4) (lv' := [(4, .int r1), (0, .ref P0), (1, .ref P1), (2, .int a2), (3, .int a3)]) (by decide +kernel) (by decide) rfl ?_
  refine sw_aload_n (k0 := 0) 1 rfl (by decide +kernel) rfl ?_
  refine sw_iload_n (k0 := 2) 3 rfl (by decide +kernel) rfl ?_
  obtain ⟨r3, w4, h⟩ := sw_b1_e h
  refine sw_callVi (ci := 4) (i := P0) [.int a2] (sX4_second (K := K - 1) (by omega) P0 hP0 σ a2 w4) rfl (by omega) rfl gs_X4_106 hy_X4_second (by decide) hP0.o.1 hP0.o.2 rfl (Nat.le_of_ble_eq_true rfl) (by decide +kernel) ?_
  refine sw_istore (i := 5) (lv' := [(5, .int r3), (4, .int r1), (0, .ref P0), (1, .ref P1), (2, .int a2), (3, .int a3)]) (by decide +kernel) (by decide) rfl ?_
  refine sw_iload 1 rfl (by decide +kernel) ?_
  refine sw_iload 0 rfl (by decide +kernel) ?_
  refine sw_icmp_ne (off := 12) 30 (by decide +kernel) (by decide) (fun c5 => ?_) (fun c5 => ?_)
  · rw [if_neg c5] at h
    refine sw_aload_n (k0 := 1) 3 rfl (by decide +kernel) rfl ?_
    refine sw_iload 1 rfl (by decide +kernel) ?_
    obtain ⟨g6, h⟩ := sw_gd_e h
    refine sw_iaload (a := P1) hP1.1 hP1.s (sw_in_e g6) (by decide +kernel) ?_
    refine sw_aload_n (k0 := 1) 3 rfl (by decide +kernel) rfl ?_
    refine sw_iload 0 rfl (by decide +kernel) ?_
    obtain ⟨g7, h⟩ := sw_gd_e h
    refine sw_iaload (a := P1) hP1.1 hP1.s (sw_in_e g7) (by decide +kernel) ?_
    refine sw_mmin mx_X4_91 mx_min_s mx_i mx_min_c (by omega) (Nat.le_of_ble_eq_true rfl) (by decide +kernel) ?_
    refine sw_lv [5] rfl ?_
    exact sX4_turning_L41 hK P0 P1 hP0 hP1 σ a3 (sw_min (σ.1 P1 r1.toNatClampNeg) (σ.1 P1 r3.toNatClampNeg)) h hk
  · rw [if_pos c5] at h
    refine sw_aload_n (k0 := 1) 3 rfl (by decide +kernel) rfl ?_
    refine sw_iload 1 rfl (by decide +kernel) ?_
    obtain ⟨g8, h⟩ := sw_gd_e h
    refine sw_iaload (a := P1) hP1.1 hP1.s (sw_in_e g8) (by decide +kernel) ?_
    refine sw_iconst (n := 2) (v := 2) (by decide +kernel) (by decide) ?_
    refine sw_idiv (by decide +kernel) (by decide) ?_
    refine sw_goto (off := 14) 41 (by decide +kernel) (by decide) ?_
    refine sw_lv [5] rfl ?_
    exact sX4_turning_L41 hK P0 P1 hP0 hP1 σ a3 ((σ.1 P1 r1.toNatClampNeg) / 2) h hk
def fX4_third (P0 : Nat) (σ : sw_M) (a1 : Int32) : Option (Int32) :=
  sw_gd (sw_in ((a1 * 4) + 2) 24) <|
  some (σ.1 (P0 + 6) ((a1 * 4) + 2).toNatClampNeg)
set_option maxRecDepth 20000 in
theorem sX4_third {l : Launch} {E : sw_E} {K : Nat} (hK : 0 ≤ K) (P0 : Nat) (hP0 : sw_isP P0) (σ : sw_M) (a1 : Int32) {res : Int32} (h : fX4_third P0 σ a1 = some res) : sw_Ct l E K yX4_third cX4_third 2 (some .int) [.ref P0, .int a1] σ (some (.int res)) σ := by
  obtain ⟨t, hk, h⟩ : ∃ t, t = res ∧ fX4_third P0 σ a1 = some t := ⟨res, rfl, h⟩
  unfold fX4_third at h
  refine sw_enter2 (own := RX4) (lv := [(0, .ref P0), (1, .int a1)]) (by decide +kernel) (Nat.le_of_ble_eq_true rfl) rfl rfl ?_
  refine sw_aload_n (k0 := 0) 0 rfl (by decide +kernel) rfl ?_
  refine gf_X4_28 (i := P0) hP0.o.1 hP0.o.2 (by decide +kernel) ?_
  refine sw_iload_n (k0 := 1) 1 rfl (by decide +kernel) rfl ?_
  refine sw_iconst (n := 4) (v := 4) (by decide +kernel) (by decide) ?_
  refine sw_imul (by decide +kernel) ?_
  refine sw_iconst (n := 2) (v := 2) (by decide +kernel) (by decide) ?_
  refine sw_iadd (by decide +kernel) ?_
  obtain ⟨g1, h⟩ := sw_gd_e h
  refine sw_iaload (a := (P0 + 6)) hP0.p6.1 hP0.p6.2 (sw_in_e g1) (by decide +kernel) ?_
  cases h
  obtain rfl : _ = res := hk
  exact sw_iret (by decide +kernel)
def fX4_turn (P0 : Nat) (P1 : Nat) (σ : sw_M) (a2 : Int32) (a3 : Int32) : Option (Int32 × sw_M) :=
  sw_b1 (fX4_turning P0 P1 σ a2 a3) fun r1 =>
  sw_b1 (fX4_third P0 σ a2) fun r3 =>
  sw_b1 (fX4_first P0 σ a2) fun r5 =>
  sw_gd (sw_in r5 (sw_s P1).2) <|
  sw_gd (sw_in r5 (sw_s P1).2) <|
  sw_let (sw_w σ P1 r5.toNatClampNeg ((σ.1 P1 r5.toNatClampNeg) - r1)) fun m9 =>
  sw_b1 (fX4_second P0 m9 a2) fun r11 =>
  sw_gd (sw_in r11 (sw_s P1).2) <|
  sw_gd (sw_in r11 (sw_s P1).2) <|
  sw_let (sw_w m9 P1 r11.toNatClampNeg ((m9.1 P1 r11.toNatClampNeg) - r1)) fun m15 =>
  sw_gd (sw_in r3 (sw_s P1).2) <|
  sw_gd (sw_in r3 (sw_s P1).2) <|
  sw_let (sw_w m15 P1 r3.toNatClampNeg (sw_min 999 ((m15.1 P1 r3.toNatClampNeg) + r1))) fun m19 =>
  some ((r1, m19))
set_option maxRecDepth 20000 in
theorem sX4_turn {l : Launch} {E : sw_E} {K : Nat} (hK : 2 ≤ K) (P0 : Nat) (P1 : Nat) (hP0 : sw_isP P0) (hP1 : sw_isA 1 P1) (σ : sw_M) (a2 : Int32) (a3 : Int32) {res : Int32 × sw_M} (h : fX4_turn P0 P1 σ a2 a3 = some res) : sw_Ct l E K yX4_turn cX4_turn 6 (some .int) [.ref P0, .ref P1, .int a2, .int a3] σ (some (.int res.1)) res.2 := by
  obtain ⟨t, hk, h⟩ : ∃ t, t = res ∧ fX4_turn P0 P1 σ a2 a3 = some t := ⟨res, rfl, h⟩
  unfold fX4_turn at h
  refine sw_enter2 (own := RX4) (lv := [(0, .ref P0), (1, .ref P1), (2, .int a2), (3, .int a3)]) (by decide +kernel) (Nat.le_of_ble_eq_true rfl) rfl rfl ?_
  refine sw_aload_n (k0 := 0) 0 rfl (by decide +kernel) rfl ?_
  refine sw_aload_n (k0 := 1) 1 rfl (by decide +kernel) rfl ?_
  refine sw_iload_n (k0 := 2) 2 rfl (by decide +kernel) rfl ?_
  refine sw_iload_n (k0 := 3) 3 rfl (by decide +kernel) rfl ?_
  obtain ⟨r1, w2, h⟩ := sw_b1_e h
  refine sw_callVi (ci := 4) (i := P0) [.ref P1, .int a2, .int a3] (sX4_turning (K := K - 1) (by omega) P0 P1 hP0 hP1 σ a2 a3 w2) rfl (by omega) rfl gs_X4_112 hy_X4_turning (by decide) hP0.o.1 hP0.o.2 rfl (Nat.le_of_ble_eq_true rfl) (by decide +kernel) ?_
  refine sw_istore (i := 4) (lv' := [(4, .int r1), (0, .ref P0), (1, .ref P1), (2, .int a2), (3, .int a3)]) (by decide +kernel) (by decide) rfl ?_
  refine sw_aload_n (k0 := 0) 1 rfl (by decide +kernel) rfl ?_
  refine sw_iload_n (k0 := 2) 3 rfl (by decide +kernel) rfl ?_
  obtain ⟨r3, w4, h⟩ := sw_b1_e h
  refine sw_callVi (ci := 4) (i := P0) [.int a2] (sX4_third (K := K - 1) (by omega) P0 hP0 σ a2 w4) rfl (by omega) rfl gs_X4_109 hy_X4_third (by decide) hP0.o.1 hP0.o.2 rfl (Nat.le_of_ble_eq_true rfl) (by decide +kernel) ?_
  refine sw_istore (i := 5) (lv' := [(5, .int r3), (4, .int r1), (0, .ref P0), (1, .ref P1), (2, .int a2), (3, .int a3)]) (by decide +kernel) (by decide) rfl ?_
  refine sw_aload_n (k0 := 1) 3 rfl (by decide +kernel) rfl ?_
  refine sw_aload_n (k0 := 0) 2 rfl (by decide +kernel) rfl ?_
  refine sw_iload_n (k0 := 2) 4 rfl (by decide +kernel) rfl ?_
  obtain ⟨r5, w6, h⟩ := sw_b1_e h
  refine sw_callVi (ci := 4) (i := P0) [.int a2] (sX4_first (K := K - 1) (by omega) P0 hP0 σ a2 w6) rfl (by omega) rfl gs_X4_102 hy_X4_first (by decide) hP0.o.1 hP0.o.2 rfl (Nat.le_of_ble_eq_true rfl) (by decide +kernel) ?_
  refine sw_dup2 (by decide +kernel) rfl rfl ?_
  obtain ⟨g7, h⟩ := sw_gd_e h
  refine sw_iaload (a := P1) hP1.1 hP1.s (sw_in_e g7) (by decide +kernel) ?_
  refine sw_iload 1 rfl (by decide +kernel) ?_
  refine sw_isub (by decide +kernel) ?_
  obtain ⟨g8, h⟩ := sw_gd_e h
  obtain ⟨m9, e10, h⟩ := sw_let_e h
  refine sw_iastore (a := P1) hP1.1 hP1.s (sw_in_e g8) (by decide +kernel) ?_
  refine sw_mem e10 ?_
  refine sw_aload_n (k0 := 1) 3 rfl (by decide +kernel) rfl ?_
  refine sw_aload_n (k0 := 0) 2 rfl (by decide +kernel) rfl ?_
  refine sw_iload_n (k0 := 2) 4 rfl (by decide +kernel) rfl ?_
  obtain ⟨r11, w12, h⟩ := sw_b1_e h
  refine sw_callVi (ci := 4) (i := P0) [.int a2] (sX4_second (K := K - 1) (by omega) P0 hP0 m9 a2 w12) rfl (by omega) rfl gs_X4_106 hy_X4_second (by decide) hP0.o.1 hP0.o.2 rfl (Nat.le_of_ble_eq_true rfl) (by decide +kernel) ?_
  refine sw_dup2 (by decide +kernel) rfl rfl ?_
  obtain ⟨g13, h⟩ := sw_gd_e h
  refine sw_iaload (a := P1) hP1.1 hP1.s (sw_in_e g13) (by decide +kernel) ?_
  refine sw_iload 1 rfl (by decide +kernel) ?_
  refine sw_isub (by decide +kernel) ?_
  obtain ⟨g14, h⟩ := sw_gd_e h
  obtain ⟨m15, e16, h⟩ := sw_let_e h
  refine sw_iastore (a := P1) hP1.1 hP1.s (sw_in_e g14) (by decide +kernel) ?_
  refine sw_mem e16 ?_
  refine sw_aload_n (k0 := 1) 3 rfl (by decide +kernel) rfl ?_
  refine sw_iload 0 rfl (by decide +kernel) ?_
  refine sw_sipush (n := 999) (v := 999) (by decide +kernel) (by decide) ?_
  refine sw_aload_n (k0 := 1) 3 rfl (by decide +kernel) rfl ?_
  refine sw_iload 0 rfl (by decide +kernel) ?_
  obtain ⟨g17, h⟩ := sw_gd_e h
  refine sw_iaload (a := P1) hP1.1 hP1.s (sw_in_e g17) (by decide +kernel) ?_
  refine sw_iload 1 rfl (by decide +kernel) ?_
  refine sw_iadd (by decide +kernel) ?_
  refine sw_mmin mx_X4_91 mx_min_s mx_i mx_min_c (by omega) (Nat.le_of_ble_eq_true rfl) (by decide +kernel) ?_
  obtain ⟨g18, h⟩ := sw_gd_e h
  obtain ⟨m19, e20, h⟩ := sw_let_e h
  refine sw_iastore (a := P1) hP1.1 hP1.s (sw_in_e g18) (by decide +kernel) ?_
  refine sw_mem e20 ?_
  refine sw_iload 1 rfl (by decide +kernel) ?_
  cases h
  obtain rfl : _ = res := hk
  exact sw_iret (by decide +kernel)
def fX4_boilRules_L4 (P0 : Nat) (P1 : Nat) (σ : sw_M) (a2 : Int32) (a3 : Int32) : Option ((Int32 × Int32 × sw_M) ⊕ (Int32 × sw_M)) :=
  if (σ.1 P0 2) ≤ a3 then
    if a2 ≤ 0 then
      some (.inr ((0, σ)))
    else
      some (.inr ((1, σ)))
  else
    sw_b1 (fX4_limit P0 σ a3) fun r3 =>
    sw_b2 (fX4_turn P0 P1 σ a3 r3) fun r5 m6 =>
    sw_let (a2 + r5) fun v8 =>
    sw_let (a3 + 1) fun v10 =>
    some (.inl (v8, v10, m6))
def fX4_boilRules (P0 : Nat) (P1 : Nat) (σ : sw_M) : Option (Int32 × sw_M) :=
  sw_wh sw_F (fun s => fX4_boilRules_L4 P0 P1 s.2.2 s.1 s.2.1) (0, 0, σ)
set_option maxRecDepth 20000 in
theorem sX4_boilRules_L4 {l : Launch} {E : sw_E} {K : Nat} (hK : 3 ≤ K) (P0 : Nat) (P1 : Nat) (hP0 : sw_isP P0) (hP1 : sw_isA 1 P1) (σ : sw_M) (a2 : Int32) (a3 : Int32) {res : Int32 × sw_M} {t : (Int32 × Int32 × sw_M) ⊕ (Int32 × sw_M)} (h : fX4_boilRules_L4 P0 P1 σ a2 a3 = some t) (hk : (Sum.elim (fun s : Int32 × Int32 × sw_M => sw_Go l E K RX4 cX4_boilRules 4 (some .boolean) 4 [(0, .ref P0), (1, .ref P1), (2, .int s.1), (3, .int s.2.1)] [] s.2.2 (some (.int res.1)) res.2) (fun q => q = res)) t) : sw_Go l E K RX4 cX4_boilRules 4 (some .boolean) 4 [(0, .ref P0), (1, .ref P1), (2, .int a2), (3, .int a3)] [] σ (some (.int res.1)) res.2 := by
  unfold fX4_boilRules_L4 at h
  refine sw_iload_n (k0 := 3) 3 rfl (by decide +kernel) rfl ?_
  refine sw_aload_n (k0 := 0) 0 rfl (by decide +kernel) rfl ?_
  refine gf_X4_45 (i := P0) hP0.o.1 hP0.o.2 (by decide +kernel) ?_
  refine sw_icmp_ge (off := 23) 32 (by decide +kernel) (by decide) (fun c1 => ?_) (fun c1 => ?_)
  · rw [if_pos c1] at h
    refine sw_iload_n (k0 := 2) 2 rfl (by decide +kernel) rfl ?_
    refine sw_if_le (off := 7) 40 (by decide +kernel) (by decide) (fun c2 => ?_) (fun c2 => ?_)
    · rw [if_pos c2] at h
      refine sw_iconst (n := 0) (v := 0) (by decide +kernel) (by decide) ?_
      cases h
      obtain rfl : _ = res := hk
      exact sw_zret rfl (by decide +kernel)
    · rw [if_neg c2] at h
      refine sw_iconst (n := 1) (v := 1) (by decide +kernel) (by decide) ?_
      refine sw_goto (off := 4) 41 (by decide +kernel) (by decide) ?_
      cases h
      obtain rfl : _ = res := hk
      exact sw_zret rfl (by decide +kernel)
  · rw [if_neg c1] at h
    refine sw_iload_n (k0 := 2) 2 rfl (by decide +kernel) rfl ?_
    refine sw_aload_n (k0 := 0) 0 rfl (by decide +kernel) rfl ?_
    refine sw_aload_n (k0 := 1) 1 rfl (by decide +kernel) rfl ?_
    refine sw_iload_n (k0 := 3) 3 rfl (by decide +kernel) rfl ?_
    refine sw_aload_n (k0 := 0) 0 rfl (by decide +kernel) rfl ?_
    refine sw_iload_n (k0 := 3) 3 rfl (by decide +kernel) rfl ?_
    obtain ⟨r3, w4, h⟩ := sw_b1_e h
    refine sw_callVi (ci := 4) (i := P0) [.int a3] (sX4_limit (K := K - 1) (by omega) P0 hP0 σ a3 w4) rfl (by omega) rfl gs_X4_116 hy_X4_limit (by decide) hP0.o.1 hP0.o.2 rfl (Nat.le_of_ble_eq_true rfl) (by decide +kernel) ?_
    obtain ⟨r5, m6, w7, h⟩ := sw_b2_e h
    refine sw_callVi (ci := 4) (i := P0) [.ref P1, .int a3, .int r3] (sX4_turn (K := K - 1) (by omega) P0 P1 hP0 hP1 σ a3 r3 w7) rfl (by omega) rfl gs_X4_119 hy_X4_turn (by decide) hP0.o.1 hP0.o.2 rfl (Nat.le_of_ble_eq_true rfl) (by decide +kernel) ?_
    refine sw_iadd (by decide +kernel) ?_
    obtain ⟨v8, e9, h⟩ := sw_let_e h
    refine sw_topi e9 ?_
    refine sw_istore_n (k0 := 2) (lv' := [(2, .int v8), (0, .ref P0), (1, .ref P1), (3, .int a3)]) (by decide +kernel) rfl (by decide) rfl ?_
    obtain ⟨v10, e11, h⟩ := sw_let_e h
    refine sw_iincv (i := 3) (n := 1) (lv' := [(3, .int v10), (2, .int v8), (0, .ref P0), (1, .ref P1)]) 3 rfl e11 (by decide +kernel) (by decide) (by decide) rfl ?_
    refine sw_goto (off := (-25)) 4 (by decide +kernel) (by decide) ?_
    cases h
    refine sw_lv [2, 3, 1, 0] rfl ?_
    exact hk
set_option maxRecDepth 20000 in
theorem sX4_boilRules {l : Launch} {E : sw_E} {K : Nat} (hK : 3 ≤ K) (P0 : Nat) (P1 : Nat) (hP0 : sw_isP P0) (hP1 : sw_isA 1 P1) (σ : sw_M) {res : Int32 × sw_M} (h : fX4_boilRules P0 P1 σ = some res) : sw_Ct l E K yX4_boilRules cX4_boilRules 4 (some .boolean) [.ref P0, .ref P1] σ (some (.int res.1)) res.2 := by
  obtain ⟨t, hk, h⟩ : ∃ t, t = res ∧ fX4_boilRules P0 P1 σ = some t := ⟨res, rfl, h⟩
  unfold fX4_boilRules at h
  refine sw_enter2 (own := RX4) (lv := [(0, .ref P0), (1, .ref P1)]) (by decide +kernel) (Nat.le_of_ble_eq_true rfl) rfl rfl ?_
  refine sw_iconst (n := 0) (v := 0) (by decide +kernel) (by decide) ?_
  refine sw_istore_n (k0 := 2) (lv' := [(2, .int 0), (0, .ref P0), (1, .ref P1)]) (by decide +kernel) rfl (by decide) rfl ?_
  refine sw_iconst (n := 0) (v := 0) (by decide +kernel) (by decide) ?_
  refine sw_istore_n (k0 := 3) (lv' := [(3, .int 0), (2, .int 0), (0, .ref P0), (1, .ref P1)]) (by decide +kernel) rfl (by decide) rfl ?_
  refine sw_lv [2, 3, 1, 0] rfl ?_
  exact sw_wh_e (fun s : Int32 × Int32 × sw_M => sw_Go l E K RX4 cX4_boilRules 4 (some .boolean) 4 [(0, .ref P0), (1, .ref P1), (2, .int s.1), (3, .int s.2.1)] [] s.2.2 (some (.int res.1)) res.2) (fun q => q = res) (fun s => fX4_boilRules_L4 P0 P1 s.2.2 s.1 s.2.1) (fun s t hb hk => sX4_boilRules_L4 hK P0 P1 hP0 hP1 s.2.2 s.1 s.2.1 hb hk) _ _ _ h hk
def fX4_isRisen (P0 : Nat) (P1 : Nat) (σ : sw_M) : Option (Int32 × sw_M) :=
  sw_b2 (fX2_worth (P0 + 7) P1 σ (σ.1 P0 0)) fun r1 m2 =>
  if r1 ≤ 0 then
    some ((0, m2))
  else
    some ((1, m2))
set_option maxRecDepth 20000 in
theorem sX4_isRisen {l : Launch} {E : sw_E} {K : Nat} (hK : 3 ≤ K) (P0 : Nat) (P1 : Nat) (hP0 : sw_isP P0) (hP1 : sw_isV P1) (σ : sw_M) {res : Int32 × sw_M} (h : fX4_isRisen P0 P1 σ = some res) : sw_Ct l E K yX4_isRisen cX4_isRisen 2 (some .boolean) [.ref P0, .ref P1] σ (some (.int res.1)) res.2 := by
  obtain ⟨t, hk, h⟩ : ∃ t, t = res ∧ fX4_isRisen P0 P1 σ = some t := ⟨res, rfl, h⟩
  unfold fX4_isRisen at h
  refine sw_enter2 (own := RX4) (lv := [(0, .ref P0), (1, .ref P1)]) (by decide +kernel) (Nat.le_of_ble_eq_true rfl) rfl rfl ?_
  refine sw_aload_n (k0 := 0) 0 rfl (by decide +kernel) rfl ?_
  refine gf_X4_34 (i := P0) hP0.o.1 hP0.o.2 (by decide +kernel) ?_
  refine sw_aload_n (k0 := 1) 1 rfl (by decide +kernel) rfl ?_
  refine sw_aload_n (k0 := 0) 0 rfl (by decide +kernel) rfl ?_
  refine gf_X4_38 (i := P0) hP0.o.1 hP0.o.2 (by decide +kernel) ?_
  obtain ⟨r1, m2, w3, h⟩ := sw_b2_e h
  refine sw_callVi (ci := 2) (i := (P0 + 7)) [.ref P1, .int (σ.1 P0 0)] (sX2_worth (K := K - 1) (by omega) (P0 + 7) P1 hP0.F hP1 σ (σ.1 P0 0) w3) rfl (by omega) rfl gs_X4_122 hy_X2_worth (by decide) hP0.F.o.1 hP0.F.o.2 rfl (Nat.le_of_ble_eq_true rfl) (by decide +kernel) ?_
  refine sw_if_le (off := 7) 19 (by decide +kernel) (by decide) (fun c4 => ?_) (fun c4 => ?_)
  · rw [if_pos c4] at h
    refine sw_iconst (n := 0) (v := 0) (by decide +kernel) (by decide) ?_
    cases h
    obtain rfl : _ = res := hk
    exact sw_zret rfl (by decide +kernel)
  · rw [if_neg c4] at h
    refine sw_iconst (n := 1) (v := 1) (by decide +kernel) (by decide) ?_
    refine sw_goto (off := 4) 20 (by decide +kernel) (by decide) ?_
    cases h
    obtain rfl : _ = res := hk
    exact sw_zret rfl (by decide +kernel)
def fX3_riseIf_L92 (P1 : Nat) (P2 : Nat) (σ : sw_M) (a4 : Int32) (a5 : Int32) (a6 : Int32) : Option ((Int32 × Int32 × sw_M) ⊕ (Int32 × sw_M)) :=
  sw_let (a6 + 1) fun v1 =>
  some (.inl (a5, v1, σ))
def fX3_riseIf_L48 (P1 : Nat) (P2 : Nat) (σ : sw_M) (a4 : Int32) (a5 : Int32) (a6 : Int32) : Option ((Int32 × Int32 × sw_M) ⊕ (Int32 × sw_M)) :=
  sw_let (sw_w σ 35 4 ((σ.1 35 4) + 1)) fun m1 =>
  sw_b2 (fX4_isRisen P1 35 m1) fun r3 m4 =>
  if r3 = 0 then
    if a5 = 0 then
      if (m4.1 (P1 + 7) 1) = 0 then
        some (.inr (((-1), m4)))
      else
        fX3_riseIf_L92 P1 P2 m4 a4 a5 a6
    else
      fX3_riseIf_L92 P1 P2 m4 a4 a5 a6
  else
    some (.inr ((a6, m4)))
def fX3_riseIf_L23 (P1 : Nat) (P2 : Nat) (σ : sw_M) (a4 : Int32) (a5 : Int32) (a6 : Int32) : Option ((Int32 × Int32 × sw_M) ⊕ (Int32 × sw_M)) :=
  if a4 < a6 then
    some (.inr (((-1), σ)))
  else
    if a5 = 0 then
      fX3_riseIf_L48 P1 P2 σ a4 a5 a6
    else
      sw_b2 (fX4_boilRules P1 36 σ) fun r3 m4 =>
      fX3_riseIf_L48 P1 P2 m4 a4 r3 a6
def fX3_riseIf (P1 : Nat) (P2 : Nat) (σ : sw_M) (a3 : Int32) (a4 : Int32) : Option (Int32 × sw_M) :=
  sw_b1 (fX8_copy 35 P2 σ) fun m1 =>
  sw_b1 (fX4_tell P1 35 m1 a3) fun m3 =>
  sw_wh sw_F (fun s => fX3_riseIf_L23 P1 P2 s.2.2 a4 s.1 s.2.1) (1, 1, m3)
set_option maxRecDepth 20000 in
theorem sX3_riseIf_L92 {l : Launch} {E : sw_E} {K : Nat} (hK : 4 ≤ K) (P1 : Nat) (P2 : Nat) (hP1 : sw_isP P1) (hP2 : sw_isV P2) (σ : sw_M) (a4 : Int32) (a5 : Int32) (a6 : Int32) {res : Int32 × sw_M} {t : (Int32 × Int32 × sw_M) ⊕ (Int32 × sw_M)} (h : fX3_riseIf_L92 P1 P2 σ a4 a5 a6 = some t) (hk : (Sum.elim (fun s : Int32 × Int32 × sw_M => sw_Go l E K RX3 cX3_riseIf 7 (some .int) 23 [(0, .ref 34), (1, .ref P1), (4, .int a4), (5, .int s.1), (6, .int s.2.1)] [] s.2.2 (some (.int res.1)) res.2) (fun q => q = res)) t) : sw_Go l E K RX3 cX3_riseIf 7 (some .int) 92 [(0, .ref 34), (1, .ref P1), (4, .int a4), (5, .int a5), (6, .int a6)] [] σ (some (.int res.1)) res.2 := by
  unfold fX3_riseIf_L92 at h
  obtain ⟨v1, e2, h⟩ := sw_let_e h
  refine sw_iincv (i := 6) (n := 1) (lv' := [(6, .int v1), (0, .ref 34), (1, .ref P1), (4, .int a4), (5, .int a5)]) 4 rfl e2 (by decide +kernel) (by decide) (by decide) rfl ?_
  refine sw_goto (off := (-72)) 23 (by decide +kernel) (by decide) ?_
  cases h
  refine sw_lv [1, 2, 3, 4, 0] rfl ?_
  exact hk
set_option maxRecDepth 20000 in
theorem sX3_riseIf_L48 {l : Launch} {E : sw_E} {K : Nat} (hK : 4 ≤ K) (P1 : Nat) (P2 : Nat) (hP1 : sw_isP P1) (hP2 : sw_isV P2) (σ : sw_M) (a4 : Int32) (a5 : Int32) (a6 : Int32) {res : Int32 × sw_M} {t : (Int32 × Int32 × sw_M) ⊕ (Int32 × sw_M)} (h : fX3_riseIf_L48 P1 P2 σ a4 a5 a6 = some t) (hk : (Sum.elim (fun s : Int32 × Int32 × sw_M => sw_Go l E K RX3 cX3_riseIf 7 (some .int) 23 [(0, .ref 34), (1, .ref P1), (4, .int a4), (5, .int s.1), (6, .int s.2.1)] [] s.2.2 (some (.int res.1)) res.2) (fun q => q = res)) t) : sw_Go l E K RX3 cX3_riseIf 7 (some .int) 48 [(0, .ref 34), (1, .ref P1), (4, .int a4), (5, .int a5), (6, .int a6)] [] σ (some (.int res.1)) res.2 := by
  unfold fX3_riseIf_L48 at h
  refine sw_aload_n (k0 := 0) 0 rfl (by decide +kernel) rfl ?_
  refine gf_X3_12 (i := 34) (by decide) rfl (by decide +kernel) ?_
  refine sw_refj 35 rfl ?_
  refine sw_dup (by decide +kernel) rfl ?_
  refine gf_X3_42 (i := 35) (by decide) rfl (by decide +kernel) ?_
  refine sw_iconst (n := 1) (v := 1) (by decide +kernel) (by decide) ?_
  refine sw_iadd (by decide +kernel) ?_
  obtain ⟨m1, e2, h⟩ := sw_let_e h
  refine pf_X3_42 (by decide) rfl (by decide +kernel) ?_
  refine sw_mem e2 ?_
  refine sw_aload_n (k0 := 1) 1 rfl (by decide +kernel) rfl ?_
  refine sw_aload_n (k0 := 0) 0 rfl (by decide +kernel) rfl ?_
  refine gf_X3_12 (i := 34) (by decide) rfl (by decide +kernel) ?_
  refine sw_refj 35 rfl ?_
  obtain ⟨r3, m4, w5, h⟩ := sw_b2_e h
  refine sw_callVi (ci := 4) (i := P1) [.ref 35] (sX4_isRisen (K := K - 1) (by omega) P1 35 hP1 (Or.inr rfl) m1 w5) rfl (by omega) rfl gs_X3_46 hy_X4_isRisen (by decide) hP1.o.1 hP1.o.2 rfl (Nat.le_of_ble_eq_true rfl) (by decide +kernel) ?_
  refine sw_if_eq (off := 6) 75 (by decide +kernel) (by decide) (fun c6 => ?_) (fun c6 => ?_)
  · rw [if_pos c6] at h
    refine sw_iload 3 rfl (by decide +kernel) ?_
    refine sw_if_ne (off := 15) 92 (by decide +kernel) (by decide) (fun c7 => ?_) (fun c7 => ?_)
    · rw [if_neg c7] at h
      exact sX3_riseIf_L92 hK P1 P2 hP1 hP2 m4 a4 a5 a6 h hk
    · rw [if_pos c7] at h
      refine sw_aload_n (k0 := 1) 1 rfl (by decide +kernel) rfl ?_
      refine gf_X3_50 (i := P1) hP1.o.1 hP1.o.2 (by decide +kernel) ?_
      refine gf_X3_54 (i := (P1 + 7)) hP1.F.o.1 hP1.F.o.2 (by decide +kernel) ?_
      refine sw_if_ne (off := 5) 92 (by decide +kernel) (by decide) (fun c8 => ?_) (fun c8 => ?_)
      · rw [if_neg c8] at h
        exact sX3_riseIf_L92 hK P1 P2 hP1 hP2 m4 a4 a5 a6 h hk
      · rw [if_pos c8] at h
        refine sw_iconst (n := (-1)) (v := (-1)) (by decide +kernel) (by decide) ?_
        cases h
        obtain rfl : _ = res := hk
        exact sw_iret (by decide +kernel)
  · rw [if_neg c6] at h
    refine sw_iload 4 rfl (by decide +kernel) ?_
    cases h
    obtain rfl : _ = res := hk
    exact sw_iret (by decide +kernel)
set_option maxRecDepth 20000 in
theorem sX3_riseIf_L23 {l : Launch} {E : sw_E} {K : Nat} (hK : 4 ≤ K) (P1 : Nat) (P2 : Nat) (hP1 : sw_isP P1) (hP2 : sw_isV P2) (σ : sw_M) (a4 : Int32) (a5 : Int32) (a6 : Int32) {res : Int32 × sw_M} {t : (Int32 × Int32 × sw_M) ⊕ (Int32 × sw_M)} (h : fX3_riseIf_L23 P1 P2 σ a4 a5 a6 = some t) (hk : (Sum.elim (fun s : Int32 × Int32 × sw_M => sw_Go l E K RX3 cX3_riseIf 7 (some .int) 23 [(0, .ref 34), (1, .ref P1), (4, .int a4), (5, .int s.1), (6, .int s.2.1)] [] s.2.2 (some (.int res.1)) res.2) (fun q => q = res)) t) : sw_Go l E K RX3 cX3_riseIf 7 (some .int) 23 [(0, .ref 34), (1, .ref P1), (4, .int a4), (5, .int a5), (6, .int a6)] [] σ (some (.int res.1)) res.2 := by
  unfold fX3_riseIf_L23 at h
  refine sw_iload 4 rfl (by decide +kernel) ?_
  refine sw_iload 2 rfl (by decide +kernel) ?_
  refine sw_icmp_gt (off := 71) 98 (by decide +kernel) (by decide) (fun c1 => ?_) (fun c1 => ?_)
  · rw [if_pos c1] at h
    refine sw_iconst (n := (-1)) (v := (-1)) (by decide +kernel) (by decide) ?_
    cases h
    obtain rfl : _ = res := hk
    exact sw_iret (by decide +kernel)
  · rw [if_neg c1] at h
    refine sw_iload 3 rfl (by decide +kernel) ?_
    refine sw_if_eq (off := 16) 48 (by decide +kernel) (by decide) (fun c2 => ?_) (fun c2 => ?_)
    · rw [if_pos c2] at h
      exact sX3_riseIf_L48 hK P1 P2 hP1 hP2 σ a4 a5 a6 h hk
    · rw [if_neg c2] at h
      refine sw_aload_n (k0 := 1) 1 rfl (by decide +kernel) rfl ?_
      refine sw_aload_n (k0 := 0) 0 rfl (by decide +kernel) rfl ?_
      refine gf_X3_12 (i := 34) (by decide) rfl (by decide +kernel) ?_
      refine sw_refj 35 rfl ?_
      refine gf_X3_35 (i := 35) (by decide) rfl (by decide +kernel) ?_
      refine sw_refj 36 rfl ?_
      obtain ⟨r3, m4, w5, h⟩ := sw_b2_e h
      refine sw_callVi (ci := 4) (i := P1) [.ref 36] (sX4_boilRules (K := K - 1) (by omega) P1 36 hP1 (sw_A_of (by decide) rfl) σ w5) rfl (by omega) rfl gs_X3_38 hy_X4_boilRules (by decide) hP1.o.1 hP1.o.2 rfl (Nat.le_of_ble_eq_true rfl) (by decide +kernel) ?_
      refine sw_istore (i := 5) (lv' := [(5, .int r3), (0, .ref 34), (1, .ref P1), (4, .int a4), (6, .int a6)]) (by decide +kernel) (by decide) rfl ?_
      refine sw_lv [1, 2, 3, 0, 4] rfl ?_
      exact sX3_riseIf_L48 hK P1 P2 hP1 hP2 m4 a4 r3 a6 h hk
set_option maxRecDepth 20000 in
theorem sX3_riseIf {l : Launch} {E : sw_E} {K : Nat} (hK : 4 ≤ K) (P1 : Nat) (P2 : Nat) (hP1 : sw_isP P1) (hP2 : sw_isV P2) (σ : sw_M) (a3 : Int32) (a4 : Int32) {res : Int32 × sw_M} (h : fX3_riseIf P1 P2 σ a3 a4 = some res) : sw_Ct l E K yX3_riseIf cX3_riseIf 7 (some .int) [.ref 34, .ref P1, .ref P2, .int a3, .int a4] σ (some (.int res.1)) res.2 := by
  obtain ⟨t, hk, h⟩ : ∃ t, t = res ∧ fX3_riseIf P1 P2 σ a3 a4 = some t := ⟨res, rfl, h⟩
  unfold fX3_riseIf at h
  refine sw_enter2 (own := RX3) (lv := [(0, .ref 34), (1, .ref P1), (2, .ref P2), (3, .int a3), (4, .int a4)]) (by decide +kernel) (Nat.le_of_ble_eq_true rfl) rfl rfl ?_
  refine sw_aload_n (k0 := 0) 0 rfl (by decide +kernel) rfl ?_
  refine gf_X3_12 (i := 34) (by decide) rfl (by decide +kernel) ?_
  refine sw_refj 35 rfl ?_
  refine sw_aload_n (k0 := 2) 2 rfl (by decide +kernel) rfl ?_
  obtain ⟨m1, w2, h⟩ := sw_b1_e h
  refine sw_callVv (ci := 8) (i := 35) [.ref P2] (sX8_copy (K := K - 1) (by omega) 35 P2 (Or.inr rfl) hP2 σ w2) rfl (by omega) rfl gs_X3_25 hy_X8_copy (by decide) (by decide) rfl rfl (Nat.le_of_ble_eq_true rfl) (by decide +kernel) ?_
  refine sw_aload_n (k0 := 1) 1 rfl (by decide +kernel) rfl ?_
  refine sw_aload_n (k0 := 0) 0 rfl (by decide +kernel) rfl ?_
  refine gf_X3_12 (i := 34) (by decide) rfl (by decide +kernel) ?_
  refine sw_refj 35 rfl ?_
  refine sw_iload_n (k0 := 3) 3 rfl (by decide +kernel) rfl ?_
  obtain ⟨m3, w4, h⟩ := sw_b1_e h
  refine sw_callVv (ci := 4) (i := P1) [.ref 35, .int a3] (sX4_tell (K := K - 1) (by omega) P1 35 hP1 (Or.inr rfl) m1 a3 w4) rfl (by omega) rfl gs_X3_29 hy_X4_tell (by decide) hP1.o.1 hP1.o.2 rfl (Nat.le_of_ble_eq_true rfl) (by decide +kernel) ?_
  refine sw_iconst (n := 1) (v := 1) (by decide +kernel) (by decide) ?_
  refine sw_istore (i := 5) (lv' := [(5, .int 1), (0, .ref 34), (1, .ref P1), (2, .ref P2), (3, .int a3), (4, .int a4)]) (by decide +kernel) (by decide) rfl ?_
  refine sw_iconst (n := 1) (v := 1) (by decide +kernel) (by decide) ?_
  refine sw_istore (i := 6) (lv' := [(6, .int 1), (5, .int 1), (0, .ref 34), (1, .ref P1), (2, .ref P2), (3, .int a3), (4, .int a4)]) (by decide +kernel) (by decide) rfl ?_
  refine sw_lv [2, 3, 6, 1, 0] rfl ?_
  exact sw_wh_e (fun s : Int32 × Int32 × sw_M => sw_Go l E K RX3 cX3_riseIf 7 (some .int) 23 [(0, .ref 34), (1, .ref P1), (4, .int a4), (5, .int s.1), (6, .int s.2.1)] [] s.2.2 (some (.int res.1)) res.2) (fun q => q = res) (fun s => fX3_riseIf_L23 P1 P2 s.2.2 a4 s.1 s.2.1) (fun s t hb hk => sX3_riseIf_L23 hK P1 P2 hP1 hP2 s.2.2 a4 s.1 s.2.1 hb hk) _ _ _ h hk
def fX4_drawScum_L36 (P0 : Nat) (P1 : Nat) (σ : sw_M) (a2 : Int32) : Option ((Int32 × sw_M) ⊕ (sw_M)) :=
  if (σ.1 P0 0) ≤ a2 then
    some (.inr (σ))
  else
    sw_gd (sw_in a2 5) <|
    sw_gd (sw_in a2 5) <|
    sw_let (sw_w σ (P1 + 1) a2.toNatClampNeg (sw_max 0 ((σ.1 (P1 + 1) a2.toNatClampNeg) - 1))) fun m4 =>
    sw_let (a2 + 1) fun v6 =>
    some (.inl (v6, m4))
def fX4_drawScum (P0 : Nat) (P1 : Nat) (σ : sw_M) : Option (sw_M) :=
  sw_let (sw_w σ P1 5 ((((σ.1 P1 5) * 137) + 71) - (((σ.1 P1 5) * 137) + 71) / 1000 * 1000)) fun m1 =>
  if ((m1.1 P1 5) - (m1.1 P1 5) / 100 * 100) < (m1.1 P0 4) then
    sw_wh sw_F (fun s => fX4_drawScum_L36 P0 P1 s.2 s.1) (0, m1)
  else
    some (m1)
set_option maxRecDepth 20000 in
theorem sX4_drawScum_L36 {l : Launch} {E : sw_E} {K : Nat} (hK : 1 ≤ K) (P0 : Nat) (P1 : Nat) (hP0 : sw_isP P0) (hP1 : sw_isV P1) (σ : sw_M) (a2 : Int32) {res : sw_M} {t : (Int32 × sw_M) ⊕ (sw_M)} (h : fX4_drawScum_L36 P0 P1 σ a2 = some t) (hk : (Sum.elim (fun s : Int32 × sw_M => sw_Go l E K RX4 cX4_drawScum 3 none 36 [(0, .ref P0), (1, .ref P1), (2, .int s.1)] [] s.2 none res) (fun q => q = res)) t) : sw_Go l E K RX4 cX4_drawScum 3 none 36 [(0, .ref P0), (1, .ref P1), (2, .int a2)] [] σ none res := by
  unfold fX4_drawScum_L36 at h
  refine sw_iload_n (k0 := 2) 2 rfl (by decide +kernel) rfl ?_
  refine sw_aload_n (k0 := 0) 0 rfl (by decide +kernel) rfl ?_
  refine gf_X4_38 (i := P0) hP0.o.1 hP0.o.2 (by decide +kernel) ?_
  refine sw_icmp_ge (off := 27) 68 (by decide +kernel) (by decide) (fun c1 => ?_) (fun c1 => ?_)
  · rw [if_pos c1] at h
    cases h
    obtain rfl : _ = res := hk
    exact sw_vret (by decide +kernel)
  · rw [if_neg c1] at h
    refine sw_aload_n (k0 := 1) 1 rfl (by decide +kernel) rfl ?_
    refine gf_X4_80 (i := P1) hP1.o.1 hP1.o.2 (by decide +kernel) ?_
    refine sw_iload_n (k0 := 2) 2 rfl (by decide +kernel) rfl ?_
    refine sw_iconst (n := 0) (v := 0) (by decide +kernel) (by decide) ?_
    refine sw_aload_n (k0 := 1) 1 rfl (by decide +kernel) rfl ?_
    refine gf_X4_80 (i := P1) hP1.o.1 hP1.o.2 (by decide +kernel) ?_
    refine sw_iload_n (k0 := 2) 2 rfl (by decide +kernel) rfl ?_
    obtain ⟨g2, h⟩ := sw_gd_e h
    refine sw_iaload (a := (P1 + 1)) hP1.p1.1 hP1.p1.2 (sw_in_e g2) (by decide +kernel) ?_
    refine sw_iconst (n := 1) (v := 1) (by decide +kernel) (by decide) ?_
    refine sw_isub (by decide +kernel) ?_
    refine sw_mmax mx_X4_99 mx_max_s mx_i mx_max_c (by omega) (Nat.le_of_ble_eq_true rfl) (by decide +kernel) ?_
    obtain ⟨g3, h⟩ := sw_gd_e h
    obtain ⟨m4, e5, h⟩ := sw_let_e h
    refine sw_iastore (a := (P1 + 1)) hP1.p1.1 hP1.p1.2 (sw_in_e g3) (by decide +kernel) ?_
    refine sw_mem e5 ?_
    obtain ⟨v6, e7, h⟩ := sw_let_e h
    refine sw_iincv (i := 2) (n := 1) (lv' := [(2, .int v6), (0, .ref P0), (1, .ref P1)]) 2 rfl e7 (by decide +kernel) (by decide) (by decide) rfl ?_
    refine sw_goto (off := (-29)) 36 (by decide +kernel) (by decide) ?_
    cases h
    refine sw_lv [1, 2, 0] rfl ?_
    exact hk
set_option maxRecDepth 20000 in
theorem sX4_drawScum {l : Launch} {E : sw_E} {K : Nat} (hK : 1 ≤ K) (P0 : Nat) (P1 : Nat) (hP0 : sw_isP P0) (hP1 : sw_isV P1) (σ : sw_M) {res : sw_M} (h : fX4_drawScum P0 P1 σ = some res) : sw_Ct l E K yX4_drawScum cX4_drawScum 3 none [.ref P0, .ref P1] σ none res := by
  obtain ⟨t, hk, h⟩ : ∃ t, t = res ∧ fX4_drawScum P0 P1 σ = some t := ⟨res, rfl, h⟩
  unfold fX4_drawScum at h
  refine sw_enter2 (own := RX4) (lv := [(0, .ref P0), (1, .ref P1)]) (by decide +kernel) (Nat.le_of_ble_eq_true rfl) rfl rfl ?_
  refine sw_aload_n (k0 := 1) 1 rfl (by decide +kernel) rfl ?_
  refine sw_aload_n (k0 := 1) 1 rfl (by decide +kernel) rfl ?_
  refine gf_X4_144 (i := P1) hP1.o.1 hP1.o.2 (by decide +kernel) ?_
  refine sw_sipush (n := 137) (v := 137) (by decide +kernel) (by decide) ?_
  refine sw_imul (by decide +kernel) ?_
  refine sw_bipush (n := 71) (v := 71) (by decide +kernel) (by decide) ?_
  refine sw_iadd (by decide +kernel) ?_
  refine sw_sipush (n := 1000) (v := 1000) (by decide +kernel) (by decide) ?_
  refine sw_irem (by decide +kernel) (by decide) ?_
  obtain ⟨m1, e2, h⟩ := sw_let_e h
  refine pf_X4_144 hP1.o.1 hP1.o.2 (by decide +kernel) ?_
  refine sw_mem e2 ?_
  refine sw_aload_n (k0 := 1) 1 rfl (by decide +kernel) rfl ?_
  refine gf_X4_144 (i := P1) hP1.o.1 hP1.o.2 (by decide +kernel) ?_
  refine sw_bipush (n := 100) (v := 100) (by decide +kernel) (by decide) ?_
  refine sw_irem (by decide +kernel) (by decide) ?_
  refine sw_aload_n (k0 := 0) 0 rfl (by decide +kernel) rfl ?_
  refine gf_X4_51 (i := P0) hP0.o.1 hP0.o.2 (by decide +kernel) ?_
  refine sw_icmp_lt (off := 4) 34 (by decide +kernel) (by decide) (fun c3 => ?_) (fun c3 => ?_)
  · rw [if_pos c3] at h
    refine sw_iconst (n := 0) (v := 0) (by decide +kernel) (by decide) ?_
    refine sw_istore_n (k0 := 2) (lv' := [(2, .int 0), (0, .ref P0), (1, .ref P1)]) (by decide +kernel) rfl (by decide) rfl ?_
    refine sw_lv [1, 2, 0] rfl ?_
    exact sw_wh_e (fun s : Int32 × sw_M => sw_Go l E K RX4 cX4_drawScum 3 none 36 [(0, .ref P0), (1, .ref P1), (2, .int s.1)] [] s.2 none res) (fun q => q = res) (fun s => fX4_drawScum_L36 P0 P1 s.2 s.1) (fun s t hb hk => sX4_drawScum_L36 hK P0 P1 hP0 hP1 s.2 s.1 hb hk) _ _ _ h hk
  · rw [if_neg c3] at h
    cases h
    obtain rfl : _ = res := hk
    exact sw_vret (by decide +kernel)
def fJ7_fill_53178_L5 (P0 : Nat) (σ : sw_M) (a1 : Int32) (a2 : Int32) (a3 : Int32) : Option ((Int32 × sw_M) ⊕ (sw_M)) :=
  if a3 ≤ a2 then
    some (.inr (σ))
  else
    sw_gd (sw_in a2 (sw_s P0).2) <|
    sw_let (sw_w σ P0 a2.toNatClampNeg a1) fun m3 =>
    sw_let (a2 + 1) fun v5 =>
    some (.inl (v5, m3))
def fJ7_fill_53178 (P0 : Nat) (σ : sw_M) (a1 : Int32) : Option (sw_M) :=
  sw_let (Int32.ofNat (sw_s P0).2) fun v1 =>
  sw_wh sw_F (fun s => fJ7_fill_53178_L5 P0 s.2 a1 s.1 v1) (0, σ)
set_option maxRecDepth 20000 in
theorem sJ7_fill_53178_L5 {l : Launch} {E : sw_E} {K : Nat} (hK : 0 ≤ K) (P0 : Nat) (hP0 : sw_isA 1 P0) (σ : sw_M) (a1 : Int32) (a2 : Int32) (a3 : Int32) {res : sw_M} {t : (Int32 × sw_M) ⊕ (sw_M)} (h : fJ7_fill_53178_L5 P0 σ a1 a2 a3 = some t) (hk : (Sum.elim (fun s : Int32 × sw_M => sw_Go l E K RJ7 cJ7_fill_53178 4 none 5 [(0, .ref P0), (1, .int a1), (2, .int s.1), (3, .int a3)] [] s.2 none res) (fun q => q = res)) t) : sw_Go l E K RJ7 cJ7_fill_53178 4 none 5 [(0, .ref P0), (1, .int a1), (2, .int a2), (3, .int a3)] [] σ none res := by
  unfold fJ7_fill_53178_L5 at h
  refine sw_iload_n (k0 := 2) 2 rfl (by decide +kernel) rfl ?_
  refine sw_iload_n (k0 := 3) 3 rfl (by decide +kernel) rfl ?_
  refine sw_icmp_ge (off := 13) 20 (by decide +kernel) (by decide) (fun c1 => ?_) (fun c1 => ?_)
  · rw [if_pos c1] at h
    cases h
    obtain rfl : _ = res := hk
    exact sw_vret (by decide +kernel)
  · rw [if_neg c1] at h
    refine sw_aload_n (k0 := 0) 0 rfl (by decide +kernel) rfl ?_
    refine sw_iload_n (k0 := 2) 2 rfl (by decide +kernel) rfl ?_
    refine sw_iload_n (k0 := 1) 1 rfl (by decide +kernel) rfl ?_
    obtain ⟨g2, h⟩ := sw_gd_e h
    obtain ⟨m3, e4, h⟩ := sw_let_e h
    refine sw_iastore (a := P0) hP0.1 hP0.s (sw_in_e g2) (by decide +kernel) ?_
    refine sw_mem e4 ?_
    obtain ⟨v5, e6, h⟩ := sw_let_e h
    refine sw_iincv (i := 2) (n := 1) (lv' := [(2, .int v5), (0, .ref P0), (1, .int a1), (3, .int a3)]) 2 rfl e6 (by decide +kernel) (by decide) (by decide) rfl ?_
    refine sw_goto (off := (-12)) 5 (by decide +kernel) (by decide) ?_
    cases h
    refine sw_lv [1, 2, 0, 3] rfl ?_
    exact hk
set_option maxRecDepth 20000 in
theorem sJ7_fill_53178 {l : Launch} {E : sw_E} {K : Nat} (hK : 0 ≤ K) (P0 : Nat) (hP0 : sw_isA 1 P0) (σ : sw_M) (a1 : Int32) {res : sw_M} (h : fJ7_fill_53178 P0 σ a1 = some res) : sw_Ct l E K yJ7_fill_53178 cJ7_fill_53178 4 none [.ref P0, .int a1] σ none res := by
  obtain ⟨t, hk, h⟩ : ∃ t, t = res ∧ fJ7_fill_53178 P0 σ a1 = some t := ⟨res, rfl, h⟩
  unfold fJ7_fill_53178 at h
  refine sw_enter2 (own := RJ7) (lv := [(0, .ref P0), (1, .int a1)]) (by decide +kernel) (Nat.le_of_ble_eq_true rfl) rfl rfl ?_
  refine sw_iconst (n := 0) (v := 0) (by decide +kernel) (by decide) ?_
  refine sw_istore_n (k0 := 2) (lv' := [(2, .int 0), (0, .ref P0), (1, .int a1)]) (by decide +kernel) rfl (by decide) rfl ?_
  refine sw_aload_n (k0 := 0) 1 rfl (by decide +kernel) rfl ?_
  refine sw_alen (a := P0) (v := Int32.ofNat (sw_s P0).2) hP0.1 hP0.s (by decide) rfl (by decide +kernel) ?_
  obtain ⟨v1, e2, h⟩ := sw_let_e h
  refine sw_topi e2 ?_
  refine sw_istore_n (k0 := 3) (lv' := [(3, .int v1), (2, .int 0), (0, .ref P0), (1, .int a1)]) (by decide +kernel) rfl (by decide) rfl ?_
  refine sw_lv [2, 3, 1, 0] rfl ?_
  exact sw_wh_e (fun s : Int32 × sw_M => sw_Go l E K RJ7 cJ7_fill_53178 4 none 5 [(0, .ref P0), (1, .int a1), (2, .int s.1), (3, .int v1)] [] s.2 none res) (fun q => q = res) (fun s => fJ7_fill_53178_L5 P0 s.2 a1 s.1 v1) (fun s t hb hk => sJ7_fill_53178_L5 hK P0 hP0 s.2 a1 s.1 v1 hb hk) _ _ _ h hk
def fX4_boilInEarnest_L18 (P0 : Nat) (P1 : Nat) (σ : sw_M) : Option ((Int32 × sw_M)) :=
  sw_let (sw_w σ P1 4 ((σ.1 P1 4) + 1)) fun m1 =>
  sw_b2 (fX4_isRisen P0 P1 m1) fun r3 m4 =>
  if r3 = 0 then
    some ((0, m4))
  else
    sw_b1 (fJ7_fill_53178 (P1 + 1) m4 0) fun m7 =>
    sw_let (sw_w m7 P1 3 ((m7.1 P1 3) + 1)) fun m9 =>
    some ((1, m9))
def fX4_boilInEarnest (P0 : Nat) (P1 : Nat) (σ : sw_M) (a2 : Int32) : Option (Int32 × sw_M) :=
  sw_b2 (fX4_boilRules P0 (P1 + 1) σ) fun r1 m2 =>
  if a2 = 0 then
    fX4_boilInEarnest_L18 P0 P1 m2
  else
    sw_b1 (fX4_drawScum P0 P1 m2) fun m5 =>
    fX4_boilInEarnest_L18 P0 P1 m5
set_option maxRecDepth 20000 in
theorem sX4_boilInEarnest_L18 {l : Launch} {E : sw_E} {K : Nat} (hK : 4 ≤ K) (P0 : Nat) (P1 : Nat) (hP0 : sw_isP P0) (hP1 : sw_isV P1) (σ : sw_M) {res : Int32 × sw_M} {t : (Int32 × sw_M)} (h : fX4_boilInEarnest_L18 P0 P1 σ = some t) (hk : (fun q => q = res) t) : sw_Go l E K RX4 cX4_boilInEarnest 3 (some .boolean) 18 [(0, .ref P0), (1, .ref P1)] [] σ (some (.int res.1)) res.2 := by
  unfold fX4_boilInEarnest_L18 at h
  refine sw_aload_n (k0 := 1) 1 rfl (by decide +kernel) rfl ?_
  refine sw_dup (by decide +kernel) rfl ?_
  refine gf_X4_134 (i := P1) hP1.o.1 hP1.o.2 (by decide +kernel) ?_
  refine sw_iconst (n := 1) (v := 1) (by decide +kernel) (by decide) ?_
  refine sw_iadd (by decide +kernel) ?_
  obtain ⟨m1, e2, h⟩ := sw_let_e h
  refine pf_X4_134 hP1.o.1 hP1.o.2 (by decide +kernel) ?_
  refine sw_mem e2 ?_
  refine sw_aload_n (k0 := 0) 0 rfl (by decide +kernel) rfl ?_
  refine sw_aload_n (k0 := 1) 1 rfl (by decide +kernel) rfl ?_
  obtain ⟨r3, m4, w5, h⟩ := sw_b2_e h
  refine sw_callVi (ci := 4) (i := P0) [.ref P1] (sX4_isRisen (K := K - 1) (by omega) P0 P1 hP0 hP1 m1 w5) rfl (by omega) rfl gs_X4_137 hy_X4_isRisen (by decide) hP0.o.1 hP0.o.2 rfl (Nat.le_of_ble_eq_true rfl) (by decide +kernel) ?_
  refine sw_if_ne (off := 5) 38 (by decide +kernel) (by decide) (fun c6 => ?_) (fun c6 => ?_)
  · rw [if_neg c6] at h
    refine sw_aload_n (k0 := 1) 1 rfl (by decide +kernel) rfl ?_
    refine gf_X4_80 (i := P1) hP1.o.1 hP1.o.2 (by decide +kernel) ?_
    refine sw_iconst (n := 0) (v := 0) (by decide +kernel) (by decide) ?_
    obtain ⟨m7, w8, h⟩ := sw_b1_e h
    refine sw_callSv [.ref (P1 + 1), .int 0] (sJ7_fill_53178 (K := K - 1) (by omega) (P1 + 1) (sw_A_of hP1.p1.1 hP1.p1.2) m4 0 w8) rfl (by omega) gs_X4_67 hy_J7_fill_53178 (by decide) rfl (Nat.le_of_ble_eq_true rfl) (by decide +kernel) ?_
    refine sw_aload_n (k0 := 1) 1 rfl (by decide +kernel) rfl ?_
    refine sw_dup (by decide +kernel) rfl ?_
    refine gf_X4_141 (i := P1) hP1.o.1 hP1.o.2 (by decide +kernel) ?_
    refine sw_iconst (n := 1) (v := 1) (by decide +kernel) (by decide) ?_
    refine sw_iadd (by decide +kernel) ?_
    obtain ⟨m9, e10, h⟩ := sw_let_e h
    refine pf_X4_141 hP1.o.1 hP1.o.2 (by decide +kernel) ?_
    refine sw_mem e10 ?_
    refine sw_iconst (n := 1) (v := 1) (by decide +kernel) (by decide) ?_
    cases h
    obtain rfl : _ = res := hk
    exact sw_zret rfl (by decide +kernel)
  · rw [if_pos c6] at h
    refine sw_iconst (n := 0) (v := 0) (by decide +kernel) (by decide) ?_
    cases h
    obtain rfl : _ = res := hk
    exact sw_zret rfl (by decide +kernel)
set_option maxRecDepth 20000 in
theorem sX4_boilInEarnest {l : Launch} {E : sw_E} {K : Nat} (hK : 4 ≤ K) (P0 : Nat) (P1 : Nat) (hP0 : sw_isP P0) (hP1 : sw_isV P1) (σ : sw_M) (a2 : Int32) {res : Int32 × sw_M} (h : fX4_boilInEarnest P0 P1 σ a2 = some res) : sw_Ct l E K yX4_boilInEarnest cX4_boilInEarnest 3 (some .boolean) [.ref P0, .ref P1, .int a2] σ (some (.int res.1)) res.2 := by
  obtain ⟨t, hk, h⟩ : ∃ t, t = res ∧ fX4_boilInEarnest P0 P1 σ a2 = some t := ⟨res, rfl, h⟩
  unfold fX4_boilInEarnest at h
  refine sw_enter2 (own := RX4) (lv := [(0, .ref P0), (1, .ref P1), (2, .int a2)]) (by decide +kernel) (Nat.le_of_ble_eq_true rfl) rfl rfl ?_
  refine sw_aload_n (k0 := 0) 0 rfl (by decide +kernel) rfl ?_
  refine sw_aload_n (k0 := 1) 1 rfl (by decide +kernel) rfl ?_
  refine gf_X4_80 (i := P1) hP1.o.1 hP1.o.2 (by decide +kernel) ?_
  obtain ⟨r1, m2, w3, h⟩ := sw_b2_e h
  refine sw_callVi (ci := 4) (i := P0) [.ref (P1 + 1)] (sX4_boilRules (K := K - 1) (by omega) P0 (P1 + 1) hP0 (sw_A_of hP1.p1.1 hP1.p1.2) σ w3) rfl (by omega) rfl gs_X4_126 hy_X4_boilRules (by decide) hP0.o.1 hP0.o.2 rfl (Nat.le_of_ble_eq_true rfl) (by decide +kernel) ?_
  refine sw_pop (by decide +kernel) rfl ?_
  refine sw_iload_n (k0 := 2) 2 rfl (by decide +kernel) rfl ?_
  refine sw_if_eq (off := 8) 18 (by decide +kernel) (by decide) (fun c4 => ?_) (fun c4 => ?_)
  · rw [if_pos c4] at h
    refine sw_lv [0, 1] rfl ?_
    exact sX4_boilInEarnest_L18 hK P0 P1 hP0 hP1 m2 h hk
  · rw [if_neg c4] at h
    refine sw_aload_n (k0 := 0) 0 rfl (by decide +kernel) rfl ?_
    refine sw_aload_n (k0 := 1) 1 rfl (by decide +kernel) rfl ?_
    obtain ⟨m5, w6, h⟩ := sw_b1_e h
    refine sw_callVv (ci := 4) (i := P0) [.ref P1] (sX4_drawScum (K := K - 1) (by omega) P0 P1 hP0 hP1 m2 w6) rfl (by omega) rfl gs_X4_130 hy_X4_drawScum (by decide) hP0.o.1 hP0.o.2 rfl (Nat.le_of_ble_eq_true rfl) (by decide +kernel) ?_
    refine sw_lv [0, 1] rfl ?_
    exact sX4_boilInEarnest_L18 hK P0 P1 hP0 hP1 m5 h hk
def fX3_muchBehind_L11 (P1 : Nat) (P2 : Nat) (σ : sw_M) (a3 : Int32) (a4 : Int32) (a5 : Int32) (a6 : Int32) : Option ((Int32 × sw_M) ⊕ (Int32 × sw_M)) :=
  if a4 ≤ a6 then
    sw_gd (sw_in a3 5) <|
    some (.inr ((σ.1 36 a3.toNatClampNeg, σ)))
  else
    sw_b2 (fX4_boilInEarnest P1 35 σ a5) fun r3 m4 =>
    sw_let (a6 + 1) fun v6 =>
    some (.inl (v6, m4))
def fX3_muchBehind (P1 : Nat) (P2 : Nat) (σ : sw_M) (a3 : Int32) (a4 : Int32) (a5 : Int32) : Option (Int32 × sw_M) :=
  sw_b1 (fX8_copy 35 P2 σ) fun m1 =>
  sw_wh sw_F (fun s => fX3_muchBehind_L11 P1 P2 s.2 a3 a4 a5 s.1) (0, m1)
set_option maxRecDepth 20000 in
theorem sX3_muchBehind_L11 {l : Launch} {E : sw_E} {K : Nat} (hK : 5 ≤ K) (P1 : Nat) (P2 : Nat) (hP1 : sw_isP P1) (hP2 : sw_isV P2) (σ : sw_M) (a3 : Int32) (a4 : Int32) (a5 : Int32) (a6 : Int32) {res : Int32 × sw_M} {t : (Int32 × sw_M) ⊕ (Int32 × sw_M)} (h : fX3_muchBehind_L11 P1 P2 σ a3 a4 a5 a6 = some t) (hk : (Sum.elim (fun s : Int32 × sw_M => sw_Go l E K RX3 cX3_muchBehind 7 (some .int) 11 [(0, .ref 34), (1, .ref P1), (3, .int a3), (4, .int a4), (5, .int a5), (6, .int s.1)] [] s.2 (some (.int res.1)) res.2) (fun q => q = res)) t) : sw_Go l E K RX3 cX3_muchBehind 7 (some .int) 11 [(0, .ref 34), (1, .ref P1), (3, .int a3), (4, .int a4), (5, .int a5), (6, .int a6)] [] σ (some (.int res.1)) res.2 := by
  unfold fX3_muchBehind_L11 at h
  refine sw_iload 5 rfl (by decide +kernel) ?_
  refine sw_iload 3 rfl (by decide +kernel) ?_
  refine sw_icmp_ge (off := 20) 35 (by decide +kernel) (by decide) (fun c1 => ?_) (fun c1 => ?_)
  · rw [if_pos c1] at h
    refine sw_aload_n (k0 := 0) 0 rfl (by decide +kernel) rfl ?_
    refine gf_X3_12 (i := 34) (by decide) rfl (by decide +kernel) ?_
    refine sw_refj 35 rfl ?_
    refine gf_X3_35 (i := 35) (by decide) rfl (by decide +kernel) ?_
    refine sw_refj 36 rfl ?_
    refine sw_iload_n (k0 := 3) 2 rfl (by decide +kernel) rfl ?_
    obtain ⟨g2, h⟩ := sw_gd_e h
    refine sw_iaload (a := 36) (by decide) rfl (sw_in_e g2) (by decide +kernel) ?_
    cases h
    obtain rfl : _ = res := hk
    exact sw_iret (by decide +kernel)
  · rw [if_neg c1] at h
    refine sw_aload_n (k0 := 1) 1 rfl (by decide +kernel) rfl ?_
    refine sw_aload_n (k0 := 0) 0 rfl (by decide +kernel) rfl ?_
    refine gf_X3_12 (i := 34) (by decide) rfl (by decide +kernel) ?_
    refine sw_refj 35 rfl ?_
    refine sw_iload 4 rfl (by decide +kernel) ?_
    obtain ⟨r3, m4, w5, h⟩ := sw_b2_e h
    refine sw_callVi (ci := 4) (i := P1) [.ref 35, .int a5] (sX4_boilInEarnest (K := K - 1) (by omega) P1 35 hP1 (Or.inr rfl) σ a5 w5) rfl (by omega) rfl gs_X3_60 hy_X4_boilInEarnest (by decide) hP1.o.1 hP1.o.2 rfl (Nat.le_of_ble_eq_true rfl) (by decide +kernel) ?_
    refine sw_pop (by decide +kernel) rfl ?_
    obtain ⟨v6, e7, h⟩ := sw_let_e h
    refine sw_iincv (i := 6) (n := 1) (lv' := [(6, .int v6), (0, .ref 34), (1, .ref P1), (3, .int a3), (4, .int a4), (5, .int a5)]) 5 rfl e7 (by decide +kernel) (by decide) (by decide) rfl ?_
    refine sw_goto (off := (-21)) 11 (by decide +kernel) (by decide) ?_
    cases h
    refine sw_lv [1, 2, 3, 4, 5, 0] rfl ?_
    exact hk
set_option maxRecDepth 20000 in
theorem sX3_muchBehind {l : Launch} {E : sw_E} {K : Nat} (hK : 5 ≤ K) (P1 : Nat) (P2 : Nat) (hP1 : sw_isP P1) (hP2 : sw_isV P2) (σ : sw_M) (a3 : Int32) (a4 : Int32) (a5 : Int32) {res : Int32 × sw_M} (h : fX3_muchBehind P1 P2 σ a3 a4 a5 = some res) : sw_Ct l E K yX3_muchBehind cX3_muchBehind 7 (some .int) [.ref 34, .ref P1, .ref P2, .int a3, .int a4, .int a5] σ (some (.int res.1)) res.2 := by
  obtain ⟨t, hk, h⟩ : ∃ t, t = res ∧ fX3_muchBehind P1 P2 σ a3 a4 a5 = some t := ⟨res, rfl, h⟩
  unfold fX3_muchBehind at h
  refine sw_enter2 (own := RX3) (lv := [(0, .ref 34), (1, .ref P1), (2, .ref P2), (3, .int a3), (4, .int a4), (5, .int a5)]) (by decide +kernel) (Nat.le_of_ble_eq_true rfl) rfl rfl ?_
  refine sw_aload_n (k0 := 0) 0 rfl (by decide +kernel) rfl ?_
  refine gf_X3_12 (i := 34) (by decide) rfl (by decide +kernel) ?_
  refine sw_refj 35 rfl ?_
  refine sw_aload_n (k0 := 2) 2 rfl (by decide +kernel) rfl ?_
  obtain ⟨m1, w2, h⟩ := sw_b1_e h
  refine sw_callVv (ci := 8) (i := 35) [.ref P2] (sX8_copy (K := K - 1) (by omega) 35 P2 (Or.inr rfl) hP2 σ w2) rfl (by omega) rfl gs_X3_25 hy_X8_copy (by decide) (by decide) rfl rfl (Nat.le_of_ble_eq_true rfl) (by decide +kernel) ?_
  refine sw_iconst (n := 0) (v := 0) (by decide +kernel) (by decide) ?_
  refine sw_istore (i := 6) (lv' := [(6, .int 0), (0, .ref 34), (1, .ref P1), (2, .ref P2), (3, .int a3), (4, .int a4), (5, .int a5)]) (by decide +kernel) (by decide) rfl ?_
  refine sw_lv [1, 2, 4, 5, 6, 0] rfl ?_
  exact sw_wh_e (fun s : Int32 × sw_M => sw_Go l E K RX3 cX3_muchBehind 7 (some .int) 11 [(0, .ref 34), (1, .ref P1), (3, .int a3), (4, .int a4), (5, .int a5), (6, .int s.1)] [] s.2 (some (.int res.1)) res.2) (fun q => q = res) (fun s => fX3_muchBehind_L11 P1 P2 s.2 a3 a4 a5 s.1) (fun s t hb hk => sX3_muchBehind_L11 hK P1 P2 hP1 hP2 s.2 a3 a4 a5 s.1 hb hk) _ _ _ h hk
