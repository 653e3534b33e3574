def fX10_four_L3 (σ : sw_M) (a1 : Int32) (a2 : Int32) : Option ((Int32 × sw_M) ⊕ (sw_M)) :=
  if a2 < 0 then
    some (.inr (σ))
  else
    sw_gd (sw_in (σ.1 49 1) 1600) <|
    sw_let (sw_w σ 50 (σ.1 49 1).toNatClampNeg ((a1 >>> (a2 &&& 31)) &&& 255)) fun m3 =>
    sw_let (sw_w m3 49 1 ((m3.1 49 1) + 1)) fun m5 =>
    sw_let (a2 + (-8)) fun v7 =>
    some (.inl (v7, m5))
def fX10_four (σ : sw_M) (a1 : Int32) : Option (sw_M) :=
  sw_wh sw_F (fun s => fX10_four_L3 s.2 a1 s.1) (24, σ)
set_option maxRecDepth 20000 in
theorem sX10_four_L3 {l : Launch} {E : sw_E} {K : Nat} (hK : 0 ≤ K) (σ : sw_M) (a1 : Int32) (a2 : Int32) {res : sw_M} {t : (Int32 × sw_M) ⊕ (sw_M)} (h : fX10_four_L3 σ a1 a2 = some t) (hk : (Sum.elim (fun s : Int32 × sw_M => sw_Go l E K RX10 cX10_four 3 none 3 [(0, .ref 49), (1, .int a1), (2, .int s.1)] [] s.2 none res) (fun q => q = res)) t) : sw_Go l E K RX10 cX10_four 3 none 3 [(0, .ref 49), (1, .int a1), (2, .int a2)] [] σ none res := by
  unfold fX10_four_L3 at h
  refine sw_iload_n (k0 := 2) 2 rfl (by decide +kernel) rfl ?_
  refine sw_if_lt (off := 35) 39 (by decide +kernel) (by decide) (fun c1 => ?_) (fun c1 => ?_)
  · rw [if_pos c1] at h
    cases h
    obtain rfl : _ = res := hk
    exact sw_vret (by decide +kernel)
  · rw [if_neg c1] at h
    refine sw_aload_n (k0 := 0) 0 rfl (by decide +kernel) rfl ?_
    refine gf_X10_7 (i := 49) (by decide) rfl (by decide +kernel) ?_
    refine sw_refj 50 rfl ?_
    refine sw_aload_n (k0 := 0) 0 rfl (by decide +kernel) rfl ?_
    refine gf_X10_118 (i := 49) (by decide) rfl (by decide +kernel) ?_
    refine sw_iload_n (k0 := 1) 1 rfl (by decide +kernel) rfl ?_
    refine sw_iload_n (k0 := 2) 2 rfl (by decide +kernel) rfl ?_
    refine sw_ishr (by decide +kernel) ?_
    refine sw_sipush (n := 255) (v := 255) (by decide +kernel) (by decide) ?_
    refine sw_iand (by decide +kernel) ?_
    obtain ⟨g2, h⟩ := sw_gd_e h
    obtain ⟨m3, e4, h⟩ := sw_let_e h
    refine sw_iastore (a := 50) (by decide) rfl (sw_in_e g2) (by decide +kernel) ?_
    refine sw_mem e4 ?_
    refine sw_aload_n (k0 := 0) 0 rfl (by decide +kernel) rfl ?_
    refine sw_dup (by decide +kernel) rfl ?_
    refine gf_X10_118 (i := 49) (by decide) rfl (by decide +kernel) ?_
    refine sw_iconst (n := 1) (v := 1) (by decide +kernel) (by decide) ?_
    refine sw_iadd (by decide +kernel) ?_
    obtain ⟨m5, e6, h⟩ := sw_let_e h
    refine pf_X10_118 (by decide) rfl (by decide +kernel) ?_
    refine sw_mem e6 ?_
    obtain ⟨v7, e8, h⟩ := sw_let_e h
    refine sw_iincv (i := 2) (n := (-8)) (lv' := [(2, .int v7), (0, .ref 49), (1, .int a1)]) 2 rfl e8 (by decide +kernel) (by decide) (by decide) rfl ?_
    refine sw_goto (off := (-33)) 3 (by decide +kernel) (by decide) ?_
    cases h
    refine sw_lv [1, 2, 0] rfl ?_
    exact hk
set_option maxRecDepth 20000 in
theorem sX10_four {l : Launch} {E : sw_E} {K : Nat} (hK : 0 ≤ K) (σ : sw_M) (a1 : Int32) {res : sw_M} (h : fX10_four σ a1 = some res) : sw_Ct l E K yX10_four cX10_four 3 none [.ref 49, .int a1] σ none res := by
  obtain ⟨t, hk, h⟩ : ∃ t, t = res ∧ fX10_four σ a1 = some t := ⟨res, rfl, h⟩
  unfold fX10_four at h
  refine sw_enter2 (own := RX10) (lv := [(0, .ref 49), (1, .int a1)]) (by decide +kernel) (Nat.le_of_ble_eq_true rfl) rfl rfl ?_
  refine sw_bipush (n := 24) (v := 24) (by decide +kernel) (by decide) ?_
  refine sw_istore_n (k0 := 2) (lv' := [(2, .int 24), (0, .ref 49), (1, .int a1)]) (by decide +kernel) rfl (by decide) rfl ?_
  refine sw_lv [1, 2, 0] rfl ?_
  exact sw_wh_e (fun s : Int32 × sw_M => sw_Go l E K RX10 cX10_four 3 none 3 [(0, .ref 49), (1, .int a1), (2, .int s.1)] [] s.2 none res) (fun q => q = res) (fun s => fX10_four_L3 s.2 a1 s.1) (fun s t hb hk => sX10_four_L3 hK s.2 a1 s.1 hb hk) _ _ _ h hk
def fX10_feed (σ : sw_M) (a1 : Int32) (a2 : Int32) (a3 : Int32) (a4 : Int32) (a5 : Int32) : Option (Int32 × sw_M) :=
  if ((σ.1 49 1) + 20) ≤ 1600 then
    sw_b1 (fX10_four σ a1) fun m2 =>
    sw_b1 (fX10_four m2 a2) fun m4 =>
    sw_b1 (fX10_four m4 a3) fun m6 =>
    sw_b1 (fX10_four m6 a4) fun m8 =>
    sw_b1 (fX10_four m8 a5) fun m10 =>
    some ((m10.1 49 1, m10))
  else
    some (((-1), σ))
set_option maxRecDepth 20000 in
theorem sX10_feed {l : Launch} {E : sw_E} {K : Nat} (hK : 1 ≤ K) (σ : sw_M) (a1 : Int32) (a2 : Int32) (a3 : Int32) (a4 : Int32) (a5 : Int32) {res : Int32 × sw_M} (h : fX10_feed σ a1 a2 a3 a4 a5 = some res) : sw_Ct l E K yX10_feed cX10_feed 6 (some .int) [.ref 49, .int a1, .int a2, .int a3, .int a4, .int a5] σ (some (.int res.1)) res.2 := by
  obtain ⟨t, hk, h⟩ : ∃ t, t = res ∧ fX10_feed σ a1 a2 a3 a4 a5 = some t := ⟨res, rfl, h⟩
  unfold fX10_feed at h
  refine sw_enter2 (own := RX10) (lv := [(0, .ref 49), (1, .int a1), (2, .int a2), (3, .int a3), (4, .int a4), (5, .int a5)]) (by decide +kernel) (Nat.le_of_ble_eq_true rfl) rfl rfl ?_
  refine sw_aload_n (k0 := 0) 0 rfl (by decide +kernel) rfl ?_
  refine gf_X10_118 (i := 49) (by decide) rfl (by decide +kernel) ?_
  refine sw_bipush (n := 20) (v := 20) (by decide +kernel) (by decide) ?_
  refine sw_iadd (by decide +kernel) ?_
  refine sw_sipush (n := 1600) (v := 1600) (by decide +kernel) (by decide) ?_
  refine sw_icmp_le (off := 5) 15 (by decide +kernel) (by decide) (fun c1 => ?_) (fun c1 => ?_)
  · rw [if_pos c1] at h
    refine sw_aload_n (k0 := 0) 0 rfl (by decide +kernel) rfl ?_
    refine sw_iload_n (k0 := 1) 1 rfl (by decide +kernel) rfl ?_
    obtain ⟨m2, w3, h⟩ := sw_b1_e h
    refine sw_callVv (ci := 10) (i := 49) [.int a1] (sX10_four (K := K - 1) (by omega) σ a1 w3) rfl (by omega) rfl gs_X10_121 hy_X10_four (by decide) (by decide) rfl rfl (Nat.le_of_ble_eq_true rfl) (by decide +kernel) ?_
    refine sw_aload_n (k0 := 0) 0 rfl (by decide +kernel) rfl ?_
    refine sw_iload_n (k0 := 2) 2 rfl (by decide +kernel) rfl ?_
    obtain ⟨m4, w5, h⟩ := sw_b1_e h
    refine sw_callVv (ci := 10) (i := 49) [.int a2] (sX10_four (K := K - 1) (by omega) m2 a2 w5) rfl (by omega) rfl gs_X10_121 hy_X10_four (by decide) (by decide) rfl rfl (Nat.le_of_ble_eq_true rfl) (by decide +kernel) ?_
    refine sw_aload_n (k0 := 0) 0 rfl (by decide +kernel) rfl ?_
    refine sw_iload_n (k0 := 3) 3 rfl (by decide +kernel) rfl ?_
    obtain ⟨m6, w7, h⟩ := sw_b1_e h
    refine sw_callVv (ci := 10) (i := 49) [.int a3] (sX10_four (K := K - 1) (by omega) m4 a3 w7) rfl (by omega) rfl gs_X10_121 hy_X10_four (by decide) (by decide) rfl rfl (Nat.le_of_ble_eq_true rfl) (by decide +kernel) ?_
    refine sw_aload_n (k0 := 0) 0 rfl (by decide +kernel) rfl ?_
    refine sw_iload 4 rfl (by decide +kernel) ?_
    obtain ⟨m8, w9, h⟩ := sw_b1_e h
    refine sw_callVv (ci := 10) (i := 49) [.int a4] (sX10_four (K := K - 1) (by omega) m6 a4 w9) rfl (by omega) rfl gs_X10_121 hy_X10_four (by decide) (by decide) rfl rfl (Nat.le_of_ble_eq_true rfl) (by decide +kernel) ?_
    refine sw_aload_n (k0 := 0) 0 rfl (by decide +kernel) rfl ?_
    refine sw_iload 5 rfl (by decide +kernel) ?_
    obtain ⟨m10, w11, h⟩ := sw_b1_e h
    refine sw_callVv (ci := 10) (i := 49) [.int a5] (sX10_four (K := K - 1) (by omega) m8 a5 w11) rfl (by omega) rfl gs_X10_121 hy_X10_four (by decide) (by decide) rfl rfl (Nat.le_of_ble_eq_true rfl) (by decide +kernel) ?_
    refine sw_aload_n (k0 := 0) 0 rfl (by decide +kernel) rfl ?_
    refine gf_X10_118 (i := 49) (by decide) rfl (by decide +kernel) ?_
    cases h
    obtain rfl : _ = res := hk
    exact sw_iret (by decide +kernel)
  · rw [if_neg c1] at h
    refine sw_iconst (n := (-1)) (v := (-1)) (by decide +kernel) (by decide) ?_
    cases h
    obtain rfl : _ = res := hk
    exact sw_iret (by decide +kernel)
def fX10_end (σ : sw_M) (a1 : Int32) : Option (Int32 × sw_M) :=
  if a1 < 0 then
    some (((-1), σ))
  else
    if a1 ≤ (σ.1 49 1) then
      sw_let (sw_w σ 49 1 a1) fun m3 =>
      some ((a1, m3))
    else
      some (((-1), σ))
set_option maxRecDepth 20000 in
theorem sX10_end {l : Launch} {E : sw_E} {K : Nat} (hK : 0 ≤ K) (σ : sw_M) (a1 : Int32) {res : Int32 × sw_M} (h : fX10_end σ a1 = some res) : sw_Ct l E K yX10_end cX10_end 2 (some .int) [.ref 49, .int a1] σ (some (.int res.1)) res.2 := by
  obtain ⟨t, hk, h⟩ : ∃ t, t = res ∧ fX10_end σ a1 = some t := ⟨res, rfl, h⟩
  unfold fX10_end at h
  refine sw_enter2 (own := RX10) (lv := [(0, .ref 49), (1, .int a1)]) (by decide +kernel) (Nat.le_of_ble_eq_true rfl) rfl rfl ?_
  refine sw_iload_n (k0 := 1) 1 rfl (by decide +kernel) rfl ?_
  refine sw_if_lt (off := 11) 12 (by decide +kernel) (by decide) (fun c1 => ?_) (fun c1 => ?_)
  · rw [if_pos c1] at h
    refine sw_iconst (n := (-1)) (v := (-1)) (by decide +kernel) (by decide) ?_
    cases h
    obtain rfl : _ = res := hk
    exact sw_iret (by decide +kernel)
  · rw [if_neg c1] at h
    refine sw_iload_n (k0 := 1) 1 rfl (by decide +kernel) rfl ?_
    refine sw_aload_n (k0 := 0) 0 rfl (by decide +kernel) rfl ?_
    refine gf_X10_118 (i := 49) (by decide) rfl (by decide +kernel) ?_
    refine sw_icmp_le (off := 5) 14 (by decide +kernel) (by decide) (fun c2 => ?_) (fun c2 => ?_)
    · rw [if_pos c2] at h
      refine sw_aload_n (k0 := 0) 0 rfl (by decide +kernel) rfl ?_
      refine sw_iload_n (k0 := 1) 1 rfl (by decide +kernel) rfl ?_
      obtain ⟨m3, e4, h⟩ := sw_let_e h
      refine pf_X10_118 (by decide) rfl (by decide +kernel) ?_
      refine sw_mem e4 ?_
      refine sw_iload_n (k0 := 1) 1 rfl (by decide +kernel) rfl ?_
      cases h
      obtain rfl : _ = res := hk
      exact sw_iret (by decide +kernel)
    · rw [if_neg c2] at h
      refine sw_iconst (n := (-1)) (v := (-1)) (by decide +kernel) (by decide) ?_
      cases h
      obtain rfl : _ = res := hk
      exact sw_iret (by decide +kernel)
def fX10_here (σ : sw_M) (a1 : Int32) : Option (Int32) :=
  if (σ.1 49 5) ≤ ((σ.1 49 4) + a1) then
    some ((-1))
  else
    sw_gd (sw_in ((σ.1 49 4) + a1) 1600) <|
    some (σ.1 50 ((σ.1 49 4) + a1).toNatClampNeg)
set_option maxRecDepth 20000 in
theorem sX10_here {l : Launch} {E : sw_E} {K : Nat} (hK : 0 ≤ K) (σ : sw_M) (a1 : Int32) {res : Int32} (h : fX10_here σ a1 = some res) : sw_Ct l E K yX10_here cX10_here 2 (some .int) [.ref 49, .int a1] σ (some (.int res)) σ := by
  obtain ⟨t, hk, h⟩ : ∃ t, t = res ∧ fX10_here σ a1 = some t := ⟨res, rfl, h⟩
  unfold fX10_here at h
  refine sw_enter2 (own := RX10) (lv := [(0, .ref 49), (1, .int a1)]) (by decide +kernel) (Nat.le_of_ble_eq_true rfl) rfl rfl ?_
  refine sw_aload_n (k0 := 0) 0 rfl (by decide +kernel) rfl ?_
  refine gf_X10_125 (i := 49) (by decide) rfl (by decide +kernel) ?_
  refine sw_iload_n (k0 := 1) 1 rfl (by decide +kernel) rfl ?_
  refine sw_iadd (by decide +kernel) ?_
  refine sw_aload_n (k0 := 0) 0 rfl (by decide +kernel) rfl ?_
  refine gf_X10_128 (i := 49) (by decide) rfl (by decide +kernel) ?_
  refine sw_icmp_ge (off := 17) 27 (by decide +kernel) (by decide) (fun c1 => ?_) (fun c1 => ?_)
  · rw [if_pos c1] at h
    refine sw_iconst (n := (-1)) (v := (-1)) (by decide +kernel) (by decide) ?_
    cases h
    obtain rfl : _ = res := hk
    exact sw_iret (by decide +kernel)
  · rw [if_neg c1] at h
    refine sw_aload_n (k0 := 0) 0 rfl (by decide +kernel) rfl ?_
    refine gf_X10_7 (i := 49) (by decide) rfl (by decide +kernel) ?_
    refine sw_refj 50 rfl ?_
    refine sw_aload_n (k0 := 0) 0 rfl (by decide +kernel) rfl ?_
    refine gf_X10_125 (i := 49) (by decide) rfl (by decide +kernel) ?_
    refine sw_iload_n (k0 := 1) 1 rfl (by decide +kernel) rfl ?_
    refine sw_iadd (by decide +kernel) ?_
    obtain ⟨g2, h⟩ := sw_gd_e h
    refine sw_iaload (a := 50) (by decide) rfl (sw_in_e g2) (by decide +kernel) ?_
    refine sw_goto (off := 4) 28 (by decide +kernel) (by decide) ?_
    cases h
    obtain rfl : _ = res := hk
    exact sw_iret (by decide +kernel)
def fX10_isLetter (a0 : Int32) : Int32 :=
  if a0 < 97 then
    0
  else
    if 122 < a0 then
      0
    else
      1
set_option maxRecDepth 20000 in
theorem sX10_isLetter {l : Launch} {E : sw_E} {K : Nat} (hK : 0 ≤ K) (σ : sw_M) (a0 : Int32) {res : Int32} (h : fX10_isLetter a0 = res) : sw_Ct l E K yX10_isLetter cX10_isLetter 1 (some .boolean) [.int a0] σ (some (.int res)) σ := by
  obtain ⟨t, hk, h⟩ : ∃ t, t = res ∧ fX10_isLetter a0 = t := ⟨res, rfl, h⟩
  unfold fX10_isLetter at h
  refine sw_enter2 (own := RX10) (lv := [(0, .int a0)]) (by decide +kernel) (Nat.le_of_ble_eq_true rfl) rfl rfl ?_
  refine sw_iload_n (k0 := 0) 0 rfl (by decide +kernel) rfl ?_
  refine sw_bipush (n := 97) (v := 97) (by decide +kernel) (by decide) ?_
  refine sw_icmp_lt (off := 13) 16 (by decide +kernel) (by decide) (fun c1 => ?_) (fun c1 => ?_)
  · rw [if_pos c1] at h
    refine sw_iconst (n := 0) (v := 0) (by decide +kernel) (by decide) ?_
    subst h
    obtain rfl : _ = res := hk
    exact sw_zret rfl (by decide +kernel)
  · rw [if_neg c1] at h
    refine sw_iload_n (k0 := 0) 0 rfl (by decide +kernel) rfl ?_
    refine sw_bipush (n := 122) (v := 122) (by decide +kernel) (by decide) ?_
    refine sw_icmp_gt (off := 7) 16 (by decide +kernel) (by decide) (fun c2 => ?_) (fun c2 => ?_)
    · rw [if_pos c2] at h
      refine sw_iconst (n := 0) (v := 0) (by decide +kernel) (by decide) ?_
      subst h
      obtain rfl : _ = res := hk
      exact sw_zret rfl (by decide +kernel)
    · rw [if_neg c2] at h
      refine sw_iconst (n := 1) (v := 1) (by decide +kernel) (by decide) ?_
      refine sw_goto (off := 4) 17 (by decide +kernel) (by decide) ?_
      subst h
      obtain rfl : _ = res := hk
      exact sw_zret rfl (by decide +kernel)
theorem bX10_isLetter (a0 : Int32) : fX10_isLetter a0 = 0 ∨ fX10_isLetter a0 = 1 := by
  simp only [fX10_isLetter, sw_let]
  repeat' (first | exact Or.inl rfl | exact Or.inr rfl | refine sw_ite_bo ?_ ?_)
def fX10_isDigit (a0 : Int32) : Int32 :=
  if a0 < 48 then
    0
  else
    if 57 < a0 then
      0
    else
      1
set_option maxRecDepth 20000 in
theorem sX10_isDigit {l : Launch} {E : sw_E} {K : Nat} (hK : 0 ≤ K) (σ : sw_M) (a0 : Int32) {res : Int32} (h : fX10_isDigit a0 = res) : sw_Ct l E K yX10_isDigit cX10_isDigit 1 (some .boolean) [.int a0] σ (some (.int res)) σ := by
  obtain ⟨t, hk, h⟩ : ∃ t, t = res ∧ fX10_isDigit a0 = t := ⟨res, rfl, h⟩
  unfold fX10_isDigit at h
  refine sw_enter2 (own := RX10) (lv := [(0, .int a0)]) (by decide +kernel) (Nat.le_of_ble_eq_true rfl) rfl rfl ?_
  refine sw_iload_n (k0 := 0) 0 rfl (by decide +kernel) rfl ?_
  refine sw_bipush (n := 48) (v := 48) (by decide +kernel) (by decide) ?_
  refine sw_icmp_lt (off := 13) 16 (by decide +kernel) (by decide) (fun c1 => ?_) (fun c1 => ?_)
  · rw [if_pos c1] at h
    refine sw_iconst (n := 0) (v := 0) (by decide +kernel) (by decide) ?_
    subst h
    obtain rfl : _ = res := hk
    exact sw_zret rfl (by decide +kernel)
  · rw [if_neg c1] at h
    refine sw_iload_n (k0 := 0) 0 rfl (by decide +kernel) rfl ?_
    refine sw_bipush (n := 57) (v := 57) (by decide +kernel) (by decide) ?_
    refine sw_icmp_gt (off := 7) 16 (by decide +kernel) (by decide) (fun c2 => ?_) (fun c2 => ?_)
    · rw [if_pos c2] at h
      refine sw_iconst (n := 0) (v := 0) (by decide +kernel) (by decide) ?_
      subst h
      obtain rfl : _ = res := hk
      exact sw_zret rfl (by decide +kernel)
    · rw [if_neg c2] at h
      refine sw_iconst (n := 1) (v := 1) (by decide +kernel) (by decide) ?_
      refine sw_goto (off := 4) 17 (by decide +kernel) (by decide) ?_
      subst h
      obtain rfl : _ = res := hk
      exact sw_zret rfl (by decide +kernel)
theorem bX10_isDigit (a0 : Int32) : fX10_isDigit a0 = 0 ∨ fX10_isDigit a0 = 1 := by
  simp only [fX10_isDigit, sw_let]
  repeat' (first | exact Or.inl rfl | exact Or.inr rfl | refine sw_ite_bo ?_ ?_)
def fX10_isSign (a0 : Int32) : Int32 :=
  if a0 = 59 then
    1
  else
    if a0 = 40 then
      1
    else
      if a0 = 41 then
        1
      else
        if a0 = 60 then
          1
        else
          if a0 = 62 then
            1
          else
            if a0 = 61 then
              1
            else
              if a0 = 43 then
                1
              else
                if a0 = 45 then
                  1
                else
                  if a0 = 42 then
                    1
                  else
                    if a0 = 47 then
                      1
                    else
                      if a0 = 37 then
                        1
                      else
                        0
set_option maxRecDepth 20000 in
theorem sX10_isSign {l : Launch} {E : sw_E} {K : Nat} (hK : 0 ≤ K) (σ : sw_M) (a0 : Int32) {res : Int32} (h : fX10_isSign a0 = res) : sw_Ct l E K yX10_isSign cX10_isSign 1 (some .boolean) [.int a0] σ (some (.int res)) σ := by
  obtain ⟨t, hk, h⟩ : ∃ t, t = res ∧ fX10_isSign a0 = t := ⟨res, rfl, h⟩
  unfold fX10_isSign at h
  refine sw_enter2 (own := RX10) (lv := [(0, .int a0)]) (by decide +kernel) (Nat.le_of_ble_eq_true rfl) rfl rfl ?_
  refine sw_iload_n (k0 := 0) 0 rfl (by decide +kernel) rfl ?_
  refine sw_bipush (n := 59) (v := 59) (by decide +kernel) (by decide) ?_
  refine sw_icmp_eq (off := 63) 66 (by decide +kernel) (by decide) (fun c1 => ?_) (fun c1 => ?_)
  · rw [if_pos c1] at h
    refine sw_iconst (n := 1) (v := 1) (by decide +kernel) (by decide) ?_
    refine sw_goto (off := 4) 71 (by decide +kernel) (by decide) ?_
    subst h
    obtain rfl : _ = res := hk
    exact sw_zret rfl (by decide +kernel)
  · rw [if_neg c1] at h
    refine sw_iload_n (k0 := 0) 0 rfl (by decide +kernel) rfl ?_
    refine sw_bipush (n := 40) (v := 40) (by decide +kernel) (by decide) ?_
    refine sw_icmp_eq (off := 57) 66 (by decide +kernel) (by decide) (fun c2 => ?_) (fun c2 => ?_)
    · rw [if_pos c2] at h
      refine sw_iconst (n := 1) (v := 1) (by decide +kernel) (by decide) ?_
      refine sw_goto (off := 4) 71 (by decide +kernel) (by decide) ?_
      subst h
      obtain rfl : _ = res := hk
      exact sw_zret rfl (by decide +kernel)
    · rw [if_neg c2] at h
      refine sw_iload_n (k0 := 0) 0 rfl (by decide +kernel) rfl ?_
      refine sw_bipush (n := 41) (v := 41) (by decide +kernel) (by decide) ?_
      refine sw_icmp_eq (off := 51) 66 (by decide +kernel) (by decide) (fun c3 => ?_) (fun c3 => ?_)
      · rw [if_pos c3] at h
        refine sw_iconst (n := 1) (v := 1) (by decide +kernel) (by decide) ?_
        refine sw_goto (off := 4) 71 (by decide +kernel) (by decide) ?_
        subst h
        obtain rfl : _ = res := hk
        exact sw_zret rfl (by decide +kernel)
      · rw [if_neg c3] at h
        refine sw_iload_n (k0 := 0) 0 rfl (by decide +kernel) rfl ?_
        refine sw_bipush (n := 60) (v := 60) (by decide +kernel) (by decide) ?_
        refine sw_icmp_eq (off := 45) 66 (by decide +kernel) (by decide) (fun c4 => ?_) (fun c4 => ?_)
        · rw [if_pos c4] at h
          refine sw_iconst (n := 1) (v := 1) (by decide +kernel) (by decide) ?_
          refine sw_goto (off := 4) 71 (by decide +kernel) (by decide) ?_
          subst h
          obtain rfl : _ = res := hk
          exact sw_zret rfl (by decide +kernel)
        · rw [if_neg c4] at h
          refine sw_iload_n (k0 := 0) 0 rfl (by decide +kernel) rfl ?_
          refine sw_bipush (n := 62) (v := 62) (by decide +kernel) (by decide) ?_
          refine sw_icmp_eq (off := 39) 66 (by decide +kernel) (by decide) (fun c5 => ?_) (fun c5 => ?_)
          · rw [if_pos c5] at h
            refine sw_iconst (n := 1) (v := 1) (by decide +kernel) (by decide) ?_
            refine sw_goto (off := 4) 71 (by decide +kernel) (by decide) ?_
            subst h
            obtain rfl : _ = res := hk
            exact sw_zret rfl (by decide +kernel)
          · rw [if_neg c5] at h
            refine sw_iload_n (k0 := 0) 0 rfl (by decide +kernel) rfl ?_
            refine sw_bipush (n := 61) (v := 61) (by decide +kernel) (by decide) ?_
            refine sw_icmp_eq (off := 33) 66 (by decide +kernel) (by decide) (fun c6 => ?_) (fun c6 => ?_)
            · rw [if_pos c6] at h
              refine sw_iconst (n := 1) (v := 1) (by decide +kernel) (by decide) ?_
              refine sw_goto (off := 4) 71 (by decide +kernel) (by decide) ?_
              subst h
              obtain rfl : _ = res := hk
              exact sw_zret rfl (by decide +kernel)
            · rw [if_neg c6] at h
              refine sw_iload_n (k0 := 0) 0 rfl (by decide +kernel) rfl ?_
              refine sw_bipush (n := 43) (v := 43) (by decide +kernel) (by decide) ?_
              refine sw_icmp_eq (off := 27) 66 (by decide +kernel) (by decide) (fun c7 => ?_) (fun c7 => ?_)
              · rw [if_pos c7] at h
                refine sw_iconst (n := 1) (v := 1) (by decide +kernel) (by decide) ?_
                refine sw_goto (off := 4) 71 (by decide +kernel) (by decide) ?_
                subst h
                obtain rfl : _ = res := hk
                exact sw_zret rfl (by decide +kernel)
              · rw [if_neg c7] at h
                refine sw_iload_n (k0 := 0) 0 rfl (by decide +kernel) rfl ?_
                refine sw_bipush (n := 45) (v := 45) (by decide +kernel) (by decide) ?_
                refine sw_icmp_eq (off := 21) 66 (by decide +kernel) (by decide) (fun c8 => ?_) (fun c8 => ?_)
                · rw [if_pos c8] at h
                  refine sw_iconst (n := 1) (v := 1) (by decide +kernel) (by decide) ?_
                  refine sw_goto (off := 4) 71 (by decide +kernel) (by decide) ?_
                  subst h
                  obtain rfl : _ = res := hk
                  exact sw_zret rfl (by decide +kernel)
                · rw [if_neg c8] at h
                  refine sw_iload_n (k0 := 0) 0 rfl (by decide +kernel) rfl ?_
                  refine sw_bipush (n := 42) (v := 42) (by decide +kernel) (by decide) ?_
                  refine sw_icmp_eq (off := 15) 66 (by decide +kernel) (by decide) (fun c9 => ?_) (fun c9 => ?_)
                  · rw [if_pos c9] at h
                    refine sw_iconst (n := 1) (v := 1) (by decide +kernel) (by decide) ?_
                    refine sw_goto (off := 4) 71 (by decide +kernel) (by decide) ?_
                    subst h
                    obtain rfl : _ = res := hk
                    exact sw_zret rfl (by decide +kernel)
                  · rw [if_neg c9] at h
                    refine sw_iload_n (k0 := 0) 0 rfl (by decide +kernel) rfl ?_
                    refine sw_bipush (n := 47) (v := 47) (by decide +kernel) (by decide) ?_
                    refine sw_icmp_eq (off := 9) 66 (by decide +kernel) (by decide) (fun c10 => ?_) (fun c10 => ?_)
                    · rw [if_pos c10] at h
                      refine sw_iconst (n := 1) (v := 1) (by decide +kernel) (by decide) ?_
                      refine sw_goto (off := 4) 71 (by decide +kernel) (by decide) ?_
                      subst h
                      obtain rfl : _ = res := hk
                      exact sw_zret rfl (by decide +kernel)
                    · rw [if_neg c10] at h
                      refine sw_iload_n (k0 := 0) 0 rfl (by decide +kernel) rfl ?_
                      refine sw_bipush (n := 37) (v := 37) (by decide +kernel) (by decide) ?_
                      refine sw_icmp_ne (off := 7) 70 (by decide +kernel) (by decide) (fun c11 => ?_) (fun c11 => ?_)
                      · rw [if_neg c11] at h
                        refine sw_iconst (n := 0) (v := 0) (by decide +kernel) (by decide) ?_
                        subst h
                        obtain rfl : _ = res := hk
                        exact sw_zret rfl (by decide +kernel)
                      · rw [if_pos c11] at h
                        refine sw_iconst (n := 1) (v := 1) (by decide +kernel) (by decide) ?_
                        refine sw_goto (off := 4) 71 (by decide +kernel) (by decide) ?_
                        subst h
                        obtain rfl : _ = res := hk
                        exact sw_zret rfl (by decide +kernel)
theorem bX10_isSign (a0 : Int32) : fX10_isSign a0 = 0 ∨ fX10_isSign a0 = 1 := by
  simp only [fX10_isSign, sw_let]
  repeat' (first | exact Or.inl rfl | exact Or.inr rfl | refine sw_ite_bo ?_ ?_)
def fX10_token_L20 (σ : sw_M) : Option ((sw_M) ⊕ (sw_M)) :=
  sw_let (sw_w σ 49 4 ((σ.1 49 4) + 1)) fun m1 =>
  some (.inl m1)
def fX10_token_L232 (σ : sw_M) (a2 : Int32) : Option ((sw_M)) :=
  if (σ.1 49 6) = 3 then
    some (σ)
  else
    sw_let (sw_w σ 49 4 ((σ.1 49 4) + a2)) fun m2 =>
    some (m2)
def fX10_token_L229 (σ : sw_M) (a2 : Int32) (b0 : Int32) : Option ((sw_M)) :=
  sw_let (sw_w σ 49 6 b0) fun m1 =>
  fX10_token_L232 m1 a2
def fX10_token_L208 (σ : sw_M) (a2 : Int32) (b0 : Int32) : Option ((sw_M)) :=
  sw_let (sw_w σ 49 6 b0) fun m1 =>
  fX10_token_L232 m1 a2
def fX10_token_L203 (σ : sw_M) (a2 : Int32) : Option ((sw_M)) :=
  fX10_token_L208 σ a2 3
def fX10_token_L180 (σ : sw_M) (a2 : Int32) : Option ((Int32 × sw_M) ⊕ (sw_M)) :=
  sw_let (a2 + 1) fun v1 =>
  some (.inl (v1, σ))
def fX10_token_L144 (σ : sw_M) (a2 : Int32) : Option ((Int32 × sw_M) ⊕ (sw_M)) :=
  sw_b1 (fX10_here σ a2) fun r1 =>
  if (fX10_isDigit r1) = 0 then
    if 4 < a2 then
      sw_up (fX10_token_L203 σ a2)
    else
      sw_b1 (fX10_here σ a2) fun r6 =>
      if (fX10_isLetter r6) = 0 then
        sw_up (fX10_token_L208 σ a2 2)
      else
        sw_up (fX10_token_L203 σ a2)
  else
    if 4 ≤ a2 then
      fX10_token_L180 σ a2
    else
      sw_b1 (fX10_here σ a2) fun r12 =>
      sw_let (sw_w σ 49 8 (((10 * (σ.1 49 8)) + r12) - 48)) fun m14 =>
      fX10_token_L180 m14 a2
def fX10_token_L131 (σ : sw_M) (a2 : Int32) (b0 : Int32) : Option ((sw_M)) :=
  sw_let (sw_w σ 49 6 b0) fun m1 =>
  fX10_token_L232 m1 a2
def fX10_token_L113 (σ : sw_M) (a2 : Int32) : Option ((Int32 × sw_M) ⊕ (sw_M)) :=
  sw_let (a2 + 1) fun v1 =>
  some (.inl (v1, σ))
def fX10_token_L78 (σ : sw_M) (a2 : Int32) : Option ((Int32 × sw_M) ⊕ (sw_M)) :=
  sw_b1 (fX10_here σ a2) fun r1 =>
  if (fX10_isLetter r1) = 0 then
    if a2 ≤ 8 then
      sw_up (fX10_token_L131 σ a2 1)
    else
      sw_up (fX10_token_L131 σ a2 3)
  else
    if 8 ≤ a2 then
      fX10_token_L113 σ a2
    else
      sw_b1 (fX10_here σ a2) fun r8 =>
      sw_let (sw_wL σ 49 9 (((σ.2.1 49 9) <<< ((8 : Int32).toInt64 &&& 63)) ||| r8.toInt64)) fun m10 =>
      fX10_token_L113 m10 a2
def fX10_token_L0 (σ : sw_M) : Option ((sw_M) ⊕ (sw_M)) :=
  sw_b1 (fX10_here σ 0) fun r1 =>
  if r1 = 32 then
    fX10_token_L20 σ
  else
    sw_b1 (fX10_here σ 0) fun r4 =>
    if r4 = 10 then
      fX10_token_L20 σ
    else
      sw_let (sw_w σ 49 7 (σ.1 49 4)) fun m7 =>
      sw_b1 (fX10_here m7 0) fun r9 =>
      sw_let (sw_wL m7 49 9 0) fun m11 =>
      sw_let (sw_w m11 49 8 0) fun m13 =>
      if (0 : Int32) ≤ r9 then
        if (fX10_isLetter r9) = 0 then
          if (fX10_isDigit r9) = 0 then
            if (fX10_isSign r9) = 0 then
              sw_up (fX10_token_L229 m13 1 3)
            else
              sw_up (fX10_token_L229 m13 1 r9)
          else
            sw_up (sw_wh sw_F (fun s => fX10_token_L144 s.2 s.1) (0, m13))
        else
          sw_up (sw_wh sw_F (fun s => fX10_token_L78 s.2 s.1) (0, m13))
      else
        sw_let (sw_w m13 49 6 0) fun m23 =>
        sw_up (fX10_token_L232 m23 0)
def fX10_token (σ : sw_M) : Option (sw_M) :=
  sw_wh sw_F (fun s => fX10_token_L0 s) σ
set_option maxRecDepth 20000 in
theorem sX10_token_L20 {l : Launch} {E : sw_E} {K : Nat} (hK : 1 ≤ K) (σ : sw_M) {res : sw_M} {t : (sw_M) ⊕ (sw_M)} (h : fX10_token_L20 σ = some t) (hk : (Sum.elim (fun s : sw_M => sw_Go l E K RX10 cX10_token 3 none 0 [(0, .ref 49)] [] s none res) (fun q => q = res)) t) : sw_Go l E K RX10 cX10_token 3 none 20 [(0, .ref 49)] [] σ none res := by
  unfold fX10_token_L20 at h
  refine sw_aload_n (k0 := 0) 0 rfl (by decide +kernel) rfl ?_
  refine sw_dup (by decide +kernel) rfl ?_
  refine gf_X10_125 (i := 49) (by decide) rfl (by decide +kernel) ?_
  refine sw_iconst (n := 1) (v := 1) (by decide +kernel) (by decide) ?_
  refine sw_iadd (by decide +kernel) ?_
  obtain ⟨m1, e2, h⟩ := sw_let_e h
  refine pf_X10_125 (by decide) rfl (by decide +kernel) ?_
  refine sw_mem e2 ?_
  refine sw_goto (off := (-30)) 0 (by decide +kernel) (by decide) ?_
  cases h
  exact hk
set_option maxRecDepth 20000 in
theorem sX10_token_L232 {l : Launch} {E : sw_E} {K : Nat} (hK : 1 ≤ K) (σ : sw_M) (a2 : Int32) {res : sw_M} {t : (sw_M)} (h : fX10_token_L232 σ a2 = some t) (hk : (fun q => q = res) t) : sw_Go l E K RX10 cX10_token 3 none 232 [(0, .ref 49), (2, .int a2)] [] σ none res := by
  unfold fX10_token_L232 at h
  refine sw_aload_n (k0 := 0) 0 rfl (by decide +kernel) rfl ?_
  refine gf_X10_145 (i := 49) (by decide) rfl (by decide +kernel) ?_
  refine sw_iconst (n := 3) (v := 3) (by decide +kernel) (by decide) ?_
  refine sw_icmp_eq (off := 13) 250 (by decide +kernel) (by decide) (fun c1 => ?_) (fun c1 => ?_)
  · rw [if_pos c1] at h
    cases h
    obtain rfl : _ = res := hk
    exact sw_vret (by decide +kernel)
  · rw [if_neg c1] at h
    refine sw_aload_n (k0 := 0) 0 rfl (by decide +kernel) rfl ?_
    refine sw_dup (by decide +kernel) rfl ?_
    refine gf_X10_125 (i := 49) (by decide) rfl (by decide +kernel) ?_
    refine sw_iload_n (k0 := 2) 1 rfl (by decide +kernel) rfl ?_
    refine sw_iadd (by decide +kernel) ?_
    obtain ⟨m2, e3, h⟩ := sw_let_e h
    refine pf_X10_125 (by decide) rfl (by decide +kernel) ?_
    refine sw_mem e3 ?_
    cases h
    obtain rfl : _ = res := hk
    exact sw_vret (by decide +kernel)
set_option maxRecDepth 20000 in
theorem sX10_token_L229 {l : Launch} {E : sw_E} {K : Nat} (hK : 1 ≤ K) (σ : sw_M) (a2 : Int32) (b0 : Int32) {res : sw_M} {t : (sw_M)} (h : fX10_token_L229 σ a2 b0 = some t) (hk : (fun q => q = res) t) : sw_Go l E K RX10 cX10_token 3 none 229 [(0, .ref 49), (2, .int a2)] [.int b0, .ref 49] σ none res := by
  unfold fX10_token_L229 at h
  obtain ⟨m1, e2, h⟩ := sw_let_e h
  refine pf_X10_145 (by decide) rfl (by decide +kernel) ?_
  refine sw_mem e2 ?_
  exact sX10_token_L232 hK m1 a2 h hk
set_option maxRecDepth 20000 in
theorem sX10_token_L208 {l : Launch} {E : sw_E} {K : Nat} (hK : 1 ≤ K) (σ : sw_M) (a2 : Int32) (b0 : Int32) {res : sw_M} {t : (sw_M)} (h : fX10_token_L208 σ a2 b0 = some t) (hk : (fun q => q = res) t) : sw_Go l E K RX10 cX10_token 3 none 208 [(0, .ref 49), (2, .int a2)] [.int b0, .ref 49] σ none res := by
  unfold fX10_token_L208 at h
  obtain ⟨m1, e2, h⟩ := sw_let_e h
  refine pf_X10_145 (by decide) rfl (by decide +kernel) ?_
  refine sw_mem e2 ?_
  refine sw_goto (off := 21) 232 (by decide +kernel) (by decide) ?_
  exact sX10_token_L232 hK m1 a2 h hk
set_option maxRecDepth 20000 in
theorem sX10_token_L203 {l : Launch} {E : sw_E} {K : Nat} (hK : 1 ≤ K) (σ : sw_M) (a2 : Int32) {res : sw_M} {t : (sw_M)} (h : fX10_token_L203 σ a2 = some t) (hk : (fun q => q = res) t) : sw_Go l E K RX10 cX10_token 3 none 203 [(0, .ref 49), (2, .int a2)] [.ref 49] σ none res := by
  unfold fX10_token_L203 at h
  refine sw_iconst (n := 3) (v := 3) (by decide +kernel) (by decide) ?_
  refine sw_goto (off := 4) 208 (by decide +kernel) (by decide) ?_
  exact sX10_token_L208 hK σ a2 3 h hk
set_option maxRecDepth 20000 in
theorem sX10_token_L180 {l : Launch} {E : sw_E} {K : Nat} (hK : 1 ≤ K) (σ : sw_M) (a2 : Int32) {res : sw_M} {t : (Int32 × sw_M) ⊕ (sw_M)} (h : fX10_token_L180 σ a2 = some t) (hk : (Sum.elim (fun s : Int32 × sw_M => sw_Go l E K RX10 cX10_token 3 none 144 [(0, .ref 49), (2, .int s.1)] [] s.2 none res) (fun q => q = res)) t) : sw_Go l E K RX10 cX10_token 3 none 180 [(0, .ref 49), (2, .int a2)] [] σ none res := by
  unfold fX10_token_L180 at h
  obtain ⟨v1, e2, h⟩ := sw_let_e h
  refine sw_iincv (i := 2) (n := 1) (lv' := [(2, .int v1), (0, .ref 49)]) 1 rfl e2 (by decide +kernel) (by decide) (by decide) rfl ?_
  refine sw_goto (off := (-39)) 144 (by decide +kernel) (by decide) ?_
  cases h
  refine sw_lv [1, 0] rfl ?_
  exact hk
set_option maxRecDepth 20000 in
theorem sX10_token_L144 {l : Launch} {E : sw_E} {K : Nat} (hK : 1 ≤ K) (σ : sw_M) (a2 : Int32) {res : sw_M} {t : (Int32 × sw_M) ⊕ (sw_M)} (h : fX10_token_L144 σ a2 = some t) (hk : (Sum.elim (fun s : Int32 × sw_M => sw_Go l E K RX10 cX10_token 3 none 144 [(0, .ref 49), (2, .int s.1)] [] s.2 none res) (fun q => q = res)) t) : sw_Go l E K RX10 cX10_token 3 none 144 [(0, .ref 49), (2, .int a2)] [] σ none res := by
  unfold fX10_token_L144 at h
  refine sw_aload_n (k0 := 0) 0 rfl (by decide +kernel) rfl ?_
  refine sw_iload_n (k0 := 2) 1 rfl (by decide +kernel) rfl ?_
  obtain ⟨r1, w2, h⟩ := sw_b1_e h
  refine sw_callVi (ci := 10) (i := 49) [.int a2] (sX10_here (K := K - 1) (by omega) σ a2 w2) rfl (by omega) rfl gs_X10_131 hy_X10_here (by decide) (by decide) rfl rfl (Nat.le_of_ble_eq_true rfl) (by decide +kernel) ?_
  refine sw_callSi [.int r1] (sX10_isDigit (K := K - 1) (by omega) σ r1 rfl) rfl (by omega) gs_X10_152 hy_X10_isDigit (by decide) rfl (Nat.le_of_ble_eq_true rfl) (by decide +kernel) ?_
  refine sw_if_eq (off := 34) 186 (by decide +kernel) (by decide) (fun c3 => ?_) (fun c3 => ?_)
  · rw [if_pos c3] at h
    refine sw_aload_n (k0 := 0) 0 rfl (by decide +kernel) rfl ?_
    refine sw_iload_n (k0 := 2) 1 rfl (by decide +kernel) rfl ?_
    refine sw_iconst (n := 4) (v := 4) (by decide +kernel) (by decide) ?_
    refine sw_icmp_gt (off := 14) 203 (by decide +kernel) (by decide) (fun c4 => ?_) (fun c4 => ?_)
    · rw [if_pos c4] at h
      obtain ⟨q4, h4, rfl⟩ := sw_up_e h
      replace h := h4
      exact sX10_token_L203 hK σ a2 h hk
    · rw [if_neg c4] at h
      refine sw_aload_n (k0 := 0) 0 rfl (by decide +kernel) rfl ?_
      refine sw_iload_n (k0 := 2) 1 rfl (by decide +kernel) rfl ?_
      obtain ⟨r6, w7, h⟩ := sw_b1_e h
      refine sw_callVi (ci := 10) (i := 49) [.int a2] (sX10_here (K := K - 1) (by omega) σ a2 w7) rfl (by omega) rfl gs_X10_131 hy_X10_here (by decide) (by decide) rfl rfl (Nat.le_of_ble_eq_true rfl) (by decide +kernel) ?_
      refine sw_callSi [.int r6] (sX10_isLetter (K := K - 1) (by omega) σ r6 rfl) rfl (by omega) gs_X10_148 hy_X10_isLetter (by decide) rfl (Nat.le_of_ble_eq_true rfl) (by decide +kernel) ?_
      refine sw_if_eq (off := 7) 207 (by decide +kernel) (by decide) (fun c8 => ?_) (fun c8 => ?_)
      · rw [if_pos c8] at h
        refine sw_iconst (n := 2) (v := 2) (by decide +kernel) (by decide) ?_
        obtain ⟨q8, h8, rfl⟩ := sw_up_e h
        replace h := h8
        exact sX10_token_L208 hK σ a2 2 h hk
      · rw [if_neg c8] at h
        obtain ⟨q9, h9, rfl⟩ := sw_up_e h
        replace h := h9
        exact sX10_token_L203 hK σ a2 h hk
  · rw [if_neg c3] at h
    refine sw_iload_n (k0 := 2) 1 rfl (by decide +kernel) rfl ?_
    refine sw_iconst (n := 4) (v := 4) (by decide +kernel) (by decide) ?_
    refine sw_icmp_ge (off := 23) 180 (by decide +kernel) (by decide) (fun c11 => ?_) (fun c11 => ?_)
    · rw [if_pos c11] at h
      exact sX10_token_L180 hK σ a2 h hk
    · rw [if_neg c11] at h
      refine sw_aload_n (k0 := 0) 0 rfl (by decide +kernel) rfl ?_
      refine sw_bipush (n := 10) (v := 10) (by decide +kernel) (by decide) ?_
      refine sw_aload_n (k0 := 0) 0 rfl (by decide +kernel) rfl ?_
      refine gf_X10_142 (i := 49) (by decide) rfl (by decide +kernel) ?_
      refine sw_imul (by decide +kernel) ?_
      refine sw_aload_n (k0 := 0) 0 rfl (by decide +kernel) rfl ?_
      refine sw_iload_n (k0 := 2) 1 rfl (by decide +kernel) rfl ?_
      obtain ⟨r12, w13, h⟩ := sw_b1_e h
      refine sw_callVi (ci := 10) (i := 49) [.int a2] (sX10_here (K := K - 1) (by omega) σ a2 w13) rfl (by omega) rfl gs_X10_131 hy_X10_here (by decide) (by decide) rfl rfl (Nat.le_of_ble_eq_true rfl) (by decide +kernel) ?_
      refine sw_iadd (by decide +kernel) ?_
      refine sw_bipush (n := 48) (v := 48) (by decide +kernel) (by decide) ?_
      refine sw_isub (by decide +kernel) ?_
      obtain ⟨m14, e15, h⟩ := sw_let_e h
      refine pf_X10_142 (by decide) rfl (by decide +kernel) ?_
      refine sw_mem e15 ?_
      exact sX10_token_L180 hK m14 a2 h hk
set_option maxRecDepth 20000 in
theorem sX10_token_L131 {l : Launch} {E : sw_E} {K : Nat} (hK : 1 ≤ K) (σ : sw_M) (a2 : Int32) (b0 : Int32) {res : sw_M} {t : (sw_M)} (h : fX10_token_L131 σ a2 b0 = some t) (hk : (fun q => q = res) t) : sw_Go l E K RX10 cX10_token 3 none 131 [(0, .ref 49), (2, .int a2)] [.int b0, .ref 49] σ none res := by
  unfold fX10_token_L131 at h
  obtain ⟨m1, e2, h⟩ := sw_let_e h
  refine pf_X10_145 (by decide) rfl (by decide +kernel) ?_
  refine sw_mem e2 ?_
  refine sw_goto (off := 98) 232 (by decide +kernel) (by decide) ?_
  exact sX10_token_L232 hK m1 a2 h hk
set_option maxRecDepth 20000 in
theorem sX10_token_L113 {l : Launch} {E : sw_E} {K : Nat} (hK : 1 ≤ K) (σ : sw_M) (a2 : Int32) {res : sw_M} {t : (Int32 × sw_M) ⊕ (sw_M)} (h : fX10_token_L113 σ a2 = some t) (hk : (Sum.elim (fun s : Int32 × sw_M => sw_Go l E K RX10 cX10_token 3 none 78 [(0, .ref 49), (2, .int s.1)] [] s.2 none res) (fun q => q = res)) t) : sw_Go l E K RX10 cX10_token 3 none 113 [(0, .ref 49), (2, .int a2)] [] σ none res := by
  unfold fX10_token_L113 at h
  obtain ⟨v1, e2, h⟩ := sw_let_e h
  refine sw_iincv (i := 2) (n := 1) (lv' := [(2, .int v1), (0, .ref 49)]) 1 rfl e2 (by decide +kernel) (by decide) (by decide) rfl ?_
  refine sw_goto (off := (-38)) 78 (by decide +kernel) (by decide) ?_
  cases h
  refine sw_lv [1, 0] rfl ?_
  exact hk
set_option maxRecDepth 20000 in
theorem sX10_token_L78 {l : Launch} {E : sw_E} {K : Nat} (hK : 1 ≤ K) (σ : sw_M) (a2 : Int32) {res : sw_M} {t : (Int32 × sw_M) ⊕ (sw_M)} (h : fX10_token_L78 σ a2 = some t) (hk : (Sum.elim (fun s : Int32 × sw_M => sw_Go l E K RX10 cX10_token 3 none 78 [(0, .ref 49), (2, .int s.1)] [] s.2 none res) (fun q => q = res)) t) : sw_Go l E K RX10 cX10_token 3 none 78 [(0, .ref 49), (2, .int a2)] [] σ none res := by
  unfold fX10_token_L78 at h
  refine sw_aload_n (k0 := 0) 0 rfl (by decide +kernel) rfl ?_
  refine sw_iload_n (k0 := 2) 1 rfl (by decide +kernel) rfl ?_
  obtain ⟨r1, w2, h⟩ := sw_b1_e h
  refine sw_callVi (ci := 10) (i := 49) [.int a2] (sX10_here (K := K - 1) (by omega) σ a2 w2) rfl (by omega) rfl gs_X10_131 hy_X10_here (by decide) (by decide) rfl rfl (Nat.le_of_ble_eq_true rfl) (by decide +kernel) ?_
  refine sw_callSi [.int r1] (sX10_isLetter (K := K - 1) (by omega) σ r1 rfl) rfl (by omega) gs_X10_148 hy_X10_isLetter (by decide) rfl (Nat.le_of_ble_eq_true rfl) (by decide +kernel) ?_
  refine sw_if_eq (off := 33) 119 (by decide +kernel) (by decide) (fun c3 => ?_) (fun c3 => ?_)
  · rw [if_pos c3] at h
    refine sw_aload_n (k0 := 0) 0 rfl (by decide +kernel) rfl ?_
    refine sw_iload_n (k0 := 2) 1 rfl (by decide +kernel) rfl ?_
    refine sw_bipush (n := 8) (v := 8) (by decide +kernel) (by decide) ?_
    refine sw_icmp_le (off := 7) 130 (by decide +kernel) (by decide) (fun c4 => ?_) (fun c4 => ?_)
    · rw [if_pos c4] at h
      refine sw_iconst (n := 1) (v := 1) (by decide +kernel) (by decide) ?_
      obtain ⟨q4, h4, rfl⟩ := sw_up_e h
      replace h := h4
      exact sX10_token_L131 hK σ a2 1 h hk
    · rw [if_neg c4] at h
      refine sw_iconst (n := 3) (v := 3) (by decide +kernel) (by decide) ?_
      refine sw_goto (off := 4) 131 (by decide +kernel) (by decide) ?_
      obtain ⟨q5, h5, rfl⟩ := sw_up_e h
      replace h := h5
      exact sX10_token_L131 hK σ a2 3 h hk
  · rw [if_neg c3] at h
    refine sw_iload_n (k0 := 2) 1 rfl (by decide +kernel) rfl ?_
    refine sw_bipush (n := 8) (v := 8) (by decide +kernel) (by decide) ?_
    refine sw_icmp_ge (off := 21) 113 (by decide +kernel) (by decide) (fun c7 => ?_) (fun c7 => ?_)
    · rw [if_pos c7] at h
      exact sX10_token_L113 hK σ a2 h hk
    · rw [if_neg c7] at h
      refine sw_aload_n (k0 := 0) 0 rfl (by decide +kernel) rfl ?_
      refine sw_aload_n (k0 := 0) 0 rfl (by decide +kernel) rfl ?_
      refine gf_X10_138 (i := 49) (by decide) rfl (by decide +kernel) ?_
      refine sw_bipush (n := 8) (v := 8) (by decide +kernel) (by decide) ?_
      refine sw_lshl (by decide +kernel) ?_
      refine sw_aload_n (k0 := 0) 0 rfl (by decide +kernel) rfl ?_
      refine sw_iload_n (k0 := 2) 1 rfl (by decide +kernel) rfl ?_
      obtain ⟨r8, w9, h⟩ := sw_b1_e h
      refine sw_callVi (ci := 10) (i := 49) [.int a2] (sX10_here (K := K - 1) (by omega) σ a2 w9) rfl (by omega) rfl gs_X10_131 hy_X10_here (by decide) (by decide) rfl rfl (Nat.le_of_ble_eq_true rfl) (by decide +kernel) ?_
      refine sw_i2l (by decide +kernel) ?_
      refine sw_lor (by decide +kernel) ?_
      obtain ⟨m10, e11, h⟩ := sw_let_e h
      refine pf_X10_138 (by decide) rfl (by decide +kernel) ?_
      refine sw_mem e11 ?_
      exact sX10_token_L113 hK m10 a2 h hk
set_option maxRecDepth 20000 in
theorem sX10_token_L0 {l : Launch} {E : sw_E} {K : Nat} (hK : 1 ≤ K) (σ : sw_M) {res : sw_M} {t : (sw_M) ⊕ (sw_M)} (h : fX10_token_L0 σ = some t) (hk : (Sum.elim (fun s : sw_M => sw_Go l E K RX10 cX10_token 3 none 0 [(0, .ref 49)] [] s none res) (fun q => q = res)) t) : sw_Go l E K RX10 cX10_token 3 none 0 [(0, .ref 49)] [] σ none res := by
  unfold fX10_token_L0 at h
  refine sw_aload_n (k0 := 0) 0 rfl (by decide +kernel) rfl ?_
  refine sw_iconst (n := 0) (v := 0) (by decide +kernel) (by decide) ?_
  obtain ⟨r1, w2, h⟩ := sw_b1_e h
  refine sw_callVi (ci := 10) (i := 49) [.int 0] (sX10_here (K := K - 1) (by omega) σ 0 w2) rfl (by omega) rfl gs_X10_131 hy_X10_here (by decide) (by decide) rfl rfl (Nat.le_of_ble_eq_true rfl) (by decide +kernel) ?_
  refine sw_bipush (n := 32) (v := 32) (by decide +kernel) (by decide) ?_
  refine sw_icmp_eq (off := 13) 20 (by decide +kernel) (by decide) (fun c3 => ?_) (fun c3 => ?_)
  · rw [if_pos c3] at h
    exact sX10_token_L20 hK σ h hk
  · rw [if_neg c3] at h
    refine sw_aload_n (k0 := 0) 0 rfl (by decide +kernel) rfl ?_
    refine sw_iconst (n := 0) (v := 0) (by decide +kernel) (by decide) ?_
    obtain ⟨r4, w5, h⟩ := sw_b1_e h
    refine sw_callVi (ci := 10) (i := 49) [.int 0] (sX10_here (K := K - 1) (by omega) σ 0 w5) rfl (by omega) rfl gs_X10_131 hy_X10_here (by decide) (by decide) rfl rfl (Nat.le_of_ble_eq_true rfl) (by decide +kernel) ?_
    refine sw_bipush (n := 10) (v := 10) (by decide +kernel) (by decide) ?_
    refine sw_icmp_ne (off := 16) 33 (by decide +kernel) (by decide) (fun c6 => ?_) (fun c6 => ?_)
    · rw [if_neg c6] at h
      refine sw_aload_n (k0 := 0) 0 rfl (by decide +kernel) rfl ?_
      refine sw_aload_n (k0 := 0) 0 rfl (by decide +kernel) rfl ?_
      refine gf_X10_125 (i := 49) (by decide) rfl (by decide +kernel) ?_
      obtain ⟨m7, e8, h⟩ := sw_let_e h
      refine pf_X10_135 (by decide) rfl (by decide +kernel) ?_
      refine sw_mem e8 ?_
      refine sw_aload_n (k0 := 0) 0 rfl (by decide +kernel) rfl ?_
      refine sw_iconst (n := 0) (v := 0) (by decide +kernel) (by decide) ?_
      obtain ⟨r9, w10, h⟩ := sw_b1_e h
      refine sw_callVi (ci := 10) (i := 49) [.int 0] (sX10_here (K := K - 1) (by omega) m7 0 w10) rfl (by omega) rfl gs_X10_131 hy_X10_here (by decide) (by decide) rfl rfl (Nat.le_of_ble_eq_true rfl) (by decide +kernel) ?_
      refine sw_istore_n (k0 := 1) (lv' := [(1, .int r9), (0, .ref 49)]) (by decide +kernel) rfl (by decide) rfl ?_
      refine sw_iconst (n := 0) (v := 0) (by decide +kernel) (by decide) ?_
      refine sw_istore_n (k0 := 2) (lv' := [(2, .int 0), (1, .int r9), (0, .ref 49)]) (by decide +kernel) rfl (by decide) rfl ?_
      refine sw_aload_n (k0 := 0) 2 rfl (by decide +kernel) rfl ?_
      refine sw_lconst (n := 0) (v := 0) (by decide +kernel) (by decide) ?_
      obtain ⟨m11, e12, h⟩ := sw_let_e h
      refine pf_X10_138 (by decide) rfl (by decide +kernel) ?_
      refine sw_mem e12 ?_
      refine sw_aload_n (k0 := 0) 2 rfl (by decide +kernel) rfl ?_
      refine sw_iconst (n := 0) (v := 0) (by decide +kernel) (by decide) ?_
      obtain ⟨m13, e14, h⟩ := sw_let_e h
      refine pf_X10_142 (by decide) rfl (by decide +kernel) ?_
      refine sw_mem e14 ?_
      refine sw_iload_n (k0 := 1) 1 rfl (by decide +kernel) rfl ?_
      refine sw_if_ge (off := 11) 71 (by decide +kernel) (by decide) (fun c15 => ?_) (fun c15 => ?_)
      · rw [if_pos c15] at h
        refine sw_iload_n (k0 := 1) 1 rfl (by decide +kernel) rfl ?_
        refine sw_callSi [.int r9] (sX10_isLetter (K := K - 1) (by omega) m13 r9 rfl) rfl (by omega) gs_X10_148 hy_X10_isLetter (by decide) rfl (Nat.le_of_ble_eq_true rfl) (by decide +kernel) ?_
        refine sw_if_eq (off := 62) 137 (by decide +kernel) (by decide) (fun c16 => ?_) (fun c16 => ?_)
        · rw [if_pos c16] at h
          refine sw_iload_n (k0 := 1) 1 rfl (by decide +kernel) rfl ?_
          refine sw_callSi [.int r9] (sX10_isDigit (K := K - 1) (by omega) m13 r9 rfl) rfl (by omega) gs_X10_152 hy_X10_isDigit (by decide) rfl (Nat.le_of_ble_eq_true rfl) (by decide +kernel) ?_
          refine sw_if_eq (off := 73) 214 (by decide +kernel) (by decide) (fun c17 => ?_) (fun c17 => ?_)
          · rw [if_pos c17] at h
            refine sw_iconst (n := 1) (v := 1) (by decide +kernel) (by decide) ?_
            refine sw_istore_n (k0 := 2) (lv' := [(2, .int 1), (1, .int r9), (0, .ref 49)]) (by decide +kernel) rfl (by decide) rfl ?_
            refine sw_aload_n (k0 := 0) 2 rfl (by decide +kernel) rfl ?_
            refine sw_iload_n (k0 := 1) 1 rfl (by decide +kernel) rfl ?_
            refine sw_callSi [.int r9] (sX10_isSign (K := K - 1) (by omega) m13 r9 rfl) rfl (by omega) gs_X10_155 hy_X10_isSign (by decide) rfl (Nat.le_of_ble_eq_true rfl) (by decide +kernel) ?_
            refine sw_if_eq (off := 7) 228 (by decide +kernel) (by decide) (fun c18 => ?_) (fun c18 => ?_)
            · rw [if_pos c18] at h
              refine sw_iconst (n := 3) (v := 3) (by decide +kernel) (by decide) ?_
              obtain ⟨q18, h18, rfl⟩ := sw_up_e h
              replace h := h18
              refine sw_lv [2, 0] rfl ?_
              exact sX10_token_L229 hK m13 1 3 h hk
            · rw [if_neg c18] at h
              refine sw_iload_n (k0 := 1) 1 rfl (by decide +kernel) rfl ?_
              refine sw_goto (off := 4) 229 (by decide +kernel) (by decide) ?_
              obtain ⟨q19, h19, rfl⟩ := sw_up_e h
              replace h := h19
              refine sw_lv [2, 0] rfl ?_
              exact sX10_token_L229 hK m13 1 r9 h hk
          · rw [if_neg c17] at h
            obtain ⟨q20, h20, rfl⟩ := sw_up_e h
            replace h := h20
            refine sw_lv [2, 0] rfl ?_
            exact sw_wh_e (fun s : Int32 × sw_M => sw_Go l E K RX10 cX10_token 3 none 144 [(0, .ref 49), (2, .int s.1)] [] s.2 none res) (fun q => q = res) (fun s => fX10_token_L144 s.2 s.1) (fun s t hb hk => sX10_token_L144 hK s.2 s.1 hb hk) _ _ _ h hk
        · rw [if_neg c16] at h
          obtain ⟨q21, h21, rfl⟩ := sw_up_e h
          replace h := h21
          refine sw_lv [2, 0] rfl ?_
          exact sw_wh_e (fun s : Int32 × sw_M => sw_Go l E K RX10 cX10_token 3 none 78 [(0, .ref 49), (2, .int s.1)] [] s.2 none res) (fun q => q = res) (fun s => fX10_token_L78 s.2 s.1) (fun s t hb hk => sX10_token_L78 hK s.2 s.1 hb hk) _ _ _ h hk
      · rw [if_neg c15] at h
        refine sw_aload_n (k0 := 0) 2 rfl (by decide +kernel) rfl ?_
        refine sw_iconst (n := 0) (v := 0) (by decide +kernel) (by decide) ?_
        obtain ⟨m23, e24, h⟩ := sw_let_e h
        refine pf_X10_145 (by decide) rfl (by decide +kernel) ?_
        refine sw_mem e24 ?_
        refine sw_goto (off := 164) 232 (by decide +kernel) (by decide) ?_
        obtain ⟨q24, h24, rfl⟩ := sw_up_e h
        replace h := h24
        refine sw_lv [2, 0] rfl ?_
        exact sX10_token_L232 hK m23 0 h hk
    · rw [if_pos c6] at h
      exact sX10_token_L20 hK σ h hk
set_option maxRecDepth 20000 in
theorem sX10_token {l : Launch} {E : sw_E} {K : Nat} (hK : 1 ≤ K) (σ : sw_M) {res : sw_M} (h : fX10_token σ = some res) : sw_Ct l E K yX10_token cX10_token 3 none [.ref 49] σ none res := by
  obtain ⟨t, hk, h⟩ : ∃ t, t = res ∧ fX10_token σ = some t := ⟨res, rfl, h⟩
  unfold fX10_token at h
  refine sw_enter2 (own := RX10) (lv := [(0, .ref 49)]) (by decide +kernel) (Nat.le_of_ble_eq_true rfl) rfl rfl ?_
  exact sw_wh_e (fun s : sw_M => sw_Go l E K RX10 cX10_token 3 none 0 [(0, .ref 49)] [] s none res) (fun q => q = res) (fun s => fX10_token_L0 s) (fun s t hb hk => sX10_token_L0 hK s hb hk) _ _ _ h hk
def fX10_wrong_L22 (σ : sw_M) (b0 : Int32) : Option ((sw_M)) :=
  sw_let (sw_w σ 49 2 b0) fun m1 =>
  sw_let (sw_w m1 49 3 (m1.1 49 7)) fun m3 =>
  some (m3)
def fX10_wrong (σ : sw_M) (a1 : Int32) : Option (sw_M) :=
  if (σ.1 49 2) ≤ 0 then
    if (σ.1 49 6) = 3 then
      fX10_wrong_L22 σ 1
    else
      fX10_wrong_L22 σ a1
  else
    some (σ)
set_option maxRecDepth 20000 in
theorem sX10_wrong_L22 {l : Launch} {E : sw_E} {K : Nat} (hK : 0 ≤ K) (σ : sw_M) (b0 : Int32) {res : sw_M} {t : (sw_M)} (h : fX10_wrong_L22 σ b0 = some t) (hk : (fun q => q = res) t) : sw_Go l E K RX10 cX10_wrong 2 none 22 [(0, .ref 49)] [.int b0, .ref 49] σ none res := by
  unfold fX10_wrong_L22 at h
  obtain ⟨m1, e2, h⟩ := sw_let_e h
  refine pf_X10_158 (by decide) rfl (by decide +kernel) ?_
  refine sw_mem e2 ?_
  refine sw_aload_n (k0 := 0) 0 rfl (by decide +kernel) rfl ?_
  refine sw_aload_n (k0 := 0) 0 rfl (by decide +kernel) rfl ?_
  refine gf_X10_135 (i := 49) (by decide) rfl (by decide +kernel) ?_
  obtain ⟨m3, e4, h⟩ := sw_let_e h
  refine pf_X10_13 (by decide) rfl (by decide +kernel) ?_
  refine sw_mem e4 ?_
  cases h
  obtain rfl : _ = res := hk
  exact sw_vret (by decide +kernel)
set_option maxRecDepth 20000 in
theorem sX10_wrong {l : Launch} {E : sw_E} {K : Nat} (hK : 0 ≤ K) (σ : sw_M) (a1 : Int32) {res : sw_M} (h : fX10_wrong σ a1 = some res) : sw_Ct l E K yX10_wrong cX10_wrong 2 none [.ref 49, .int a1] σ none res := by
  obtain ⟨t, hk, h⟩ : ∃ t, t = res ∧ fX10_wrong σ a1 = some t := ⟨res, rfl, h⟩
  unfold fX10_wrong at h
  refine sw_enter2 (own := RX10) (lv := [(0, .ref 49), (1, .int a1)]) (by decide +kernel) (Nat.le_of_ble_eq_true rfl) rfl rfl ?_
  refine sw_aload_n (k0 := 0) 0 rfl (by decide +kernel) rfl ?_
  refine gf_X10_158 (i := 49) (by decide) rfl (by decide +kernel) ?_
  refine sw_if_le (off := 4) 8 (by decide +kernel) (by decide) (fun c1 => ?_) (fun c1 => ?_)
  · rw [if_pos c1] at h
    refine sw_aload_n (k0 := 0) 0 rfl (by decide +kernel) rfl ?_
    refine sw_aload_n (k0 := 0) 0 rfl (by decide +kernel) rfl ?_
    refine gf_X10_145 (i := 49) (by decide) rfl (by decide +kernel) ?_
    refine sw_iconst (n := 3) (v := 3) (by decide +kernel) (by decide) ?_
    refine sw_icmp_ne (off := 7) 21 (by decide +kernel) (by decide) (fun c2 => ?_) (fun c2 => ?_)
    · rw [if_neg c2] at h
      refine sw_iload_n (k0 := 1) 1 rfl (by decide +kernel) rfl ?_
      refine sw_lv [0] rfl ?_
      exact sX10_wrong_L22 hK σ a1 h hk
    · rw [if_pos c2] at h
      refine sw_iconst (n := 1) (v := 1) (by decide +kernel) (by decide) ?_
      refine sw_goto (off := 4) 22 (by decide +kernel) (by decide) ?_
      refine sw_lv [0] rfl ?_
      exact sX10_wrong_L22 hK σ 1 h hk
  · rw [if_neg c1] at h
    cases h
    obtain rfl : _ = res := hk
    exact sw_vret (by decide +kernel)
def fX10_isWord (σ : sw_M) (a1 : Int64) : Int32 :=
  if (σ.1 49 6) = 1 then
    if (lg_cmp (σ.2.1 49 9) a1) = 0 then
      1
    else
      0
  else
    0
set_option maxRecDepth 20000 in
theorem sX10_isWord {l : Launch} {E : sw_E} {K : Nat} (hK : 0 ≤ K) (σ : sw_M) (a1 : Int64) {res : Int32} (h : fX10_isWord σ a1 = res) : sw_Ct l E K yX10_isWord cX10_isWord 3 (some .boolean) [.ref 49, .long a1] σ (some (.int res)) σ := by
  obtain ⟨t, hk, h⟩ : ∃ t, t = res ∧ fX10_isWord σ a1 = t := ⟨res, rfl, h⟩
  unfold fX10_isWord at h
  refine sw_enter2 (own := RX10) (lv := [(0, .ref 49), (1, .long a1)]) (by decide +kernel) (Nat.le_of_ble_eq_true rfl) rfl rfl ?_
  refine sw_aload_n (k0 := 0) 0 rfl (by decide +kernel) rfl ?_
  refine gf_X10_145 (i := 49) (by decide) rfl (by decide +kernel) ?_
  refine sw_iconst (n := 1) (v := 1) (by decide +kernel) (by decide) ?_
  refine sw_icmp_ne (off := 16) 21 (by decide +kernel) (by decide) (fun c1 => ?_) (fun c1 => ?_)
  · rw [if_neg c1] at h
    refine sw_iconst (n := 0) (v := 0) (by decide +kernel) (by decide) ?_
    subst h
    obtain rfl : _ = res := hk
    exact sw_zret rfl (by decide +kernel)
  · rw [if_pos c1] at h
    refine sw_aload_n (k0 := 0) 0 rfl (by decide +kernel) rfl ?_
    refine gf_X10_138 (i := 49) (by decide) rfl (by decide +kernel) ?_
    refine sw_lload_n (k0 := 1) 1 rfl (by decide +kernel) rfl ?_
    refine sw_lcmp (by decide +kernel) ?_
    refine sw_if_ne (off := 7) 21 (by decide +kernel) (by decide) (fun c2 => ?_) (fun c2 => ?_)
    · rw [if_neg c2] at h
      refine sw_iconst (n := 0) (v := 0) (by decide +kernel) (by decide) ?_
      subst h
      obtain rfl : _ = res := hk
      exact sw_zret rfl (by decide +kernel)
    · rw [if_pos c2] at h
      refine sw_iconst (n := 1) (v := 1) (by decide +kernel) (by decide) ?_
      refine sw_goto (off := 4) 22 (by decide +kernel) (by decide) ?_
      subst h
      obtain rfl : _ = res := hk
      exact sw_zret rfl (by decide +kernel)
theorem bX10_isWord (σ : sw_M) (a1 : Int64) : fX10_isWord σ a1 = 0 ∨ fX10_isWord σ a1 = 1 := by
  simp only [fX10_isWord, sw_let]
  repeat' (first | exact Or.inl rfl | exact Or.inr rfl | refine sw_ite_bo ?_ ?_)
def fX10_isOwn (σ : sw_M) : Int32 :=
  if (lg_cmp (σ.2.1 49 9) 1802071652) = 0 then
    1
  else
    if (lg_cmp (σ.2.1 49 9) 123581014175598) = 0 then
      1
    else
      if (lg_cmp (σ.2.1 49 9) 6840691) = 0 then
        1
      else
        if (lg_cmp (σ.2.1 49 9) 422775975027) = 0 then
          1
        else
          if (lg_cmp (σ.2.1 49 9) 1768846447) = 0 then
            1
          else
            if (lg_cmp (σ.2.1 49 9) 422541748590) = 0 then
              1
            else
              if (lg_cmp (σ.2.1 49 9) 512735736947) = 0 then
                1
              else
                if (lg_cmp (σ.2.1 49 9) 491395442035) = 0 then
                  1
                else
                  if (lg_cmp (σ.2.1 49 9) 1935897965) = 0 then
                    1
                  else
                    if (lg_cmp (σ.2.1 49 9) 1685217655) = 0 then
                      1
                    else
                      if (lg_cmp (σ.2.1 49 9) 6384748) = 0 then
                        1
                      else
                        if (lg_cmp (σ.2.1 49 9) 461330343027) = 0 then
                          1
                        else
                          if (lg_cmp (σ.2.1 49 9) 1836020596) = 0 then
                            1
                          else
                            if (lg_cmp (σ.2.1 49 9) 465557353332) = 0 then
                              1
                            else
                              if (lg_cmp (σ.2.1 49 9) 32762613647897203) = 0 then
                                1
                              else
                                if (lg_cmp (σ.2.1 49 9) 6578553) = 0 then
                                  1
                                else
                                  if (lg_cmp (σ.2.1 49 9) 6385252) = 0 then
                                    1
                                  else
                                    if (lg_cmp (σ.2.1 49 9) 28530) = 0 then
                                      1
                                    else
                                      if (lg_cmp (σ.2.1 49 9) 7237492) = 0 then
                                        1
                                      else
                                        0
set_option maxRecDepth 20000 in
theorem sX10_isOwn {l : Launch} {E : sw_E} {K : Nat} (hK : 0 ≤ K) (σ : sw_M) {res : Int32} (h : fX10_isOwn σ = res) : sw_Ct l E K yX10_isOwn cX10_isOwn 1 (some .boolean) [.ref 49] σ (some (.int res)) σ := by
  obtain ⟨t, hk, h⟩ : ∃ t, t = res ∧ fX10_isOwn σ = t := ⟨res, rfl, h⟩
  unfold fX10_isOwn at h
  refine sw_enter2 (own := RX10) (lv := [(0, .ref 49)]) (by decide +kernel) (Nat.le_of_ble_eq_true rfl) rfl rfl ?_
  refine sw_aload_n (k0 := 0) 0 rfl (by decide +kernel) rfl ?_
  refine gf_X10_138 (i := 49) (by decide) rfl (by decide +kernel) ?_
  refine sw_ldc2 kn_X10_161 (by decide +kernel) ?_
  refine sw_lcmp (by decide +kernel) ?_
  refine sw_if_eq (off := 201) 209 (by decide +kernel) (by decide) (fun c1 => ?_) (fun c1 => ?_)
  · rw [if_pos c1] at h
    refine sw_iconst (n := 1) (v := 1) (by decide +kernel) (by decide) ?_
    refine sw_goto (off := 4) 214 (by decide +kernel) (by decide) ?_
    subst h
    obtain rfl : _ = res := hk
    exact sw_zret rfl (by decide +kernel)
  · rw [if_neg c1] at h
    refine sw_aload_n (k0 := 0) 0 rfl (by decide +kernel) rfl ?_
    refine gf_X10_138 (i := 49) (by decide) rfl (by decide +kernel) ?_
    refine sw_ldc2 kn_X10_163 (by decide +kernel) ?_
    refine sw_lcmp (by decide +kernel) ?_
    refine sw_if_eq (off := 190) 209 (by decide +kernel) (by decide) (fun c2 => ?_) (fun c2 => ?_)
    · rw [if_pos c2] at h
      refine sw_iconst (n := 1) (v := 1) (by decide +kernel) (by decide) ?_
      refine sw_goto (off := 4) 214 (by decide +kernel) (by decide) ?_
      subst h
      obtain rfl : _ = res := hk
      exact sw_zret rfl (by decide +kernel)
    · rw [if_neg c2] at h
      refine sw_aload_n (k0 := 0) 0 rfl (by decide +kernel) rfl ?_
      refine gf_X10_138 (i := 49) (by decide) rfl (by decide +kernel) ?_
      refine sw_ldc2 kn_X10_165 (by decide +kernel) ?_
      refine sw_lcmp (by decide +kernel) ?_
      refine sw_if_eq (off := 179) 209 (by decide +kernel) (by decide) (fun c3 => ?_) (fun c3 => ?_)
      · rw [if_pos c3] at h
        refine sw_iconst (n := 1) (v := 1) (by decide +kernel) (by decide) ?_
        refine sw_goto (off := 4) 214 (by decide +kernel) (by decide) ?_
        subst h
        obtain rfl : _ = res := hk
        exact sw_zret rfl (by decide +kernel)
      · rw [if_neg c3] at h
        refine sw_aload_n (k0 := 0) 0 rfl (by decide +kernel) rfl ?_
        refine gf_X10_138 (i := 49) (by decide) rfl (by decide +kernel) ?_
        refine sw_ldc2 kn_X10_167 (by decide +kernel) ?_
        refine sw_lcmp (by decide +kernel) ?_
        refine sw_if_eq (off := 168) 209 (by decide +kernel) (by decide) (fun c4 => ?_) (fun c4 => ?_)
        · rw [if_pos c4] at h
          refine sw_iconst (n := 1) (v := 1) (by decide +kernel) (by decide) ?_
          refine sw_goto (off := 4) 214 (by decide +kernel) (by decide) ?_
          subst h
          obtain rfl : _ = res := hk
          exact sw_zret rfl (by decide +kernel)
        · rw [if_neg c4] at h
          refine sw_aload_n (k0 := 0) 0 rfl (by decide +kernel) rfl ?_
          refine gf_X10_138 (i := 49) (by decide) rfl (by decide +kernel) ?_
          refine sw_ldc2 kn_X10_169 (by decide +kernel) ?_
          refine sw_lcmp (by decide +kernel) ?_
          refine sw_if_eq (off := 157) 209 (by decide +kernel) (by decide) (fun c5 => ?_) (fun c5 => ?_)
          · rw [if_pos c5] at h
            refine sw_iconst (n := 1) (v := 1) (by decide +kernel) (by decide) ?_
            refine sw_goto (off := 4) 214 (by decide +kernel) (by decide) ?_
            subst h
            obtain rfl : _ = res := hk
            exact sw_zret rfl (by decide +kernel)
          · rw [if_neg c5] at h
            refine sw_aload_n (k0 := 0) 0 rfl (by decide +kernel) rfl ?_
            refine gf_X10_138 (i := 49) (by decide) rfl (by decide +kernel) ?_
            refine sw_ldc2 kn_X10_171 (by decide +kernel) ?_
            refine sw_lcmp (by decide +kernel) ?_
            refine sw_if_eq (off := 146) 209 (by decide +kernel) (by decide) (fun c6 => ?_) (fun c6 => ?_)
            · rw [if_pos c6] at h
              refine sw_iconst (n := 1) (v := 1) (by decide +kernel) (by decide) ?_
              refine sw_goto (off := 4) 214 (by decide +kernel) (by decide) ?_
              subst h
              obtain rfl : _ = res := hk
              exact sw_zret rfl (by decide +kernel)
            · rw [if_neg c6] at h
              refine sw_aload_n (k0 := 0) 0 rfl (by decide +kernel) rfl ?_
              refine gf_X10_138 (i := 49) (by decide) rfl (by decide +kernel) ?_
              refine sw_ldc2 kn_X10_173 (by decide +kernel) ?_
              refine sw_lcmp (by decide +kernel) ?_
              refine sw_if_eq (off := 135) 209 (by decide +kernel) (by decide) (fun c7 => ?_) (fun c7 => ?_)
              · rw [if_pos c7] at h
                refine sw_iconst (n := 1) (v := 1) (by decide +kernel) (by decide) ?_
                refine sw_goto (off := 4) 214 (by decide +kernel) (by decide) ?_
                subst h
                obtain rfl : _ = res := hk
                exact sw_zret rfl (by decide +kernel)
              · rw [if_neg c7] at h
                refine sw_aload_n (k0 := 0) 0 rfl (by decide +kernel) rfl ?_
                refine gf_X10_138 (i := 49) (by decide) rfl (by decide +kernel) ?_
                refine sw_ldc2 kn_X10_175 (by decide +kernel) ?_
                refine sw_lcmp (by decide +kernel) ?_
                refine sw_if_eq (off := 124) 209 (by decide +kernel) (by decide) (fun c8 => ?_) (fun c8 => ?_)
                · rw [if_pos c8] at h
                  refine sw_iconst (n := 1) (v := 1) (by decide +kernel) (by decide) ?_
                  refine sw_goto (off := 4) 214 (by decide +kernel) (by decide) ?_
                  subst h
                  obtain rfl : _ = res := hk
                  exact sw_zret rfl (by decide +kernel)
                · rw [if_neg c8] at h
                  refine sw_aload_n (k0 := 0) 0 rfl (by decide +kernel) rfl ?_
                  refine gf_X10_138 (i := 49) (by decide) rfl (by decide +kernel) ?_
                  refine sw_ldc2 kn_X10_177 (by decide +kernel) ?_
                  refine sw_lcmp (by decide +kernel) ?_
                  refine sw_if_eq (off := 113) 209 (by decide +kernel) (by decide) (fun c9 => ?_) (fun c9 => ?_)
                  · rw [if_pos c9] at h
                    refine sw_iconst (n := 1) (v := 1) (by decide +kernel) (by decide) ?_
                    refine sw_goto (off := 4) 214 (by decide +kernel) (by decide) ?_
                    subst h
                    obtain rfl : _ = res := hk
                    exact sw_zret rfl (by decide +kernel)
                  · rw [if_neg c9] at h
                    refine sw_aload_n (k0 := 0) 0 rfl (by decide +kernel) rfl ?_
                    refine gf_X10_138 (i := 49) (by decide) rfl (by decide +kernel) ?_
                    refine sw_ldc2 kn_X10_179 (by decide +kernel) ?_
                    refine sw_lcmp (by decide +kernel) ?_
                    refine sw_if_eq (off := 102) 209 (by decide +kernel) (by decide) (fun c10 => ?_) (fun c10 => ?_)
                    · rw [if_pos c10] at h
                      refine sw_iconst (n := 1) (v := 1) (by decide +kernel) (by decide) ?_
                      refine sw_goto (off := 4) 214 (by decide +kernel) (by decide) ?_
                      subst h
                      obtain rfl : _ = res := hk
                      exact sw_zret rfl (by decide +kernel)
                    · rw [if_neg c10] at h
                      refine sw_aload_n (k0 := 0) 0 rfl (by decide +kernel) rfl ?_
                      refine gf_X10_138 (i := 49) (by decide) rfl (by decide +kernel) ?_
                      refine sw_ldc2 kn_X10_181 (by decide +kernel) ?_
                      refine sw_lcmp (by decide +kernel) ?_
                      refine sw_if_eq (off := 91) 209 (by decide +kernel) (by decide) (fun c11 => ?_) (fun c11 => ?_)
                      · rw [if_pos c11] at h
                        refine sw_iconst (n := 1) (v := 1) (by decide +kernel) (by decide) ?_
                        refine sw_goto (off := 4) 214 (by decide +kernel) (by decide) ?_
                        subst h
                        obtain rfl : _ = res := hk
                        exact sw_zret rfl (by decide +kernel)
                      · rw [if_neg c11] at h
                        refine sw_aload_n (k0 := 0) 0 rfl (by decide +kernel) rfl ?_
                        refine gf_X10_138 (i := 49) (by decide) rfl (by decide +kernel) ?_
                        refine sw_ldc2 kn_X10_183 (by decide +kernel) ?_
                        refine sw_lcmp (by decide +kernel) ?_
                        refine sw_if_eq (off := 80) 209 (by decide +kernel) (by decide) (fun c12 => ?_) (fun c12 => ?_)
                        · rw [if_pos c12] at h
                          refine sw_iconst (n := 1) (v := 1) (by decide +kernel) (by decide) ?_
                          refine sw_goto (off := 4) 214 (by decide +kernel) (by decide) ?_
                          subst h
                          obtain rfl : _ = res := hk
                          exact sw_zret rfl (by decide +kernel)
                        · rw [if_neg c12] at h
                          refine sw_aload_n (k0 := 0) 0 rfl (by decide +kernel) rfl ?_
                          refine gf_X10_138 (i := 49) (by decide) rfl (by decide +kernel) ?_
                          refine sw_ldc2 kn_X10_185 (by decide +kernel) ?_
                          refine sw_lcmp (by decide +kernel) ?_
                          refine sw_if_eq (off := 69) 209 (by decide +kernel) (by decide) (fun c13 => ?_) (fun c13 => ?_)
                          · rw [if_pos c13] at h
                            refine sw_iconst (n := 1) (v := 1) (by decide +kernel) (by decide) ?_
                            refine sw_goto (off := 4) 214 (by decide +kernel) (by decide) ?_
                            subst h
                            obtain rfl : _ = res := hk
                            exact sw_zret rfl (by decide +kernel)
                          · rw [if_neg c13] at h
                            refine sw_aload_n (k0 := 0) 0 rfl (by decide +kernel) rfl ?_
                            refine gf_X10_138 (i := 49) (by decide) rfl (by decide +kernel) ?_
                            refine sw_ldc2 kn_X10_187 (by decide +kernel) ?_
                            refine sw_lcmp (by decide +kernel) ?_
                            refine sw_if_eq (off := 58) 209 (by decide +kernel) (by decide) (fun c14 => ?_) (fun c14 => ?_)
                            · rw [if_pos c14] at h
                              refine sw_iconst (n := 1) (v := 1) (by decide +kernel) (by decide) ?_
                              refine sw_goto (off := 4) 214 (by decide +kernel) (by decide) ?_
                              subst h
                              obtain rfl : _ = res := hk
                              exact sw_zret rfl (by decide +kernel)
                            · rw [if_neg c14] at h
                              refine sw_aload_n (k0 := 0) 0 rfl (by decide +kernel) rfl ?_
                              refine gf_X10_138 (i := 49) (by decide) rfl (by decide +kernel) ?_
                              refine sw_ldc2 kn_X10_189 (by decide +kernel) ?_
                              refine sw_lcmp (by decide +kernel) ?_
                              refine sw_if_eq (off := 47) 209 (by decide +kernel) (by decide) (fun c15 => ?_) (fun c15 => ?_)
                              · rw [if_pos c15] at h
                                refine sw_iconst (n := 1) (v := 1) (by decide +kernel) (by decide) ?_
                                refine sw_goto (off := 4) 214 (by decide +kernel) (by decide) ?_
                                subst h
                                obtain rfl : _ = res := hk
                                exact sw_zret rfl (by decide +kernel)
                              · rw [if_neg c15] at h
                                refine sw_aload_n (k0 := 0) 0 rfl (by decide +kernel) rfl ?_
                                refine gf_X10_138 (i := 49) (by decide) rfl (by decide +kernel) ?_
                                refine sw_ldc2 kn_X10_191 (by decide +kernel) ?_
                                refine sw_lcmp (by decide +kernel) ?_
                                refine sw_if_eq (off := 36) 209 (by decide +kernel) (by decide) (fun c16 => ?_) (fun c16 => ?_)
                                · rw [if_pos c16] at h
                                  refine sw_iconst (n := 1) (v := 1) (by decide +kernel) (by decide) ?_
                                  refine sw_goto (off := 4) 214 (by decide +kernel) (by decide) ?_
                                  subst h
                                  obtain rfl : _ = res := hk
                                  exact sw_zret rfl (by decide +kernel)
                                · rw [if_neg c16] at h
                                  refine sw_aload_n (k0 := 0) 0 rfl (by decide +kernel) rfl ?_
                                  refine gf_X10_138 (i := 49) (by decide) rfl (by decide +kernel) ?_
                                  refine sw_ldc2 kn_X10_193 (by decide +kernel) ?_
                                  refine sw_lcmp (by decide +kernel) ?_
                                  refine sw_if_eq (off := 25) 209 (by decide +kernel) (by decide) (fun c17 => ?_) (fun c17 => ?_)
                                  · rw [if_pos c17] at h
                                    refine sw_iconst (n := 1) (v := 1) (by decide +kernel) (by decide) ?_
                                    refine sw_goto (off := 4) 214 (by decide +kernel) (by decide) ?_
                                    subst h
                                    obtain rfl : _ = res := hk
                                    exact sw_zret rfl (by decide +kernel)
                                  · rw [if_neg c17] at h
                                    refine sw_aload_n (k0 := 0) 0 rfl (by decide +kernel) rfl ?_
                                    refine gf_X10_138 (i := 49) (by decide) rfl (by decide +kernel) ?_
                                    refine sw_ldc2 kn_X10_195 (by decide +kernel) ?_
                                    refine sw_lcmp (by decide +kernel) ?_
                                    refine sw_if_eq (off := 14) 209 (by decide +kernel) (by decide) (fun c18 => ?_) (fun c18 => ?_)
                                    · rw [if_pos c18] at h
                                      refine sw_iconst (n := 1) (v := 1) (by decide +kernel) (by decide) ?_
                                      refine sw_goto (off := 4) 214 (by decide +kernel) (by decide) ?_
                                      subst h
                                      obtain rfl : _ = res := hk
                                      exact sw_zret rfl (by decide +kernel)
                                    · rw [if_neg c18] at h
                                      refine sw_aload_n (k0 := 0) 0 rfl (by decide +kernel) rfl ?_
                                      refine gf_X10_138 (i := 49) (by decide) rfl (by decide +kernel) ?_
                                      refine sw_ldc2 kn_X10_197 (by decide +kernel) ?_
                                      refine sw_lcmp (by decide +kernel) ?_
                                      refine sw_if_ne (off := 7) 213 (by decide +kernel) (by decide) (fun c19 => ?_) (fun c19 => ?_)
                                      · rw [if_neg c19] at h
                                        refine sw_iconst (n := 0) (v := 0) (by decide +kernel) (by decide) ?_
                                        subst h
                                        obtain rfl : _ = res := hk
                                        exact sw_zret rfl (by decide +kernel)
                                      · rw [if_pos c19] at h
                                        refine sw_iconst (n := 1) (v := 1) (by decide +kernel) (by decide) ?_
                                        refine sw_goto (off := 4) 214 (by decide +kernel) (by decide) ?_
                                        subst h
                                        obtain rfl : _ = res := hk
                                        exact sw_zret rfl (by decide +kernel)
theorem bX10_isOwn (σ : sw_M) : fX10_isOwn σ = 0 ∨ fX10_isOwn σ = 1 := by
  simp only [fX10_isOwn, sw_let]
  repeat' (first | exact Or.inl rfl | exact Or.inr rfl | refine sw_ite_bo ?_ ?_)
def fX10_isName (σ : sw_M) : Int32 :=
  if (σ.1 49 6) = 1 then
    if (fX10_isOwn σ) = 0 then
      1
    else
      0
  else
    0
set_option maxRecDepth 20000 in
theorem sX10_isName {l : Launch} {E : sw_E} {K : Nat} (hK : 1 ≤ K) (σ : sw_M) {res : Int32} (h : fX10_isName σ = res) : sw_Ct l E K yX10_isName cX10_isName 1 (some .boolean) [.ref 49] σ (some (.int res)) σ := by
  obtain ⟨t, hk, h⟩ : ∃ t, t = res ∧ fX10_isName σ = t := ⟨res, rfl, h⟩
  unfold fX10_isName at h
  refine sw_enter2 (own := RX10) (lv := [(0, .ref 49)]) (by decide +kernel) (Nat.le_of_ble_eq_true rfl) rfl rfl ?_
  refine sw_aload_n (k0 := 0) 0 rfl (by decide +kernel) rfl ?_
  refine gf_X10_145 (i := 49) (by decide) rfl (by decide +kernel) ?_
  refine sw_iconst (n := 1) (v := 1) (by decide +kernel) (by decide) ?_
  refine sw_icmp_ne (off := 14) 19 (by decide +kernel) (by decide) (fun c1 => ?_) (fun c1 => ?_)
  · rw [if_neg c1] at h
    refine sw_iconst (n := 0) (v := 0) (by decide +kernel) (by decide) ?_
    subst h
    obtain rfl : _ = res := hk
    exact sw_zret rfl (by decide +kernel)
  · rw [if_pos c1] at h
    refine sw_aload_n (k0 := 0) 0 rfl (by decide +kernel) rfl ?_
    refine sw_callVi (ci := 10) (i := 49) [] (sX10_isOwn (K := K - 1) (by omega) σ rfl) rfl (by omega) rfl gs_X10_199 hy_X10_isOwn (by decide) (by decide) rfl rfl (Nat.le_of_ble_eq_true rfl) (by decide +kernel) ?_
    refine sw_if_ne (off := 7) 19 (by decide +kernel) (by decide) (fun c2 => ?_) (fun c2 => ?_)
    · rw [if_neg c2] at h
      refine sw_iconst (n := 0) (v := 0) (by decide +kernel) (by decide) ?_
      subst h
      obtain rfl : _ = res := hk
      exact sw_zret rfl (by decide +kernel)
    · rw [if_pos c2] at h
      refine sw_iconst (n := 1) (v := 1) (by decide +kernel) (by decide) ?_
      refine sw_goto (off := 4) 20 (by decide +kernel) (by decide) ?_
      subst h
      obtain rfl : _ = res := hk
      exact sw_zret rfl (by decide +kernel)
theorem bX10_isName (σ : sw_M) : fX10_isName σ = 0 ∨ fX10_isName σ = 1 := by
  simp only [fX10_isName, sw_let]
  repeat' (first | exact Or.inl rfl | exact Or.inr rfl | refine sw_ite_bo ?_ ?_)
def fX10_want (σ : sw_M) (a1 : Int64) : Option (sw_M) :=
  if (σ.1 49 2) ≤ 0 then
    if (fX10_isWord σ a1) = 0 then
      sw_b1 (fX10_wrong σ 2) fun m5 =>
      some (m5)
    else
      sw_b1 (fX10_token σ) fun m3 =>
      some (m3)
  else
    some (σ)
set_option maxRecDepth 20000 in
theorem sX10_want {l : Launch} {E : sw_E} {K : Nat} (hK : 2 ≤ K) (σ : sw_M) (a1 : Int64) {res : sw_M} (h : fX10_want σ a1 = some res) : sw_Ct l E K yX10_want cX10_want 3 none [.ref 49, .long a1] σ none res := by
  obtain ⟨t, hk, h⟩ : ∃ t, t = res ∧ fX10_want σ a1 = some t := ⟨res, rfl, h⟩
  unfold fX10_want at h
  refine sw_enter2 (own := RX10) (lv := [(0, .ref 49), (1, .long a1)]) (by decide +kernel) (Nat.le_of_ble_eq_true rfl) rfl rfl ?_
  refine sw_aload_n (k0 := 0) 0 rfl (by decide +kernel) rfl ?_
  refine gf_X10_158 (i := 49) (by decide) rfl (by decide +kernel) ?_
  refine sw_if_le (off := 4) 8 (by decide +kernel) (by decide) (fun c1 => ?_) (fun c1 => ?_)
  · rw [if_pos c1] at h
    refine sw_aload_n (k0 := 0) 0 rfl (by decide +kernel) rfl ?_
    refine sw_lload_n (k0 := 1) 1 rfl (by decide +kernel) rfl ?_
    refine sw_callVi (ci := 10) (i := 49) [.long a1] (sX10_isWord (K := K - 1) (by omega) σ a1 rfl) rfl (by omega) rfl gs_X10_203 hy_X10_isWord (by decide) (by decide) rfl rfl (Nat.le_of_ble_eq_true rfl) (by decide +kernel) ?_
    refine sw_if_ne (off := 11) 24 (by decide +kernel) (by decide) (fun c2 => ?_) (fun c2 => ?_)
    · rw [if_neg c2] at h
      refine sw_aload_n (k0 := 0) 0 rfl (by decide +kernel) rfl ?_
      obtain ⟨m3, w4, h⟩ := sw_b1_e h
      refine sw_callVv (ci := 10) (i := 49) [] (sX10_token (K := K - 1) (by omega) σ w4) rfl (by omega) rfl gs_X10_210 hy_X10_token (by decide) (by decide) rfl rfl (Nat.le_of_ble_eq_true rfl) (by decide +kernel) ?_
      cases h
      obtain rfl : _ = res := hk
      exact sw_vret (by decide +kernel)
    · rw [if_pos c2] at h
      refine sw_aload_n (k0 := 0) 0 rfl (by decide +kernel) rfl ?_
      refine sw_iconst (n := 2) (v := 2) (by decide +kernel) (by decide) ?_
      obtain ⟨m5, w6, h⟩ := sw_b1_e h
      refine sw_callVv (ci := 10) (i := 49) [.int 2] (sX10_wrong (K := K - 1) (by omega) σ 2 w6) rfl (by omega) rfl gs_X10_207 hy_X10_wrong (by decide) (by decide) rfl rfl (Nat.le_of_ble_eq_true rfl) (by decide +kernel) ?_
      refine sw_goto (off := 7) 28 (by decide +kernel) (by decide) ?_
      cases h
      obtain rfl : _ = res := hk
      exact sw_vret (by decide +kernel)
  · rw [if_neg c1] at h
    cases h
    obtain rfl : _ = res := hk
    exact sw_vret (by decide +kernel)
def fX10_toldNumber_L46 (σ : sw_M) : Option ((Int32 × sw_M)) :=
  sw_let (σ.1 49 8) fun v1 =>
  if (σ.1 49 2) = 0 then
    sw_b1 (fX10_token σ) fun m4 =>
    some ((v1, m4))
  else
    some ((v1, σ))
def fX10_toldNumber_L41 (σ : sw_M) : Option ((Int32 × sw_M)) :=
  sw_b1 (fX10_wrong σ 4) fun m1 =>
  fX10_toldNumber_L46 m1
def fX10_toldNumber (σ : sw_M) (a1 : Int32) (a2 : Int32) : Option (Int32 × sw_M) :=
  if (σ.1 49 2) ≤ 0 then
    if (σ.1 49 6) = 2 then
      if (σ.1 49 8) < a1 then
        fX10_toldNumber_L41 σ
      else
        if (σ.1 49 8) ≤ a2 then
          fX10_toldNumber_L46 σ
        else
          fX10_toldNumber_L41 σ
    else
      sw_b1 (fX10_wrong σ 2) fun m5 =>
      fX10_toldNumber_L46 m5
  else
    some ((0, σ))
set_option maxRecDepth 20000 in
theorem sX10_toldNumber_L46 {l : Launch} {E : sw_E} {K : Nat} (hK : 2 ≤ K) (σ : sw_M) {res : Int32 × sw_M} {t : (Int32 × sw_M)} (h : fX10_toldNumber_L46 σ = some t) (hk : (fun q => q = res) t) : sw_Go l E K RX10 cX10_toldNumber 4 (some .int) 46 [(0, .ref 49)] [] σ (some (.int res.1)) res.2 := by
  unfold fX10_toldNumber_L46 at h
  refine sw_aload_n (k0 := 0) 0 rfl (by decide +kernel) rfl ?_
  refine gf_X10_142 (i := 49) (by decide) rfl (by decide +kernel) ?_
  obtain ⟨v1, e2, h⟩ := sw_let_e h
  refine sw_topi e2 ?_
  refine sw_istore_n (k0 := 3) (lv' := [(3, .int v1), (0, .ref 49)]) (by decide +kernel) rfl (by decide) rfl ?_
  refine sw_aload_n (k0 := 0) 1 rfl (by decide +kernel) rfl ?_
  refine gf_X10_158 (i := 49) (by decide) rfl (by decide +kernel) ?_
  refine sw_if_ne (off := 7) 62 (by decide +kernel) (by decide) (fun c3 => ?_) (fun c3 => ?_)
  · rw [if_neg c3] at h
    refine sw_iload_n (k0 := 3) 0 rfl (by decide +kernel) rfl ?_
    cases h
    obtain rfl : _ = res := hk
    exact sw_iret (by decide +kernel)
  · rw [if_pos c3] at h
    refine sw_aload_n (k0 := 0) 1 rfl (by decide +kernel) rfl ?_
    obtain ⟨m4, w5, h⟩ := sw_b1_e h
    refine sw_callVv (ci := 10) (i := 49) [] (sX10_token (K := K - 1) (by omega) σ w5) rfl (by omega) rfl gs_X10_210 hy_X10_token (by decide) (by decide) rfl rfl (Nat.le_of_ble_eq_true rfl) (by decide +kernel) ?_
    refine sw_iload_n (k0 := 3) 0 rfl (by decide +kernel) rfl ?_
    cases h
    obtain rfl : _ = res := hk
    exact sw_iret (by decide +kernel)
set_option maxRecDepth 20000 in
theorem sX10_toldNumber_L41 {l : Launch} {E : sw_E} {K : Nat} (hK : 2 ≤ K) (σ : sw_M) {res : Int32 × sw_M} {t : (Int32 × sw_M)} (h : fX10_toldNumber_L41 σ = some t) (hk : (fun q => q = res) t) : sw_Go l E K RX10 cX10_toldNumber 4 (some .int) 41 [(0, .ref 49)] [] σ (some (.int res.1)) res.2 := by
  unfold fX10_toldNumber_L41 at h
  refine sw_aload_n (k0 := 0) 0 rfl (by decide +kernel) rfl ?_
  refine sw_iconst (n := 4) (v := 4) (by decide +kernel) (by decide) ?_
  obtain ⟨m1, w2, h⟩ := sw_b1_e h
  refine sw_callVv (ci := 10) (i := 49) [.int 4] (sX10_wrong (K := K - 1) (by omega) σ 4 w2) rfl (by omega) rfl gs_X10_207 hy_X10_wrong (by decide) (by decide) rfl rfl (Nat.le_of_ble_eq_true rfl) (by decide +kernel) ?_
  exact sX10_toldNumber_L46 hK m1 h hk
set_option maxRecDepth 20000 in
theorem sX10_toldNumber {l : Launch} {E : sw_E} {K : Nat} (hK : 2 ≤ K) (σ : sw_M) (a1 : Int32) (a2 : Int32) {res : Int32 × sw_M} (h : fX10_toldNumber σ a1 a2 = some res) : sw_Ct l E K yX10_toldNumber cX10_toldNumber 4 (some .int) [.ref 49, .int a1, .int a2] σ (some (.int res.1)) res.2 := by
  obtain ⟨t, hk, h⟩ : ∃ t, t = res ∧ fX10_toldNumber σ a1 a2 = some t := ⟨res, rfl, h⟩
  unfold fX10_toldNumber at h
  refine sw_enter2 (own := RX10) (lv := [(0, .ref 49), (1, .int a1), (2, .int a2)]) (by decide +kernel) (Nat.le_of_ble_eq_true rfl) rfl rfl ?_
  refine sw_aload_n (k0 := 0) 0 rfl (by decide +kernel) rfl ?_
  refine gf_X10_158 (i := 49) (by decide) rfl (by decide +kernel) ?_
  refine sw_if_le (off := 5) 9 (by decide +kernel) (by decide) (fun c1 => ?_) (fun c1 => ?_)
  · rw [if_pos c1] at h
    refine sw_aload_n (k0 := 0) 0 rfl (by decide +kernel) rfl ?_
    refine gf_X10_145 (i := 49) (by decide) rfl (by decide +kernel) ?_
    refine sw_iconst (n := 2) (v := 2) (by decide +kernel) (by decide) ?_
    refine sw_icmp_eq (off := 11) 25 (by decide +kernel) (by decide) (fun c2 => ?_) (fun c2 => ?_)
    · rw [if_pos c2] at h
      refine sw_aload_n (k0 := 0) 0 rfl (by decide +kernel) rfl ?_
      refine gf_X10_142 (i := 49) (by decide) rfl (by decide +kernel) ?_
      refine sw_iload_n (k0 := 1) 1 rfl (by decide +kernel) rfl ?_
      refine sw_icmp_lt (off := 11) 41 (by decide +kernel) (by decide) (fun c3 => ?_) (fun c3 => ?_)
      · rw [if_pos c3] at h
        refine sw_lv [0] rfl ?_
        exact sX10_toldNumber_L41 hK σ h hk
      · rw [if_neg c3] at h
        refine sw_aload_n (k0 := 0) 0 rfl (by decide +kernel) rfl ?_
        refine gf_X10_142 (i := 49) (by decide) rfl (by decide +kernel) ?_
        refine sw_iload_n (k0 := 2) 2 rfl (by decide +kernel) rfl ?_
        refine sw_icmp_le (off := 8) 46 (by decide +kernel) (by decide) (fun c4 => ?_) (fun c4 => ?_)
        · rw [if_pos c4] at h
          refine sw_lv [0] rfl ?_
          exact sX10_toldNumber_L46 hK σ h hk
        · rw [if_neg c4] at h
          refine sw_lv [0] rfl ?_
          exact sX10_toldNumber_L41 hK σ h hk
    · rw [if_neg c2] at h
      refine sw_aload_n (k0 := 0) 0 rfl (by decide +kernel) rfl ?_
      refine sw_iconst (n := 2) (v := 2) (by decide +kernel) (by decide) ?_
      obtain ⟨m5, w6, h⟩ := sw_b1_e h
      refine sw_callVv (ci := 10) (i := 49) [.int 2] (sX10_wrong (K := K - 1) (by omega) σ 2 w6) rfl (by omega) rfl gs_X10_207 hy_X10_wrong (by decide) (by decide) rfl rfl (Nat.le_of_ble_eq_true rfl) (by decide +kernel) ?_
      refine sw_goto (off := 24) 46 (by decide +kernel) (by decide) ?_
      refine sw_lv [0] rfl ?_
      exact sX10_toldNumber_L46 hK m5 h hk
  · rw [if_neg c1] at h
    refine sw_iconst (n := 0) (v := 0) (by decide +kernel) (by decide) ?_
    cases h
    obtain rfl : _ = res := hk
    exact sw_iret (by decide +kernel)
def fX10_told (σ : sw_M) (a1 : Int64) (a3 : Int32) (a4 : Int32) : Option (Int32 × sw_M) :=
  sw_b1 (fX10_want σ a1) fun m1 =>
  sw_b2 (fX10_toldNumber m1 a3 a4) fun r3 m4 =>
  some ((r3, m4))
set_option maxRecDepth 20000 in
theorem sX10_told {l : Launch} {E : sw_E} {K : Nat} (hK : 3 ≤ K) (σ : sw_M) (a1 : Int64) (a3 : Int32) (a4 : Int32) {res : Int32 × sw_M} (h : fX10_told σ a1 a3 a4 = some res) : sw_Ct l E K yX10_told cX10_told 5 (some .int) [.ref 49, .long a1, .int a3, .int a4] σ (some (.int res.1)) res.2 := by
  obtain ⟨t, hk, h⟩ : ∃ t, t = res ∧ fX10_told σ a1 a3 a4 = some t := ⟨res, rfl, h⟩
  unfold fX10_told at h
  refine sw_enter2 (own := RX10) (lv := [(0, .ref 49), (1, .long a1), (3, .int a3), (4, .int a4)]) (by decide +kernel) (Nat.le_of_ble_eq_true rfl) rfl rfl ?_
  refine sw_aload_n (k0 := 0) 0 rfl (by decide +kernel) rfl ?_
  refine sw_lload_n (k0 := 1) 1 rfl (by decide +kernel) rfl ?_
  obtain ⟨m1, w2, h⟩ := sw_b1_e h
  refine sw_callVv (ci := 10) (i := 49) [.long a1] (sX10_want (K := K - 1) (by omega) σ a1 w2) rfl (by omega) rfl gs_X10_213 hy_X10_want (by decide) (by decide) rfl rfl (Nat.le_of_ble_eq_true rfl) (by decide +kernel) ?_
  refine sw_aload_n (k0 := 0) 0 rfl (by decide +kernel) rfl ?_
  refine sw_iload_n (k0 := 3) 2 rfl (by decide +kernel) rfl ?_
  refine sw_iload 3 rfl (by decide +kernel) ?_
  obtain ⟨r3, m4, w5, h⟩ := sw_b2_e h
  refine sw_callVi (ci := 10) (i := 49) [.int a3, .int a4] (sX10_toldNumber (K := K - 1) (by omega) m1 a3 a4 w5) rfl (by omega) rfl gs_X10_217 hy_X10_toldNumber (by decide) (by decide) rfl rfl (Nat.le_of_ble_eq_true rfl) (by decide +kernel) ?_
  cases h
  obtain rfl : _ = res := hk
  exact sw_iret (by decide +kernel)
def fX10_find_L34 (σ : sw_M) (a1 : Int32) (a2 : Int32) (a4 : Int32) (b0 : Int32) : Option ((Int32 × Int32) ⊕ (Int32)) :=
  sw_let (a4 + 1) fun v1 =>
  some (.inl (b0, v1))
def fX10_find_L5 (σ : sw_M) (a1 : Int32) (a2 : Int32) (a3 : Int32) (a4 : Int32) : Option ((Int32 × Int32) ⊕ (Int32)) :=
  if a2 ≤ a4 then
    some (.inr (a3))
  else
    sw_gd (sw_in (a1 + a4) 16) <|
    if (lg_cmp (σ.2.1 51 (a1 + a4).toNatClampNeg) (σ.2.1 49 9)) = 0 then
      fX10_find_L34 σ a1 a2 a4 a4
    else
      fX10_find_L34 σ a1 a2 a4 a3
def fX10_find (σ : sw_M) (a1 : Int32) (a2 : Int32) : Option (Int32) :=
  sw_wh sw_F (fun s => fX10_find_L5 σ a1 a2 s.1 s.2) ((-1), 0)
set_option maxRecDepth 20000 in
theorem sX10_find_L34 {l : Launch} {E : sw_E} {K : Nat} (hK : 0 ≤ K) (σ : sw_M) (a1 : Int32) (a2 : Int32) (a4 : Int32) (b0 : Int32) {res : Int32} {t : (Int32 × Int32) ⊕ (Int32)} (h : fX10_find_L34 σ a1 a2 a4 b0 = some t) (hk : (Sum.elim (fun s : Int32 × Int32 => sw_Go l E K RX10 cX10_find 5 (some .int) 5 [(0, .ref 49), (1, .int a1), (2, .int a2), (3, .int s.1), (4, .int s.2)] [] σ (some (.int res)) σ) (fun q => q = res)) t) : sw_Go l E K RX10 cX10_find 5 (some .int) 34 [(0, .ref 49), (1, .int a1), (2, .int a2), (4, .int a4)] [.int b0] σ (some (.int res)) σ := by
  unfold fX10_find_L34 at h
  refine sw_istore_n (k0 := 3) (lv' := [(3, .int b0), (0, .ref 49), (1, .int a1), (2, .int a2), (4, .int a4)]) (by decide +kernel) rfl (by decide) rfl ?_
  obtain ⟨v1, e2, h⟩ := sw_let_e h
  refine sw_iincv (i := 4) (n := 1) (lv' := [(4, .int v1), (3, .int b0), (0, .ref 49), (1, .int a1), (2, .int a2)]) 4 rfl e2 (by decide +kernel) (by decide) (by decide) rfl ?_
  refine sw_goto (off := (-33)) 5 (by decide +kernel) (by decide) ?_
  cases h
  refine sw_lv [2, 3, 4, 1, 0] rfl ?_
  exact hk
set_option maxRecDepth 20000 in
theorem sX10_find_L5 {l : Launch} {E : sw_E} {K : Nat} (hK : 0 ≤ K) (σ : sw_M) (a1 : Int32) (a2 : Int32) (a3 : Int32) (a4 : Int32) {res : Int32} {t : (Int32 × Int32) ⊕ (Int32)} (h : fX10_find_L5 σ a1 a2 a3 a4 = some t) (hk : (Sum.elim (fun s : Int32 × Int32 => sw_Go l E K RX10 cX10_find 5 (some .int) 5 [(0, .ref 49), (1, .int a1), (2, .int a2), (3, .int s.1), (4, .int s.2)] [] σ (some (.int res)) σ) (fun q => q = res)) t) : sw_Go l E K RX10 cX10_find 5 (some .int) 5 [(0, .ref 49), (1, .int a1), (2, .int a2), (3, .int a3), (4, .int a4)] [] σ (some (.int res)) σ := by
  unfold fX10_find_L5 at h
  refine sw_iload 4 rfl (by decide +kernel) ?_
  refine sw_iload_n (k0 := 2) 2 rfl (by decide +kernel) rfl ?_
  refine sw_icmp_ge (off := 33) 41 (by decide +kernel) (by decide) (fun c1 => ?_) (fun c1 => ?_)
  · rw [if_pos c1] at h
    refine sw_iload_n (k0 := 3) 3 rfl (by decide +kernel) rfl ?_
    cases h
    obtain rfl : _ = res := hk
    exact sw_iret (by decide +kernel)
  · rw [if_neg c1] at h
    refine sw_aload_n (k0 := 0) 0 rfl (by decide +kernel) rfl ?_
    refine gf_X10_17 (i := 49) (by decide) rfl (by decide +kernel) ?_
    refine sw_refj 51 rfl ?_
    refine sw_iload_n (k0 := 1) 1 rfl (by decide +kernel) rfl ?_
    refine sw_iload 4 rfl (by decide +kernel) ?_
    refine sw_iadd (by decide +kernel) ?_
    obtain ⟨g2, h⟩ := sw_gd_e h
    refine sw_laload (a := 51) (by decide) rfl (sw_in_e g2) (by decide +kernel) ?_
    refine sw_aload_n (k0 := 0) 0 rfl (by decide +kernel) rfl ?_
    refine gf_X10_138 (i := 49) (by decide) rfl (by decide +kernel) ?_
    refine sw_lcmp (by decide +kernel) ?_
    refine sw_if_ne (off := 8) 33 (by decide +kernel) (by decide) (fun c3 => ?_) (fun c3 => ?_)
    · rw [if_neg c3] at h
      refine sw_iload_n (k0 := 3) 3 rfl (by decide +kernel) rfl ?_
      refine sw_lv [0, 1, 2, 4] rfl ?_
      exact sX10_find_L34 hK σ a1 a2 a4 a3 h hk
    · rw [if_pos c3] at h
      refine sw_iload 4 rfl (by decide +kernel) ?_
      refine sw_goto (off := 4) 34 (by decide +kernel) (by decide) ?_
      refine sw_lv [0, 1, 2, 4] rfl ?_
      exact sX10_find_L34 hK σ a1 a2 a4 a4 h hk
set_option maxRecDepth 20000 in
theorem sX10_find {l : Launch} {E : sw_E} {K : Nat} (hK : 0 ≤ K) (σ : sw_M) (a1 : Int32) (a2 : Int32) {res : Int32} (h : fX10_find σ a1 a2 = some res) : sw_Ct l E K yX10_find cX10_find 5 (some .int) [.ref 49, .int a1, .int a2] σ (some (.int res)) σ := by
  obtain ⟨t, hk, h⟩ : ∃ t, t = res ∧ fX10_find σ a1 a2 = some t := ⟨res, rfl, h⟩
  unfold fX10_find at h
  refine sw_enter2 (own := RX10) (lv := [(0, .ref 49), (1, .int a1), (2, .int a2)]) (by decide +kernel) (Nat.le_of_ble_eq_true rfl) rfl rfl ?_
  refine sw_iconst (n := (-1)) (v := (-1)) (by decide +kernel) (by decide) ?_
  refine sw_istore_n (k0 := 3) (lv' := [(3, .int (-1)), (0, .ref 49), (1, .int a1), (2, .int a2)]) (by decide +kernel) rfl (by decide) rfl ?_
  refine sw_iconst (n := 0) (v := 0) (by decide +kernel) (by decide) ?_
  refine sw_istore (i := 4) (lv' := [(4, .int 0), (3, .int (-1)), (0, .ref 49), (1, .int a1), (2, .int a2)]) (by decide +kernel) (by decide) rfl ?_
  refine sw_lv [2, 3, 4, 1, 0] rfl ?_
  exact sw_wh_e (fun s : Int32 × Int32 => sw_Go l E K RX10 cX10_find 5 (some .int) 5 [(0, .ref 49), (1, .int a1), (2, .int a2), (3, .int s.1), (4, .int s.2)] [] σ (some (.int res)) σ) (fun q => q = res) (fun s => fX10_find_L5 σ a1 a2 s.1 s.2) (fun s t hb hk => sX10_find_L5 hK σ a1 a2 s.1 s.2 hb hk) _ _ _ h hk
