section RS
variable {l : Launch} {E : sw_E} {K : Nat} {cc : ByteArray} {nL : Nat} {ret : Option FieldType} {pc : Nat} {lv : List (Nat × Value)} {st : List Value} {σ σ' : sw_M} {r : Option Value}
theorem sw_ldcS (hX : E.2.2.2.2 = sw_X E.1) (hd : decode cc pc = .ok (.ldc 81, 2)) (k : sw_Go l E K RX7 cc nL ret (pc + 2) lv (.ref 85 :: st) σ r σ') : sw_Go l E K RX7 cc nL ret pc lv st σ r σ' := by
  intro p e s m args below meth c H locs A ls C hP hS hl
  obtain ⟨hx, hb, hml, hr, hlk, hown, hts, hMv, hXX, hK0, hD, hA⟩ := id C
  rw [hX] at hXX
  exact va_ldcS hx hb hown hXX.2.2.1 hd (k p e s m args below meth c H locs A ls C hP hS hl)
theorem sw_idxS {x : Int32} (hX : E.2.2.2.2 = sw_X E.1) (hK : 8 ≤ K) (hroom : (st.map fun v => v.category).sum ≤ 8) (hd : decode cc pc = .ok (.invokevirtual 83, 3)) (k : sw_Go l E K RX7 cc nL ret (pc + 3) lv (.int (sw_sgn (x.toUInt32 % 65536).toInt32) :: st) σ r σ') : sw_Go l E K RX7 cc nL ret pc lv (.int (x.toUInt32 % 65536).toInt32 :: .ref 85 :: st) σ r σ' := by
  intro p e s m args below meth c H locs A ls C hP hS hl
  obtain ⟨hx, hb, hml, hr, hlk, hown, hts, hMv, hXX, hK0, hD, hA⟩ := id C
  have hXX' : sw_X E.1 A s s.heap := by rw [← hX]; exact hXX
  have hn : x.toBitVec.toNat % 65536 < 65536 := Nat.mod_lt _ (by decide)
  have e0 := pk_char x
  have k' := k p e s m args below meth c H locs A ls C hP hS hl
  have run := va_runV (l := l) (e := e) (below := below) (meth := meth) (R := sw_rm K) (H := H) (locs := locs) (cells := 0) (slots := 0) (nL := nL) (As := [.int (nI (x.toBitVec.toNat % 65536))]) (rest := st.map (sw_g E)) (b := E.1 (84 + 1)) (g := F0 m pc ls ((.int (x.toUInt32 % 65536).toInt32 :: .ref 85 :: st).map (sw_g E))) ⟨hx, hb, hml, hown, hts⟩ (st_ix (K := K - 1) (ad := E.1) (by omega) hn) (cwV 1 hts sg_X7_83 rfl rfl rfl sy_J0_indexOf_0f7a4 ⟨by show K - 1 + 1 ≤ K; omega, by show 8 + (2 + 11) + 64 * (K - 1) ≤ 64 * K; omega⟩)
    ⟨sp_blind E.1 _, vk_recv (adK := fun i => E.1 (84 + i)) (i := 1) hXX'.1 (by decide) hS, fun U hU hW => ⟨rfl, by rw [hU]; exact (sw_X_mv E.1).1 _ _ s U s.heap H hXX' hS.2.1 (fun q h => hA q (Nat.le_trans hS.1 h)) hW⟩⟩
    rfl rfl hl.1 (by rw [e0]; rfl) (lv_room (by rw [sw_cat_sum]; exact hroom)) hd ⟨Nat.le_refl _, Nat.le_refl _⟩
  refine sp_after run ?_
  rw [e0] at k'
  exact k'
end RS
set_option maxRecDepth 20000 in
theorem rs_X7_readSign_L46 {l : Launch} {E : sw_E} {K : Nat} (hX : E.2.2.2.2 = sw_X E.1) (hK : 8 ≤ K) (σ : sw_M) {res : sw_M} {t : (sw_M)} (h : fX7_readSign_L46 σ = some t) (hk : (fun q => q = res) t) : sw_Go l E K RX7 cX7_readSign 2 none 46 [(0, .ref 2)] [] σ none res := by
  unfold fX7_readSign_L46 at h
  refine sw_aload_n (k0 := 0) 0 rfl (by decide +kernel) rfl ?_
  refine sw_dup (by decide +kernel) rfl ?_
  refine gf_X7_29 (i := 2) (by decide) rfl (by decide +kernel) ?_
  refine sw_iconst (n := 1) (v := 1) (by decide +kernel) (by decide) ?_
  refine sw_iadd (by decide +kernel) ?_
  obtain ⟨m1, e2, h⟩ := sw_let_e h
  refine pf_X7_29 (by decide) rfl (by decide +kernel) ?_
  refine sw_mem e2 ?_
  cases h
  obtain rfl : _ = res := hk
  exact sw_vret (by decide +kernel)
set_option maxRecDepth 20000 in
theorem rs_X7_readSign_L30 {l : Launch} {E : sw_E} {K : Nat} (hX : E.2.2.2.2 = sw_X E.1) (hK : 8 ≤ K) (σ : sw_M) (a1 : Int32) (b0 : Int32) {res : sw_M} {t : (sw_M)} (h : fX7_readSign_L30 σ a1 b0 = some t) (hk : (fun q => q = res) t) : sw_Go l E K RX7 cX7_readSign 2 none 30 [(0, .ref 2), (1, .int a1)] [.int b0, .ref 2] σ none res := by
  unfold fX7_readSign_L30 at h
  obtain ⟨m1, e2, h⟩ := sw_let_e h
  refine pf_X7_48 (by decide) rfl (by decide +kernel) ?_
  refine sw_mem e2 ?_
  refine sw_aload_n (k0 := 0) 0 rfl (by decide +kernel) rfl ?_
  refine gf_X7_48 (i := 2) (by decide) rfl (by decide +kernel) ?_
  refine sw_iconst (n := 4) (v := 4) (by decide +kernel) (by decide) ?_
  refine sw_icmp_ne (off := 8) 46 (by decide +kernel) (by decide) (fun c3 => ?_) (fun c3 => ?_)
  · rw [if_neg c3] at h
    refine sw_lv [0] rfl ?_
    exact rs_X7_readSign_L46 hX hK m1 h hk
  · rw [if_pos c3] at h
    refine sw_aload_n (k0 := 0) 0 rfl (by decide +kernel) rfl ?_
    refine sw_iload_n (k0 := 1) 1 rfl (by decide +kernel) rfl ?_
    obtain ⟨m4, e5, h⟩ := sw_let_e h
    refine pf_X7_38 (by decide) rfl (by decide +kernel) ?_
    refine sw_mem e5 ?_
    refine sw_lv [0] rfl ?_
    exact rs_X7_readSign_L46 hX hK m4 h hk
set_option maxRecDepth 20000 in
theorem rs_X7_readSign_L29 {l : Launch} {E : sw_E} {K : Nat} (hX : E.2.2.2.2 = sw_X E.1) (hK : 8 ≤ K) (σ : sw_M) (a1 : Int32) {res : sw_M} {t : (sw_M)} (h : fX7_readSign_L29 σ a1 = some t) (hk : (fun q => q = res) t) : sw_Go l E K RX7 cX7_readSign 2 none 29 [(0, .ref 2), (1, .int a1)] [.ref 2] σ none res := by
  unfold fX7_readSign_L29 at h
  refine sw_iconst (n := 1) (v := 1) (by decide +kernel) (by decide) ?_
  exact rs_X7_readSign_L30 hX hK σ a1 1 h hk
set_option maxRecDepth 20000 in
theorem rs_X7_readSign {l : Launch} {E : sw_E} {K : Nat} (hX : E.2.2.2.2 = sw_X E.1) (hK : 8 ≤ K) (σ : sw_M) {res : sw_M} (h : fX7_readSign σ = some res) : sw_Ct l E K yX7_readSign cX7_readSign 2 none [.ref 2] σ none res := by
  obtain ⟨t, hk, h⟩ : ∃ t, t = res ∧ fX7_readSign σ = some t := ⟨res, rfl, h⟩
  unfold fX7_readSign at h
  refine sw_enter2 (own := RX7) (lv := [(0, .ref 2)]) (by decide +kernel) (Nat.le_of_ble_eq_true rfl) rfl rfl ?_
  refine sw_aload_n (k0 := 0) 0 rfl (by decide +kernel) rfl ?_
  refine gf_X7_9 (i := 2) (by decide) rfl (by decide +kernel) ?_
  refine sw_refj 3 rfl ?_
  refine sw_aload_n (k0 := 0) 0 rfl (by decide +kernel) rfl ?_
  refine gf_X7_29 (i := 2) (by decide) rfl (by decide +kernel) ?_
  obtain ⟨g1, h⟩ := sw_gd_e h
  refine sw_baload (a := 3) (by decide) rfl (sw_in_e g1) (by decide +kernel) ?_
  obtain ⟨v2, e3, h⟩ := sw_let_e h
  refine sw_topi e3 ?_
  refine sw_istore_n (k0 := 1) (lv' := [(1, .int v2), (0, .ref 2)]) (by decide +kernel) rfl (by decide) rfl ?_
  refine sw_aload_n (k0 := 0) 1 rfl (by decide +kernel) rfl ?_
  refine sw_iload_n (k0 := 1) 0 rfl (by decide +kernel) rfl ?_
  refine sw_if_le (off := 17) 29 (by decide +kernel) (by decide) (fun c4 => ?_) (fun c4 => ?_)
  · rw [if_pos c4] at h
    refine sw_lv [1, 0] rfl ?_
    exact rs_X7_readSign_L29 hX hK σ v2 h hk
  · rw [if_neg c4] at h
    refine sw_ldcS hX (by decide +kernel) ?_
    refine sw_iload_n (k0 := 1) 0 rfl (by decide +kernel) rfl ?_
    refine sw_i2c (by decide +kernel) ?_
    refine sw_idxS hX (by omega) (Nat.le_of_ble_eq_true rfl) (by decide +kernel) ?_
    refine sw_if_lt (off := 7) 29 (by decide +kernel) (by decide) (fun c5 => ?_) (fun c5 => ?_)
    · rw [if_pos c5] at h
      refine sw_lv [1, 0] rfl ?_
      exact rs_X7_readSign_L29 hX hK σ v2 h hk
    · rw [if_neg c5] at h
      refine sw_iconst (n := 4) (v := 4) (by decide +kernel) (by decide) ?_
      refine sw_goto (off := 4) 30 (by decide +kernel) (by decide) ?_
      refine sw_lv [1, 0] rfl ?_
      exact rs_X7_readSign_L30 hX hK σ v2 4 h hk
theorem sw_RS_ok {l : Launch} {E : sw_E} (hX : E.2.2.2.2 = sw_X E.1) : sw_RS l E := fun _ σ _ hK h => rs_X7_readSign hX hK σ h
