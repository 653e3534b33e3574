theorem st_coder {l : Launch} {ad : Nat → Nat} {K i : Nat} (hi : i < 2) : sp_Ct l ad K yJ0_coder_7d493 cJ0_coder_7d493 1 (some .byte) [.ref (ad (84 + i))] (some (.int 0)) := by
  refine sp_enter (own := RJ0) (lv := [(0, .ref (ad (84 + i)))]) (by decide +kernel) (Nat.le_of_ble_eq_true rfl) rfl rfl ?_
  refine sp_compact sf_38 (by decide +kernel) ?_
  refine sp_if_eq (off := 10) 13 (by decide +kernel) (by decide) (fun c => absurd c (by decide)) (fun _ => ?_)
  refine sp_aload_n (k0 := 0) 0 rfl (by decide +kernel) rfl ?_
  refine sp_coder hi sf_15 (by decide +kernel) ?_
  refine sp_goto (off := 4) 14 (by decide +kernel) (by decide) ?_
  exact sp_zret rfl (by decide +kernel)
theorem st_lat {l : Launch} {ad : Nat → Nat} {K i : Nat} (hi : i < 2) : sp_Ct l ad K yJ0_isLatin1_aae02 cJ0_isLatin1_aae02 1 (some .boolean) [.ref (ad (84 + i))] (some (.int 1)) := by
  refine sp_enter (own := RJ0) (lv := [(0, .ref (ad (84 + i)))]) (by decide +kernel) (Nat.le_of_ble_eq_true rfl) rfl rfl ?_
  refine sp_compact sf_38 (by decide +kernel) ?_
  refine sp_if_eq (off := 14) 17 (by decide +kernel) (by decide) (fun c => absurd c (by decide)) (fun _ => ?_)
  refine sp_aload_n (k0 := 0) 0 rfl (by decide +kernel) rfl ?_
  refine sp_coder hi sf_15 (by decide +kernel) ?_
  refine sp_if_ne (off := 7) 17 (by decide +kernel) (by decide) (fun c => absurd rfl c) (fun _ => ?_)
  refine sp_iconst (n := 1) (v := 1) (by decide +kernel) (by decide) ?_
  refine sp_goto (off := 4) 18 (by decide +kernel) (by decide) ?_
  exact sp_zret rfl (by decide +kernel)
theorem st_len2 : ∀ i, i < 2 → sw_len.getD i 0 < 2 ^ 31 := by decide
theorem st_length {l : Launch} {ad : Nat → Nat} {K i : Nat} (hK : 1 ≤ K) (hi : i < 2) : sp_Ct l ad K yJ0_length_8abf5 cJ0_length_8abf5 1 (some .int) [.ref (ad (84 + i))] (some (.int (nI (sw_len.getD i 0)))) := by
  refine sp_enter (own := RJ0) (lv := [(0, .ref (ad (84 + i)))]) (by decide +kernel) (Nat.le_of_ble_eq_true rfl) rfl rfl ?_
  refine sp_aload_n (k0 := 0) 0 rfl (by decide +kernel) rfl ?_
  refine sp_value hi sf_9 (by decide +kernel) ?_
  refine sp_alen hi (by decide +kernel) ?_
  refine sp_aload_n (k0 := 0) 0 rfl (by decide +kernel) rfl ?_
  refine sp_callV (K2 := K - 1) [] hi (st_coder hi) rfl (by omega) sg_J0_335 sy_J0_coder_7d493 (by decide) rfl (Nat.le_of_ble_eq_true rfl) (by decide +kernel) ?_
  refine sp_ishr (x := nI (sw_len.getD i 0)) (y := 0) (by decide +kernel) ?_
  refine sp_topi (sc_shr0 (st_len2 i hi)) ?_
  exact sp_iret (by decide +kernel)
theorem st_pre {l : Launch} {ad : Nat → Nat} {K : Nat} {k n : Nat} (hk : k < n) (hn : n < 2 ^ 31) (v : Value) (hv : v = .null ∨ ∃ t, v = .ref t) : sp_Ct l ad K yJ3_checkIndex_8e157 cJ3_checkIndex_8e157 3 (some .int) [.int (nI k), .int (nI n), v] (some (.int (nI k))) := by
  refine sp_enter (own := RJ3) (lv := [(0, .int (nI k)), (1, .int (nI n)), (2, v)]) (by decide +kernel) ?_ rfl rfl ?_
  · rcases hv with rfl | ⟨t, rfl⟩ <;> exact Nat.le_of_ble_eq_true rfl
  refine sp_iload_n (k0 := 0) 0 rfl (by decide +kernel) rfl ?_
  refine sp_if_lt (off := 8) 9 (by decide +kernel) (by decide) (fun c => absurd c (nI_pos (by omega))) (fun _ => ?_)
  refine sp_iload_n (k0 := 0) 0 rfl (by decide +kernel) rfl ?_
  refine sp_iload_n (k0 := 1) 1 rfl (by decide +kernel) rfl ?_
  refine sp_icmp_lt (off := 10) 16 (by decide +kernel) (by decide) (fun _ => ?_) (fun c => absurd (nI_lt hk hn) c)
  refine sp_iload_n (k0 := 0) 0 rfl (by decide +kernel) rfl ?_
  exact sp_iret (by decide +kernel)
theorem st_chk {l : Launch} {ad : Nat → Nat} {K : Nat} {k n : Nat} (hK : 1 ≤ K) (hk : k < n) (hn : n < 2 ^ 31) : sp_Ct l ad K yJ0_checkIndex_df160 cJ0_checkIndex_df160 2 none [.int (nI k), .int (nI n)] none := by
  refine sp_enter (own := RJ0) (lv := [(0, .int (nI k)), (1, .int (nI n))]) (by decide +kernel) (Nat.le_of_ble_eq_true rfl) rfl rfl ?_
  refine sp_iload_n (k0 := 0) 0 rfl (by decide +kernel) rfl ?_
  refine sp_iload_n (k0 := 1) 1 rfl (by decide +kernel) rfl ?_
  refine sp_sioobe sf_1053 (by decide +kernel) (fun v hv => ?_)
  refine sp_callS (K2 := K - 1) [.int (nI k), .int (nI n), v] (st_pre hk hn v hv) rfl (by omega) gs_J0_1059 hy_J3_checkIndex_8e157 (by decide) rfl (Nat.le_of_ble_eq_true rfl) (by decide +kernel) ?_
  refine sp_pop (by decide +kernel) rfl ?_
  exact sp_vret (by decide +kernel)
theorem st_lchar {l : Launch} {ad : Nat → Nat} {K i k : Nat} (hK : 2 ≤ K) (hi : i < 2) (hk : k < sw_len.getD i 0) : sp_Ct l ad K yJ1_charAt_3b067 cJ1_charAt_3b067 2 (some .char) [.ref (ad (86 + i)), .int (nI k)] (some (.int ((sw_byt.getD i []).getD k 0 &&& 255))) := by
  have hn := st_len2 i hi
  refine sp_enter (own := RJ1) (lv := [(0, .ref (ad (86 + i))), (1, .int (nI k))]) (by decide +kernel) (Nat.le_of_ble_eq_true rfl) rfl rfl ?_
  refine sp_iload_n (k0 := 1) 1 rfl (by decide +kernel) rfl ?_
  refine sp_aload_n (k0 := 0) 0 rfl (by decide +kernel) rfl ?_
  refine sp_alen hi (by decide +kernel) ?_
  refine sp_callS (K2 := K - 1) [.int (nI k), .int (nI (sw_len.getD i 0))] (st_chk (by omega) hk hn) rfl (by omega) gs_J1_9 hy_J0_checkIndex_df160 (by decide) rfl (Nat.le_of_ble_eq_true rfl) (by decide +kernel) ?_
  refine sp_aload_n (k0 := 0) 0 rfl (by decide +kernel) rfl ?_
  refine sp_iload_n (k0 := 1) 1 rfl (by decide +kernel) rfl ?_
  refine sp_baload hi (vp_in_nI hk hn) (by decide +kernel) ?_
  refine sp_topi (show (sw_byt.getD i []).getD (nI k).toNatClampNeg 0 = (sw_byt.getD i []).getD k 0 by rw [nI_clamp (by omega)]) ?_
  refine sp_sipush (n := 255) (v := 255) (by decide +kernel) (by decide) ?_
  refine sp_iand (by decide +kernel) ?_
  refine sp_i2c (by decide +kernel) ?_
  refine sp_topi (sc_c2 _) ?_
  exact sp_zret (sc_nar _) (by decide +kernel)
theorem st_char {l : Launch} {ad : Nat → Nat} {K i k : Nat} (hK : 3 ≤ K) (hi : i < 2) (hk : k < sw_len.getD i 0) : sp_Ct l ad K yJ0_charAt_5068e cJ0_charAt_5068e 2 (some .char) [.ref (ad (84 + i)), .int (nI k)] (some (.int ((sw_byt.getD i []).getD k 0 &&& 255))) := by
  refine sp_enter (own := RJ0) (lv := [(0, .ref (ad (84 + i))), (1, .int (nI k))]) (by decide +kernel) (Nat.le_of_ble_eq_true rfl) rfl rfl ?_
  refine sp_aload_n (k0 := 0) 0 rfl (by decide +kernel) rfl ?_
  refine sp_callV (K2 := K - 1) [] hi (st_lat hi) rfl (by omega) sg_J0_492 sy_J0_isLatin1_aae02 (by decide) rfl (Nat.le_of_ble_eq_true rfl) (by decide +kernel) ?_
  refine sp_if_eq (off := 12) 16 (by decide +kernel) (by decide) (fun c => absurd c (by decide)) (fun _ => ?_)
  refine sp_aload_n (k0 := 0) 0 rfl (by decide +kernel) rfl ?_
  refine sp_value hi sf_9 (by decide +kernel) ?_
  refine sp_iload_n (k0 := 1) 1 rfl (by decide +kernel) rfl ?_
  refine sp_callS (K2 := K - 1) [.ref (ad (86 + i)), .int (nI k)] (st_lchar (by omega) hi hk) rfl (by omega) gs_J0_495 hy_J1_charAt_3b067 (by decide) rfl (Nat.le_of_ble_eq_true rfl) (by decide +kernel) ?_
  exact sp_zret (sc_nar _) (by decide +kernel)
theorem st_can {l : Launch} {ad : Nat → Nat} {K n : Nat} (hn : n < 65536) : sp_Ct l ad K yJ1_canEncode_9a6ad cJ1_canEncode_9a6ad 1 (some .boolean) [.int (nI n)] (some (.int (if n < 256 then 1 else 0))) := by
  refine sp_enter (own := RJ1) (lv := [(0, .int (nI n))]) (by decide +kernel) (Nat.le_of_ble_eq_true rfl) rfl rfl ?_
  refine sp_iload_n (k0 := 0) 0 rfl (by decide +kernel) rfl ?_
  refine sp_if_lt (off := 14) 15 (by decide +kernel) (by decide) (fun c => absurd c (nI_pos (by omega))) (fun _ => ?_)
  refine sp_iload_n (k0 := 0) 0 rfl (by decide +kernel) rfl ?_
  refine sp_sipush (n := 255) (v := 255) (by decide +kernel) (by decide) ?_
  refine sp_icmp_gt (off := 7) 15 (by decide +kernel) (by decide) (fun c => ?_) (fun c => ?_)
  · have h : ¬ n < 256 := fun h => absurd (show nI 255 < nI n from c) (nI_nlt (by omega) (by decide))
    rw [if_neg h]
    refine sp_iconst (n := 0) (v := 0) (by decide +kernel) (by decide) ?_
    exact sp_zret rfl (by decide +kernel)
  · have h : n < 256 := by
      rcases Nat.lt_or_ge n 256 with h | h
      · exact h
      · exact absurd (show nI 255 < nI n from nI_lt (by omega) (by omega)) c
    rw [if_pos h]
    refine sp_iconst (n := 1) (v := 1) (by decide +kernel) (by decide) ?_
    refine sp_goto (off := 4) 16 (by decide +kernel) (by decide) ?_
    exact sp_zret rfl (by decide +kernel)
theorem st_b1 : ∀ n, n < 256 → ∀ b ∈ ([59, 40, 41, 60, 62, 61, 43, 45, 42, 47, 37] : List Int32), b = (nI n).toInt8.toInt32 → nI n = b := by decide +kernel
theorem st_b2 : ∀ n, n < 256 → (∀ b ∈ ([59, 40, 41, 60, 62, 61, 43, 45, 42, 47, 37] : List Int32), ¬ b = (nI n).toInt8.toInt32) → sw_sgn (nI n) = -1 := by decide +kernel
theorem st_ixc {l : Launch} {ad : Nat → Nat} {K n : Nat} (hn : n < 256) : sp_Ct l ad K yJ1_indexOfChar_4cfef cJ1_indexOfChar_4cfef 6 (some .int) [.ref (ad (86 + 1)), .int (nI n), .int 0, .int 11] (some (.int (sw_sgn (nI n)))) := by
  refine sp_enter (own := RJ1) (lv := [(0, .ref (ad (86 + 1))), (1, .int (nI n)), (2, .int 0), (3, .int 11)]) (by decide +kernel) (Nat.le_of_ble_eq_true rfl) rfl rfl ?_
  refine sp_iload_n (k0 := 1) 1 rfl (by decide +kernel) rfl ?_
  refine sp_i2b (by decide +kernel) ?_
  obtain ⟨c8, hc8⟩ : ∃ c8, c8 = (nI n).toInt8.toInt32 := ⟨_, rfl⟩
  refine sp_topi hc8.symm ?_
  refine sp_istore (i := 4) (lv' := [(4, .int c8), (0, .ref (ad (86 + 1))), (1, .int (nI n)), (2, .int 0), (3, .int 11)]) (by decide +kernel) (by decide) rfl ?_
  refine sp_iload_n (k0 := 2) 3 rfl (by decide +kernel) rfl ?_
  refine sp_istore (i := 5) (lv' := [(5, .int 0), (4, .int c8), (0, .ref (ad (86 + 1))), (1, .int (nI n)), (2, .int 0), (3, .int 11)]) (by decide +kernel) (by decide) rfl ?_
  refine sp_iload 0 rfl (by decide +kernel) ?_
  refine sp_iload_n (k0 := 3) 5 rfl (by decide +kernel) rfl ?_
  refine sp_icmp_ge (off := 21) 31 (by decide +kernel) (by decide) (fun c => absurd c (by decide)) (fun _ => ?_)
  refine sp_aload_n (k0 := 0) 2 rfl (by decide +kernel) rfl ?_
  refine sp_iload 0 rfl (by decide +kernel) ?_
  refine sp_baload (i := 1) (by decide) (sw_in_e (by decide)) (by decide +kernel) ?_
  refine sp_topi (x := 59) (by decide) ?_
  refine sp_iload 1 rfl (by decide +kernel) ?_
  refine sp_icmp_ne (off := 6) 25 (by decide +kernel) (by decide) (fun d0 => ?_) (fun d0 => ?_)
  rotate_left
  · have e := st_b1 n hn 59 (by decide) (by rw [← hc8]; exact d0)
    rw [e]
    refine sp_iload 0 rfl (by decide +kernel) ?_
    exact sp_iret (by decide +kernel)
  refine sp_iinc (n := 1) (v := 1) (lv' := [(5, .int 1), (4, .int c8), (0, .ref (ad (86 + 1))), (1, .int (nI n)), (2, .int 0), (3, .int 11)]) 0 rfl (by decide +kernel) (by decide) (by decide) rfl ?_
  refine sp_goto (off := (-21)) 7 (by decide +kernel) (by decide) ?_
  refine sp_iload 0 rfl (by decide +kernel) ?_
  refine sp_iload_n (k0 := 3) 5 rfl (by decide +kernel) rfl ?_
  refine sp_icmp_ge (off := 21) 31 (by decide +kernel) (by decide) (fun c => absurd c (by decide)) (fun _ => ?_)
  refine sp_aload_n (k0 := 0) 2 rfl (by decide +kernel) rfl ?_
  refine sp_iload 0 rfl (by decide +kernel) ?_
  refine sp_baload (i := 1) (by decide) (sw_in_e (by decide)) (by decide +kernel) ?_
  refine sp_topi (x := 40) (by decide) ?_
  refine sp_iload 1 rfl (by decide +kernel) ?_
  refine sp_icmp_ne (off := 6) 25 (by decide +kernel) (by decide) (fun d1 => ?_) (fun d1 => ?_)
  rotate_left
  · have e := st_b1 n hn 40 (by decide) (by rw [← hc8]; exact d1)
    rw [e]
    refine sp_iload 0 rfl (by decide +kernel) ?_
    exact sp_iret (by decide +kernel)
  refine sp_iinc (n := 1) (v := 2) (lv' := [(5, .int 2), (4, .int c8), (0, .ref (ad (86 + 1))), (1, .int (nI n)), (2, .int 0), (3, .int 11)]) 0 rfl (by decide +kernel) (by decide) (by decide) rfl ?_
  refine sp_goto (off := (-21)) 7 (by decide +kernel) (by decide) ?_
  refine sp_iload 0 rfl (by decide +kernel) ?_
  refine sp_iload_n (k0 := 3) 5 rfl (by decide +kernel) rfl ?_
  refine sp_icmp_ge (off := 21) 31 (by decide +kernel) (by decide) (fun c => absurd c (by decide)) (fun _ => ?_)
  refine sp_aload_n (k0 := 0) 2 rfl (by decide +kernel) rfl ?_
  refine sp_iload 0 rfl (by decide +kernel) ?_
  refine sp_baload (i := 1) (by decide) (sw_in_e (by decide)) (by decide +kernel) ?_
  refine sp_topi (x := 41) (by decide) ?_
  refine sp_iload 1 rfl (by decide +kernel) ?_
  refine sp_icmp_ne (off := 6) 25 (by decide +kernel) (by decide) (fun d2 => ?_) (fun d2 => ?_)
  rotate_left
  · have e := st_b1 n hn 41 (by decide) (by rw [← hc8]; exact d2)
    rw [e]
    refine sp_iload 0 rfl (by decide +kernel) ?_
    exact sp_iret (by decide +kernel)
  refine sp_iinc (n := 1) (v := 3) (lv' := [(5, .int 3), (4, .int c8), (0, .ref (ad (86 + 1))), (1, .int (nI n)), (2, .int 0), (3, .int 11)]) 0 rfl (by decide +kernel) (by decide) (by decide) rfl ?_
  refine sp_goto (off := (-21)) 7 (by decide +kernel) (by decide) ?_
  refine sp_iload 0 rfl (by decide +kernel) ?_
  refine sp_iload_n (k0 := 3) 5 rfl (by decide +kernel) rfl ?_
  refine sp_icmp_ge (off := 21) 31 (by decide +kernel) (by decide) (fun c => absurd c (by decide)) (fun _ => ?_)
  refine sp_aload_n (k0 := 0) 2 rfl (by decide +kernel) rfl ?_
  refine sp_iload 0 rfl (by decide +kernel) ?_
  refine sp_baload (i := 1) (by decide) (sw_in_e (by decide)) (by decide +kernel) ?_
  refine sp_topi (x := 60) (by decide) ?_
  refine sp_iload 1 rfl (by decide +kernel) ?_
  refine sp_icmp_ne (off := 6) 25 (by decide +kernel) (by decide) (fun d3 => ?_) (fun d3 => ?_)
  rotate_left
  · have e := st_b1 n hn 60 (by decide) (by rw [← hc8]; exact d3)
    rw [e]
    refine sp_iload 0 rfl (by decide +kernel) ?_
    exact sp_iret (by decide +kernel)
  refine sp_iinc (n := 1) (v := 4) (lv' := [(5, .int 4), (4, .int c8), (0, .ref (ad (86 + 1))), (1, .int (nI n)), (2, .int 0), (3, .int 11)]) 0 rfl (by decide +kernel) (by decide) (by decide) rfl ?_
  refine sp_goto (off := (-21)) 7 (by decide +kernel) (by decide) ?_
  refine sp_iload 0 rfl (by decide +kernel) ?_
  refine sp_iload_n (k0 := 3) 5 rfl (by decide +kernel) rfl ?_
  refine sp_icmp_ge (off := 21) 31 (by decide +kernel) (by decide) (fun c => absurd c (by decide)) (fun _ => ?_)
  refine sp_aload_n (k0 := 0) 2 rfl (by decide +kernel) rfl ?_
  refine sp_iload 0 rfl (by decide +kernel) ?_
  refine sp_baload (i := 1) (by decide) (sw_in_e (by decide)) (by decide +kernel) ?_
  refine sp_topi (x := 62) (by decide) ?_
  refine sp_iload 1 rfl (by decide +kernel) ?_
  refine sp_icmp_ne (off := 6) 25 (by decide +kernel) (by decide) (fun d4 => ?_) (fun d4 => ?_)
  rotate_left
  · have e := st_b1 n hn 62 (by decide) (by rw [← hc8]; exact d4)
    rw [e]
    refine sp_iload 0 rfl (by decide +kernel) ?_
    exact sp_iret (by decide +kernel)
  refine sp_iinc (n := 1) (v := 5) (lv' := [(5, .int 5), (4, .int c8), (0, .ref (ad (86 + 1))), (1, .int (nI n)), (2, .int 0), (3, .int 11)]) 0 rfl (by decide +kernel) (by decide) (by decide) rfl ?_
  refine sp_goto (off := (-21)) 7 (by decide +kernel) (by decide) ?_
  refine sp_iload 0 rfl (by decide +kernel) ?_
  refine sp_iload_n (k0 := 3) 5 rfl (by decide +kernel) rfl ?_
  refine sp_icmp_ge (off := 21) 31 (by decide +kernel) (by decide) (fun c => absurd c (by decide)) (fun _ => ?_)
  refine sp_aload_n (k0 := 0) 2 rfl (by decide +kernel) rfl ?_
  refine sp_iload 0 rfl (by decide +kernel) ?_
  refine sp_baload (i := 1) (by decide) (sw_in_e (by decide)) (by decide +kernel) ?_
  refine sp_topi (x := 61) (by decide) ?_
  refine sp_iload 1 rfl (by decide +kernel) ?_
  refine sp_icmp_ne (off := 6) 25 (by decide +kernel) (by decide) (fun d5 => ?_) (fun d5 => ?_)
  rotate_left
  · have e := st_b1 n hn 61 (by decide) (by rw [← hc8]; exact d5)
    rw [e]
    refine sp_iload 0 rfl (by decide +kernel) ?_
    exact sp_iret (by decide +kernel)
  refine sp_iinc (n := 1) (v := 6) (lv' := [(5, .int 6), (4, .int c8), (0, .ref (ad (86 + 1))), (1, .int (nI n)), (2, .int 0), (3, .int 11)]) 0 rfl (by decide +kernel) (by decide) (by decide) rfl ?_
  refine sp_goto (off := (-21)) 7 (by decide +kernel) (by decide) ?_
  refine sp_iload 0 rfl (by decide +kernel) ?_
  refine sp_iload_n (k0 := 3) 5 rfl (by decide +kernel) rfl ?_
  refine sp_icmp_ge (off := 21) 31 (by decide +kernel) (by decide) (fun c => absurd c (by decide)) (fun _ => ?_)
  refine sp_aload_n (k0 := 0) 2 rfl (by decide +kernel) rfl ?_
  refine sp_iload 0 rfl (by decide +kernel) ?_
  refine sp_baload (i := 1) (by decide) (sw_in_e (by decide)) (by decide +kernel) ?_
  refine sp_topi (x := 43) (by decide) ?_
  refine sp_iload 1 rfl (by decide +kernel) ?_
  refine sp_icmp_ne (off := 6) 25 (by decide +kernel) (by decide) (fun d6 => ?_) (fun d6 => ?_)
  rotate_left
  · have e := st_b1 n hn 43 (by decide) (by rw [← hc8]; exact d6)
    rw [e]
    refine sp_iload 0 rfl (by decide +kernel) ?_
    exact sp_iret (by decide +kernel)
  refine sp_iinc (n := 1) (v := 7) (lv' := [(5, .int 7), (4, .int c8), (0, .ref (ad (86 + 1))), (1, .int (nI n)), (2, .int 0), (3, .int 11)]) 0 rfl (by decide +kernel) (by decide) (by decide) rfl ?_
  refine sp_goto (off := (-21)) 7 (by decide +kernel) (by decide) ?_
  refine sp_iload 0 rfl (by decide +kernel) ?_
  refine sp_iload_n (k0 := 3) 5 rfl (by decide +kernel) rfl ?_
  refine sp_icmp_ge (off := 21) 31 (by decide +kernel) (by decide) (fun c => absurd c (by decide)) (fun _ => ?_)
  refine sp_aload_n (k0 := 0) 2 rfl (by decide +kernel) rfl ?_
  refine sp_iload 0 rfl (by decide +kernel) ?_
  refine sp_baload (i := 1) (by decide) (sw_in_e (by decide)) (by decide +kernel) ?_
  refine sp_topi (x := 45) (by decide) ?_
  refine sp_iload 1 rfl (by decide +kernel) ?_
  refine sp_icmp_ne (off := 6) 25 (by decide +kernel) (by decide) (fun d7 => ?_) (fun d7 => ?_)
  rotate_left
  · have e := st_b1 n hn 45 (by decide) (by rw [← hc8]; exact d7)
    rw [e]
    refine sp_iload 0 rfl (by decide +kernel) ?_
    exact sp_iret (by decide +kernel)
  refine sp_iinc (n := 1) (v := 8) (lv' := [(5, .int 8), (4, .int c8), (0, .ref (ad (86 + 1))), (1, .int (nI n)), (2, .int 0), (3, .int 11)]) 0 rfl (by decide +kernel) (by decide) (by decide) rfl ?_
  refine sp_goto (off := (-21)) 7 (by decide +kernel) (by decide) ?_
  refine sp_iload 0 rfl (by decide +kernel) ?_
  refine sp_iload_n (k0 := 3) 5 rfl (by decide +kernel) rfl ?_
  refine sp_icmp_ge (off := 21) 31 (by decide +kernel) (by decide) (fun c => absurd c (by decide)) (fun _ => ?_)
  refine sp_aload_n (k0 := 0) 2 rfl (by decide +kernel) rfl ?_
  refine sp_iload 0 rfl (by decide +kernel) ?_
  refine sp_baload (i := 1) (by decide) (sw_in_e (by decide)) (by decide +kernel) ?_
  refine sp_topi (x := 42) (by decide) ?_
  refine sp_iload 1 rfl (by decide +kernel) ?_
  refine sp_icmp_ne (off := 6) 25 (by decide +kernel) (by decide) (fun d8 => ?_) (fun d8 => ?_)
  rotate_left
  · have e := st_b1 n hn 42 (by decide) (by rw [← hc8]; exact d8)
    rw [e]
    refine sp_iload 0 rfl (by decide +kernel) ?_
    exact sp_iret (by decide +kernel)
  refine sp_iinc (n := 1) (v := 9) (lv' := [(5, .int 9), (4, .int c8), (0, .ref (ad (86 + 1))), (1, .int (nI n)), (2, .int 0), (3, .int 11)]) 0 rfl (by decide +kernel) (by decide) (by decide) rfl ?_
  refine sp_goto (off := (-21)) 7 (by decide +kernel) (by decide) ?_
  refine sp_iload 0 rfl (by decide +kernel) ?_
  refine sp_iload_n (k0 := 3) 5 rfl (by decide +kernel) rfl ?_
  refine sp_icmp_ge (off := 21) 31 (by decide +kernel) (by decide) (fun c => absurd c (by decide)) (fun _ => ?_)
  refine sp_aload_n (k0 := 0) 2 rfl (by decide +kernel) rfl ?_
  refine sp_iload 0 rfl (by decide +kernel) ?_
  refine sp_baload (i := 1) (by decide) (sw_in_e (by decide)) (by decide +kernel) ?_
  refine sp_topi (x := 47) (by decide) ?_
  refine sp_iload 1 rfl (by decide +kernel) ?_
  refine sp_icmp_ne (off := 6) 25 (by decide +kernel) (by decide) (fun d9 => ?_) (fun d9 => ?_)
  rotate_left
  · have e := st_b1 n hn 47 (by decide) (by rw [← hc8]; exact d9)
    rw [e]
    refine sp_iload 0 rfl (by decide +kernel) ?_
    exact sp_iret (by decide +kernel)
  refine sp_iinc (n := 1) (v := 10) (lv' := [(5, .int 10), (4, .int c8), (0, .ref (ad (86 + 1))), (1, .int (nI n)), (2, .int 0), (3, .int 11)]) 0 rfl (by decide +kernel) (by decide) (by decide) rfl ?_
  refine sp_goto (off := (-21)) 7 (by decide +kernel) (by decide) ?_
  refine sp_iload 0 rfl (by decide +kernel) ?_
  refine sp_iload_n (k0 := 3) 5 rfl (by decide +kernel) rfl ?_
  refine sp_icmp_ge (off := 21) 31 (by decide +kernel) (by decide) (fun c => absurd c (by decide)) (fun _ => ?_)
  refine sp_aload_n (k0 := 0) 2 rfl (by decide +kernel) rfl ?_
  refine sp_iload 0 rfl (by decide +kernel) ?_
  refine sp_baload (i := 1) (by decide) (sw_in_e (by decide)) (by decide +kernel) ?_
  refine sp_topi (x := 37) (by decide) ?_
  refine sp_iload 1 rfl (by decide +kernel) ?_
  refine sp_icmp_ne (off := 6) 25 (by decide +kernel) (by decide) (fun d10 => ?_) (fun d10 => ?_)
  rotate_left
  · have e := st_b1 n hn 37 (by decide) (by rw [← hc8]; exact d10)
    rw [e]
    refine sp_iload 0 rfl (by decide +kernel) ?_
    exact sp_iret (by decide +kernel)
  refine sp_iinc (n := 1) (v := 11) (lv' := [(5, .int 11), (4, .int c8), (0, .ref (ad (86 + 1))), (1, .int (nI n)), (2, .int 0), (3, .int 11)]) 0 rfl (by decide +kernel) (by decide) (by decide) rfl ?_
  refine sp_goto (off := (-21)) 7 (by decide +kernel) (by decide) ?_
  refine sp_iload 0 rfl (by decide +kernel) ?_
  refine sp_iload_n (k0 := 3) 5 rfl (by decide +kernel) rfl ?_
  refine sp_icmp_ge (off := 21) 31 (by decide +kernel) (by decide) (fun _ => ?_) (fun c => absurd (by decide) c)
  rw [st_b2 n hn (by
    intro b hb
    simp only [List.mem_cons, List.not_mem_nil, or_false] at hb
    rw [← hc8]
    rcases hb with rfl | rfl | rfl | rfl | rfl | rfl | rfl | rfl | rfl | rfl | rfl <;> assumption)]
  refine sp_iconst (n := (-1)) (v := (-1)) (by decide +kernel) (by decide) ?_
  exact sp_iret (by decide +kernel)
theorem st_sgn_big {n : Nat} (h : ¬ n < 256) (hn : n < 65536) : sw_sgn (nI n) = -1 := by
  have key : ∀ k : Nat, k < 256 → ¬ nI n = nI k := fun k hk e => h (by rw [(nI_eq (by omega) (by omega)).mp e]; exact hk)
  unfold sw_sgn
  rw [if_neg (show ¬ nI n = 59 from key 59 (by decide)), if_neg (show ¬ nI n = 40 from key 40 (by decide)), if_neg (show ¬ nI n = 41 from key 41 (by decide)), if_neg (show ¬ nI n = 60 from key 60 (by decide)), if_neg (show ¬ nI n = 62 from key 62 (by decide)), if_neg (show ¬ nI n = 61 from key 61 (by decide)), if_neg (show ¬ nI n = 43 from key 43 (by decide)), if_neg (show ¬ nI n = 45 from key 45 (by decide)), if_neg (show ¬ nI n = 42 from key 42 (by decide)), if_neg (show ¬ nI n = 47 from key 47 (by decide)), if_neg (show ¬ nI n = 37 from key 37 (by decide))]
theorem st_lix {l : Launch} {ad : Nat → Nat} {K n : Nat} (hK : 2 ≤ K) (hn : n < 65536) : sp_Ct l ad K yJ1_indexOf_4cfef cJ1_indexOf_4cfef 4 (some .int) [.ref (ad (86 + 1)), .int (nI n), .int 0, .int 11] (some (.int (sw_sgn (nI n)))) := by
  refine sp_enter (own := RJ1) (lv := [(0, .ref (ad (86 + 1))), (1, .int (nI n)), (2, .int 0), (3, .int 11)]) (by decide +kernel) (Nat.le_of_ble_eq_true rfl) rfl rfl ?_
  refine sp_iload_n (k0 := 1) 1 rfl (by decide +kernel) rfl ?_
  refine sp_callS (K2 := K - 1) [.int (nI n)] (st_can hn) rfl (by omega) gs_J1_88 hy_J1_canEncode_9a6ad (by decide) rfl (Nat.le_of_ble_eq_true rfl) (by decide +kernel) ?_
  refine sp_if_ne (off := 5) 9 (by decide +kernel) (by decide) (fun c => ?_) (fun c => ?_)
  rotate_left
  · have h : ¬ n < 256 := fun h => by rw [if_pos h] at c; exact absurd c (by decide)
    rw [st_sgn_big h hn]
    refine sp_iconst (n := (-1)) (v := (-1)) (by decide +kernel) (by decide) ?_
    exact sp_iret (by decide +kernel)
  have h : n < 256 := by
    rcases Nat.lt_or_ge n 256 with h | h
    · exact h
    · exact absurd (if_neg (by omega)) c
  refine sp_iload_n (k0 := 2) 2 rfl (by decide +kernel) rfl ?_
  refine sp_iconst (n := 0) (v := 0) (by decide +kernel) (by decide) ?_
  refine sp_mmax sm_max (by omega) (Nat.le_of_ble_eq_true rfl) (by decide +kernel) ?_
  refine sp_topi (x := 0) (by decide) ?_
  refine sp_istore_n (k0 := 2) (lv' := [(2, .int 0), (0, .ref (ad (86 + 1))), (1, .int (nI n)), (3, .int 11)]) (by decide +kernel) rfl (by decide) rfl ?_
  refine sp_iload_n (k0 := 3) 3 rfl (by decide +kernel) rfl ?_
  refine sp_aload_n (k0 := 0) 1 rfl (by decide +kernel) rfl ?_
  refine sp_alen (i := 1) (by decide) (by decide +kernel) ?_
  refine sp_mmin sm_min (by omega) (Nat.le_of_ble_eq_true rfl) (by decide +kernel) ?_
  refine sp_topi (x := 11) (by decide) ?_
  refine sp_istore_n (k0 := 3) (lv' := [(3, .int 11), (2, .int 0), (0, .ref (ad (86 + 1))), (1, .int (nI n))]) (by decide +kernel) rfl (by decide) rfl ?_
  refine sp_iload_n (k0 := 2) 1 rfl (by decide +kernel) rfl ?_
  refine sp_iload_n (k0 := 3) 0 rfl (by decide +kernel) rfl ?_
  refine sp_icmp_lt (off := 5) 29 (by decide +kernel) (by decide) (fun _ => ?_) (fun c => absurd (by decide) c)
  refine sp_aload_n (k0 := 0) 2 rfl (by decide +kernel) rfl ?_
  refine sp_iload_n (k0 := 1) 3 rfl (by decide +kernel) rfl ?_
  refine sp_iload_n (k0 := 2) 1 rfl (by decide +kernel) rfl ?_
  refine sp_iload_n (k0 := 3) 0 rfl (by decide +kernel) rfl ?_
  refine sp_callS (K2 := K - 1) [.ref (ad (86 + 1)), .int (nI n), .int 0, .int 11] (st_ixc h) rfl (by omega) gs_J1_95 hy_J1_indexOfChar_4cfef (by decide) rfl (Nat.le_of_ble_eq_true rfl) (by decide +kernel) ?_
  exact sp_iret (by decide +kernel)
theorem st_ix2 {l : Launch} {ad : Nat → Nat} {K n : Nat} (hK : 3 ≤ K) (hn : n < 65536) : sp_Ct l ad K yJ0_indexOf_7cf53 cJ0_indexOf_7cf53 3 (some .int) [.ref (ad (84 + 1)), .int (nI n), .int 0] (some (.int (sw_sgn (nI n)))) := by
  refine sp_enter (own := RJ0) (lv := [(0, .ref (ad (84 + 1))), (1, .int (nI n)), (2, .int 0)]) (by decide +kernel) (Nat.le_of_ble_eq_true rfl) rfl rfl ?_
  refine sp_aload_n (k0 := 0) 0 rfl (by decide +kernel) rfl ?_
  refine sp_callV (K2 := K - 1) (i := 1) [] (by decide) (st_lat (by decide)) rfl (by omega) sg_J0_492 sy_J0_isLatin1_aae02 (by decide) rfl (Nat.le_of_ble_eq_true rfl) (by decide +kernel) ?_
  refine sp_if_eq (off := 19) 23 (by decide +kernel) (by decide) (fun c => absurd c (by decide)) (fun _ => ?_)
  refine sp_aload_n (k0 := 0) 0 rfl (by decide +kernel) rfl ?_
  refine sp_value (i := 1) (by decide) sf_9 (by decide +kernel) ?_
  refine sp_iload_n (k0 := 1) 1 rfl (by decide +kernel) rfl ?_
  refine sp_iload_n (k0 := 2) 2 rfl (by decide +kernel) rfl ?_
  refine sp_aload_n (k0 := 0) 0 rfl (by decide +kernel) rfl ?_
  refine sp_callV (K2 := K - 1) (i := 1) [] (by decide) (st_length (by omega) (by decide)) rfl (by omega) sg_J0_505 sy_J0_length_8abf5 (by decide) rfl (Nat.le_of_ble_eq_true rfl) (by decide +kernel) ?_
  refine sp_topi (x := 11) (by decide) ?_
  refine sp_callS (K2 := K - 1) [.ref (ad (86 + 1)), .int (nI n), .int 0, .int 11] (st_lix (by omega) hn) rfl (by omega) gs_J0_637 hy_J1_indexOf_4cfef (by decide) rfl (Nat.le_of_ble_eq_true rfl) (by decide +kernel) ?_
  refine sp_goto (off := 16) 36 (by decide +kernel) (by decide) ?_
  exact sp_iret (by decide +kernel)
theorem st_ix {l : Launch} {ad : Nat → Nat} {K n : Nat} (hK : 4 ≤ K) (hn : n < 65536) : sp_Ct l ad K yJ0_indexOf_0f7a4 cJ0_indexOf_0f7a4 2 (some .int) [.ref (ad (84 + 1)), .int (nI n)] (some (.int (sw_sgn (nI n)))) := by
  refine sp_enter (own := RJ0) (lv := [(0, .ref (ad (84 + 1))), (1, .int (nI n))]) (by decide +kernel) (Nat.le_of_ble_eq_true rfl) rfl rfl ?_
  refine sp_aload_n (k0 := 0) 0 rfl (by decide +kernel) rfl ?_
  refine sp_iload_n (k0 := 1) 1 rfl (by decide +kernel) rfl ?_
  refine sp_iconst (n := 0) (v := 0) (by decide +kernel) (by decide) ?_
  refine sp_callV (K2 := K - 1) (i := 1) [.int (nI n), .int 0] (by decide) (st_ix2 (by omega) hn) rfl (by omega) sg_J0_633 sy_J0_indexOf_7cf53 (by decide) rfl (Nat.le_of_ble_eq_true rfl) (by decide +kernel) ?_
  exact sp_iret (by decide +kernel)
