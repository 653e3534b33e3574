section SPL
variable {l : Launch} {ad : Nat → Nat} {K : Nat} {own : String} {cc : ByteArray} {nL : Nat} {ret : Option FieldType} {pc : Nat} {lv lv' : List (Nat × Value)} {st st0 : List Value} {r : Option Value}
theorem sp_ladd {x y : Int64} (hd : decode cc pc = .ok (.ladd, 1)) (k : sp_Go l ad K own cc nL ret (pc + 1) lv (.long (x + y) :: st) r) : sp_Go l ad K own cc nL ret pc lv (.long y :: .long x :: st) r := by
  intro p e s m args below meth c ls C hl
  exact lv_ladd C.1 C.2.1 hd (k p e s m args below meth c ls C hl)
theorem sp_lsub {x y : Int64} (hd : decode cc pc = .ok (.lsub, 1)) (k : sp_Go l ad K own cc nL ret (pc + 1) lv (.long (x - y) :: st) r) : sp_Go l ad K own cc nL ret pc lv (.long y :: .long x :: st) r := by
  intro p e s m args below meth c ls C hl
  exact lv_lsub C.1 C.2.1 hd (k p e s m args below meth c ls C hl)
theorem sp_lmul {x y : Int64} (hd : decode cc pc = .ok (.lmul, 1)) (k : sp_Go l ad K own cc nL ret (pc + 1) lv (.long (x * y) :: st) r) : sp_Go l ad K own cc nL ret pc lv (.long y :: .long x :: st) r := by
  intro p e s m args below meth c ls C hl
  exact lv_lmul C.1 C.2.1 hd (k p e s m args below meth c ls C hl)
theorem sp_i2l {x : Int32} (hd : decode cc pc = .ok (.i2l, 1)) (k : sp_Go l ad K own cc nL ret (pc + 1) lv (.long x.toInt64 :: st) r) : sp_Go l ad K own cc nL ret pc lv (.int x :: st) r := by
  intro p e s m args below meth c ls C hl
  exact lv_i2l C.1 C.2.1 hd rfl (k p e s m args below meth c ls C hl)
theorem sp_lload_n {k0 : Fin 4} {i : Nat} {x : Int64} (j : Nat) (hk : lv[j]? = some (i, .long x)) (hd : decode cc pc = .ok (.lload_n k0, 1)) (hi : (k0 : Nat) = i) (k : sp_Go l ad K own cc nL ret (pc + 1) lv (.long x :: st) r) : sp_Go l ad K own cc nL ret pc lv st r := by
  intro p e s m args below meth c ls C hl
  exact lv_lload_n C.1 C.2.1 hd hi (lv_at hl j hk) (k p e s m args below meth c ls C hl)
theorem sp_lconst {n : Fin 2} {v : Int64} (hd : decode cc pc = .ok (.lconst n, 1)) (hv : Int64.ofNat (n : Nat) = v) (k : sp_Go l ad K own cc nL ret (pc + 1) lv (.long v :: st) r) : sp_Go l ad K own cc nL ret pc lv st r := by
  intro p e s m args below meth c ls C hl
  exact lv_lconst C.1 C.2.1 hd hv (k p e s m args below meth c ls C hl)
theorem sp_ldc2 {index : Nat} {v : Int64} (hc : Cond.constantLong own index v ∈ sw_T) (hd : decode cc pc = .ok (.ldc2_w index, 3)) (k : sp_Go l ad K own cc nL ret (pc + 3) lv (.long v :: st) r) : sp_Go l ad K own cc nL ret pc lv st r := by
  intro p e s m args below meth c ls C hl
  exact lv_ldc2 C.1 C.2.1 C.2.2.2.2.2.1 (C.2.2.2.2.2.2.1 _ hc) hd (k p e s m args below meth c ls C hl)
theorem sp_lret {v : Int64} (hd : decode cc pc = .ok (.lreturn, 1)) : sp_Go l ad K own cc nL (some .long) pc lv [.long v] (some (.long v)) := by
  intro p e s m args below meth c ls C hl
  have hlocks : meth.locks = false := C.2.2.2.2.1
  exact W.lret C.1 C.2.1 C.2.2.2.1 (fun t ht hW => ⟨rfl, ht⟩) (fun q hq => by cases hq) hd
end SPL
theorem st_spelled {l : Launch} {ad : Nat → Nat} {K : Nat} (x : Int64) (y : Int32) : sp_Ct l ad K yX7_spelled cX7_spelled 3 (some .long) [.long x, .int y] (some (.long (x * 27 + y.toInt64 - 97 + 1))) := by
  refine sp_enter (own := RX7) (lv := [(0, .long x), (2, .int y)]) (by decide +kernel) (Nat.le_of_ble_eq_true rfl) rfl rfl ?_
  refine sp_lload_n (k0 := 0) 0 rfl (by decide +kernel) rfl ?_
  refine sp_ldc2 kn_X7_96 (by decide +kernel) ?_
  refine sp_lmul (by decide +kernel) ?_
  refine sp_iload_n (k0 := 2) 1 rfl (by decide +kernel) rfl ?_
  refine sp_i2l (by decide +kernel) ?_
  refine sp_ladd (by decide +kernel) ?_
  refine sp_ldc2 kn_X7_98 (by decide +kernel) ?_
  refine sp_lsub (by decide +kernel) ?_
  refine sp_lconst (n := 1) (v := 1) (by decide +kernel) (by decide) ?_
  refine sp_ladd (by decide +kernel) ?_
  exact sp_lret (by decide +kernel)
/-! spellings: what its loop makes -/
def sl_c (i : Nat) : Int32 := (sw_byt.getD 0 []).getD i 0 &&& 255
def sl_s : Nat → Nat × List Int64
  | 0 => (0, List.replicate 19 0)
  | i + 1 => if sl_c i = 32 then ((sl_s i).1 + 1, (sl_s i).2) else ((sl_s i).1, (sl_s i).2.set (sl_s i).1 ((sl_s i).2.getD (sl_s i).1 0 * 27 + (sl_c i).toInt64 - 97 + 1))
theorem sl_len : ∀ i, (sl_s i).2.length = 19
  | 0 => rfl
  | i + 1 => by
    unfold sl_s
    split
    · exact sl_len i
    · rw [List.length_set]; exact sl_len i
theorem sl_w : ∀ i, i < 99 → (sl_s i).1 < 19 := by decide +kernel
theorem sl_end : (sl_s 98).2 = sw_keyL := by decide +kernel
theorem sl_upd (L : List Int64) (w : Nat) (x : Int64) (h : w < L.length) : vp_updL (fun k => L.getD k 0) w x = fun k => (L.set w x).getD k 0 := by
  funext k
  simp only [vp_updL]
  rw [List.getD_eq_getElem?_getD, List.getD_eq_getElem?_getD, List.getElem?_set]
  by_cases hk : k = w
  · subst hk
    simp [h]
  · have : ¬ w = k := fun e => hk e.symm
    simp [hk, this]
def sl_Q (E : sw_E) (base : Nat) : Array Value → State → Outcome → State → Prop := fun _ st oc t =>
  oc = .returned (some (.ref (E.1 4))) ∧ va_P (sw_D E) sw_cl [(E.1 4, sw_ce E sw_0 4)] t.heap ∧ va_K (sw_D E) sw_cl (sw_ty E) t ∧ t.heap.size = base + 5 ∧ va_F (fun q => base + 4 ≤ q) st t
abbrev sl_W (E : sw_E) (i : Nat) : va_W := [(E.1 4, .inl (E.2.1 4, 19, .inr (.inl (fun k => (sl_s i).2.getD k 0))))]
def sl_Cx (E : sw_E) (base : Nat) (p : Program) (s : State) (m : MethodId) (args : Array Value) (meth : Method) (c : Code) : Prop :=
  p.tables.exec = Jvm.exec ∧ c.code = cX7_spellings ∧ c.maxLocals = 4 ∧ meth.sig.returnType = some (.array .long) ∧ meth.locks = false ∧ s.vm.findClass RX7 = some m.cls ∧ (∀ w ∈ sw_T, w.before args s = true) ∧ s.heap.size = base + 4 ∧ sw_X E.1 (fun q => base + 4 ≤ q) s s.heap ∧ va_K (sw_D E) sw_cl (sw_ty E) s ∧ E.1 4 = base + 4
set_option maxHeartbeats 1000000 in
theorem sl_loop {l : Launch} {E : sw_E} {base K : Nat} (hK : 5 ≤ K) {p : Program} {e : Env} {s : State} {m : MethodId} {args : Array Value} {below : List Frame} {meth : Method} {c : Code} (C : sl_Cx E base p s m args meth c) :
    ∀ (n i : Nat), i + n = 98 → ∀ (H : Heap) (locs : List Loc) (ls : Array Slot), va_P (sw_D E) sw_cl (sl_W E i) H → va_D (fun q => base + 4 ≤ q) (sl_W E i) → va_S (fun q => base + 4 ≤ q) s.heap H locs → lv_has ls 4 [(3, .int (nI i)), (2, .int (nI (sl_s i).1)), (1, .ref (E.1 4)), (0, .ref (E.1 (84 + 0)))] →
    W p l e (sw_rk K 1 19) s m args below meth c H locs 1 19 (MQ below (sl_Q E base) args s 1 19 (fun q => base + 4 ≤ q)) (F0 m 9 ls []) := by
  obtain ⟨hx, hb, hml, hr, hlk, hown, hts, hsz, hX, hK0, hE4⟩ := id C
  intro n
  induction n with
  | zero =>
    intro i hi H locs ls hP hD hS hl
    have hi98 : i = 98 := by omega
    subst hi98
    refine lv_iload_n (k := 3) hx hb (by decide +kernel) rfl (lv_at hl 0 rfl) ?_
    refine lv_aload_n (k := 0) hx hb (by decide +kernel) rfl (lv_at hl 3 rfl) ?_
    have run := va_runV (l := l) (e := e) (below := below) (meth := meth) (R := sw_rk K 1 19) (H := H) (locs := locs) (cells := 1) (slots := 19) (nL := 4) (As := []) (rest := [.int (nI 98)]) (b := E.1 (84 + 0)) (g := F0 m 11 ls [.ref (E.1 (84 + 0)), .int (nI 98)]) ⟨hx, hb, hml, hown, hts⟩ (st_length (K := K - 1) (ad := E.1) (i := 0) (by omega) (by decide)) (cwV 0 hts sg_X7_89 rfl rfl rfl sy_J0_length_8abf5 ⟨by show K - 1 + 1 ≤ K; omega, by show 8 + (_ + 11) + 64 * (K - 1) ≤ 64 * K; omega⟩)
      ⟨sp_blind E.1 _, vk_recv (adK := fun i => E.1 (84 + i)) (i := 0) hX.1 (by decide) hS, fun U hU hW => ⟨rfl, by rw [hU]; exact (sw_X_mv E.1).1 _ _ s U s.heap H hX hS.2.1 (fun q h => Nat.le_trans (by rw [← hsz]; exact hS.1) h) hW⟩⟩
      rfl rfl hl.1 rfl (lv_room (Nat.le_of_ble_eq_true rfl)) (show decode cX7_spellings 11 = .ok (.invokevirtual 89, 3) from by decide +kernel) ⟨Nat.le_refl _, Nat.le_refl _⟩
    refine sp_after run ?_
    clear run
    refine lv_icmp_ge (tgt := 59) (off := 45) hx hb (by decide +kernel) (by decide) (fun _ => ?_) (fun h => absurd (by decide) h)
    refine lv_aload_n (k := 1) hx hb (by decide +kernel) rfl (lv_at hl 2 rfl) ?_
    refine kc_size fun hz => ?_
    have hlt := (hP 0 _ rfl).lt
    simp only at hlt
    have hlocks : meth.locks = false := hlk
    refine W.aret hx hb hr (Or.inr ⟨_, rfl⟩) (Or.inr ⟨_, rfl⟩) (fun t ht hW => ⟨rfl, ?_, va_K.moved hW.alike hK0, by rw [ht]; omega, hS.F ht⟩) hS.2.2 (by decide +kernel)
    have he : sw_ce E sw_0 4 = .inl (E.2.1 4, 19, .inr (.inl (fun k => (sl_s 98).2.getD k 0))) := by
      rw [sw_ce_l (n := 19) rfl, sl_end]
      rfl
    rw [he, ht]
    exact hP
  | succ n ih =>
    intro i hi H locs ls hP hD hS hl
    have hi98 : i < 98 := by omega
    have hw := sl_w i (by omega)
    have hlen := sl_len i
    refine lv_iload_n (k := 3) hx hb (by decide +kernel) rfl (lv_at hl 0 rfl) ?_
    refine lv_aload_n (k := 0) hx hb (by decide +kernel) rfl (lv_at hl 3 rfl) ?_
    have run := va_runV (l := l) (e := e) (below := below) (meth := meth) (R := sw_rk K 1 19) (H := H) (locs := locs) (cells := 1) (slots := 19) (nL := 4) (As := []) (rest := [.int (nI i)]) (b := E.1 (84 + 0)) (g := F0 m 11 ls [.ref (E.1 (84 + 0)), .int (nI i)]) ⟨hx, hb, hml, hown, hts⟩ (st_length (K := K - 1) (ad := E.1) (i := 0) (by omega) (by decide)) (cwV 0 hts sg_X7_89 rfl rfl rfl sy_J0_length_8abf5 ⟨by show K - 1 + 1 ≤ K; omega, by show 8 + (_ + 11) + 64 * (K - 1) ≤ 64 * K; omega⟩)
      ⟨sp_blind E.1 _, vk_recv (adK := fun i => E.1 (84 + i)) (i := 0) hX.1 (by decide) hS, fun U hU hW => ⟨rfl, by rw [hU]; exact (sw_X_mv E.1).1 _ _ s U s.heap H hX hS.2.1 (fun q h => Nat.le_trans (by rw [← hsz]; exact hS.1) h) hW⟩⟩
      rfl rfl hl.1 rfl (lv_room (Nat.le_of_ble_eq_true rfl)) (show decode cX7_spellings 11 = .ok (.invokevirtual 89, 3) from by decide +kernel) ⟨Nat.le_refl _, Nat.le_refl _⟩
    refine sp_after run ?_
    clear run
    refine lv_icmp_ge (tgt := 59) (off := 45) (x := nI i) (y := nI 98) hx hb (by decide +kernel) (by decide) (fun h => absurd h (nI_ge hi98 (by decide))) (fun _ => ?_)
    refine lv_iload_n (k := 2) hx hb (by decide +kernel) rfl (lv_at hl 1 rfl) ?_
    refine lv_aload_n (k := 1) hx hb (by decide +kernel) rfl (lv_at hl 2 rfl) ?_
    refine va_alen (a := E.1 4) (ws := sl_W E i) hx hb hK0 hP 0 4 (cA := E.2.1 4) rfl (sw_ty_at E (by decide)) (v := nI 19) rfl (by decide +kernel) ?_
    refine lv_icmp_ge (tgt := 59) (off := 39) (x := nI (sl_s i).1) (y := nI 19) hx hb (by decide +kernel) (by decide) (fun h => absurd h (nI_ge hw (by decide))) (fun _ => ?_)
    refine lv_aload_n (k := 0) hx hb (by decide +kernel) rfl (lv_at hl 3 rfl) ?_
    refine lv_iload_n (k := 3) hx hb (by decide +kernel) rfl (lv_at hl 0 rfl) ?_
    have run := va_runV (l := l) (e := e) (below := below) (meth := meth) (R := sw_rk K 1 19) (H := H) (locs := locs) (cells := 1) (slots := 19) (nL := 4) (As := [.int (nI i)]) (rest := []) (b := E.1 (84 + 0)) (g := F0 m 25 ls [.int (nI i), .ref (E.1 (84 + 0))]) ⟨hx, hb, hml, hown, hts⟩ (st_char (K := K - 1) (ad := E.1) (i := 0) (k := i) (by omega) (by decide) hi98) (cwV 1 hts sg_X7_92 rfl rfl rfl sy_J0_charAt_5068e ⟨by show K - 1 + 1 ≤ K; omega, by show 8 + (_ + 11) + 64 * (K - 1) ≤ 64 * K; omega⟩)
      ⟨sp_blind E.1 _, vk_recv (adK := fun i => E.1 (84 + i)) (i := 0) hX.1 (by decide) hS, fun U hU hW => ⟨rfl, by rw [hU]; exact (sw_X_mv E.1).1 _ _ s U s.heap H hX hS.2.1 (fun q h => Nat.le_trans (by rw [← hsz]; exact hS.1) h) hW⟩⟩
      rfl rfl hl.1 rfl (lv_room (Nat.le_of_ble_eq_true rfl)) (show decode cX7_spellings 25 = .ok (.invokevirtual 92, 3) from by decide +kernel) ⟨Nat.le_refl _, Nat.le_refl _⟩
    refine sp_after run ?_
    clear run
    refine lv_bipush (n := 32) (v := 32) hx hb (by decide +kernel) (by decide) ?_
    refine lv_icmp_ne (tgt := 39) (off := 9) (x := sl_c i) (y := 32) hx hb (by decide +kernel) (by decide) (fun hc => ?_) (fun hc => ?_)
    · have hs1 : sl_s (i + 1) = ((sl_s i).1, (sl_s i).2.set (sl_s i).1 ((sl_s i).2.getD (sl_s i).1 0 * 27 + (sl_c i).toInt64 - 97 + 1)) := by rw [sl_s, if_neg hc]
      refine lv_aload_n (k := 1) hx hb (by decide +kernel) rfl (lv_at hl 2 rfl) ?_
      refine lv_iload_n (k := 2) hx hb (by decide +kernel) rfl (lv_at hl 1 rfl) ?_
      refine lv_aload_n (k := 1) hx hb (by decide +kernel) rfl (lv_at hl 2 rfl) ?_
      refine lv_iload_n (k := 2) hx hb (by decide +kernel) rfl (lv_at hl 1 rfl) ?_
      refine va_lald (a := E.1 4) (ws := sl_W E i) hx hb hK0 hP 0 4 (cA := E.2.1 4) (n := 19) rfl (sw_ty_at E (by decide)) (vp_in_nI hw (by decide)) (by decide +kernel) ?_
      refine lv_aload_n (k := 0) hx hb (by decide +kernel) rfl (lv_at hl 3 rfl) ?_
      refine lv_iload_n (k := 3) hx hb (by decide +kernel) rfl (lv_at hl 0 rfl) ?_
      rw [nI_clamp (n := (sl_s i).1) (by omega)]
      have run := va_runV (l := l) (e := e) (below := below) (meth := meth) (R := sw_rk K 1 19) (H := H) (locs := locs) (cells := 1) (slots := 19) (nL := 4) (As := [.int (nI i)]) (rest := [.long ((sl_s i).2.getD (sl_s i).1 0), .int (nI (sl_s i).1), .ref (E.1 4)]) (b := E.1 (84 + 0)) (g := F0 m 46 ls [.int (nI i), .ref (E.1 (84 + 0)), .long ((sl_s i).2.getD (sl_s i).1 0), .int (nI (sl_s i).1), .ref (E.1 4)]) ⟨hx, hb, hml, hown, hts⟩ (st_char (K := K - 1) (ad := E.1) (i := 0) (k := i) (by omega) (by decide) hi98) (cwV 1 hts sg_X7_92 rfl rfl rfl sy_J0_charAt_5068e ⟨by show K - 1 + 1 ≤ K; omega, by show 8 + (_ + 11) + 64 * (K - 1) ≤ 64 * K; omega⟩)
        ⟨sp_blind E.1 _, vk_recv (adK := fun i => E.1 (84 + i)) (i := 0) hX.1 (by decide) hS, fun U hU hW => ⟨rfl, by rw [hU]; exact (sw_X_mv E.1).1 _ _ s U s.heap H hX hS.2.1 (fun q h => Nat.le_trans (by rw [← hsz]; exact hS.1) h) hW⟩⟩
        rfl rfl hl.1 rfl (lv_room (Nat.le_of_ble_eq_true rfl)) (show decode cX7_spellings 46 = .ok (.invokevirtual 92, 3) from by decide +kernel) ⟨Nat.le_refl _, Nat.le_refl _⟩
      refine sp_after run ?_
      clear run
      have run := va_runS (l := l) (e := e) (below := below) (meth := meth) (R := sw_rk K 1 19) (H := H) (locs := locs) (cells := 1) (slots := 19) (nL := 4) (As := [.long ((sl_s i).2.getD (sl_s i).1 0), .int (sl_c i)]) (rest := [.int (nI (sl_s i).1), .ref (E.1 4)]) (g := F0 m 49 ls [.int (sl_c i), .long ((sl_s i).2.getD (sl_s i).1 0), .int (nI (sl_s i).1), .ref (E.1 4)]) ⟨hx, hb, hml, hown, hts⟩ (st_spelled (K := K - 1) (ad := E.1) _ _) (va_cwS 2 hts gs_X7_70 rfl rfl rfl hy_X7_spelled ⟨by show K - 1 + 1 ≤ K; omega, by show 8 + (_ + 11) + 64 * (K - 1) ≤ 64 * K; omega⟩)
        ⟨sp_blind E.1 _, fun U hU hW => ⟨rfl, by rw [hU]; exact (sw_X_mv E.1).1 _ _ s U s.heap H hX hS.2.1 (fun q h => Nat.le_trans (by rw [← hsz]; exact hS.1) h) hW⟩⟩
        rfl rfl hl.1 rfl (lv_room (Nat.le_of_ble_eq_true rfl)) (show decode cX7_spellings 49 = .ok (.invokestatic 70, 3) from by decide +kernel) ⟨Nat.le_refl _, Nat.le_refl _⟩
      refine sp_after run ?_
      clear run
      refine va_last (a := E.1 4) (ws := sl_W E i) hx hb hK0 hP hD hS 0 4 (cA := E.2.1 4) (n := 19) rfl (sw_ty_at E (by decide)) (vp_in_nI hw (by decide)) (by decide +kernel) (fun H1 locs1 hP1 hD1 hS1 => ?_)
      rw [nI_clamp (n := (sl_s i).1) (by omega)] at hP1 hD1
      have hW1 : (sl_W E i).set 0 (E.1 4, .inl (E.2.1 4, 19, .inr (.inl (vp_updL (fun k => (sl_s i).2.getD k 0) (sl_s i).1 ((sl_s i).2.getD (sl_s i).1 0 * 27 + (sl_c i).toInt64 - 97 + 1))))) = sl_W E (i + 1) := by
        have h2 : (sl_s (i + 1)).2 = (sl_s i).2.set (sl_s i).1 ((sl_s i).2.getD (sl_s i).1 0 * 27 + (sl_c i).toInt64 - 97 + 1) := by rw [hs1]
        rw [sl_upd _ _ _ (by omega), ← h2]
        rfl
      rw [hW1] at hP1 hD1
      refine lv_iinc (k := 0) (n := 1) (i := 3) (x := nI i) (v := nI (i + 1)) (lv' := [(3, .int (nI (i + 1))), (2, .int (nI (sl_s i).1)), (1, .ref (E.1 4)), (0, .ref (E.1 (84 + 0)))]) hx hb (by decide +kernel) hl rfl (nI_1 i) (by decide) rfl (fun ls hl => ?_)
      refine lv_goto (tgt := 9) (off := -47) hx hb (by decide +kernel) (by decide) ?_
      exact ih (i + 1) (by omega) H1 locs1 ls hP1 hD1 hS1 (by rw [hs1]; exact hl)
    · have hs1 : sl_s (i + 1) = ((sl_s i).1 + 1, (sl_s i).2) := by rw [sl_s, if_pos hc]
      refine lv_iinc (k := 1) (n := 1) (i := 2) (x := nI (sl_s i).1) (v := nI ((sl_s i).1 + 1)) (lv' := [(2, .int (nI ((sl_s i).1 + 1))), (3, .int (nI i)), (1, .ref (E.1 4)), (0, .ref (E.1 (84 + 0)))]) hx hb (by decide +kernel) hl rfl (nI_1 _) (by decide) rfl (fun ls hl => ?_)
      refine lv_goto (tgt := 53) (off := 17) hx hb (by decide +kernel) (by decide) ?_
      refine lv_iinc (k := 1) (n := 1) (i := 3) (x := nI i) (v := nI (i + 1)) (lv' := [(3, .int (nI (i + 1))), (2, .int (nI ((sl_s i).1 + 1))), (1, .ref (E.1 4)), (0, .ref (E.1 (84 + 0)))]) hx hb (by decide +kernel) hl rfl (nI_1 i) (by decide) rfl (fun ls hl => ?_)
      refine lv_goto (tgt := 9) (off := -47) hx hb (by decide +kernel) (by decide) ?_
      have hW1 : sl_W E i = sl_W E (i + 1) := by
        have h2 : (sl_s (i + 1)).2 = (sl_s i).2 := by rw [hs1]
        unfold sl_W
        rw [h2]
      rw [hW1] at hP hD
      exact ih (i + 1) (by omega) H locs ls hP hD hS (by rw [hs1]; exact hl)
