theorem kml_9 : Cond.methodLink RL 9 yX9_init ∈ sw_T := (sw_T_of (i := 122) (by decide +kernel) rfl)
theorem kml_12 : Cond.methodLink RL 12 yX10_init ∈ sw_T := (sw_T_of (i := 1256) (by decide +kernel) rfl)
theorem lc_q {E : sw_E} {base j q : Nat} {e : va_E} (hB : sw_B E base) (hj : j < 84) (hD : va_D (fun q => base ≤ q) (sw_sg E sw_0 0 j ++ [(q, e)])) (hlt : q < base + (j + 1)) : q = E.1 j := by
  have hlen : (sw_sg E sw_0 0 j).length = j := by simp [sw_sg]
  have hq : (sw_sg E sw_0 0 j ++ [(q, e)])[j]? = some (q, e) := by
    rw [List.getElem?_append_right (by omega), hlen]
    simp
  have hge : base ≤ q := hD.2 _ _ hq
  have hat : ∀ x, x < j → (sw_sg E sw_0 0 j ++ [(q, e)])[x]? = some (E.1 x, sw_ce E sw_0 x) := by
    intro x hx
    rw [List.getElem?_append_left (by omega)]
    unfold sw_sg
    rw [List.getElem?_map, List.getElem?_range' hx]
    simp
  rw [hB.1 _ hj]
  rcases Nat.lt_or_ge q (base + j) with h | h
  · exfalso
    have hx : q - base < j := by omega
    have := hD.1 _ j _ _ (hat _ hx) hq (by
      show E.1 (q - base) = q
      rw [hB.1 _ (by omega)]
      omega)
    omega
  · omega
theorem lc_rest {wk : va_W} {x : Nat × va_E} {k : Nat} (hlen : wk.length = k) : (List.range k).map (fun i => (wk ++ [x])[i]?) = wk.map some := by
  apply List.ext_getElem?
  intro j
  rw [List.getElem?_map, List.getElem?_map]
  by_cases hj : j < k
  · rw [List.getElem?_range hj]
    simp only [Option.map_some]
    rw [List.getElem?_append_left (by omega)]
    rw [List.getElem?_eq_getElem (by omega)]
    simp
  · rw [List.getElem?_eq_none (by simp; omega), List.getElem?_eq_none (by omega)]
    rfl
def lc_Cx (E : sw_E) (p : Program) (s : State) (m : MethodId) (args : Array Value) (c : Code) : Prop :=
  p.tables.exec = Jvm.exec ∧ c.code = code ∧ c.maxLocals = 4 ∧ s.vm.findClass RL = some m.cls ∧ (∀ w ∈ sw_T, w.before args s = true) ∧ sw_Nx s ∧ sw_X E.1 (fun q => s.heap.size ≤ q) s s.heap ∧ va_K (sw_D E) sw_cl (sw_ty E) s ∧ sw_B E s.heap.size
set_option maxHeartbeats 1000000 in
theorem lc_child {l : Launch} {E : sw_E} {p : Program} {e : Env} {s : State} {m : MethodId} {args : Array Value} {below : List Frame} {meth : Method} {c : Code} {H : Heap} {locs : List Loc} {slots pc j : Nat} {Q : State → Prop} {ls : Array Slot} {rest : List Value} {idx1 idx2 ci2 n2 mc2 ms2 K2 N2 nL2 : Nat} {C2 : String} {T2 : u_T} {y2 : MethodName} {cc2 : ByteArray} {fs2 : List Value} (ty2 : Nat → FieldType)
    (C : lc_Cx E p s m args c) (hP : va_P (sw_D E) sw_cl (sw_sg E sw_0 0 j) H) (hD : va_D (fun q => s.heap.size ≤ q) (sw_sg E sw_0 0 j)) (hS : va_S (fun q => s.heap.size ≤ q) s.heap H locs) (hls : ls.size = 4)
    (hM : sw_Ck l E s.heap.size K2 j ci2 n2 mc2 ms2 y2 cc2 nL2 fs2) (hK : K2 ≤ 100) (hnL : nL2 ≤ 40) (hn2 : mc2 + 1 = n2)
    (hc2 : sw_cl[ci2]? = some (C2, T2, N2)) (hin : ∀ w ∈ u_ws C2 T2 N2, w ∈ sw_T) (hty : ∀ k, k < N2 → parseFieldDescriptor (T2 k).2.2.1 = some (ty2 k))
    (hcl : Cond.classLink RL idx1 C2 ∈ sw_T) (hinst : Cond.instantiable C2 N2 ∈ sw_T) (hini : Cond.initialized C2 ∈ sw_T) (hini2 : Cond.initialized y2.cls ∈ sw_T)
    (hfs : ∀ j, j < N2 → defaultValue (ty2 j) = vp_V (fs2.map (sw_g E)) j)
    (hlink : Cond.methodLink RL idx2 y2 ∈ sw_T) (hcode : Cond.code y2 cc2 nL2 none ∈ sw_T) (hinm : Cond.instanceMethod y2 ∈ sw_T) (hy1 : y2.name = "<init>")
    (hy : y2.cls ≠ "java/lang/invoke/MethodHandle" ∧ y2.cls ≠ "java/lang/invoke/VarHandle" ∧ (parseMethodDescriptor y2.desc).map (fun d => d.parameters.length) = some 0)
    (hj : j < 84) (hcells : j + n2 ≤ 600000) (hslots : slots + N2 + ms2 ≤ 7302250) (hroom : (rest.map fun v => v.category).sum ≤ 7) (hnd : va_nd (List.range j) = true)
    (hd1 : decode code pc = .ok (.new idx1, 3)) (hd2 : decode code (pc + 3) = .ok (.dup, 1)) (hd3 : decode code (pc + 3 + 1) = .ok (.invokespecial idx2, 3))
    (kk : ∀ (H1 : Heap) (locs1 : List Loc), va_P (sw_D E) sw_cl (sw_sg E sw_0 0 (j + n2)) H1 → va_D (fun q => s.heap.size ≤ q) (sw_sg E sw_0 0 (j + n2)) → va_S (fun q => s.heap.size ≤ q) s.heap H1 locs1 → W p l e room_1 s m args below meth c H1 locs1 (j + n2) (slots + N2 + ms2) Q (F0 m (pc + 3 + 1 + 3) ls (.ref (E.1 j) :: rest))) : W p l e room_1 s m args below meth c H locs j slots Q (F0 m pc ls rest) := by
  obtain ⟨hx, hb, hml, hown, hts, hNx, hX, hK0, hB⟩ := id C
  have hA : ∀ q, s.heap.size ≤ q → (fun q => s.heap.size ≤ q) q := fun q h => h
  refine va_new (ci := ci2) (fs := fs2.map (sw_g E)) (C := C2) (T := T2) (N := N2) hx hb hts hin ty2 hty hown (hts _ hcl) (hts _ hinst) (hts _ hini) hK0 hP hD hS hA hc2 hfs (by show j + 1 ≤ 600000; omega) (by show slots + N2 ≤ 7302250; omega) hd1 (fun q H1 hP1 hD1 hS1 => ?_)
  refine kc_size fun hz => ?_
  have hlen : (sw_sg E sw_0 0 j).length = j := by simp [sw_sg]
  have hat : (sw_sg E sw_0 0 j ++ [(q, .inr (ci2, fs2.map (sw_g E)))])[j]? = some (q, .inr (ci2, fs2.map (sw_g E))) := by
    rw [List.getElem?_append_right (by omega), hlen]
    simp
  have hlt : q < H1.size := (hP1 _ _ hat).lt
  have hq := lc_q hB hj hD1 (by omega)
  subst hq
  have hE1 := hB.1 _ hj
  have hz1 : H1.size = s.heap.size + (j + 1) := by omega
  refine lv_dup hx hb hd2 rfl ?_
  have hsub : ∀ q, va_A [(E.1 j, .inr (ci2, fs2.map (sw_g E)))] (s.heap.size + (j + 1)) q → s.heap.size ≤ q := by
    intro q h
    rcases h with ⟨k1, e1, h⟩ | h
    · cases k1 with
      | zero => simp at h; rw [← h.1]; exact hD1.2 _ _ hat
      | succ k1 => simp at h
    · omega
  have run := va_runI (l := l) (e := e) (below := below) (meth := meth) (R := room_1) (H := H1) (locs := locs) (cells := j + 1) (slots := slots + N2) (nL := 4) (As := []) (rest := .ref (E.1 j) :: rest) (b := E.1 j) (g := F0 m (pc + 3 + 1) ls (.ref (E.1 j) :: .ref (E.1 j) :: rest)) ⟨hx, hb, hml, hown, hts⟩ hM
    (cwI 0 hts (ck_good hcode) rfl rfl rfl (hts _ hini2) (hts _ hlink) (hts _ hinm) hy1 hy ⟨by show K2 + 1 ≤ 2048; omega, by show 8 + (nL2 + 11) + 64 * K2 ≤ 84000; omega⟩)
    ⟨ck_blind, fun U hU hW => ⟨rfl, by rw [hU]; exact hz1, hNx.warm hW, by rw [hU]; exact (sw_X_mv E.1).1 _ _ s U s.heap H1 hX hS1.2.1 hsub hW, by rw [hU]; exact ck_one (hP1 _ _ hat), va_K.moved hW.alike hK0, ck_oneD⟩⟩
    rfl rfl hls rfl (lv_room (by show 1 + (rest.map fun v => v.category).sum ≤ 8; omega)) hd3 ⟨by show j + 1 + mc2 ≤ 600000; omega, hslots⟩
  intro T0 hT X
  obtain ⟨v0, st₀, t, T', Ll, h0, X', hLl, e1, e2, ⟨hv, hP2, hK2, hD2, hz2, hF1, hF2⟩, stp⟩ := run T0 hT X
  injection hv with hv
  subst hv
  rw [h0] at hF1 hF2
  have hjoin := va_join (wr := sw_sg E sw_0 0 j) (w1 := sw_sg E sw_0 j n2) (wc := [(E.1 j, .inr (ci2, fs2.map (sw_g E)))]) hP1 hD1 [j] (List.range j) (by simp only [List.map_cons, List.map_nil]; rw [hat]) (lc_rest hlen) hnd (fun x hx => by simp at hx ⊢; omega)
    (H1 := T'.heap) (fun q h1 h2 => by rw [e1]; exact hF2 q h1 (by rw [hz1] at h2; exact h2)) (fun q h => hsub q (by rw [hz1] at h; exact h)) (by rw [e1]; exact hP2) (by rw [hz1]; exact hD2)
  have hw : sw_sg E sw_0 0 j ++ sw_sg E sw_0 j n2 = sw_sg E sw_0 0 (j + n2) := by
    have h := sw_sg_app E sw_0 0 j n2
    rw [Nat.zero_add] at h
    exact h
  rw [hw] at hjoin
  have hS2 : va_S (fun q => s.heap.size ≤ q) s.heap T'.heap (locs ++ Ll) := ⟨by rw [e1]; exact Nat.le_trans hS1.1 hF1, fun q h1 h2 => by rw [e1, hF2 q (Nat.lt_of_lt_of_le h1 hS1.1) (fun z => h2 (hsub q z))]; exact hS1.2.1 q h1 h2, fun q hq => by
      rcases List.mem_append.mp hq with h | h
      · exact hS1.2.2 q h
      · exact hsub _ (hLl q h)⟩
  have hcnt : j + 1 + mc2 = j + n2 := by omega
  rw [hcnt] at X'
  obtain ⟨t2, a1, b1⟩ := kk T'.heap (locs ++ Ll) hjoin.1 hjoin.2 hS2 T' rfl X'
  exact ⟨t2, stp t2 a1, b1⟩
def ls_tm (i : Nat) : Term := if i = 0 then .string "SoapWorks$Tape" 15 else .string "SoapWorks$Tape" 81
theorem ls_el : ∀ i, i < 2 → ∀ j, j < sw_len.getD i 0 → Cond.eq (.elem (.field (ls_tm i) "java/lang/String" "value" "[B") (.int (Int32.ofNat j))) (.int ((sw_byt.getD i []).getD j 0)) ∈ flatC (Jvm.Cond.and given_1 narrow_1) := by decide +kernel
theorem ls_ex : ∀ i, i < 2 → Cond.exactly (ls_tm i) "java/lang/String" ∈ flatC (Jvm.Cond.and given_1 narrow_1) := by decide +kernel
theorem ls_co : ∀ i, i < 2 → Cond.eq (.field (ls_tm i) "java/lang/String" "coder" "B") (.int 0) ∈ flatC (Jvm.Cond.and given_1 narrow_1) := by decide +kernel
theorem ls_ar : ∀ i, i < 2 → Cond.arrayOf (.field (ls_tm i) "java/lang/String" "value" "[B") .byte ∈ flatC (Jvm.Cond.and given_1 narrow_1) := by decide +kernel
theorem ls_le : ∀ i, i < 2 → Cond.eq (.length (.field (ls_tm i) "java/lang/String" "value" "[B")) (.int (Int32.ofNat (sw_len.getD i 0))) ∈ flatC (Jvm.Cond.and given_1 narrow_1) := by decide +kernel
theorem ls_ne : Cond.not (Cond.eq (ls_tm 0) (ls_tm 1)) ∈ flatC (Jvm.Cond.and given_1 narrow_1) := by decide +kernel
theorem ls_cs : Cond.eq (.static "java/lang/String" "COMPACT_STRINGS" "Z") (.int 1) ∈ flatC (Jvm.Cond.and given_1 narrow_1) := by decide +kernel
theorem ls_sf : Cond.isRef (.static "jdk/internal/util/Preconditions" "SIOOBE_FORMATTER" "Ljava/util/function/BiFunction;") ∈ flatC (Jvm.Cond.and given_1 narrow_1) := by decide +kernel
theorem ls_w1 : Cond.laysStatic "java/lang/String" "COMPACT_STRINGS" "Z" ∈ lw_tbl := List.mem_of_getElem? (i := 153) (by decide +kernel)
theorem ls_w2 : Cond.laysStatic "jdk/internal/util/Preconditions" "SIOOBE_FORMATTER" "Ljava/util/function/BiFunction;" ∈ lw_tbl := List.mem_of_getElem? (i := 169) (by decide +kernel)
theorem ls_w3 : Cond.initialized "java/lang/String" ∈ lw_tbl := List.mem_of_getElem? (i := 103) (by decide +kernel)
theorem ls_w4 : Cond.initialized "jdk/internal/util/Preconditions" ∈ lw_tbl := List.mem_of_getElem? (i := 105) (by decide +kernel)
theorem ls_w5 : Cond.stringRef "SoapWorks$Tape" 15 sw_tK ∈ lw_tbl := List.mem_of_getElem? (i := 140) (by decide +kernel)
theorem ls_w6 : Cond.stringRef "SoapWorks$Tape" 81 sw_tS ∈ lw_tbl := List.mem_of_getElem? (i := 592) (by decide +kernel)
theorem ls_arr {s : State} {cA : ClassId} {kA : Class} {comp : ClassId} {ty : FieldType} (h2 : s.vm.classes[cA]? = some kA) (h3 : kA.kind = .array comp ty) : ArrOfT s cA ty := fun n z => ⟨fun k h => (by cases h), kA, h2, comp, h3⟩
/-- what the pure half owes: the law's loop, over the memory, comes to 1 -/
def sw_pure : Prop := ∀ (L : Nat) (xs : Nat → Int32), L ≤ 3072 → sw_wh sw_F (fun s => fL_law_L18 xs L s.2 s.1) ((0 : Int32), sw_0) = some 1
set_option maxHeartbeats 4000000 in
set_option maxRecDepth 20000 in
theorem ws_of (hpure : sw_pure) {p : Program} {e : Env} {s : State} {m : MethodId} {below : List Frame} {meth : Method} {c : Code} (l : Launch) {b L : Nat} {xs : Nat → Int32} (hL : L ≤ 3072) (C0 : lw_At p s m meth c b L xs) : W p l e room_1 s m #[Value.ref b] below meth c s.heap [] 0 0 (lw_Z below #[Value.ref b] s) (entryFrame m ([Value.ref b] : List Value).toArray 4) := by
  obtain ⟨hx, hb, hr, hml, hown, hts0, hXs, hbl, hlocks, hgv⟩ := id C0
  have hts : ∀ w ∈ sw_T, w.before #[Value.ref b] s = true := fun w hw => hts0 w (List.mem_filter.mp hw).1
  have hfl := flat_of_before _ hgv
  have hA0 : ∀ a : Nat, a < s.heap.size → ¬ (fun q => s.heap.size ≤ q) a := fun a h => Nat.not_le.mpr h
  have hNx : sw_Nx s := fun w hw => va_Nw.of (sw_NL_in w hw).2 (hts0 w (sw_NL_in w hw).1)
  -- texts
  obtain ⟨adK, adV, hSt, hev⟩ := vk_Sof (args := #[Value.ref b]) (s := s) (N := 2) (tm := ls_tm) (len := sw_len) (byt := sw_byt) (A := fun q => s.heap.size ≤ q) (fun i hi => st_len2 i hi) (fun i hi => hfl _ (ls_ex i hi)) (fun i hi => hfl _ (ls_co i hi)) (fun i hi => hfl _ (ls_ar i hi)) (fun i hi => hfl _ (ls_le i hi)) (fun i hi j hj => hfl _ (ls_el i hi j hj))
    (fun i j hi hj hij => by
      have h := hfl _ ls_ne
      rcases (show (i = 0 ∧ j = 1) ∨ (i = 1 ∧ j = 0) by omega) with ⟨rfl, rfl⟩ | ⟨rfl, rfl⟩
      · exact Or.inl h
      · exact Or.inr h) hA0
  have hZ1 : va_Z "java/lang/String" "COMPACT_STRINGS" "Z" (.int 1) (fun q => s.heap.size ≤ q) s s.heap := va_Zof (hts0 _ ls_w1) (hts0 _ ls_w3) (va_eqi (hfl _ ls_cs)) hA0
  have hZ2 : va_Zq "jdk/internal/util/Preconditions" "SIOOBE_FORMATTER" "Ljava/util/function/BiFunction;" (fun q => s.heap.size ≤ q) s s.heap := va_Zqof (hts0 _ ls_w2) (hts0 _ ls_w4) (hfl _ ls_sf) hA0
  -- array classes
  obtain ⟨cI, kI, oI, hI1, hI2, hI3⟩ := Cond.arrayClass_spec (hts _ ka_int)
  obtain ⟨cB, kB, oB, hB1, hB2, hB3⟩ := Cond.arrayClass_spec (hts _ ka_byte)
  obtain ⟨cZ, kZ, oZ, hZ3, hZ4, hZ5⟩ := Cond.arrayClass_spec (hts _ ka_boolean)
  obtain ⟨cJ, kJ, oJ, hJ1, hJ2, hJ3⟩ := Cond.arrayClass_spec (hts _ ka_long)
  -- classes
  have hcls : ∀ k : Nat, ∃ x : ClassId × (Nat → Nat), ∀ q : vw_C, sw_cl[k]? = some q → u_Kn s q.1 q.2.1 q.2.2 x.1 x.2 := by
    intro k
    match k with
    | 0 =>
      obtain ⟨c0, i0, h0⟩ := u_known (C := RX0) (T := TX0) (N := 3) (n := 3) hts sw_in0 (hts _ kin_0)
      exact ⟨(c0, i0), fun q hq => by cases hq; exact h0⟩
    | 1 =>
      obtain ⟨c0, i0, h0⟩ := u_known (C := RX1) (T := TX1) (N := 2) (n := 2) hts sw_in1 (hts _ kin_1)
      exact ⟨(c0, i0), fun q hq => by cases hq; exact h0⟩
    | 2 =>
      obtain ⟨c0, i0, h0⟩ := u_known (C := RX2) (T := TX2) (N := 6) (n := 6) hts sw_in2 (hts _ kin_2)
      exact ⟨(c0, i0), fun q hq => by cases hq; exact h0⟩
    | 3 =>
      obtain ⟨c0, i0, h0⟩ := u_known (C := RX3) (T := TX3) (N := 3) (n := 3) hts sw_in3 (hts _ kin_3)
      exact ⟨(c0, i0), fun q hq => by cases hq; exact h0⟩
    | 4 =>
      obtain ⟨c0, i0, h0⟩ := u_known (C := RX4) (T := TX4) (N := 16) (n := 16) hts sw_in4 (hts _ kin_4)
      exact ⟨(c0, i0), fun q hq => by cases hq; exact h0⟩
    | 5 =>
      obtain ⟨c0, i0, h0⟩ := u_known (C := RX5) (T := TX5) (N := 5) (n := 5) hts sw_in5 (hts _ kin_5)
      exact ⟨(c0, i0), fun q hq => by cases hq; exact h0⟩
    | 6 =>
      obtain ⟨c0, i0, h0⟩ := u_known (C := RX6) (T := TX6) (N := 10) (n := 10) hts sw_in6 (hts _ kin_6)
      exact ⟨(c0, i0), fun q hq => by cases hq; exact h0⟩
    | 7 =>
      obtain ⟨c0, i0, h0⟩ := u_known (C := RX7) (T := TX7) (N := 10) (n := 10) hts sw_in7 (hts _ kin_7)
      exact ⟨(c0, i0), fun q hq => by cases hq; exact h0⟩
    | 8 =>
      obtain ⟨c0, i0, h0⟩ := u_known (C := RX8) (T := TX8) (N := 6) (n := 6) hts sw_in8 (hts _ kin_8)
      exact ⟨(c0, i0), fun q hq => by cases hq; exact h0⟩
    | 9 =>
      obtain ⟨c0, i0, h0⟩ := u_known (C := RX9) (T := TX9) (N := 10) (n := 10) hts sw_in9 (hts _ kin_9)
      exact ⟨(c0, i0), fun q hq => by cases hq; exact h0⟩
    | 10 =>
      obtain ⟨c0, i0, h0⟩ := u_known (C := RX10) (T := TX10) (N := 73) (n := 73) hts sw_in10 (hts _ kin_10)
      exact ⟨(c0, i0), fun q hq => by cases hq; exact h0⟩
    | k + 11 => exact ⟨(0, fun _ => 0), fun q hq => by simp [sw_cl] at hq⟩
  obtain ⟨fc, hfc⟩ := Classical.axiomOfChoice hcls
  -- the frame of it all
  obtain ⟨ad, had⟩ : ∃ ad : Nat → Nat, ad = fun i => if i < 84 then s.heap.size + i else if i = 84 then adK 0 else if i = 85 then adK 1 else if i = 86 then adV 0 else if i = 87 then adV 1 else b := ⟨_, rfl⟩
  obtain ⟨E, hE⟩ : ∃ E : sw_E, E = (ad, (fun i => if (sw_s i).1 = 2 then cB else if (sw_s i).1 = 3 then cZ else if (sw_s i).1 = 4 then cJ else cI), (fun k => (fc k).1), (fun k => (fc k).2), sw_X ad) := ⟨_, rfl⟩
  have hE1 : E.1 = ad := by rw [hE]
  have hB : sw_B E s.heap.size := by
    refine ⟨fun j hj => ?_, by rw [hE]⟩
    rw [hE1, had]
    simp [hj]
  have hXX : sw_X E.1 (fun q => s.heap.size ≤ q) s s.heap := by
    have eK : (fun i => ad (84 + i)) = fun i => if i = 0 then adK 0 else if i = 1 then adK 1 else ad (84 + i) := by
      funext i
      by_cases h0 : i = 0
      · subst h0; rw [had]; simp
      · by_cases h1 : i = 1
        · subst h1; rw [had]; simp
        · simp [h0, h1]
    have a84 : ad 84 = adK 0 := by rw [had]; simp
    have a85 : ad 85 = adK 1 := by rw [had]; simp
    have a86 : ad 86 = adV 0 := by rw [had]; simp
    have a87 : ad 87 = adV 1 := by rw [had]; simp
    rw [hE1]
    refine ⟨⟨fun i hi => ?_, fun i j hi hj h => ?_⟩, ?_, ?_, hZ1, hZ2⟩
    · have h := hSt.1 i hi
      rcases (show i = 0 ∨ i = 1 by omega) with rfl | rfl
      · show va_O _ (ad 84) _ _ _ ∧ va_OF _ _ _ _ (ad 84) _ _ _ ∧ va_OF _ _ _ (.ref (ad 86)) (ad 84) _ _ _ ∧ va_T _ (ad 86) _ _ _ _ _
        rw [a84, a86]; exact h
      · show va_O _ (ad 85) _ _ _ ∧ va_OF _ _ _ _ (ad 85) _ _ _ ∧ va_OF _ _ _ (.ref (ad 87)) (ad 85) _ _ _ ∧ va_T _ (ad 87) _ _ _ _ _
        rw [a85, a87]; exact h
    · rcases (show i = 0 ∨ i = 1 by omega) with rfl | rfl <;> rcases (show j = 0 ∨ j = 1 by omega) with rfl | rfl
      · rfl
      · exact hSt.2 0 1 (by decide) (by decide) (by rw [← a84, ← a85]; exact h)
      · exact hSt.2 1 0 (by decide) (by decide) (by rw [← a84, ← a85]; exact h)
      · rfl
    · rw [a84]; exact vk_R.of (hts0 _ ls_w5) (hev 0 (by decide))
    · rw [a85]; exact vk_R.of (hts0 _ ls_w6) (hev 1 (by decide))
  have hK0 : va_K (sw_D E) sw_cl (sw_ty E) s := by
    refine ⟨fun k q hq => ?_, fun k q hq => ?_⟩
    · have h := hfc k q hq
      rw [hE]; exact h
    · have hk : k < 84 := by
        have := (List.getElem?_eq_some_iff.mp hq).1
        simpa [sw_ty] using this
      rw [sw_ty_at E hk] at hq
      cases hq
      have e2 : E.2.1 k = if (sw_s k).1 = 2 then cB else if (sw_s k).1 = 3 then cZ else if (sw_s k).1 = 4 then cJ else cI := by rw [hE]
      simp only
      rw [e2]
      have ht : ∀ k, k < 84 → (sw_s k).1 < 5 := by decide +kernel
      rcases (show (sw_s k).1 = 0 ∨ (sw_s k).1 = 1 ∨ (sw_s k).1 = 2 ∨ (sw_s k).1 = 3 ∨ (sw_s k).1 = 4 by have := ht k hk; omega) with h | h | h | h | h <;> rw [h]
      · exact ⟨ls_arr hI2 hI3, hI1⟩
      · exact ⟨ls_arr hI2 hI3, hI1⟩
      · exact ⟨ls_arr hB2 hB3, hB1⟩
      · exact ⟨ls_arr hZ4 hZ5, hZ3⟩
      · exact ⟨ls_arr hJ2 hJ3, hJ1⟩
  have hCx : lc_Cx E p s m #[Value.ref b] c := ⟨hx, hb, hml, hown, hts, hNx, hXX, hK0, hB⟩
  have hS : va_S (fun q : Nat => s.heap.size ≤ q) s.heap s.heap [] := va_S.rf
  have hP : va_P (sw_D E) sw_cl (sw_sg E sw_0 0 0) s.heap := fun k q h => by simp [sw_sg] at h
  have hD : va_D (fun q : Nat => s.heap.size ≤ q) (sw_sg E sw_0 0 0) := ⟨fun i j p q h => by simp [sw_sg] at h, fun k q h => by simp [sw_sg] at h⟩
  have hl := lv_entry ([.ref b]) (n := 4) (Nat.le_of_ble_eq_true rfl)
  rw [lg_entry_eq]
  generalize (lg_sl ([Value.ref b]) ++ List.replicate (4 - (lg_sl ([Value.ref b])).length) Slot.unset).toArray = ls at hl ⊢
  have hl : lv_has ls 4 [(0, .ref b)] := hl
  refine lc_child (j := 0) (slots := 0) (K2 := 8) (n2 := 49) (mc2 := 48) (ms2 := 5182) (ci2 := 9) tyX9 hCx hP hD hS hl.1 (kk_9_0 hB) (by decide) (by decide) rfl rfl sw_in9 tyX9_ok kcl_L_7 kin_9 kii_9 kii_9 kf_9 kml_9 cd_X9_init kim_9 rfl kiy_9 (by decide) (Nat.le_of_ble_eq_true rfl) (Nat.le_of_ble_eq_true rfl) (Nat.le_of_ble_eq_true rfl) (by decide) (by decide +kernel) (by decide +kernel) (by decide +kernel) (fun H1 locs1 hP1 hD1 hS1 => ?_)
  refine lv_astore_n (k := 1) (lv' := [(1, .ref (E.1 0)), (0, .ref b)]) hx hb (by decide +kernel) rfl hl (by decide) rfl (fun ls hl => ?_)
  refine lc_child (j := 0 + 49) (slots := 0 + 10 + 5182) (K2 := 1) (n2 := 35) (mc2 := 34) (ms2 := 6988) (ci2 := 10) tyX10 hCx hP1 hD1 hS1 hl.1 (kk_10_49 hB) (by decide) (by decide) rfl rfl sw_in10 tyX10_ok kcl_L_10 kin_10 kii_10 kii_10 kf_10 kml_12 cd_X10_init kim_10 rfl kiy_10 (by decide) (Nat.le_of_ble_eq_true rfl) (Nat.le_of_ble_eq_true rfl) (Nat.le_of_ble_eq_true rfl) (by decide) (by decide +kernel) (by decide +kernel) (by decide +kernel) (fun H2 locs2 hP2 hD2 hS2 => ?_)
  refine lv_astore_n (k := 2) (lv' := [(2, .ref (E.1 49)), (1, .ref (E.1 0)), (0, .ref b)]) hx hb (by decide +kernel) rfl hl (by decide) rfl (fun ls hl => ?_)
  refine lv_iconst (n := 0) (v := 0) hx hb (by decide +kernel) (by decide) ?_
  refine lv_istore_n (k := 3) (lv' := [(3, .int 0), (2, .ref (E.1 49)), (1, .ref (E.1 0)), (0, .ref b)]) hx hb (by decide +kernel) rfl hl (by decide) rfl (fun ls hl => ?_)
  refine W.widen (k := 600000) (n := 7302250) (Nat.le_of_ble_eq_true rfl) (Nat.le_of_ble_eq_true rfl) ?_
  have h90 : E.1 90 = b := by rw [hE1, had]; simp
  have hwl : ∀ σ, sw_sg E σ 0 84 = sw_wl E σ := fun σ => by
    unfold sw_sg sw_wl
    rw [List.range_eq_range']
  have hP3 : va_P (sw_D E) sw_cl (sw_wl E sw_0) H2 := by rw [← hwl]; exact hP2
  have hD3 : va_D (fun q : Nat => s.heap.size ≤ q) (sw_wl E sw_0) := by rw [← hwl]; exact hD2
  have hRS : sw_RS l E := sw_RS_ok hB.2
  have go : sw_Gl l E b L xs 18 [(0, .ref 90), (1, .ref 0), (2, .ref 49), (3, .int 0)] [] sw_0 :=
    sw_wh_e (fun s : Int32 × sw_M => sw_Gl l E b L xs 18 [(0, .ref 90), (1, .ref 0), (2, .ref 49), (3, .int s.1)] [] s.2) (fun q => q = 1) (fun s => fL_law_L18 xs L s.2 s.1) (fun s t hb hk => sL_law_L18 hRS s.2 s.1 hb hk) _ _ _ (hpure L xs hL) rfl
  refine go p e s m below meth c H2 locs2 ls ⟨hx, hb, hml, hr, hlocks, hown, hts, by rw [hB.2]; exact sw_X_mv _, by rw [hB.2]; exact hXX, hK0, fun σ => sw_wl_D σ hD3, hXs, hbl, h90⟩ hP3 hS2 ?_
  have hl4 : lv_has ls 4 [(0, .ref b), (1, .ref (E.1 0)), (2, .ref (E.1 49)), (3, .int 0)] := lv_sub hl [3, 2, 1, 0] rfl
  show lv_has ls 4 [(0, .ref (E.1 90)), (1, .ref (E.1 0)), (2, .ref (E.1 49)), (3, .int 0)]
  rw [h90]
  exact hl4
