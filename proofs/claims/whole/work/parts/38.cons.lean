theorem cd_spl : Cond.code yX7_spellings cX7_spellings 4 (some (.array .long)) ∈ sw_T := (sw_T_of (i := 143) (by decide +kernel) rfl)
theorem gs_spl : GoodIn sw_T (va_wsS RX7 17 yX7_spellings (.code yX7_spellings cX7_spellings 4 (some (.array .long)) :: sw_T)) := sw_goodS (sw_T_of (i := 141) (by decide +kernel) rfl) (sw_T_of (i := 142) (by decide +kernel) rfl) (sw_T_of (i := 102) (by decide +kernel) rfl) cd_spl
theorem hy_spl : yX7_spellings.cls ≠ "java/lang/invoke/MethodHandle" ∧ yX7_spellings.cls ≠ "java/lang/invoke/VarHandle" ∧ (parseMethodDescriptor yX7_spellings.desc).map (fun d => d.parameters.length) = some 1 := by decide +kernel
theorem ka_int : Cond.arrayClass .int ∈ sw_T := (sw_T_of (i := 271) (by decide +kernel) rfl)
theorem ka_byte : Cond.arrayClass .byte ∈ sw_T := (sw_T_of (i := 235) (by decide +kernel) rfl)
theorem ka_boolean : Cond.arrayClass .boolean ∈ sw_T := (sw_T_of (i := 441) (by decide +kernel) rfl)
theorem ka_long : Cond.arrayClass .long ∈ sw_T := (sw_T_of (i := 236) (by decide +kernel) rfl)
theorem ko_i : Cond.instanceMethod objectInit ∈ sw_T := (sw_T_of (i := 126) (by decide +kernel) rfl)
theorem ko_c : Cond.code objectInit ⟨#[0xb1]⟩ 1 none ∈ sw_T := (sw_T_of (i := 127) (by decide +kernel) rfl)
theorem kr_int : ∀ (U : State) (c1 c2 : ClassId), va_RA U c1 .int → va_RA U c2 .int → c1 = c2 := fun U c1 c2 h1 h2 => Option.some.inj (h1.symm.trans h2)
theorem kr_byte : ∀ (U : State) (c1 c2 : ClassId), va_RA U c1 .byte → va_RA U c2 .byte → c1 = c2 := fun U c1 c2 h1 h2 => Option.some.inj (h1.symm.trans h2)
theorem kr_boolean : ∀ (U : State) (c1 c2 : ClassId), va_RA U c1 .boolean → va_RA U c2 .boolean → c1 = c2 := fun U c1 c2 h1 h2 => Option.some.inj (h1.symm.trans h2)
theorem kr_long : ∀ (U : State) (c1 c2 : ClassId), va_RA U c1 .long → va_RA U c2 .long → c1 = c2 := fun U c1 c2 h1 h2 => Option.some.inj (h1.symm.trans h2)
theorem sl_z : (fun k => (sl_s 0).2.getD k 0 : Nat → Int64) = fun _ => 0 := by
  funext k
  show (List.replicate 19 (0 : Int64)).getD k 0 = 0
  rw [List.getD_eq_getElem?_getD, List.getElem?_replicate]
  split <;> rfl
def sl_P (E : sw_E) (base : Nat) : Array Value → State → Prop := va_Pc [.ref (E.1 (84 + 0))] (fun U => U.heap.size = base + 4 ∧ sw_X E.1 (fun q => base + 4 ≤ q) U U.heap ∧ va_K (sw_D E) sw_cl (sw_ty E) U)
theorem ck_spell {l : Launch} {E : sw_E} {base K : Nat} (hK : 5 ≤ K) (hE4 : E.1 4 = base + 4) : Met l yX7_spellings (.code yX7_spellings cX7_spellings 4 (some (.array .long)) :: sw_T) (sw_rk K 1 19) (sl_P E base) (sl_Q E base) 1 19 (fun q => base + 4 ≤ q) := by
  refine Met.ofW (cc := cX7_spellings) (maxL := 4) (ret := some (.array .long)) (by decide +kernel) rfl ?_
  intro p e s m args below meth c s₁ B hml hv
  obtain ⟨rfl, hsz, hX, hK0⟩ := hv
  have hts0 := atoms_spec (ws := .code yX7_spellings cX7_spellings 4 (some (.array .long)) :: sw_T) B.pre
  have hts : ∀ w ∈ sw_T, w.before _ s = true := fun w hw => hts0 w (List.mem_cons_of_mem _ hw)
  have hown : s.vm.findClass RX7 = some m.cls := findClass_of_methodNamed B.named
  have hx := B.exec
  have hb := B.bytes
  have hl := lv_entry ([.ref (E.1 (84 + 0))]) (n := 4) (Nat.le_of_ble_eq_true rfl)
  rw [lg_entry_eq]
  generalize (lg_sl ([Value.ref (E.1 (84 + 0))]) ++ List.replicate (4 - (lg_sl ([Value.ref (E.1 (84 + 0))])).length) Slot.unset).toArray = ls at hl ⊢
  have hl : lv_has ls 4 [(0, .ref (E.1 (84 + 0)))] := hl
  have hS : va_S (fun q => base + 4 ≤ q) s.heap s.heap [] := va_S.rf
  have hA : ∀ q, s.heap.size ≤ q → (fun q => base + 4 ≤ q) q := fun q h => by rw [← hsz]; exact h
  have hP : va_P (sw_D E) sw_cl [] s.heap := fun k q h => by simp at h
  have hD : va_D (fun q => base + 4 ≤ q) [] := ⟨fun i j p q h => by simp at h, fun k q h => by simp at h⟩
  refine lv_bipush (n := 19) (v := 19) hx hb (by decide +kernel) (by decide) ?_
  refine va_newa (atype := .long) (ty := .long) (a0 := (19, .inr (.inl (fun _ => 0)))) hx hb (hts _ ka_long) rfl hK0 hP hD hS hA (fun cA => rfl) (by decide) (N' := 19) (by decide) (by decide) (Nat.le_refl 1) (Nat.le_refl 19) (by decide +kernel) (fun q cA H1 hK1 hP1 hD1 hS1 => ?_)
  refine kc_size fun hz => ?_
  have hlt := (hP1 0 _ rfl).lt
  have hge := hD1.2 0 _ rfl
  simp only at hlt hge
  have hq : q = E.1 4 := by omega
  have hcA : cA = E.2.1 4 := by
    have h1 := (hK1.2 84 (cA, .long) (by rw [List.getElem?_append_right (by simp [sw_ty])]; simp [sw_ty])).2
    have h2 := (hK0.2 4 _ (sw_ty_at E (by decide))).2
    exact kr_long s _ _ h1 h2
  subst hq; subst hcA
  have hw : ([] ++ [(E.1 4, .inl (E.2.1 4, (19, .inr (.inl (fun _ => 0)))))] : va_W) = sl_W E 0 := by
    unfold sl_W
    rw [sl_z]
    rfl
  rw [hw] at hP1 hD1
  refine lv_astore_n (k := 1) (lv' := [(1, .ref (E.1 4)), (0, .ref (E.1 (84 + 0)))]) hx hb (by decide +kernel) rfl hl (by decide) rfl (fun ls hl => ?_)
  refine lv_iconst (n := 0) (v := 0) hx hb (by decide +kernel) (by decide) ?_
  refine lv_istore_n (k := 2) (lv' := [(2, .int 0), (1, .ref (E.1 4)), (0, .ref (E.1 (84 + 0)))]) hx hb (by decide +kernel) rfl hl (by decide) rfl (fun ls hl => ?_)
  refine lv_iconst (n := 0) (v := 0) hx hb (by decide +kernel) (by decide) ?_
  refine lv_istore_n (k := 3) (lv' := [(3, .int 0), (2, .int 0), (1, .ref (E.1 4)), (0, .ref (E.1 (84 + 0)))]) hx hb (by decide +kernel) rfl hl (by decide) rfl (fun ls hl => ?_)
  exact sl_loop hK ⟨hx, hb, hml, B.returns, B.notSynchronized, hown, hts, hsz, hX, hK0, hE4⟩ 98 0 rfl H1 [] ls hP1 hD1 hS1 hl
set_option maxHeartbeats 1000000 in
theorem kc_spell {l : Launch} {E : sw_E} {base K nL n mc ms pc slots : Nat} {cc : ByteArray} {lv : List (Nat × Value)} {st fs : List Value} (hK : 6 ≤ K) (hcells : 2 ≤ mc) (hslots : slots + 19 ≤ ms) (hroom : (st.map fun v => v.category).sum ≤ 7) (hd1 : decode cc pc = .ok (.ldc 15, 2)) (hd2 : decode cc (pc + 2) = .ok (.invokestatic 17, 3))
    (kk : sw_Gc l E base K RX7 cc nL 2 7 n mc ms (pc + 2 + 3) lv (.ref 4 :: st) fs 2 (slots + 19)) : sw_Gc l E base K RX7 cc nL 2 7 n mc ms pc lv st fs 1 slots := by
  intro p e s m args below meth c H locs A ls C hP hD hS hl
  obtain ⟨hx, hb, hml, hr, hlk, hown, hts, hin2, hNx, hX, hK0, hA, hsz, hAc, hB⟩ := id C
  have hE4 : E.1 4 = base + 4 := hB.1 4 (by decide)
  refine kc_size fun hz => ?_
  have hz2 := kc_P_lt hB (by decide) hP
  have hH : H.size = base + 4 := by omega
  refine va_ldcS hx hb hown hX.2.1 hd1 ?_
  have hsub : ∀ q, (fun q => base + 4 ≤ q) q → A q := fun q h => hA q (by have h : base + 4 ≤ q := h; omega)
  have run := va_runS (l := l) (e := e) (below := below) (meth := meth) (R := sw_rk K mc ms) (H := H) (locs := locs) (cells := 1) (slots := slots) (nL := nL) (As := [.ref (E.1 (84 + 0))]) (rest := st.map (sw_g E)) (g := F0 m (pc + 2) ls (.ref (E.1 84) :: st.map (sw_g E))) ⟨hx, hb, hml, hown, hts⟩ (ck_spell (K := K - 1) (E := E) (base := base) (by omega) hE4) (va_cwS 1 hts gs_spl rfl rfl rfl hy_spl ⟨by show K - 1 + 1 ≤ K; omega, by show 8 + (4 + 11) + 64 * (K - 1) ≤ 64 * K; omega⟩)
    ⟨fun a U g mk q => by
      obtain ⟨q0, q1, q2, q3⟩ := q
      exact ⟨q0, q1, (sw_X_mv E.1).2 _ U _ _ rfl q2, va_K.moved (u := U) (U := U.calling g mk a) (Vm.Alike.refl U.vm) q3⟩, fun U hU hW => ⟨rfl, by rw [hU]; exact hH, by rw [hU]; exact (sw_X_mv E.1).1 A _ s U s.heap H hX hS.2.1 hsub hW, va_K.moved hW.alike hK0⟩⟩
    rfl rfl hl.1 rfl (lv_room (by rw [sw_cat_sum]; omega)) hd2 ⟨hcells, hslots⟩
  intro T0 hT X
  obtain ⟨v0, st₀, t, T', Ll, h0, X', hLl, e1, e2, ⟨hv, hP2, hK2, hz3, hF1, hF2⟩, stp⟩ := run T0 hT X
  injection hv with hv
  subst hv
  rw [h0] at hF1 hF2
  have hD2 : va_D (va_A ([] : va_W) H.size) [(E.1 4, sw_ce E sw_0 4)] := by
    refine ⟨ck_oneD.1, fun k q hq => ?_⟩
    cases k with
    | zero => cases hq; exact Or.inr (by simp only; omega)
    | succ k => simp at hq
  have hjoin := va_join (wr := sw_wk E 2 7 1 fs) (w1 := [(E.1 4, sw_ce E sw_0 4)]) (wc := []) hP hD [] [0, 1] rfl rfl (by decide) (by decide)
    (H1 := T'.heap) (fun q h1 h2 => by rw [e1]; exact hF2 q h1 (fun h => h2 (Or.inr (by have h : base + 4 ≤ q := h; omega)))) (fun q h => by
      rcases h with ⟨k, e, h⟩ | h
      · simp at h
      · exact hsub q (by show base + 4 ≤ q; omega)) (by rw [e1]; exact hP2) hD2
  have hw : sw_wk E 2 7 1 fs ++ [(E.1 4, sw_ce E sw_0 4)] = sw_wk E 2 7 2 fs := rfl
  rw [hw] at hjoin
  have hS2 : va_S A s.heap T'.heap (locs ++ Ll) := ⟨by rw [e1]; exact Nat.le_trans hS.1 hF1, fun q h1 h2 => by rw [e1, hF2 q (Nat.lt_of_lt_of_le h1 hS.1) (fun z => h2 (hsub q z))]; exact hS.2.1 q h1 h2, fun q hq => by
      rcases List.mem_append.mp hq with h | h
      · exact hS.2.2 q h
      · exact hsub _ (hLl q h)⟩
  obtain ⟨t2, a1, b1⟩ := kk p e s m args below meth c T'.heap (locs ++ Ll) A ls C hjoin.1 hjoin.2 hS2 hl T' rfl X'
  exact ⟨t2, stp t2 a1, b1⟩
theorem kn_X9_9 : Cond.methodLinkNest RX9 9 yX5_init "SoapWorks" ∈ sw_NL := List.mem_of_getElem? (i := 0) rfl
theorem kn_X9_18 : Cond.methodLinkNest RX9 18 yX4_init "SoapWorks" ∈ sw_NL := List.mem_of_getElem? (i := 1) rfl
theorem kn_X9_25 : Cond.methodLinkNest RX9 25 yX8_init "SoapWorks" ∈ sw_NL := List.mem_of_getElem? (i := 2) rfl
theorem kn_X9_32 : Cond.methodLinkNest RX9 32 yX0_init "SoapWorks" ∈ sw_NL := List.mem_of_getElem? (i := 3) rfl
theorem kn_X9_39 : Cond.methodLinkNest RX9 39 yX1_init "SoapWorks" ∈ sw_NL := List.mem_of_getElem? (i := 4) rfl
theorem kn_X9_46 : Cond.methodLinkNest RX9 46 yX3_init "SoapWorks" ∈ sw_NL := List.mem_of_getElem? (i := 5) rfl
theorem kn_X9_53 : Cond.methodLinkNest RX9 53 yX6_init "SoapWorks" ∈ sw_NL := List.mem_of_getElem? (i := 6) rfl
theorem kn_X3_11 : Cond.methodLinkNest RX3 11 yX8_init "SoapWorks" ∈ sw_NL := List.mem_of_getElem? (i := 7) rfl
theorem kn_X4_33 : Cond.methodLinkNest RX4 33 yX2_init "SoapWorks" ∈ sw_NL := List.mem_of_getElem? (i := 8) rfl
theorem kn_X5_11 : Cond.methodLinkNest RX5 11 yX7_init "SoapWorks" ∈ sw_NL := List.mem_of_getElem? (i := 9) rfl
theorem kn_X5_20 : Cond.methodLinkNest RX5 20 yX4_init "SoapWorks" ∈ sw_NL := List.mem_of_getElem? (i := 10) rfl
theorem kin_0 : Cond.instantiable RX0 3 ∈ sw_T := (sw_T_of (i := 412) (by decide +kernel) rfl)
theorem kii_0 : Cond.initialized RX0 ∈ sw_T := (sw_T_of (i := 110) (by decide +kernel) rfl)
theorem kim_0 : Cond.instanceMethod yX0_init ∈ sw_T := (sw_T_of (i := 414) (by decide +kernel) rfl)
theorem kiy_0 : yX0_init.cls ≠ "java/lang/invoke/MethodHandle" ∧ yX0_init.cls ≠ "java/lang/invoke/VarHandle" ∧ (parseMethodDescriptor yX0_init.desc).map (fun d => d.parameters.length) = some 0 := by decide +kernel
theorem kin_1 : Cond.instantiable RX1 2 ∈ sw_T := (sw_T_of (i := 428) (by decide +kernel) rfl)
theorem kii_1 : Cond.initialized RX1 ∈ sw_T := (sw_T_of (i := 111) (by decide +kernel) rfl)
theorem kim_1 : Cond.instanceMethod yX1_init ∈ sw_T := (sw_T_of (i := 430) (by decide +kernel) rfl)
theorem kiy_1 : yX1_init.cls ≠ "java/lang/invoke/MethodHandle" ∧ yX1_init.cls ≠ "java/lang/invoke/VarHandle" ∧ (parseMethodDescriptor yX1_init.desc).map (fun d => d.parameters.length) = some 0 := by decide +kernel
theorem kin_2 : Cond.instantiable RX2 6 ∈ sw_T := (sw_T_of (i := 244) (by decide +kernel) rfl)
theorem kii_2 : Cond.initialized RX2 ∈ sw_T := (sw_T_of (i := 108) (by decide +kernel) rfl)
theorem kim_2 : Cond.instanceMethod yX2_init ∈ sw_T := (sw_T_of (i := 246) (by decide +kernel) rfl)
theorem kiy_2 : yX2_init.cls ≠ "java/lang/invoke/MethodHandle" ∧ yX2_init.cls ≠ "java/lang/invoke/VarHandle" ∧ (parseMethodDescriptor yX2_init.desc).map (fun d => d.parameters.length) = some 0 := by decide +kernel
theorem kin_3 : Cond.instantiable RX3 3 ∈ sw_T := (sw_T_of (i := 443) (by decide +kernel) rfl)
theorem kii_3 : Cond.initialized RX3 ∈ sw_T := (sw_T_of (i := 112) (by decide +kernel) rfl)
theorem kim_3 : Cond.instanceMethod yX3_init ∈ sw_T := (sw_T_of (i := 445) (by decide +kernel) rfl)
theorem kiy_3 : yX3_init.cls ≠ "java/lang/invoke/MethodHandle" ∧ yX3_init.cls ≠ "java/lang/invoke/VarHandle" ∧ (parseMethodDescriptor yX3_init.desc).map (fun d => d.parameters.length) = some 0 := by decide +kernel
theorem kin_4 : Cond.instantiable RX4 16 ∈ sw_T := (sw_T_of (i := 238) (by decide +kernel) rfl)
theorem kii_4 : Cond.initialized RX4 ∈ sw_T := (sw_T_of (i := 107) (by decide +kernel) rfl)
theorem kim_4 : Cond.instanceMethod yX4_init ∈ sw_T := (sw_T_of (i := 240) (by decide +kernel) rfl)
theorem kiy_4 : yX4_init.cls ≠ "java/lang/invoke/MethodHandle" ∧ yX4_init.cls ≠ "java/lang/invoke/VarHandle" ∧ (parseMethodDescriptor yX4_init.desc).map (fun d => d.parameters.length) = some 0 := by decide +kernel
theorem kin_5 : Cond.instantiable RX5 5 ∈ sw_T := (sw_T_of (i := 129) (by decide +kernel) rfl)
theorem kii_5 : Cond.initialized RX5 ∈ sw_T := (sw_T_of (i := 101) (by decide +kernel) rfl)
theorem kim_5 : Cond.instanceMethod yX5_init ∈ sw_T := (sw_T_of (i := 131) (by decide +kernel) rfl)
theorem kiy_5 : yX5_init.cls ≠ "java/lang/invoke/MethodHandle" ∧ yX5_init.cls ≠ "java/lang/invoke/VarHandle" ∧ (parseMethodDescriptor yX5_init.desc).map (fun d => d.parameters.length) = some 0 := by decide +kernel
theorem kin_6 : Cond.instantiable RX6 10 ∈ sw_T := (sw_T_of (i := 461) (by decide +kernel) rfl)
theorem kii_6 : Cond.initialized RX6 ∈ sw_T := (sw_T_of (i := 113) (by decide +kernel) rfl)
theorem kim_6 : Cond.instanceMethod yX6_init ∈ sw_T := (sw_T_of (i := 463) (by decide +kernel) rfl)
theorem kiy_6 : yX6_init.cls ≠ "java/lang/invoke/MethodHandle" ∧ yX6_init.cls ≠ "java/lang/invoke/VarHandle" ∧ (parseMethodDescriptor yX6_init.desc).map (fun d => d.parameters.length) = some 0 := by decide +kernel
theorem kin_7 : Cond.instantiable RX7 10 ∈ sw_T := (sw_T_of (i := 135) (by decide +kernel) rfl)
theorem kii_7 : Cond.initialized RX7 ∈ sw_T := (sw_T_of (i := 102) (by decide +kernel) rfl)
theorem kim_7 : Cond.instanceMethod yX7_init ∈ sw_T := (sw_T_of (i := 137) (by decide +kernel) rfl)
theorem kiy_7 : yX7_init.cls ≠ "java/lang/invoke/MethodHandle" ∧ yX7_init.cls ≠ "java/lang/invoke/VarHandle" ∧ (parseMethodDescriptor yX7_init.desc).map (fun d => d.parameters.length) = some 0 := by decide +kernel
theorem kin_8 : Cond.instantiable RX8 6 ∈ sw_T := (sw_T_of (i := 371) (by decide +kernel) rfl)
theorem kii_8 : Cond.initialized RX8 ∈ sw_T := (sw_T_of (i := 109) (by decide +kernel) rfl)
theorem kim_8 : Cond.instanceMethod yX8_init ∈ sw_T := (sw_T_of (i := 373) (by decide +kernel) rfl)
theorem kiy_8 : yX8_init.cls ≠ "java/lang/invoke/MethodHandle" ∧ yX8_init.cls ≠ "java/lang/invoke/VarHandle" ∧ (parseMethodDescriptor yX8_init.desc).map (fun d => d.parameters.length) = some 0 := by decide +kernel
theorem kin_9 : Cond.instantiable RX9 10 ∈ sw_T := (sw_T_of (i := 121) (by decide +kernel) rfl)
theorem kii_9 : Cond.initialized RX9 ∈ sw_T := (sw_T_of (i := 100) (by decide +kernel) rfl)
theorem kim_9 : Cond.instanceMethod yX9_init ∈ sw_T := (sw_T_of (i := 123) (by decide +kernel) rfl)
theorem kiy_9 : yX9_init.cls ≠ "java/lang/invoke/MethodHandle" ∧ yX9_init.cls ≠ "java/lang/invoke/VarHandle" ∧ (parseMethodDescriptor yX9_init.desc).map (fun d => d.parameters.length) = some 0 := by decide +kernel
theorem kin_10 : Cond.instantiable RX10 73 ∈ sw_T := (sw_T_of (i := 1255) (by decide +kernel) rfl)
theorem kii_10 : Cond.initialized RX10 ∈ sw_T := (sw_T_of (i := 114) (by decide +kernel) rfl)
theorem kim_10 : Cond.instanceMethod yX10_init ∈ sw_T := (sw_T_of (i := 1257) (by decide +kernel) rfl)
theorem kiy_10 : yX10_init.cls ≠ "java/lang/invoke/MethodHandle" ∧ yX10_init.cls ≠ "java/lang/invoke/VarHandle" ∧ (parseMethodDescriptor yX10_init.desc).map (fun d => d.parameters.length) = some 0 := by decide +kernel
theorem kcl_X9_7 : Cond.classLink RX9 7 RX5 ∈ sw_T := (sw_T_of (i := 128) (by decide +kernel) rfl)
theorem kcl_X9_16 : Cond.classLink RX9 16 RX4 ∈ sw_T := (sw_T_of (i := 368) (by decide +kernel) rfl)
theorem kcl_X9_23 : Cond.classLink RX9 23 RX8 ∈ sw_T := (sw_T_of (i := 370) (by decide +kernel) rfl)
theorem kcl_X9_30 : Cond.classLink RX9 30 RX0 ∈ sw_T := (sw_T_of (i := 411) (by decide +kernel) rfl)
theorem kcl_X9_37 : Cond.classLink RX9 37 RX1 ∈ sw_T := (sw_T_of (i := 427) (by decide +kernel) rfl)
theorem kcl_X9_44 : Cond.classLink RX9 44 RX3 ∈ sw_T := (sw_T_of (i := 442) (by decide +kernel) rfl)
theorem kcl_X9_51 : Cond.classLink RX9 51 RX6 ∈ sw_T := (sw_T_of (i := 460) (by decide +kernel) rfl)
theorem kcl_X3_9 : Cond.classLink RX3 9 RX8 ∈ sw_T := (sw_T_of (i := 448) (by decide +kernel) rfl)
theorem kcl_X4_31 : Cond.classLink RX4 31 RX2 ∈ sw_T := (sw_T_of (i := 243) (by decide +kernel) rfl)
theorem kcl_X5_9 : Cond.classLink RX5 9 RX7 ∈ sw_T := (sw_T_of (i := 134) (by decide +kernel) rfl)
theorem kcl_X5_18 : Cond.classLink RX5 18 RX4 ∈ sw_T := (sw_T_of (i := 237) (by decide +kernel) rfl)
theorem kcl_L_7 : Cond.classLink RL 7 RX9 ∈ sw_T := (sw_T_of (i := 120) (by decide +kernel) rfl)
theorem kcl_L_10 : Cond.classLink RL 10 RX10 ∈ sw_T := (sw_T_of (i := 1254) (by decide +kernel) rfl)
theorem koi_X9_1 : Cond.methodLink RX9 1 objectInit ∈ sw_T := (sw_T_of (i := 125) (by decide +kernel) rfl)
theorem koi_X0_1 : Cond.methodLink RX0 1 objectInit ∈ sw_T := (sw_T_of (i := 416) (by decide +kernel) rfl)
theorem koi_X1_1 : Cond.methodLink RX1 1 objectInit ∈ sw_T := (sw_T_of (i := 432) (by decide +kernel) rfl)
theorem koi_X2_5 : Cond.methodLink RX2 5 objectInit ∈ sw_T := (sw_T_of (i := 248) (by decide +kernel) rfl)
theorem koi_X3_3 : Cond.methodLink RX3 3 objectInit ∈ sw_T := (sw_T_of (i := 447) (by decide +kernel) rfl)
theorem koi_X4_3 : Cond.methodLink RX4 3 objectInit ∈ sw_T := (sw_T_of (i := 242) (by decide +kernel) rfl)
theorem koi_X5_3 : Cond.methodLink RX5 3 objectInit ∈ sw_T := (sw_T_of (i := 133) (by decide +kernel) rfl)
theorem koi_X6_3 : Cond.methodLink RX6 3 objectInit ∈ sw_T := (sw_T_of (i := 465) (by decide +kernel) rfl)
theorem koi_X7_3 : Cond.methodLink RX7 3 objectInit ∈ sw_T := (sw_T_of (i := 139) (by decide +kernel) rfl)
theorem koi_X8_3 : Cond.methodLink RX8 3 objectInit ∈ sw_T := (sw_T_of (i := 375) (by decide +kernel) rfl)
theorem koi_X10_1 : Cond.methodLink RX10 1 objectInit ∈ sw_T := (sw_T_of (i := 1259) (by decide +kernel) rfl)
theorem kz_3 (E : sw_E) : sw_ce E sw_0 3 = .inl (E.2.1 3, (1600, .inl (fun _ => 0))) := by
  rw [sw_ce_i (t := 2) (n := 1600) rfl (by decide) (by decide)]
  rfl
theorem kz_6 (E : sw_E) : sw_ce E sw_0 6 = .inl (E.2.1 6, (5, .inr (.inl (fun _ => 0)))) := by
  rw [sw_ce_l (n := 5) rfl]
  rfl
theorem kz_7 (E : sw_E) : sw_ce E sw_0 7 = .inl (E.2.1 7, (7, .inr (.inl (fun _ => 0)))) := by
  rw [sw_ce_l (n := 7) rfl]
  rfl
theorem kz_8 (E : sw_E) : sw_ce E sw_0 8 = .inl (E.2.1 8, (4, .inr (.inl (fun _ => 0)))) := by
  rw [sw_ce_l (n := 4) rfl]
  rfl
theorem kz_9 (E : sw_E) : sw_ce E sw_0 9 = .inl (E.2.1 9, (35, .inl (fun _ => 0))) := by
  rw [sw_ce_i (t := 1) (n := 35) rfl (by decide) (by decide)]
  rfl
theorem kz_10 (E : sw_E) : sw_ce E sw_0 10 = .inl (E.2.1 10, (20, .inl (fun _ => 0))) := by
  rw [sw_ce_i (t := 1) (n := 20) rfl (by decide) (by decide)]
  rfl
theorem kz_11 (E : sw_E) : sw_ce E sw_0 11 = .inl (E.2.1 11, (24, .inl (fun _ => 0))) := by
  rw [sw_ce_i (t := 1) (n := 24) rfl (by decide) (by decide)]
  rfl
theorem kz_13 (E : sw_E) : sw_ce E sw_0 13 = .inl (E.2.1 13, (270, .inl (fun _ => 0))) := by
  rw [sw_ce_i (t := 1) (n := 270) rfl (by decide) (by decide)]
  rfl
theorem kz_14 (E : sw_E) : sw_ce E sw_0 14 = .inl (E.2.1 14, (31, .inl (fun _ => 0))) := by
  rw [sw_ce_i (t := 1) (n := 31) rfl (by decide) (by decide)]
  rfl
theorem kz_15 (E : sw_E) : sw_ce E sw_0 15 = .inl (E.2.1 15, (6, .inl (fun _ => 0))) := by
  rw [sw_ce_i (t := 1) (n := 6) rfl (by decide) (by decide)]
  rfl
theorem kz_17 (E : sw_E) : sw_ce E sw_0 17 = .inl (E.2.1 17, (5, .inr (.inl (fun _ => 0)))) := by
  rw [sw_ce_l (n := 5) rfl]
  rfl
theorem kz_18 (E : sw_E) : sw_ce E sw_0 18 = .inl (E.2.1 18, (7, .inr (.inl (fun _ => 0)))) := by
  rw [sw_ce_l (n := 7) rfl]
  rfl
theorem kz_19 (E : sw_E) : sw_ce E sw_0 19 = .inl (E.2.1 19, (4, .inr (.inl (fun _ => 0)))) := by
  rw [sw_ce_l (n := 4) rfl]
  rfl
theorem kz_20 (E : sw_E) : sw_ce E sw_0 20 = .inl (E.2.1 20, (35, .inl (fun _ => 0))) := by
  rw [sw_ce_i (t := 1) (n := 35) rfl (by decide) (by decide)]
  rfl
theorem kz_21 (E : sw_E) : sw_ce E sw_0 21 = .inl (E.2.1 21, (20, .inl (fun _ => 0))) := by
  rw [sw_ce_i (t := 1) (n := 20) rfl (by decide) (by decide)]
  rfl
theorem kz_22 (E : sw_E) : sw_ce E sw_0 22 = .inl (E.2.1 22, (24, .inl (fun _ => 0))) := by
  rw [sw_ce_i (t := 1) (n := 24) rfl (by decide) (by decide)]
  rfl
theorem kz_24 (E : sw_E) : sw_ce E sw_0 24 = .inl (E.2.1 24, (270, .inl (fun _ => 0))) := by
  rw [sw_ce_i (t := 1) (n := 270) rfl (by decide) (by decide)]
  rfl
theorem kz_25 (E : sw_E) : sw_ce E sw_0 25 = .inl (E.2.1 25, (31, .inl (fun _ => 0))) := by
  rw [sw_ce_i (t := 1) (n := 31) rfl (by decide) (by decide)]
  rfl
theorem kz_26 (E : sw_E) : sw_ce E sw_0 26 = .inl (E.2.1 26, (6, .inl (fun _ => 0))) := by
  rw [sw_ce_i (t := 1) (n := 6) rfl (by decide) (by decide)]
  rfl
theorem kz_28 (E : sw_E) : sw_ce E sw_0 28 = .inl (E.2.1 28, (5, .inl (fun _ => 0))) := by
  rw [sw_ce_i (t := 1) (n := 5) rfl (by decide) (by decide)]
  rfl
theorem kz_30 (E : sw_E) : sw_ce E sw_0 30 = .inl (E.2.1 30, (410, .inl (fun _ => 0))) := by
  rw [sw_ce_i (t := 1) (n := 410) rfl (by decide) (by decide)]
  rfl
theorem kz_32 (E : sw_E) : sw_ce E sw_0 32 = .inl (E.2.1 32, (3, .inl (fun _ => 0))) := by
  rw [sw_ce_i (t := 3) (n := 3) rfl (by decide) (by decide)]
  rfl
theorem kz_33 (E : sw_E) : sw_ce E sw_0 33 = .inl (E.2.1 33, (30, .inl (fun _ => 0))) := by
  rw [sw_ce_i (t := 1) (n := 30) rfl (by decide) (by decide)]
  rfl
theorem kz_36 (E : sw_E) : sw_ce E sw_0 36 = .inl (E.2.1 36, (5, .inl (fun _ => 0))) := by
  rw [sw_ce_i (t := 1) (n := 5) rfl (by decide) (by decide)]
  rfl
theorem kz_37 (E : sw_E) : sw_ce E sw_0 37 = .inl (E.2.1 37, (5, .inl (fun _ => 0))) := by
  rw [sw_ce_i (t := 1) (n := 5) rfl (by decide) (by decide)]
  rfl
theorem kz_38 (E : sw_E) : sw_ce E sw_0 38 = .inl (E.2.1 38, (6, .inl (fun _ => 0))) := by
  rw [sw_ce_i (t := 1) (n := 6) rfl (by decide) (by decide)]
  rfl
theorem kz_40 (E : sw_E) : sw_ce E sw_0 40 = .inl (E.2.1 40, (30, .inl (fun _ => 0))) := by
  rw [sw_ce_i (t := 1) (n := 30) rfl (by decide) (by decide)]
  rfl
theorem kz_41 (E : sw_E) : sw_ce E sw_0 41 = .inl (E.2.1 41, (30, .inl (fun _ => 0))) := by
  rw [sw_ce_i (t := 1) (n := 30) rfl (by decide) (by decide)]
  rfl
theorem kz_42 (E : sw_E) : sw_ce E sw_0 42 = .inl (E.2.1 42, (30, .inl (fun _ => 0))) := by
  rw [sw_ce_i (t := 1) (n := 30) rfl (by decide) (by decide)]
  rfl
theorem kz_43 (E : sw_E) : sw_ce E sw_0 43 = .inl (E.2.1 43, (30, .inl (fun _ => 0))) := by
  rw [sw_ce_i (t := 3) (n := 30) rfl (by decide) (by decide)]
  rfl
theorem kz_44 (E : sw_E) : sw_ce E sw_0 44 = .inl (E.2.1 44, (30, .inl (fun _ => 0))) := by
  rw [sw_ce_i (t := 1) (n := 30) rfl (by decide) (by decide)]
  rfl
theorem kz_45 (E : sw_E) : sw_ce E sw_0 45 = .inl (E.2.1 45, (30, .inl (fun _ => 0))) := by
  rw [sw_ce_i (t := 1) (n := 30) rfl (by decide) (by decide)]
  rfl
theorem kz_46 (E : sw_E) : sw_ce E sw_0 46 = .inl (E.2.1 46, (5, .inl (fun _ => 0))) := by
  rw [sw_ce_i (t := 1) (n := 5) rfl (by decide) (by decide)]
  rfl
theorem kz_47 (E : sw_E) : sw_ce E sw_0 47 = .inl (E.2.1 47, (2015, .inl (fun _ => 0))) := by
  rw [sw_ce_i (t := 1) (n := 2015) rfl (by decide) (by decide)]
  rfl
theorem kz_48 (E : sw_E) : sw_ce E sw_0 48 = .inl (E.2.1 48, (6, .inl (fun _ => 0))) := by
  rw [sw_ce_i (t := 1) (n := 6) rfl (by decide) (by decide)]
  rfl
theorem kz_50 (E : sw_E) : sw_ce E sw_0 50 = .inl (E.2.1 50, (1600, .inl (fun _ => 0))) := by
  rw [sw_ce_i (t := 1) (n := 1600) rfl (by decide) (by decide)]
  rfl
theorem kz_51 (E : sw_E) : sw_ce E sw_0 51 = .inl (E.2.1 51, (16, .inr (.inl (fun _ => 0)))) := by
  rw [sw_ce_l (n := 16) rfl]
  rfl
theorem kz_52 (E : sw_E) : sw_ce E sw_0 52 = .inl (E.2.1 52, (320, .inl (fun _ => 0))) := by
  rw [sw_ce_i (t := 1) (n := 320) rfl (by decide) (by decide)]
  rfl
theorem kz_53 (E : sw_E) : sw_ce E sw_0 53 = .inl (E.2.1 53, (320, .inl (fun _ => 0))) := by
  rw [sw_ce_i (t := 1) (n := 320) rfl (by decide) (by decide)]
  rfl
theorem kz_54 (E : sw_E) : sw_ce E sw_0 54 = .inl (E.2.1 54, (320, .inl (fun _ => 0))) := by
  rw [sw_ce_i (t := 1) (n := 320) rfl (by decide) (by decide)]
  rfl
theorem kz_55 (E : sw_E) : sw_ce E sw_0 55 = .inl (E.2.1 55, (320, .inl (fun _ => 0))) := by
  rw [sw_ce_i (t := 1) (n := 320) rfl (by decide) (by decide)]
  rfl
theorem kz_56 (E : sw_E) : sw_ce E sw_0 56 = .inl (E.2.1 56, (160, .inl (fun _ => 0))) := by
  rw [sw_ce_i (t := 1) (n := 160) rfl (by decide) (by decide)]
  rfl
theorem kz_57 (E : sw_E) : sw_ce E sw_0 57 = .inl (E.2.1 57, (64, .inl (fun _ => 0))) := by
  rw [sw_ce_i (t := 1) (n := 64) rfl (by decide) (by decide)]
  rfl
theorem kz_58 (E : sw_E) : sw_ce E sw_0 58 = .inl (E.2.1 58, (6, .inl (fun _ => 0))) := by
  rw [sw_ce_i (t := 1) (n := 6) rfl (by decide) (by decide)]
  rfl
theorem kz_59 (E : sw_E) : sw_ce E sw_0 59 = .inl (E.2.1 59, (35, .inl (fun _ => 0))) := by
  rw [sw_ce_i (t := 1) (n := 35) rfl (by decide) (by decide)]
  rfl
theorem kz_60 (E : sw_E) : sw_ce E sw_0 60 = .inl (E.2.1 60, (20, .inl (fun _ => 0))) := by
  rw [sw_ce_i (t := 1) (n := 20) rfl (by decide) (by decide)]
  rfl
theorem kz_61 (E : sw_E) : sw_ce E sw_0 61 = .inl (E.2.1 61, (24, .inl (fun _ => 0))) := by
  rw [sw_ce_i (t := 1) (n := 24) rfl (by decide) (by decide)]
  rfl
theorem kz_62 (E : sw_E) : sw_ce E sw_0 62 = .inl (E.2.1 62, (35, .inl (fun _ => 0))) := by
  rw [sw_ce_i (t := 1) (n := 35) rfl (by decide) (by decide)]
  rfl
theorem kz_63 (E : sw_E) : sw_ce E sw_0 63 = .inl (E.2.1 63, (20, .inl (fun _ => 0))) := by
  rw [sw_ce_i (t := 1) (n := 20) rfl (by decide) (by decide)]
  rfl
theorem kz_64 (E : sw_E) : sw_ce E sw_0 64 = .inl (E.2.1 64, (24, .inl (fun _ => 0))) := by
  rw [sw_ce_i (t := 1) (n := 24) rfl (by decide) (by decide)]
  rfl
theorem kz_65 (E : sw_E) : sw_ce E sw_0 65 = .inl (E.2.1 65, (10, .inl (fun _ => 0))) := by
  rw [sw_ce_i (t := 1) (n := 10) rfl (by decide) (by decide)]
  rfl
theorem kz_66 (E : sw_E) : sw_ce E sw_0 66 = .inl (E.2.1 66, (10, .inl (fun _ => 0))) := by
  rw [sw_ce_i (t := 1) (n := 10) rfl (by decide) (by decide)]
  rfl
theorem kz_67 (E : sw_E) : sw_ce E sw_0 67 = .inl (E.2.1 67, (400, .inl (fun _ => 0))) := by
  rw [sw_ce_i (t := 1) (n := 400) rfl (by decide) (by decide)]
  rfl
theorem kz_68 (E : sw_E) : sw_ce E sw_0 68 = .inl (E.2.1 68, (5, .inl (fun _ => 0))) := by
  rw [sw_ce_i (t := 1) (n := 5) rfl (by decide) (by decide)]
  rfl
theorem kz_69 (E : sw_E) : sw_ce E sw_0 69 = .inl (E.2.1 69, (6, .inl (fun _ => 0))) := by
  rw [sw_ce_i (t := 1) (n := 6) rfl (by decide) (by decide)]
  rfl
theorem kz_70 (E : sw_E) : sw_ce E sw_0 70 = .inl (E.2.1 70, (6, .inl (fun _ => 0))) := by
  rw [sw_ce_i (t := 1) (n := 6) rfl (by decide) (by decide)]
  rfl
theorem kz_71 (E : sw_E) : sw_ce E sw_0 71 = .inl (E.2.1 71, (4, .inl (fun _ => 0))) := by
  rw [sw_ce_i (t := 1) (n := 4) rfl (by decide) (by decide)]
  rfl
theorem kz_72 (E : sw_E) : sw_ce E sw_0 72 = .inl (E.2.1 72, (4, .inl (fun _ => 0))) := by
  rw [sw_ce_i (t := 1) (n := 4) rfl (by decide) (by decide)]
  rfl
theorem kz_73 (E : sw_E) : sw_ce E sw_0 73 = .inl (E.2.1 73, (30, .inl (fun _ => 0))) := by
  rw [sw_ce_i (t := 1) (n := 30) rfl (by decide) (by decide)]
  rfl
theorem kz_74 (E : sw_E) : sw_ce E sw_0 74 = .inl (E.2.1 74, (30, .inl (fun _ => 0))) := by
  rw [sw_ce_i (t := 1) (n := 30) rfl (by decide) (by decide)]
  rfl
theorem kz_75 (E : sw_E) : sw_ce E sw_0 75 = .inl (E.2.1 75, (30, .inl (fun _ => 0))) := by
  rw [sw_ce_i (t := 1) (n := 30) rfl (by decide) (by decide)]
  rfl
theorem kz_76 (E : sw_E) : sw_ce E sw_0 76 = .inl (E.2.1 76, (30, .inl (fun _ => 0))) := by
  rw [sw_ce_i (t := 1) (n := 30) rfl (by decide) (by decide)]
  rfl
theorem kz_77 (E : sw_E) : sw_ce E sw_0 77 = .inl (E.2.1 77, (30, .inl (fun _ => 0))) := by
  rw [sw_ce_i (t := 1) (n := 30) rfl (by decide) (by decide)]
  rfl
theorem kz_78 (E : sw_E) : sw_ce E sw_0 78 = .inl (E.2.1 78, (30, .inl (fun _ => 0))) := by
  rw [sw_ce_i (t := 3) (n := 30) rfl (by decide) (by decide)]
  rfl
theorem kz_79 (E : sw_E) : sw_ce E sw_0 79 = .inl (E.2.1 79, (2015, .inl (fun _ => 0))) := by
  rw [sw_ce_i (t := 1) (n := 2015) rfl (by decide) (by decide)]
  rfl
theorem kz_80 (E : sw_E) : sw_ce E sw_0 80 = .inl (E.2.1 80, (1000, .inl (fun _ => 0))) := by
  rw [sw_ce_i (t := 1) (n := 1000) rfl (by decide) (by decide)]
  rfl
theorem kz_81 (E : sw_E) : sw_ce E sw_0 81 = .inl (E.2.1 81, (31, .inl (fun _ => 0))) := by
  rw [sw_ce_i (t := 3) (n := 31) rfl (by decide) (by decide)]
  rfl
theorem kz_82 (E : sw_E) : sw_ce E sw_0 82 = .inl (E.2.1 82, (3, .inl (fun _ => 0))) := by
  rw [sw_ce_i (t := 3) (n := 3) rfl (by decide) (by decide)]
  rfl
theorem kz_83 (E : sw_E) : sw_ce E sw_0 83 = .inl (E.2.1 83, (30, .inl (fun _ => 0))) := by
  rw [sw_ce_i (t := 1) (n := 30) rfl (by decide) (by decide)]
  rfl
def kd_0 : List Value := [.null, .int 0, .int 0]
theorem kf_0 {E : sw_E} : ∀ j, j < 3 → defaultValue (tyX0 j) = vp_V (kd_0.map (sw_g E)) j := by
  intro j hj
  have h : ∀ j, j < 3 → defaultValue (tyX0 j) = vp_V kd_0 j := by decide +kernel
  rw [h j hj]
  have e : kd_0.map (sw_g E) = kd_0 := rfl
  rw [e]
def kd_1 : List Value := [.null, .null]
theorem kf_1 {E : sw_E} : ∀ j, j < 2 → defaultValue (tyX1 j) = vp_V (kd_1.map (sw_g E)) j := by
  intro j hj
  have h : ∀ j, j < 2 → defaultValue (tyX1 j) = vp_V kd_1 j := by decide +kernel
  rw [h j hj]
  have e : kd_1.map (sw_g E) = kd_1 := rfl
  rw [e]
def kd_2 : List Value := [.int 0, .int 0, .int 0, .null, .null, .null]
theorem kf_2 {E : sw_E} : ∀ j, j < 6 → defaultValue (tyX2 j) = vp_V (kd_2.map (sw_g E)) j := by
  intro j hj
  have h : ∀ j, j < 6 → defaultValue (tyX2 j) = vp_V kd_2 j := by decide +kernel
  rw [h j hj]
  have e : kd_2.map (sw_g E) = kd_2 := rfl
  rw [e]
def kd_3 : List Value := [.null, .null, .null]
theorem kf_3 {E : sw_E} : ∀ j, j < 3 → defaultValue (tyX3 j) = vp_V (kd_3.map (sw_g E)) j := by
  intro j hj
  have h : ∀ j, j < 3 → defaultValue (tyX3 j) = vp_V kd_3 j := by decide +kernel
  rw [h j hj]
  have e : kd_3.map (sw_g E) = kd_3 := rfl
  rw [e]
def kd_4 : List Value := [.int 0, .int 0, .int 0, .int 0, .int 0, .int 0, .int 0, .int 0, .int 0, .null, .null, .null, .null, .null, .null, .null]
theorem kf_4 {E : sw_E} : ∀ j, j < 16 → defaultValue (tyX4 j) = vp_V (kd_4.map (sw_g E)) j := by
  intro j hj
  have h : ∀ j, j < 16 → defaultValue (tyX4 j) = vp_V kd_4 j := by decide +kernel
  rw [h j hj]
  have e : kd_4.map (sw_g E) = kd_4 := rfl
  rw [e]
def kd_5 : List Value := [.null, .null, .int 0, .int 0, .int 0]
theorem kf_5 {E : sw_E} : ∀ j, j < 5 → defaultValue (tyX5 j) = vp_V (kd_5.map (sw_g E)) j := by
  intro j hj
  have h : ∀ j, j < 5 → defaultValue (tyX5 j) = vp_V kd_5 j := by decide +kernel
  rw [h j hj]
  have e : kd_5.map (sw_g E) = kd_5 := rfl
  rw [e]
def kd_6 : List Value := [.int 0, .null, .null, .null, .null, .null, .null, .null, .null, .int 0]
theorem kf_6 {E : sw_E} : ∀ j, j < 10 → defaultValue (tyX6 j) = vp_V (kd_6.map (sw_g E)) j := by
  intro j hj
  have h : ∀ j, j < 10 → defaultValue (tyX6 j) = vp_V kd_6 j := by decide +kernel
  rw [h j hj]
  have e : kd_6.map (sw_g E) = kd_6 := rfl
  rw [e]
def kd_7 : List Value := [.null, .int 0, .null, .int 0, .int 0, .int 0, .long 0, .int 0, .int 0, .int 0]
theorem kf_7 {E : sw_E} : ∀ j, j < 10 → defaultValue (tyX7 j) = vp_V (kd_7.map (sw_g E)) j := by
  intro j hj
  have h : ∀ j, j < 10 → defaultValue (tyX7 j) = vp_V kd_7 j := by decide +kernel
  rw [h j hj]
  have e : kd_7.map (sw_g E) = kd_7 := rfl
  rw [e]
def kd_8 : List Value := [.null, .int 0, .int 0, .int 0, .int 0, .int 0]
theorem kf_8 {E : sw_E} : ∀ j, j < 6 → defaultValue (tyX8 j) = vp_V (kd_8.map (sw_g E)) j := by
  intro j hj
  have h : ∀ j, j < 6 → defaultValue (tyX8 j) = vp_V kd_8 j := by decide +kernel
  rw [h j hj]
  have e : kd_8.map (sw_g E) = kd_8 := rfl
  rw [e]
def kd_9 : List Value := [.null, .null, .null, .null, .null, .null, .null, .null, .int 0, .int 0]
theorem kf_9 {E : sw_E} : ∀ j, j < 10 → defaultValue (tyX9 j) = vp_V (kd_9.map (sw_g E)) j := by
  intro j hj
  have h : ∀ j, j < 10 → defaultValue (tyX9 j) = vp_V kd_9 j := by decide +kernel
  rw [h j hj]
  have e : kd_9.map (sw_g E) = kd_9 := rfl
  rw [e]
def kd_10 : List Value := [.null, .int 0, .int 0, .int 0, .int 0, .int 0, .int 0, .int 0, .int 0, .long 0, .null, .null, .null, .null, .null, .null, .null, .int 0, .int 0, .int 0, .int 0, .int 0, .int 0, .int 0, .int 0, .int 0, .null, .null, .null, .null, .null, .null, .null, .int 0, .int 0, .int 0, .int 0, .int 0, .int 0, .int 0, .int 0, .int 0, .int 0, .int 0, .int 0, .int 0, .int 0, .int 0, .int 0, .null, .null, .null, .int 0, .int 0, .null, .null, .null, .int 0, .null, .null, .null, .null, .null, .null, .null, .null, .int 0, .int 0, .null, .null, .null, .null, .null]
theorem kf_10 {E : sw_E} : ∀ j, j < 73 → defaultValue (tyX10 j) = vp_V (kd_10.map (sw_g E)) j := by
  intro j hj
  have h : ∀ j, j < 73 → defaultValue (tyX10 j) = vp_V kd_10 j := by decide +kernel
  rw [h j hj]
  have e : kd_10.map (sw_g E) = kd_10 := rfl
  rw [e]
theorem kv_2 (E : sw_E) : (.inr (7, ([.ref 3, .int 0, .ref 4, .int 0, .int 0, .int 0, .long 0, .int 0, .int 0, .int 0] : List Value).map (sw_g E)) : va_E) = sw_ce E sw_0 2 := rfl
set_option maxRecDepth 20000 in
theorem kk_7_2 {l : Launch} {E : sw_E} {base : Nat} (hB : sw_B E base) : sw_Ck l E base 6 2 7 3 2 1619 yX7_init cX7_init 1 kd_7 := by
  unfold kd_7
  refine sw_K_ent (own := RX7) (by decide +kernel) (by decide) rfl rfl hB ?_
  refine kc_aload (by decide +kernel) ?_
  refine kc_oinit (by decide) koi_X7_3 ko_i ko_c (by decide +kernel) ?_
  refine kc_aload (by decide +kernel) ?_
  refine kc_sipush (z := 1600) (v := 1600) (by decide +kernel) (by decide) ?_
  refine kc_newa (atype := .byte) (ty := .byte) (N := 1600) (t := 0) (a0 := (1600, .inl (fun _ => 0))) ka_byte rfl (by decide) (fun cA => rfl) rfl kr_byte (kz_3 E) (by decide) (by decide) (by decide) (by decide) (Nat.le_of_ble_eq_true rfl) (by decide +kernel) ?_
  refine kc_putF (k0 := 0) (v := .ref 3) tyX7 rfl sw_in7 tyX7_ok nmX7 (by decide) lk_X7_9 rfl rfl (tyX7_ok 0 (by decide)) rfl rfl (by decide) (by decide +kernel) ?_
  refine kc_aload (by decide +kernel) ?_
  refine kc_spell (by decide) (by decide) (Nat.le_of_ble_eq_true rfl) (Nat.le_of_ble_eq_true rfl) (by decide +kernel) (by decide +kernel) ?_
  refine kc_putF (k0 := 2) (v := .ref 4) tyX7 rfl sw_in7 tyX7_ok nmX7 (by decide) lk_X7_21 rfl rfl (tyX7_ok 2 (by decide)) rfl rfl (by decide) (by decide +kernel) ?_
  exact kc_vret (by decide) (kv_2 E) rfl rfl rfl (by decide +kernel)
theorem kv_12 (E : sw_E) : (.inr (2, ([.int 0, .int 0, .int 0, .ref 13, .ref 14, .ref 15] : List Value).map (sw_g E)) : va_E) = sw_ce E sw_0 12 := rfl
set_option maxRecDepth 20000 in
theorem kk_2_12 {l : Launch} {E : sw_E} {base : Nat} (hB : sw_B E base) : sw_Ck l E base 1 12 2 4 3 307 yX2_init cX2_init 1 kd_2 := by
  unfold kd_2
  refine sw_K_ent (own := RX2) (by decide +kernel) (by decide) rfl rfl hB ?_
  refine kc_aload (by decide +kernel) ?_
  refine kc_oinit (by decide) koi_X2_5 ko_i ko_c (by decide +kernel) ?_
  refine kc_aload (by decide +kernel) ?_
  refine kc_sipush (z := 270) (v := 270) (by decide +kernel) (by decide) ?_
  refine kc_newa (atype := .int) (ty := .int) (N := 270) (t := 0) (a0 := (270, .inl (fun _ => 0))) ka_int rfl (by decide) (fun cA => rfl) rfl kr_int (kz_13 E) (by decide) (by decide) (by decide) (by decide) (Nat.le_of_ble_eq_true rfl) (by decide +kernel) ?_
  refine kc_putF (k0 := 3) (v := .ref 13) tyX2 rfl sw_in2 tyX2_ok nmX2 (by decide) lk_X2_11 rfl rfl (tyX2_ok 3 (by decide)) rfl rfl (by decide) (by decide +kernel) ?_
  refine kc_aload (by decide +kernel) ?_
  refine kc_bipush (z := 31) (v := 31) (by decide +kernel) (by decide) ?_
  refine kc_newa (atype := .int) (ty := .int) (N := 31) (t := 0) (a0 := (31, .inl (fun _ => 0))) ka_int rfl (by decide) (fun cA => rfl) rfl kr_int (kz_14 E) (by decide) (by decide) (by decide) (by decide) (Nat.le_of_ble_eq_true rfl) (by decide +kernel) ?_
  refine kc_putF (k0 := 4) (v := .ref 14) tyX2 rfl sw_in2 tyX2_ok nmX2 (by decide) lk_X2_15 rfl rfl (tyX2_ok 4 (by decide)) rfl rfl (by decide) (by decide +kernel) ?_
  refine kc_aload (by decide +kernel) ?_
  refine kc_bipush (z := 6) (v := 6) (by decide +kernel) (by decide) ?_
  refine kc_newa (atype := .int) (ty := .int) (N := 6) (t := 0) (a0 := (6, .inl (fun _ => 0))) ka_int rfl (by decide) (fun cA => rfl) rfl kr_int (kz_15 E) (by decide) (by decide) (by decide) (by decide) (Nat.le_of_ble_eq_true rfl) (by decide +kernel) ?_
  refine kc_putF (k0 := 5) (v := .ref 15) tyX2 rfl sw_in2 tyX2_ok nmX2 (by decide) lk_X2_18 rfl rfl (tyX2_ok 5 (by decide)) rfl rfl (by decide) (by decide +kernel) ?_
  exact kc_vret (by decide) (kv_12 E) rfl rfl rfl (by decide +kernel)
theorem kv_5 (E : sw_E) : (.inr (4, ([.int 0, .int 0, .int 0, .int 0, .int 0, .int 0, .int 0, .int 0, .int 0, .ref 6, .ref 7, .ref 8, .ref 9, .ref 10, .ref 11, .ref 12] : List Value).map (sw_g E)) : va_E) = sw_ce E sw_0 5 := rfl
set_option maxRecDepth 20000 in
theorem kk_4_5 {l : Launch} {E : sw_E} {base : Nat} (hB : sw_B E base) : sw_Ck l E base 2 5 4 11 10 408 yX4_init cX4_init 1 kd_4 := by
  unfold kd_4
  refine sw_K_ent (own := RX4) (by decide +kernel) (by decide) rfl rfl hB ?_
  refine kc_aload (by decide +kernel) ?_
  refine kc_oinit (by decide) koi_X4_3 ko_i ko_c (by decide +kernel) ?_
  refine kc_aload (by decide +kernel) ?_
  refine kc_iconst (z := 5) (v := 5) (by decide +kernel) (by decide) ?_
  refine kc_newa (atype := .long) (ty := .long) (N := 5) (t := 0) (a0 := (5, .inr (.inl (fun _ => 0)))) ka_long rfl (by decide) (fun cA => rfl) rfl kr_long (kz_6 E) (by decide) (by decide) (by decide) (by decide) (Nat.le_of_ble_eq_true rfl) (by decide +kernel) ?_
  refine kc_putF (k0 := 9) (v := .ref 6) tyX4 rfl sw_in4 tyX4_ok nmX4 (by decide) lk_X4_9 rfl rfl (tyX4_ok 9 (by decide)) rfl rfl (by decide) (by decide +kernel) ?_
  refine kc_aload (by decide +kernel) ?_
  refine kc_bipush (z := 7) (v := 7) (by decide +kernel) (by decide) ?_
  refine kc_newa (atype := .long) (ty := .long) (N := 7) (t := 0) (a0 := (7, .inr (.inl (fun _ => 0)))) ka_long rfl (by decide) (fun cA => rfl) rfl kr_long (kz_7 E) (by decide) (by decide) (by decide) (by decide) (Nat.le_of_ble_eq_true rfl) (by decide +kernel) ?_
  refine kc_putF (k0 := 10) (v := .ref 7) tyX4 rfl sw_in4 tyX4_ok nmX4 (by decide) lk_X4_15 rfl rfl (tyX4_ok 10 (by decide)) rfl rfl (by decide) (by decide +kernel) ?_
  refine kc_aload (by decide +kernel) ?_
  refine kc_iconst (z := 4) (v := 4) (by decide +kernel) (by decide) ?_
  refine kc_newa (atype := .long) (ty := .long) (N := 4) (t := 0) (a0 := (4, .inr (.inl (fun _ => 0)))) ka_long rfl (by decide) (fun cA => rfl) rfl kr_long (kz_8 E) (by decide) (by decide) (by decide) (by decide) (Nat.le_of_ble_eq_true rfl) (by decide +kernel) ?_
  refine kc_putF (k0 := 11) (v := .ref 8) tyX4 rfl sw_in4 tyX4_ok nmX4 (by decide) lk_X4_18 rfl rfl (tyX4_ok 11 (by decide)) rfl rfl (by decide) (by decide +kernel) ?_
  refine kc_aload (by decide +kernel) ?_
  refine kc_bipush (z := 35) (v := 35) (by decide +kernel) (by decide) ?_
  refine kc_newa (atype := .int) (ty := .int) (N := 35) (t := 0) (a0 := (35, .inl (fun _ => 0))) ka_int rfl (by decide) (fun cA => rfl) rfl kr_int (kz_9 E) (by decide) (by decide) (by decide) (by decide) (Nat.le_of_ble_eq_true rfl) (by decide +kernel) ?_
  refine kc_putF (k0 := 12) (v := .ref 9) tyX4 rfl sw_in4 tyX4_ok nmX4 (by decide) lk_X4_21 rfl rfl (tyX4_ok 12 (by decide)) rfl rfl (by decide) (by decide +kernel) ?_
  refine kc_aload (by decide +kernel) ?_
  refine kc_bipush (z := 20) (v := 20) (by decide +kernel) (by decide) ?_
  refine kc_newa (atype := .int) (ty := .int) (N := 20) (t := 0) (a0 := (20, .inl (fun _ => 0))) ka_int rfl (by decide) (fun cA => rfl) rfl kr_int (kz_10 E) (by decide) (by decide) (by decide) (by decide) (Nat.le_of_ble_eq_true rfl) (by decide +kernel) ?_
  refine kc_putF (k0 := 13) (v := .ref 10) tyX4 rfl sw_in4 tyX4_ok nmX4 (by decide) lk_X4_25 rfl rfl (tyX4_ok 13 (by decide)) rfl rfl (by decide) (by decide +kernel) ?_
  refine kc_aload (by decide +kernel) ?_
  refine kc_bipush (z := 24) (v := 24) (by decide +kernel) (by decide) ?_
  refine kc_newa (atype := .int) (ty := .int) (N := 24) (t := 0) (a0 := (24, .inl (fun _ => 0))) ka_int rfl (by decide) (fun cA => rfl) rfl kr_int (kz_11 E) (by decide) (by decide) (by decide) (by decide) (Nat.le_of_ble_eq_true rfl) (by decide +kernel) ?_
  refine kc_putF (k0 := 14) (v := .ref 11) tyX4 rfl sw_in4 tyX4_ok nmX4 (by decide) lk_X4_28 rfl rfl (tyX4_ok 14 (by decide)) rfl rfl (by decide) (by decide +kernel) ?_
  refine kc_aload (by decide +kernel) ?_
  refine kc_child (K2 := 1) (n2 := 4) (mc2 := 3) (ms2 := 307) tyX2 (kk_2_12 hB) (by decide) (by decide) rfl rfl sw_in2 tyX2_ok kcl_X4_31 kin_2 kii_2 kii_2 kf_2 kn_X4_33 cd_X2_init kim_2 rfl kiy_2 (by decide) (by decide) (Nat.le_of_ble_eq_true rfl) (Nat.le_of_ble_eq_true rfl) (by decide) (by decide +kernel) (by decide +kernel) (by decide +kernel) ?_
  refine kc_putF (k0 := 15) (v := .ref 12) tyX4 rfl sw_in4 tyX4_ok nmX4 (by decide) lk_X4_34 rfl rfl (tyX4_ok 15 (by decide)) rfl rfl (by decide) (by decide +kernel) ?_
  exact kc_vret (by decide) (kv_5 E) rfl rfl rfl (by decide +kernel)
theorem kv_1 (E : sw_E) : (.inr (5, ([.ref 2, .ref 5, .int 0, .int (-1), .int 0] : List Value).map (sw_g E)) : va_E) = sw_ce E sw_0 1 := rfl
set_option maxRecDepth 20000 in
theorem kk_5_1 {l : Launch} {E : sw_E} {base : Nat} (hB : sw_B E base) : sw_Ck l E base 7 1 5 15 14 2053 yX5_init cX5_init 1 kd_5 := by
  unfold kd_5
  refine sw_K_ent (own := RX5) (by decide +kernel) (by decide) rfl rfl hB ?_
  refine kc_aload (by decide +kernel) ?_
  refine kc_oinit (by decide) koi_X5_3 ko_i ko_c (by decide +kernel) ?_
  refine kc_aload (by decide +kernel) ?_
  refine kc_child (K2 := 6) (n2 := 3) (mc2 := 2) (ms2 := 1619) tyX7 (kk_7_2 hB) (by decide) (by decide) rfl rfl sw_in7 tyX7_ok kcl_X5_9 kin_7 kii_7 kii_7 kf_7 kn_X5_11 cd_X7_init kim_7 rfl kiy_7 (by decide) (by decide) (Nat.le_of_ble_eq_true rfl) (Nat.le_of_ble_eq_true rfl) (by decide) (by decide +kernel) (by decide +kernel) (by decide +kernel) ?_
  refine kc_putF (k0 := 0) (v := .ref 2) tyX5 rfl sw_in5 tyX5_ok nmX5 (by decide) lk_X5_12 rfl rfl (tyX5_ok 0 (by decide)) rfl rfl (by decide) (by decide +kernel) ?_
  refine kc_aload (by decide +kernel) ?_
  refine kc_child (K2 := 2) (n2 := 11) (mc2 := 10) (ms2 := 408) tyX4 (kk_4_5 hB) (by decide) (by decide) rfl rfl sw_in4 tyX4_ok kcl_X5_18 kin_4 kii_4 kii_4 kf_4 kn_X5_20 cd_X4_init kim_4 rfl kiy_4 (by decide) (by decide) (Nat.le_of_ble_eq_true rfl) (Nat.le_of_ble_eq_true rfl) (by decide) (by decide +kernel) (by decide +kernel) (by decide +kernel) ?_
  refine kc_put (k0 := 1) (v := .ref 5) tyX5 rfl sw_in5 tyX5_ok nmX5 (by decide) lk_X5_21 rfl (tyX5_ok 1 (by decide)) rfl rfl (by decide) (by decide +kernel) ?_
  refine kc_aload (by decide +kernel) ?_
  refine kc_iconst (z := (-1)) (v := (-1)) (by decide +kernel) (by decide) ?_
  refine kc_put (k0 := 3) (v := .int (-1)) tyX5 rfl sw_in5 tyX5_ok nmX5 (by decide) lk_X5_25 rfl (tyX5_ok 3 (by decide)) rfl rfl (by decide) (by decide +kernel) ?_
  exact kc_vret (by decide) (kv_1 E) rfl rfl rfl (by decide +kernel)
theorem kv_23 (E : sw_E) : (.inr (2, ([.int 0, .int 0, .int 0, .ref 24, .ref 25, .ref 26] : List Value).map (sw_g E)) : va_E) = sw_ce E sw_0 23 := rfl
set_option maxRecDepth 20000 in
theorem kk_2_23 {l : Launch} {E : sw_E} {base : Nat} (hB : sw_B E base) : sw_Ck l E base 1 23 2 4 3 307 yX2_init cX2_init 1 kd_2 := by
  unfold kd_2
  refine sw_K_ent (own := RX2) (by decide +kernel) (by decide) rfl rfl hB ?_
  refine kc_aload (by decide +kernel) ?_
  refine kc_oinit (by decide) koi_X2_5 ko_i ko_c (by decide +kernel) ?_
  refine kc_aload (by decide +kernel) ?_
  refine kc_sipush (z := 270) (v := 270) (by decide +kernel) (by decide) ?_
  refine kc_newa (atype := .int) (ty := .int) (N := 270) (t := 0) (a0 := (270, .inl (fun _ => 0))) ka_int rfl (by decide) (fun cA => rfl) rfl kr_int (kz_24 E) (by decide) (by decide) (by decide) (by decide) (Nat.le_of_ble_eq_true rfl) (by decide +kernel) ?_
  refine kc_putF (k0 := 3) (v := .ref 24) tyX2 rfl sw_in2 tyX2_ok nmX2 (by decide) lk_X2_11 rfl rfl (tyX2_ok 3 (by decide)) rfl rfl (by decide) (by decide +kernel) ?_
  refine kc_aload (by decide +kernel) ?_
  refine kc_bipush (z := 31) (v := 31) (by decide +kernel) (by decide) ?_
  refine kc_newa (atype := .int) (ty := .int) (N := 31) (t := 0) (a0 := (31, .inl (fun _ => 0))) ka_int rfl (by decide) (fun cA => rfl) rfl kr_int (kz_25 E) (by decide) (by decide) (by decide) (by decide) (Nat.le_of_ble_eq_true rfl) (by decide +kernel) ?_
  refine kc_putF (k0 := 4) (v := .ref 25) tyX2 rfl sw_in2 tyX2_ok nmX2 (by decide) lk_X2_15 rfl rfl (tyX2_ok 4 (by decide)) rfl rfl (by decide) (by decide +kernel) ?_
  refine kc_aload (by decide +kernel) ?_
  refine kc_bipush (z := 6) (v := 6) (by decide +kernel) (by decide) ?_
  refine kc_newa (atype := .int) (ty := .int) (N := 6) (t := 0) (a0 := (6, .inl (fun _ => 0))) ka_int rfl (by decide) (fun cA => rfl) rfl kr_int (kz_26 E) (by decide) (by decide) (by decide) (by decide) (Nat.le_of_ble_eq_true rfl) (by decide +kernel) ?_
  refine kc_putF (k0 := 5) (v := .ref 26) tyX2 rfl sw_in2 tyX2_ok nmX2 (by decide) lk_X2_18 rfl rfl (tyX2_ok 5 (by decide)) rfl rfl (by decide) (by decide +kernel) ?_
  exact kc_vret (by decide) (kv_23 E) rfl rfl rfl (by decide +kernel)
theorem kv_16 (E : sw_E) : (.inr (4, ([.int 0, .int 0, .int 0, .int 0, .int 0, .int 0, .int 0, .int 0, .int 0, .ref 17, .ref 18, .ref 19, .ref 20, .ref 21, .ref 22, .ref 23] : List Value).map (sw_g E)) : va_E) = sw_ce E sw_0 16 := rfl
set_option maxRecDepth 20000 in
theorem kk_4_16 {l : Launch} {E : sw_E} {base : Nat} (hB : sw_B E base) : sw_Ck l E base 2 16 4 11 10 408 yX4_init cX4_init 1 kd_4 := by
  unfold kd_4
  refine sw_K_ent (own := RX4) (by decide +kernel) (by decide) rfl rfl hB ?_
  refine kc_aload (by decide +kernel) ?_
  refine kc_oinit (by decide) koi_X4_3 ko_i ko_c (by decide +kernel) ?_
  refine kc_aload (by decide +kernel) ?_
  refine kc_iconst (z := 5) (v := 5) (by decide +kernel) (by decide) ?_
  refine kc_newa (atype := .long) (ty := .long) (N := 5) (t := 0) (a0 := (5, .inr (.inl (fun _ => 0)))) ka_long rfl (by decide) (fun cA => rfl) rfl kr_long (kz_17 E) (by decide) (by decide) (by decide) (by decide) (Nat.le_of_ble_eq_true rfl) (by decide +kernel) ?_
  refine kc_putF (k0 := 9) (v := .ref 17) tyX4 rfl sw_in4 tyX4_ok nmX4 (by decide) lk_X4_9 rfl rfl (tyX4_ok 9 (by decide)) rfl rfl (by decide) (by decide +kernel) ?_
  refine kc_aload (by decide +kernel) ?_
  refine kc_bipush (z := 7) (v := 7) (by decide +kernel) (by decide) ?_
  refine kc_newa (atype := .long) (ty := .long) (N := 7) (t := 0) (a0 := (7, .inr (.inl (fun _ => 0)))) ka_long rfl (by decide) (fun cA => rfl) rfl kr_long (kz_18 E) (by decide) (by decide) (by decide) (by decide) (Nat.le_of_ble_eq_true rfl) (by decide +kernel) ?_
  refine kc_putF (k0 := 10) (v := .ref 18) tyX4 rfl sw_in4 tyX4_ok nmX4 (by decide) lk_X4_15 rfl rfl (tyX4_ok 10 (by decide)) rfl rfl (by decide) (by decide +kernel) ?_
  refine kc_aload (by decide +kernel) ?_
  refine kc_iconst (z := 4) (v := 4) (by decide +kernel) (by decide) ?_
  refine kc_newa (atype := .long) (ty := .long) (N := 4) (t := 0) (a0 := (4, .inr (.inl (fun _ => 0)))) ka_long rfl (by decide) (fun cA => rfl) rfl kr_long (kz_19 E) (by decide) (by decide) (by decide) (by decide) (Nat.le_of_ble_eq_true rfl) (by decide +kernel) ?_
  refine kc_putF (k0 := 11) (v := .ref 19) tyX4 rfl sw_in4 tyX4_ok nmX4 (by decide) lk_X4_18 rfl rfl (tyX4_ok 11 (by decide)) rfl rfl (by decide) (by decide +kernel) ?_
  refine kc_aload (by decide +kernel) ?_
  refine kc_bipush (z := 35) (v := 35) (by decide +kernel) (by decide) ?_
  refine kc_newa (atype := .int) (ty := .int) (N := 35) (t := 0) (a0 := (35, .inl (fun _ => 0))) ka_int rfl (by decide) (fun cA => rfl) rfl kr_int (kz_20 E) (by decide) (by decide) (by decide) (by decide) (Nat.le_of_ble_eq_true rfl) (by decide +kernel) ?_
  refine kc_putF (k0 := 12) (v := .ref 20) tyX4 rfl sw_in4 tyX4_ok nmX4 (by decide) lk_X4_21 rfl rfl (tyX4_ok 12 (by decide)) rfl rfl (by decide) (by decide +kernel) ?_
  refine kc_aload (by decide +kernel) ?_
  refine kc_bipush (z := 20) (v := 20) (by decide +kernel) (by decide) ?_
  refine kc_newa (atype := .int) (ty := .int) (N := 20) (t := 0) (a0 := (20, .inl (fun _ => 0))) ka_int rfl (by decide) (fun cA => rfl) rfl kr_int (kz_21 E) (by decide) (by decide) (by decide) (by decide) (Nat.le_of_ble_eq_true rfl) (by decide +kernel) ?_
  refine kc_putF (k0 := 13) (v := .ref 21) tyX4 rfl sw_in4 tyX4_ok nmX4 (by decide) lk_X4_25 rfl rfl (tyX4_ok 13 (by decide)) rfl rfl (by decide) (by decide +kernel) ?_
  refine kc_aload (by decide +kernel) ?_
  refine kc_bipush (z := 24) (v := 24) (by decide +kernel) (by decide) ?_
  refine kc_newa (atype := .int) (ty := .int) (N := 24) (t := 0) (a0 := (24, .inl (fun _ => 0))) ka_int rfl (by decide) (fun cA => rfl) rfl kr_int (kz_22 E) (by decide) (by decide) (by decide) (by decide) (Nat.le_of_ble_eq_true rfl) (by decide +kernel) ?_
  refine kc_putF (k0 := 14) (v := .ref 22) tyX4 rfl sw_in4 tyX4_ok nmX4 (by decide) lk_X4_28 rfl rfl (tyX4_ok 14 (by decide)) rfl rfl (by decide) (by decide +kernel) ?_
  refine kc_aload (by decide +kernel) ?_
  refine kc_child (K2 := 1) (n2 := 4) (mc2 := 3) (ms2 := 307) tyX2 (kk_2_23 hB) (by decide) (by decide) rfl rfl sw_in2 tyX2_ok kcl_X4_31 kin_2 kii_2 kii_2 kf_2 kn_X4_33 cd_X2_init kim_2 rfl kiy_2 (by decide) (by decide) (Nat.le_of_ble_eq_true rfl) (Nat.le_of_ble_eq_true rfl) (by decide) (by decide +kernel) (by decide +kernel) (by decide +kernel) ?_
  refine kc_putF (k0 := 15) (v := .ref 23) tyX4 rfl sw_in4 tyX4_ok nmX4 (by decide) lk_X4_34 rfl rfl (tyX4_ok 15 (by decide)) rfl rfl (by decide) (by decide +kernel) ?_
  exact kc_vret (by decide) (kv_16 E) rfl rfl rfl (by decide +kernel)
theorem kv_27 (E : sw_E) : (.inr (8, ([.ref 28, .int 0, .int 0, .int 0, .int 0, .int 0] : List Value).map (sw_g E)) : va_E) = sw_ce E sw_0 27 := rfl
set_option maxRecDepth 20000 in
theorem kk_8_27 {l : Launch} {E : sw_E} {base : Nat} (hB : sw_B E base) : sw_Ck l E base 1 27 8 2 1 5 yX8_init cX8_init 1 kd_8 := by
  unfold kd_8
  refine sw_K_ent (own := RX8) (by decide +kernel) (by decide) rfl rfl hB ?_
  refine kc_aload (by decide +kernel) ?_
  refine kc_oinit (by decide) koi_X8_3 ko_i ko_c (by decide +kernel) ?_
  refine kc_aload (by decide +kernel) ?_
  refine kc_iconst (z := 5) (v := 5) (by decide +kernel) (by decide) ?_
  refine kc_newa (atype := .int) (ty := .int) (N := 5) (t := 0) (a0 := (5, .inl (fun _ => 0))) ka_int rfl (by decide) (fun cA => rfl) rfl kr_int (kz_28 E) (by decide) (by decide) (by decide) (by decide) (Nat.le_of_ble_eq_true rfl) (by decide +kernel) ?_
  refine kc_putF (k0 := 0) (v := .ref 28) tyX8 rfl sw_in8 tyX8_ok nmX8 (by decide) lk_X8_9 rfl rfl (tyX8_ok 0 (by decide)) rfl rfl (by decide) (by decide +kernel) ?_
  exact kc_vret (by decide) (kv_27 E) rfl rfl rfl (by decide +kernel)
theorem kv_29 (E : sw_E) : (.inr (0, ([.ref 30, .int 0, .int 0] : List Value).map (sw_g E)) : va_E) = sw_ce E sw_0 29 := rfl
set_option maxRecDepth 20000 in
theorem kk_0_29 {l : Launch} {E : sw_E} {base : Nat} (hB : sw_B E base) : sw_Ck l E base 1 29 0 2 1 410 yX0_init cX0_init 1 kd_0 := by
  unfold kd_0
  refine sw_K_ent (own := RX0) (by decide +kernel) (by decide) rfl rfl hB ?_
  refine kc_aload (by decide +kernel) ?_
  refine kc_oinit (by decide) koi_X0_1 ko_i ko_c (by decide +kernel) ?_
  refine kc_aload (by decide +kernel) ?_
  refine kc_sipush (z := 410) (v := 410) (by decide +kernel) (by decide) ?_
  refine kc_newa (atype := .int) (ty := .int) (N := 410) (t := 0) (a0 := (410, .inl (fun _ => 0))) ka_int rfl (by decide) (fun cA => rfl) rfl kr_int (kz_30 E) (by decide) (by decide) (by decide) (by decide) (Nat.le_of_ble_eq_true rfl) (by decide +kernel) ?_
  refine kc_putF (k0 := 0) (v := .ref 30) tyX0 rfl sw_in0 tyX0_ok nmX0 (by decide) lk_X0_11 rfl rfl (tyX0_ok 0 (by decide)) rfl rfl (by decide) (by decide +kernel) ?_
  exact kc_vret (by decide) (kv_29 E) rfl rfl rfl (by decide +kernel)
theorem kv_31 (E : sw_E) : (.inr (1, ([.ref 32, .ref 33] : List Value).map (sw_g E)) : va_E) = sw_ce E sw_0 31 := rfl
set_option maxRecDepth 20000 in
theorem kk_1_31 {l : Launch} {E : sw_E} {base : Nat} (hB : sw_B E base) : sw_Ck l E base 1 31 1 3 2 33 yX1_init cX1_init 1 kd_1 := by
  unfold kd_1
  refine sw_K_ent (own := RX1) (by decide +kernel) (by decide) rfl rfl hB ?_
  refine kc_aload (by decide +kernel) ?_
  refine kc_oinit (by decide) koi_X1_1 ko_i ko_c (by decide +kernel) ?_
  refine kc_aload (by decide +kernel) ?_
  refine kc_iconst (z := 3) (v := 3) (by decide +kernel) (by decide) ?_
  refine kc_newa (atype := .boolean) (ty := .boolean) (N := 3) (t := 0) (a0 := (3, .inl (fun _ => 0))) ka_boolean rfl (by decide) (fun cA => rfl) rfl kr_boolean (kz_32 E) (by decide) (by decide) (by decide) (by decide) (Nat.le_of_ble_eq_true rfl) (by decide +kernel) ?_
  refine kc_putF (k0 := 0) (v := .ref 32) tyX1 rfl sw_in1 tyX1_ok nmX1 (by decide) lk_X1_9 rfl rfl (tyX1_ok 0 (by decide)) rfl rfl (by decide) (by decide +kernel) ?_
  refine kc_aload (by decide +kernel) ?_
  refine kc_bipush (z := 30) (v := 30) (by decide +kernel) (by decide) ?_
  refine kc_newa (atype := .int) (ty := .int) (N := 30) (t := 0) (a0 := (30, .inl (fun _ => 0))) ka_int rfl (by decide) (fun cA => rfl) rfl kr_int (kz_33 E) (by decide) (by decide) (by decide) (by decide) (Nat.le_of_ble_eq_true rfl) (by decide +kernel) ?_
  refine kc_putF (k0 := 1) (v := .ref 33) tyX1 rfl sw_in1 tyX1_ok nmX1 (by decide) lk_X1_15 rfl rfl (tyX1_ok 1 (by decide)) rfl rfl (by decide) (by decide +kernel) ?_
  exact kc_vret (by decide) (kv_31 E) rfl rfl rfl (by decide +kernel)
theorem kv_35 (E : sw_E) : (.inr (8, ([.ref 36, .int 0, .int 0, .int 0, .int 0, .int 0] : List Value).map (sw_g E)) : va_E) = sw_ce E sw_0 35 := rfl
set_option maxRecDepth 20000 in
theorem kk_8_35 {l : Launch} {E : sw_E} {base : Nat} (hB : sw_B E base) : sw_Ck l E base 1 35 8 2 1 5 yX8_init cX8_init 1 kd_8 := by
  unfold kd_8
  refine sw_K_ent (own := RX8) (by decide +kernel) (by decide) rfl rfl hB ?_
  refine kc_aload (by decide +kernel) ?_
  refine kc_oinit (by decide) koi_X8_3 ko_i ko_c (by decide +kernel) ?_
  refine kc_aload (by decide +kernel) ?_
  refine kc_iconst (z := 5) (v := 5) (by decide +kernel) (by decide) ?_
  refine kc_newa (atype := .int) (ty := .int) (N := 5) (t := 0) (a0 := (5, .inl (fun _ => 0))) ka_int rfl (by decide) (fun cA => rfl) rfl kr_int (kz_36 E) (by decide) (by decide) (by decide) (by decide) (Nat.le_of_ble_eq_true rfl) (by decide +kernel) ?_
  refine kc_putF (k0 := 0) (v := .ref 36) tyX8 rfl sw_in8 tyX8_ok nmX8 (by decide) lk_X8_9 rfl rfl (tyX8_ok 0 (by decide)) rfl rfl (by decide) (by decide +kernel) ?_
  exact kc_vret (by decide) (kv_35 E) rfl rfl rfl (by decide +kernel)
theorem kv_34 (E : sw_E) : (.inr (3, ([.ref 35, .ref 37, .ref 38] : List Value).map (sw_g E)) : va_E) = sw_ce E sw_0 34 := rfl
set_option maxRecDepth 20000 in
theorem kk_3_34 {l : Launch} {E : sw_E} {base : Nat} (hB : sw_B E base) : sw_Ck l E base 2 34 3 5 4 22 yX3_init cX3_init 1 kd_3 := by
  unfold kd_3
  refine sw_K_ent (own := RX3) (by decide +kernel) (by decide) rfl rfl hB ?_
  refine kc_aload (by decide +kernel) ?_
  refine kc_oinit (by decide) koi_X3_3 ko_i ko_c (by decide +kernel) ?_
  refine kc_aload (by decide +kernel) ?_
  refine kc_child (K2 := 1) (n2 := 2) (mc2 := 1) (ms2 := 5) tyX8 (kk_8_35 hB) (by decide) (by decide) rfl rfl sw_in8 tyX8_ok kcl_X3_9 kin_8 kii_8 kii_8 kf_8 kn_X3_11 cd_X8_init kim_8 rfl kiy_8 (by decide) (by decide) (Nat.le_of_ble_eq_true rfl) (Nat.le_of_ble_eq_true rfl) (by decide) (by decide +kernel) (by decide +kernel) (by decide +kernel) ?_
  refine kc_putF (k0 := 0) (v := .ref 35) tyX3 rfl sw_in3 tyX3_ok nmX3 (by decide) lk_X3_12 rfl rfl (tyX3_ok 0 (by decide)) rfl rfl (by decide) (by decide +kernel) ?_
  refine kc_aload (by decide +kernel) ?_
  refine kc_iconst (z := 5) (v := 5) (by decide +kernel) (by decide) ?_
  refine kc_newa (atype := .int) (ty := .int) (N := 5) (t := 0) (a0 := (5, .inl (fun _ => 0))) ka_int rfl (by decide) (fun cA => rfl) rfl kr_int (kz_37 E) (by decide) (by decide) (by decide) (by decide) (Nat.le_of_ble_eq_true rfl) (by decide +kernel) ?_
  refine kc_putF (k0 := 1) (v := .ref 37) tyX3 rfl sw_in3 tyX3_ok nmX3 (by decide) lk_X3_18 rfl rfl (tyX3_ok 1 (by decide)) rfl rfl (by decide) (by decide +kernel) ?_
  refine kc_aload (by decide +kernel) ?_
  refine kc_bipush (z := 6) (v := 6) (by decide +kernel) (by decide) ?_
  refine kc_newa (atype := .int) (ty := .int) (N := 6) (t := 0) (a0 := (6, .inl (fun _ => 0))) ka_int rfl (by decide) (fun cA => rfl) rfl kr_int (kz_38 E) (by decide) (by decide) (by decide) (by decide) (Nat.le_of_ble_eq_true rfl) (by decide +kernel) ?_
  refine kc_putF (k0 := 2) (v := .ref 38) tyX3 rfl sw_in3 tyX3_ok nmX3 (by decide) lk_X3_22 rfl rfl (tyX3_ok 2 (by decide)) rfl rfl (by decide) (by decide +kernel) ?_
  exact kc_vret (by decide) (kv_34 E) rfl rfl rfl (by decide +kernel)
theorem kv_39 (E : sw_E) : (.inr (6, ([.int 0, .ref 40, .ref 41, .ref 42, .ref 43, .ref 44, .ref 45, .ref 46, .ref 47, .int 0] : List Value).map (sw_g E)) : va_E) = sw_ce E sw_0 39 := rfl
set_option maxRecDepth 20000 in
theorem kk_6_39 {l : Launch} {E : sw_E} {base : Nat} (hB : sw_B E base) : sw_Ck l E base 1 39 6 9 8 2200 yX6_init cX6_init 1 kd_6 := by
  unfold kd_6
  refine sw_K_ent (own := RX6) (by decide +kernel) (by decide) rfl rfl hB ?_
  refine kc_aload (by decide +kernel) ?_
  refine kc_oinit (by decide) koi_X6_3 ko_i ko_c (by decide +kernel) ?_
  refine kc_aload (by decide +kernel) ?_
  refine kc_bipush (z := 30) (v := 30) (by decide +kernel) (by decide) ?_
  refine kc_newa (atype := .int) (ty := .int) (N := 30) (t := 0) (a0 := (30, .inl (fun _ => 0))) ka_int rfl (by decide) (fun cA => rfl) rfl kr_int (kz_40 E) (by decide) (by decide) (by decide) (by decide) (Nat.le_of_ble_eq_true rfl) (by decide +kernel) ?_
  refine kc_putF (k0 := 1) (v := .ref 40) tyX6 rfl sw_in6 tyX6_ok nmX6 (by decide) lk_X6_11 rfl rfl (tyX6_ok 1 (by decide)) rfl rfl (by decide) (by decide +kernel) ?_
  refine kc_aload (by decide +kernel) ?_
  refine kc_bipush (z := 30) (v := 30) (by decide +kernel) (by decide) ?_
  refine kc_newa (atype := .int) (ty := .int) (N := 30) (t := 0) (a0 := (30, .inl (fun _ => 0))) ka_int rfl (by decide) (fun cA => rfl) rfl kr_int (kz_41 E) (by decide) (by decide) (by decide) (by decide) (Nat.le_of_ble_eq_true rfl) (by decide +kernel) ?_
  refine kc_putF (k0 := 2) (v := .ref 41) tyX6 rfl sw_in6 tyX6_ok nmX6 (by decide) lk_X6_15 rfl rfl (tyX6_ok 2 (by decide)) rfl rfl (by decide) (by decide +kernel) ?_
  refine kc_aload (by decide +kernel) ?_
  refine kc_bipush (z := 30) (v := 30) (by decide +kernel) (by decide) ?_
  refine kc_newa (atype := .int) (ty := .int) (N := 30) (t := 0) (a0 := (30, .inl (fun _ => 0))) ka_int rfl (by decide) (fun cA => rfl) rfl kr_int (kz_42 E) (by decide) (by decide) (by decide) (by decide) (Nat.le_of_ble_eq_true rfl) (by decide +kernel) ?_
  refine kc_putF (k0 := 3) (v := .ref 42) tyX6 rfl sw_in6 tyX6_ok nmX6 (by decide) lk_X6_18 rfl rfl (tyX6_ok 3 (by decide)) rfl rfl (by decide) (by decide +kernel) ?_
  refine kc_aload (by decide +kernel) ?_
  refine kc_bipush (z := 30) (v := 30) (by decide +kernel) (by decide) ?_
  refine kc_newa (atype := .boolean) (ty := .boolean) (N := 30) (t := 0) (a0 := (30, .inl (fun _ => 0))) ka_boolean rfl (by decide) (fun cA => rfl) rfl kr_boolean (kz_43 E) (by decide) (by decide) (by decide) (by decide) (Nat.le_of_ble_eq_true rfl) (by decide +kernel) ?_
  refine kc_putF (k0 := 4) (v := .ref 43) tyX6 rfl sw_in6 tyX6_ok nmX6 (by decide) lk_X6_21 rfl rfl (tyX6_ok 4 (by decide)) rfl rfl (by decide) (by decide +kernel) ?_
  refine kc_aload (by decide +kernel) ?_
  refine kc_bipush (z := 30) (v := 30) (by decide +kernel) (by decide) ?_
  refine kc_newa (atype := .int) (ty := .int) (N := 30) (t := 0) (a0 := (30, .inl (fun _ => 0))) ka_int rfl (by decide) (fun cA => rfl) rfl kr_int (kz_44 E) (by decide) (by decide) (by decide) (by decide) (Nat.le_of_ble_eq_true rfl) (by decide +kernel) ?_
  refine kc_putF (k0 := 5) (v := .ref 44) tyX6 rfl sw_in6 tyX6_ok nmX6 (by decide) lk_X6_25 rfl rfl (tyX6_ok 5 (by decide)) rfl rfl (by decide) (by decide +kernel) ?_
  refine kc_aload (by decide +kernel) ?_
  refine kc_bipush (z := 30) (v := 30) (by decide +kernel) (by decide) ?_
  refine kc_newa (atype := .int) (ty := .int) (N := 30) (t := 0) (a0 := (30, .inl (fun _ => 0))) ka_int rfl (by decide) (fun cA => rfl) rfl kr_int (kz_45 E) (by decide) (by decide) (by decide) (by decide) (Nat.le_of_ble_eq_true rfl) (by decide +kernel) ?_
  refine kc_putF (k0 := 6) (v := .ref 45) tyX6 rfl sw_in6 tyX6_ok nmX6 (by decide) lk_X6_28 rfl rfl (tyX6_ok 6 (by decide)) rfl rfl (by decide) (by decide +kernel) ?_
  refine kc_aload (by decide +kernel) ?_
  refine kc_iconst (z := 5) (v := 5) (by decide +kernel) (by decide) ?_
  refine kc_newa (atype := .int) (ty := .int) (N := 5) (t := 0) (a0 := (5, .inl (fun _ => 0))) ka_int rfl (by decide) (fun cA => rfl) rfl kr_int (kz_46 E) (by decide) (by decide) (by decide) (by decide) (Nat.le_of_ble_eq_true rfl) (by decide +kernel) ?_
  refine kc_putF (k0 := 7) (v := .ref 46) tyX6 rfl sw_in6 tyX6_ok nmX6 (by decide) lk_X6_31 rfl rfl (tyX6_ok 7 (by decide)) rfl rfl (by decide) (by decide +kernel) ?_
  refine kc_aload (by decide +kernel) ?_
  refine kc_sipush (z := 2015) (v := 2015) (by decide +kernel) (by decide) ?_
  refine kc_newa (atype := .int) (ty := .int) (N := 2015) (t := 0) (a0 := (2015, .inl (fun _ => 0))) ka_int rfl (by decide) (fun cA => rfl) rfl kr_int (kz_47 E) (by decide) (by decide) (by decide) (by decide) (Nat.le_of_ble_eq_true rfl) (by decide +kernel) ?_
  refine kc_putF (k0 := 8) (v := .ref 47) tyX6 rfl sw_in6 tyX6_ok nmX6 (by decide) lk_X6_34 rfl rfl (tyX6_ok 8 (by decide)) rfl rfl (by decide) (by decide +kernel) ?_
  exact kc_vret (by decide) (kv_39 E) rfl rfl rfl (by decide +kernel)
theorem kv_0 (E : sw_E) : (.inr (9, ([.ref 1, .ref 16, .ref 27, .ref 29, .ref 31, .ref 34, .ref 39, .ref 48, .int 0, .int 0] : List Value).map (sw_g E)) : va_E) = sw_ce E sw_0 0 := rfl
set_option maxRecDepth 20000 in
theorem kk_9_0 {l : Launch} {E : sw_E} {base : Nat} (hB : sw_B E base) : sw_Ck l E base 8 0 9 49 48 5182 yX9_init cX9_init 1 kd_9 := by
  unfold kd_9
  refine sw_K_ent (own := RX9) (by decide +kernel) (by decide) rfl rfl hB ?_
  refine kc_aload (by decide +kernel) ?_
  refine kc_oinit (by decide) koi_X9_1 ko_i ko_c (by decide +kernel) ?_
  refine kc_aload (by decide +kernel) ?_
  refine kc_child (K2 := 7) (n2 := 15) (mc2 := 14) (ms2 := 2053) tyX5 (kk_5_1 hB) (by decide) (by decide) rfl rfl sw_in5 tyX5_ok kcl_X9_7 kin_5 kii_5 kii_5 kf_5 kn_X9_9 cd_X5_init kim_5 rfl kiy_5 (by decide) (by decide) (Nat.le_of_ble_eq_true rfl) (Nat.le_of_ble_eq_true rfl) (by decide) (by decide +kernel) (by decide +kernel) (by decide +kernel) ?_
  refine kc_putF (k0 := 0) (v := .ref 1) tyX9 rfl sw_in9 tyX9_ok nmX9 (by decide) lk_X9_10 rfl rfl (tyX9_ok 0 (by decide)) rfl rfl (by decide) (by decide +kernel) ?_
  refine kc_aload (by decide +kernel) ?_
  refine kc_child (K2 := 2) (n2 := 11) (mc2 := 10) (ms2 := 408) tyX4 (kk_4_16 hB) (by decide) (by decide) rfl rfl sw_in4 tyX4_ok kcl_X9_16 kin_4 kii_4 kii_4 kf_4 kn_X9_18 cd_X4_init kim_4 rfl kiy_4 (by decide) (by decide) (Nat.le_of_ble_eq_true rfl) (Nat.le_of_ble_eq_true rfl) (by decide) (by decide +kernel) (by decide +kernel) (by decide +kernel) ?_
  refine kc_put (k0 := 1) (v := .ref 16) tyX9 rfl sw_in9 tyX9_ok nmX9 (by decide) lk_X9_19 rfl (tyX9_ok 1 (by decide)) rfl rfl (by decide) (by decide +kernel) ?_
  refine kc_aload (by decide +kernel) ?_
  refine kc_child (K2 := 1) (n2 := 2) (mc2 := 1) (ms2 := 5) tyX8 (kk_8_27 hB) (by decide) (by decide) rfl rfl sw_in8 tyX8_ok kcl_X9_23 kin_8 kii_8 kii_8 kf_8 kn_X9_25 cd_X8_init kim_8 rfl kiy_8 (by decide) (by decide) (Nat.le_of_ble_eq_true rfl) (Nat.le_of_ble_eq_true rfl) (by decide) (by decide +kernel) (by decide +kernel) (by decide +kernel) ?_
  refine kc_putF (k0 := 2) (v := .ref 27) tyX9 rfl sw_in9 tyX9_ok nmX9 (by decide) lk_X9_26 rfl rfl (tyX9_ok 2 (by decide)) rfl rfl (by decide) (by decide +kernel) ?_
  refine kc_aload (by decide +kernel) ?_
  refine kc_child (K2 := 1) (n2 := 2) (mc2 := 1) (ms2 := 410) tyX0 (kk_0_29 hB) (by decide) (by decide) rfl rfl sw_in0 tyX0_ok kcl_X9_30 kin_0 kii_0 kii_0 kf_0 kn_X9_32 cd_X0_init kim_0 rfl kiy_0 (by decide) (by decide) (Nat.le_of_ble_eq_true rfl) (Nat.le_of_ble_eq_true rfl) (by decide) (by decide +kernel) (by decide +kernel) (by decide +kernel) ?_
  refine kc_putF (k0 := 3) (v := .ref 29) tyX9 rfl sw_in9 tyX9_ok nmX9 (by decide) lk_X9_33 rfl rfl (tyX9_ok 3 (by decide)) rfl rfl (by decide) (by decide +kernel) ?_
  refine kc_aload (by decide +kernel) ?_
  refine kc_child (K2 := 1) (n2 := 3) (mc2 := 2) (ms2 := 33) tyX1 (kk_1_31 hB) (by decide) (by decide) rfl rfl sw_in1 tyX1_ok kcl_X9_37 kin_1 kii_1 kii_1 kf_1 kn_X9_39 cd_X1_init kim_1 rfl kiy_1 (by decide) (by decide) (Nat.le_of_ble_eq_true rfl) (Nat.le_of_ble_eq_true rfl) (by decide) (by decide +kernel) (by decide +kernel) (by decide +kernel) ?_
  refine kc_putF (k0 := 4) (v := .ref 31) tyX9 rfl sw_in9 tyX9_ok nmX9 (by decide) lk_X9_40 rfl rfl (tyX9_ok 4 (by decide)) rfl rfl (by decide) (by decide +kernel) ?_
  refine kc_aload (by decide +kernel) ?_
  refine kc_child (K2 := 2) (n2 := 5) (mc2 := 4) (ms2 := 22) tyX3 (kk_3_34 hB) (by decide) (by decide) rfl rfl sw_in3 tyX3_ok kcl_X9_44 kin_3 kii_3 kii_3 kf_3 kn_X9_46 cd_X3_init kim_3 rfl kiy_3 (by decide) (by decide) (Nat.le_of_ble_eq_true rfl) (Nat.le_of_ble_eq_true rfl) (by decide) (by decide +kernel) (by decide +kernel) (by decide +kernel) ?_
  refine kc_putF (k0 := 5) (v := .ref 34) tyX9 rfl sw_in9 tyX9_ok nmX9 (by decide) lk_X9_47 rfl rfl (tyX9_ok 5 (by decide)) rfl rfl (by decide) (by decide +kernel) ?_
  refine kc_aload (by decide +kernel) ?_
  refine kc_child (K2 := 1) (n2 := 9) (mc2 := 8) (ms2 := 2200) tyX6 (kk_6_39 hB) (by decide) (by decide) rfl rfl sw_in6 tyX6_ok kcl_X9_51 kin_6 kii_6 kii_6 kf_6 kn_X9_53 cd_X6_init kim_6 rfl kiy_6 (by decide) (by decide) (Nat.le_of_ble_eq_true rfl) (Nat.le_of_ble_eq_true rfl) (by decide) (by decide +kernel) (by decide +kernel) (by decide +kernel) ?_
  refine kc_putF (k0 := 6) (v := .ref 39) tyX9 rfl sw_in9 tyX9_ok nmX9 (by decide) lk_X9_54 rfl rfl (tyX9_ok 6 (by decide)) rfl rfl (by decide) (by decide +kernel) ?_
  refine kc_aload (by decide +kernel) ?_
  refine kc_bipush (z := 6) (v := 6) (by decide +kernel) (by decide) ?_
  refine kc_newa (atype := .int) (ty := .int) (N := 6) (t := 0) (a0 := (6, .inl (fun _ => 0))) ka_int rfl (by decide) (fun cA => rfl) rfl kr_int (kz_48 E) (by decide) (by decide) (by decide) (by decide) (Nat.le_of_ble_eq_true rfl) (by decide +kernel) ?_
  refine kc_putF (k0 := 7) (v := .ref 48) tyX9 rfl sw_in9 tyX9_ok nmX9 (by decide) lk_X9_58 rfl rfl (tyX9_ok 7 (by decide)) rfl rfl (by decide) (by decide +kernel) ?_
  exact kc_vret (by decide) (kv_0 E) rfl rfl rfl (by decide +kernel)
theorem kv_49 (E : sw_E) : (.inr (10, ([.ref 50, .int 0, .int 0, .int (-1), .int 0, .int 0, .int 0, .int 0, .int 0, .long 0, .ref 51, .ref 52, .ref 53, .ref 54, .ref 55, .ref 56, .ref 57, .int 0, .int 0, .int 0, .int 0, .int 0, .int 0, .int 0, .int 0, .int 0, .ref 58, .ref 59, .ref 60, .ref 61, .ref 62, .ref 63, .ref 64, .int 0, .int 0, .int 0, .int 0, .int 0, .int 0, .int 0, .int 0, .int 0, .int 0, .int 0, .int 0, .int 0, .int 0, .int 0, .int 0, .ref 65, .ref 66, .ref 67, .int 0, .int 0, .ref 68, .ref 69, .ref 70, .int 0, .ref 71, .ref 72, .ref 73, .ref 74, .ref 75, .ref 76, .ref 77, .ref 78, .int 0, .int 0, .ref 79, .ref 80, .ref 81, .ref 82, .ref 83] : List Value).map (sw_g E)) : va_E) = sw_ce E sw_0 49 := rfl
set_option maxRecDepth 20000 in
theorem kk_10_49 {l : Launch} {E : sw_E} {base : Nat} (hB : sw_B E base) : sw_Ck l E base 1 49 10 35 34 6988 yX10_init cX10_init 1 kd_10 := by
  unfold kd_10
  refine sw_K_ent (own := RX10) (by decide +kernel) (by decide) rfl rfl hB ?_
  refine kc_aload (by decide +kernel) ?_
  refine kc_oinit (by decide) koi_X10_1 ko_i ko_c (by decide +kernel) ?_
  refine kc_aload (by decide +kernel) ?_
  refine kc_sipush (z := 1600) (v := 1600) (by decide +kernel) (by decide) ?_
  refine kc_newa (atype := .int) (ty := .int) (N := 1600) (t := 0) (a0 := (1600, .inl (fun _ => 0))) ka_int rfl (by decide) (fun cA => rfl) rfl kr_int (kz_50 E) (by decide) (by decide) (by decide) (by decide) (Nat.le_of_ble_eq_true rfl) (by decide +kernel) ?_
  refine kc_putF (k0 := 0) (v := .ref 50) tyX10 rfl sw_in10 tyX10_ok nmX10 (by decide) lk_X10_7 rfl rfl (tyX10_ok 0 (by decide)) rfl rfl (by decide) (by decide +kernel) ?_
  refine kc_aload (by decide +kernel) ?_
  refine kc_iconst (z := (-1)) (v := (-1)) (by decide +kernel) (by decide) ?_
  refine kc_put (k0 := 3) (v := .int (-1)) tyX10 rfl sw_in10 tyX10_ok nmX10 (by decide) lk_X10_13 rfl (tyX10_ok 3 (by decide)) rfl rfl (by decide) (by decide +kernel) ?_
  refine kc_aload (by decide +kernel) ?_
  refine kc_bipush (z := 16) (v := 16) (by decide +kernel) (by decide) ?_
  refine kc_newa (atype := .long) (ty := .long) (N := 16) (t := 0) (a0 := (16, .inr (.inl (fun _ => 0)))) ka_long rfl (by decide) (fun cA => rfl) rfl kr_long (kz_51 E) (by decide) (by decide) (by decide) (by decide) (Nat.le_of_ble_eq_true rfl) (by decide +kernel) ?_
  refine kc_putF (k0 := 10) (v := .ref 51) tyX10 rfl sw_in10 tyX10_ok nmX10 (by decide) lk_X10_17 rfl rfl (tyX10_ok 10 (by decide)) rfl rfl (by decide) (by decide +kernel) ?_
  refine kc_aload (by decide +kernel) ?_
  refine kc_sipush (z := 320) (v := 320) (by decide +kernel) (by decide) ?_
  refine kc_newa (atype := .int) (ty := .int) (N := 320) (t := 0) (a0 := (320, .inl (fun _ => 0))) ka_int rfl (by decide) (fun cA => rfl) rfl kr_int (kz_52 E) (by decide) (by decide) (by decide) (by decide) (Nat.le_of_ble_eq_true rfl) (by decide +kernel) ?_
  refine kc_putF (k0 := 11) (v := .ref 52) tyX10 rfl sw_in10 tyX10_ok nmX10 (by decide) lk_X10_21 rfl rfl (tyX10_ok 11 (by decide)) rfl rfl (by decide) (by decide +kernel) ?_
  refine kc_aload (by decide +kernel) ?_
  refine kc_sipush (z := 320) (v := 320) (by decide +kernel) (by decide) ?_
  refine kc_newa (atype := .int) (ty := .int) (N := 320) (t := 0) (a0 := (320, .inl (fun _ => 0))) ka_int rfl (by decide) (fun cA => rfl) rfl kr_int (kz_53 E) (by decide) (by decide) (by decide) (by decide) (Nat.le_of_ble_eq_true rfl) (by decide +kernel) ?_
  refine kc_putF (k0 := 12) (v := .ref 53) tyX10 rfl sw_in10 tyX10_ok nmX10 (by decide) lk_X10_24 rfl rfl (tyX10_ok 12 (by decide)) rfl rfl (by decide) (by decide +kernel) ?_
  refine kc_aload (by decide +kernel) ?_
  refine kc_sipush (z := 320) (v := 320) (by decide +kernel) (by decide) ?_
  refine kc_newa (atype := .int) (ty := .int) (N := 320) (t := 0) (a0 := (320, .inl (fun _ => 0))) ka_int rfl (by decide) (fun cA => rfl) rfl kr_int (kz_54 E) (by decide) (by decide) (by decide) (by decide) (Nat.le_of_ble_eq_true rfl) (by decide +kernel) ?_
  refine kc_putF (k0 := 13) (v := .ref 54) tyX10 rfl sw_in10 tyX10_ok nmX10 (by decide) lk_X10_27 rfl rfl (tyX10_ok 13 (by decide)) rfl rfl (by decide) (by decide +kernel) ?_
  refine kc_aload (by decide +kernel) ?_
  refine kc_sipush (z := 320) (v := 320) (by decide +kernel) (by decide) ?_
  refine kc_newa (atype := .int) (ty := .int) (N := 320) (t := 0) (a0 := (320, .inl (fun _ => 0))) ka_int rfl (by decide) (fun cA => rfl) rfl kr_int (kz_55 E) (by decide) (by decide) (by decide) (by decide) (Nat.le_of_ble_eq_true rfl) (by decide +kernel) ?_
  refine kc_putF (k0 := 14) (v := .ref 55) tyX10 rfl sw_in10 tyX10_ok nmX10 (by decide) lk_X10_30 rfl rfl (tyX10_ok 14 (by decide)) rfl rfl (by decide) (by decide +kernel) ?_
  refine kc_aload (by decide +kernel) ?_
  refine kc_sipush (z := 160) (v := 160) (by decide +kernel) (by decide) ?_
  refine kc_newa (atype := .int) (ty := .int) (N := 160) (t := 0) (a0 := (160, .inl (fun _ => 0))) ka_int rfl (by decide) (fun cA => rfl) rfl kr_int (kz_56 E) (by decide) (by decide) (by decide) (by decide) (Nat.le_of_ble_eq_true rfl) (by decide +kernel) ?_
  refine kc_putF (k0 := 15) (v := .ref 56) tyX10 rfl sw_in10 tyX10_ok nmX10 (by decide) lk_X10_33 rfl rfl (tyX10_ok 15 (by decide)) rfl rfl (by decide) (by decide +kernel) ?_
  refine kc_aload (by decide +kernel) ?_
  refine kc_bipush (z := 64) (v := 64) (by decide +kernel) (by decide) ?_
  refine kc_newa (atype := .int) (ty := .int) (N := 64) (t := 0) (a0 := (64, .inl (fun _ => 0))) ka_int rfl (by decide) (fun cA => rfl) rfl kr_int (kz_57 E) (by decide) (by decide) (by decide) (by decide) (Nat.le_of_ble_eq_true rfl) (by decide +kernel) ?_
  refine kc_putF (k0 := 16) (v := .ref 57) tyX10 rfl sw_in10 tyX10_ok nmX10 (by decide) lk_X10_36 rfl rfl (tyX10_ok 16 (by decide)) rfl rfl (by decide) (by decide +kernel) ?_
  refine kc_aload (by decide +kernel) ?_
  refine kc_bipush (z := 6) (v := 6) (by decide +kernel) (by decide) ?_
  refine kc_newa (atype := .int) (ty := .int) (N := 6) (t := 0) (a0 := (6, .inl (fun _ => 0))) ka_int rfl (by decide) (fun cA => rfl) rfl kr_int (kz_58 E) (by decide) (by decide) (by decide) (by decide) (Nat.le_of_ble_eq_true rfl) (by decide +kernel) ?_
  refine kc_putF (k0 := 26) (v := .ref 58) tyX10 rfl sw_in10 tyX10_ok nmX10 (by decide) lk_X10_39 rfl rfl (tyX10_ok 26 (by decide)) rfl rfl (by decide) (by decide +kernel) ?_
  refine kc_aload (by decide +kernel) ?_
  refine kc_bipush (z := 35) (v := 35) (by decide +kernel) (by decide) ?_
  refine kc_newa (atype := .int) (ty := .int) (N := 35) (t := 0) (a0 := (35, .inl (fun _ => 0))) ka_int rfl (by decide) (fun cA => rfl) rfl kr_int (kz_59 E) (by decide) (by decide) (by decide) (by decide) (Nat.le_of_ble_eq_true rfl) (by decide +kernel) ?_
  refine kc_putF (k0 := 27) (v := .ref 59) tyX10 rfl sw_in10 tyX10_ok nmX10 (by decide) lk_X10_42 rfl rfl (tyX10_ok 27 (by decide)) rfl rfl (by decide) (by decide +kernel) ?_
  refine kc_aload (by decide +kernel) ?_
  refine kc_bipush (z := 20) (v := 20) (by decide +kernel) (by decide) ?_
  refine kc_newa (atype := .int) (ty := .int) (N := 20) (t := 0) (a0 := (20, .inl (fun _ => 0))) ka_int rfl (by decide) (fun cA => rfl) rfl kr_int (kz_60 E) (by decide) (by decide) (by decide) (by decide) (Nat.le_of_ble_eq_true rfl) (by decide +kernel) ?_
  refine kc_putF (k0 := 28) (v := .ref 60) tyX10 rfl sw_in10 tyX10_ok nmX10 (by decide) lk_X10_45 rfl rfl (tyX10_ok 28 (by decide)) rfl rfl (by decide) (by decide +kernel) ?_
  refine kc_aload (by decide +kernel) ?_
  refine kc_bipush (z := 24) (v := 24) (by decide +kernel) (by decide) ?_
  refine kc_newa (atype := .int) (ty := .int) (N := 24) (t := 0) (a0 := (24, .inl (fun _ => 0))) ka_int rfl (by decide) (fun cA => rfl) rfl kr_int (kz_61 E) (by decide) (by decide) (by decide) (by decide) (Nat.le_of_ble_eq_true rfl) (by decide +kernel) ?_
  refine kc_putF (k0 := 29) (v := .ref 61) tyX10 rfl sw_in10 tyX10_ok nmX10 (by decide) lk_X10_48 rfl rfl (tyX10_ok 29 (by decide)) rfl rfl (by decide) (by decide +kernel) ?_
  refine kc_aload (by decide +kernel) ?_
  refine kc_bipush (z := 35) (v := 35) (by decide +kernel) (by decide) ?_
  refine kc_newa (atype := .int) (ty := .int) (N := 35) (t := 0) (a0 := (35, .inl (fun _ => 0))) ka_int rfl (by decide) (fun cA => rfl) rfl kr_int (kz_62 E) (by decide) (by decide) (by decide) (by decide) (Nat.le_of_ble_eq_true rfl) (by decide +kernel) ?_
  refine kc_putF (k0 := 30) (v := .ref 62) tyX10 rfl sw_in10 tyX10_ok nmX10 (by decide) lk_X10_51 rfl rfl (tyX10_ok 30 (by decide)) rfl rfl (by decide) (by decide +kernel) ?_
  refine kc_aload (by decide +kernel) ?_
  refine kc_bipush (z := 20) (v := 20) (by decide +kernel) (by decide) ?_
  refine kc_newa (atype := .int) (ty := .int) (N := 20) (t := 0) (a0 := (20, .inl (fun _ => 0))) ka_int rfl (by decide) (fun cA => rfl) rfl kr_int (kz_63 E) (by decide) (by decide) (by decide) (by decide) (Nat.le_of_ble_eq_true rfl) (by decide +kernel) ?_
  refine kc_putF (k0 := 31) (v := .ref 63) tyX10 rfl sw_in10 tyX10_ok nmX10 (by decide) lk_X10_54 rfl rfl (tyX10_ok 31 (by decide)) rfl rfl (by decide) (by decide +kernel) ?_
  refine kc_aload (by decide +kernel) ?_
  refine kc_bipush (z := 24) (v := 24) (by decide +kernel) (by decide) ?_
  refine kc_newa (atype := .int) (ty := .int) (N := 24) (t := 0) (a0 := (24, .inl (fun _ => 0))) ka_int rfl (by decide) (fun cA => rfl) rfl kr_int (kz_64 E) (by decide) (by decide) (by decide) (by decide) (Nat.le_of_ble_eq_true rfl) (by decide +kernel) ?_
  refine kc_putF (k0 := 32) (v := .ref 64) tyX10 rfl sw_in10 tyX10_ok nmX10 (by decide) lk_X10_57 rfl rfl (tyX10_ok 32 (by decide)) rfl rfl (by decide) (by decide +kernel) ?_
  refine kc_aload (by decide +kernel) ?_
  refine kc_bipush (z := 10) (v := 10) (by decide +kernel) (by decide) ?_
  refine kc_newa (atype := .int) (ty := .int) (N := 10) (t := 0) (a0 := (10, .inl (fun _ => 0))) ka_int rfl (by decide) (fun cA => rfl) rfl kr_int (kz_65 E) (by decide) (by decide) (by decide) (by decide) (Nat.le_of_ble_eq_true rfl) (by decide +kernel) ?_
  refine kc_putF (k0 := 49) (v := .ref 65) tyX10 rfl sw_in10 tyX10_ok nmX10 (by decide) lk_X10_60 rfl rfl (tyX10_ok 49 (by decide)) rfl rfl (by decide) (by decide +kernel) ?_
  refine kc_aload (by decide +kernel) ?_
  refine kc_bipush (z := 10) (v := 10) (by decide +kernel) (by decide) ?_
  refine kc_newa (atype := .int) (ty := .int) (N := 10) (t := 0) (a0 := (10, .inl (fun _ => 0))) ka_int rfl (by decide) (fun cA => rfl) rfl kr_int (kz_66 E) (by decide) (by decide) (by decide) (by decide) (Nat.le_of_ble_eq_true rfl) (by decide +kernel) ?_
  refine kc_putF (k0 := 50) (v := .ref 66) tyX10 rfl sw_in10 tyX10_ok nmX10 (by decide) lk_X10_63 rfl rfl (tyX10_ok 50 (by decide)) rfl rfl (by decide) (by decide +kernel) ?_
  refine kc_aload (by decide +kernel) ?_
  refine kc_sipush (z := 400) (v := 400) (by decide +kernel) (by decide) ?_
  refine kc_newa (atype := .int) (ty := .int) (N := 400) (t := 0) (a0 := (400, .inl (fun _ => 0))) ka_int rfl (by decide) (fun cA => rfl) rfl kr_int (kz_67 E) (by decide) (by decide) (by decide) (by decide) (Nat.le_of_ble_eq_true rfl) (by decide +kernel) ?_
  refine kc_putF (k0 := 51) (v := .ref 67) tyX10 rfl sw_in10 tyX10_ok nmX10 (by decide) lk_X10_66 rfl rfl (tyX10_ok 51 (by decide)) rfl rfl (by decide) (by decide +kernel) ?_
  refine kc_aload (by decide +kernel) ?_
  refine kc_iconst (z := 5) (v := 5) (by decide +kernel) (by decide) ?_
  refine kc_newa (atype := .int) (ty := .int) (N := 5) (t := 0) (a0 := (5, .inl (fun _ => 0))) ka_int rfl (by decide) (fun cA => rfl) rfl kr_int (kz_68 E) (by decide) (by decide) (by decide) (by decide) (Nat.le_of_ble_eq_true rfl) (by decide +kernel) ?_
  refine kc_putF (k0 := 54) (v := .ref 68) tyX10 rfl sw_in10 tyX10_ok nmX10 (by decide) lk_X10_69 rfl rfl (tyX10_ok 54 (by decide)) rfl rfl (by decide) (by decide +kernel) ?_
  refine kc_aload (by decide +kernel) ?_
  refine kc_bipush (z := 6) (v := 6) (by decide +kernel) (by decide) ?_
  refine kc_newa (atype := .int) (ty := .int) (N := 6) (t := 0) (a0 := (6, .inl (fun _ => 0))) ka_int rfl (by decide) (fun cA => rfl) rfl kr_int (kz_69 E) (by decide) (by decide) (by decide) (by decide) (Nat.le_of_ble_eq_true rfl) (by decide +kernel) ?_
  refine kc_putF (k0 := 55) (v := .ref 69) tyX10 rfl sw_in10 tyX10_ok nmX10 (by decide) lk_X10_72 rfl rfl (tyX10_ok 55 (by decide)) rfl rfl (by decide) (by decide +kernel) ?_
  refine kc_aload (by decide +kernel) ?_
  refine kc_bipush (z := 6) (v := 6) (by decide +kernel) (by decide) ?_
  refine kc_newa (atype := .int) (ty := .int) (N := 6) (t := 0) (a0 := (6, .inl (fun _ => 0))) ka_int rfl (by decide) (fun cA => rfl) rfl kr_int (kz_70 E) (by decide) (by decide) (by decide) (by decide) (Nat.le_of_ble_eq_true rfl) (by decide +kernel) ?_
  refine kc_putF (k0 := 56) (v := .ref 70) tyX10 rfl sw_in10 tyX10_ok nmX10 (by decide) lk_X10_75 rfl rfl (tyX10_ok 56 (by decide)) rfl rfl (by decide) (by decide +kernel) ?_
  refine kc_aload (by decide +kernel) ?_
  refine kc_iconst (z := 4) (v := 4) (by decide +kernel) (by decide) ?_
  refine kc_newa (atype := .int) (ty := .int) (N := 4) (t := 0) (a0 := (4, .inl (fun _ => 0))) ka_int rfl (by decide) (fun cA => rfl) rfl kr_int (kz_71 E) (by decide) (by decide) (by decide) (by decide) (Nat.le_of_ble_eq_true rfl) (by decide +kernel) ?_
  refine kc_putF (k0 := 58) (v := .ref 71) tyX10 rfl sw_in10 tyX10_ok nmX10 (by decide) lk_X10_78 rfl rfl (tyX10_ok 58 (by decide)) rfl rfl (by decide) (by decide +kernel) ?_
  refine kc_aload (by decide +kernel) ?_
  refine kc_iconst (z := 4) (v := 4) (by decide +kernel) (by decide) ?_
  refine kc_newa (atype := .int) (ty := .int) (N := 4) (t := 0) (a0 := (4, .inl (fun _ => 0))) ka_int rfl (by decide) (fun cA => rfl) rfl kr_int (kz_72 E) (by decide) (by decide) (by decide) (by decide) (Nat.le_of_ble_eq_true rfl) (by decide +kernel) ?_
  refine kc_putF (k0 := 59) (v := .ref 72) tyX10 rfl sw_in10 tyX10_ok nmX10 (by decide) lk_X10_81 rfl rfl (tyX10_ok 59 (by decide)) rfl rfl (by decide) (by decide +kernel) ?_
  refine kc_aload (by decide +kernel) ?_
  refine kc_bipush (z := 30) (v := 30) (by decide +kernel) (by decide) ?_
  refine kc_newa (atype := .int) (ty := .int) (N := 30) (t := 0) (a0 := (30, .inl (fun _ => 0))) ka_int rfl (by decide) (fun cA => rfl) rfl kr_int (kz_73 E) (by decide) (by decide) (by decide) (by decide) (Nat.le_of_ble_eq_true rfl) (by decide +kernel) ?_
  refine kc_putF (k0 := 60) (v := .ref 73) tyX10 rfl sw_in10 tyX10_ok nmX10 (by decide) lk_X10_84 rfl rfl (tyX10_ok 60 (by decide)) rfl rfl (by decide) (by decide +kernel) ?_
  refine kc_aload (by decide +kernel) ?_
  refine kc_bipush (z := 30) (v := 30) (by decide +kernel) (by decide) ?_
  refine kc_newa (atype := .int) (ty := .int) (N := 30) (t := 0) (a0 := (30, .inl (fun _ => 0))) ka_int rfl (by decide) (fun cA => rfl) rfl kr_int (kz_74 E) (by decide) (by decide) (by decide) (by decide) (Nat.le_of_ble_eq_true rfl) (by decide +kernel) ?_
  refine kc_putF (k0 := 61) (v := .ref 74) tyX10 rfl sw_in10 tyX10_ok nmX10 (by decide) lk_X10_87 rfl rfl (tyX10_ok 61 (by decide)) rfl rfl (by decide) (by decide +kernel) ?_
  refine kc_aload (by decide +kernel) ?_
  refine kc_bipush (z := 30) (v := 30) (by decide +kernel) (by decide) ?_
  refine kc_newa (atype := .int) (ty := .int) (N := 30) (t := 0) (a0 := (30, .inl (fun _ => 0))) ka_int rfl (by decide) (fun cA => rfl) rfl kr_int (kz_75 E) (by decide) (by decide) (by decide) (by decide) (Nat.le_of_ble_eq_true rfl) (by decide +kernel) ?_
  refine kc_putF (k0 := 62) (v := .ref 75) tyX10 rfl sw_in10 tyX10_ok nmX10 (by decide) lk_X10_90 rfl rfl (tyX10_ok 62 (by decide)) rfl rfl (by decide) (by decide +kernel) ?_
  refine kc_aload (by decide +kernel) ?_
  refine kc_bipush (z := 30) (v := 30) (by decide +kernel) (by decide) ?_
  refine kc_newa (atype := .int) (ty := .int) (N := 30) (t := 0) (a0 := (30, .inl (fun _ => 0))) ka_int rfl (by decide) (fun cA => rfl) rfl kr_int (kz_76 E) (by decide) (by decide) (by decide) (by decide) (Nat.le_of_ble_eq_true rfl) (by decide +kernel) ?_
  refine kc_putF (k0 := 63) (v := .ref 76) tyX10 rfl sw_in10 tyX10_ok nmX10 (by decide) lk_X10_93 rfl rfl (tyX10_ok 63 (by decide)) rfl rfl (by decide) (by decide +kernel) ?_
  refine kc_aload (by decide +kernel) ?_
  refine kc_bipush (z := 30) (v := 30) (by decide +kernel) (by decide) ?_
  refine kc_newa (atype := .int) (ty := .int) (N := 30) (t := 0) (a0 := (30, .inl (fun _ => 0))) ka_int rfl (by decide) (fun cA => rfl) rfl kr_int (kz_77 E) (by decide) (by decide) (by decide) (by decide) (Nat.le_of_ble_eq_true rfl) (by decide +kernel) ?_
  refine kc_putF (k0 := 64) (v := .ref 77) tyX10 rfl sw_in10 tyX10_ok nmX10 (by decide) lk_X10_96 rfl rfl (tyX10_ok 64 (by decide)) rfl rfl (by decide) (by decide +kernel) ?_
  refine kc_aload (by decide +kernel) ?_
  refine kc_bipush (z := 30) (v := 30) (by decide +kernel) (by decide) ?_
  refine kc_newa (atype := .boolean) (ty := .boolean) (N := 30) (t := 0) (a0 := (30, .inl (fun _ => 0))) ka_boolean rfl (by decide) (fun cA => rfl) rfl kr_boolean (kz_78 E) (by decide) (by decide) (by decide) (by decide) (Nat.le_of_ble_eq_true rfl) (by decide +kernel) ?_
  refine kc_putF (k0 := 65) (v := .ref 78) tyX10 rfl sw_in10 tyX10_ok nmX10 (by decide) lk_X10_99 rfl rfl (tyX10_ok 65 (by decide)) rfl rfl (by decide) (by decide +kernel) ?_
  refine kc_aload (by decide +kernel) ?_
  refine kc_sipush (z := 2015) (v := 2015) (by decide +kernel) (by decide) ?_
  refine kc_newa (atype := .int) (ty := .int) (N := 2015) (t := 0) (a0 := (2015, .inl (fun _ => 0))) ka_int rfl (by decide) (fun cA => rfl) rfl kr_int (kz_79 E) (by decide) (by decide) (by decide) (by decide) (Nat.le_of_ble_eq_true rfl) (by decide +kernel) ?_
  refine kc_putF (k0 := 68) (v := .ref 79) tyX10 rfl sw_in10 tyX10_ok nmX10 (by decide) lk_X10_103 rfl rfl (tyX10_ok 68 (by decide)) rfl rfl (by decide) (by decide +kernel) ?_
  refine kc_aload (by decide +kernel) ?_
  refine kc_sipush (z := 1000) (v := 1000) (by decide +kernel) (by decide) ?_
  refine kc_newa (atype := .int) (ty := .int) (N := 1000) (t := 0) (a0 := (1000, .inl (fun _ => 0))) ka_int rfl (by decide) (fun cA => rfl) rfl kr_int (kz_80 E) (by decide) (by decide) (by decide) (by decide) (Nat.le_of_ble_eq_true rfl) (by decide +kernel) ?_
  refine kc_putF (k0 := 69) (v := .ref 80) tyX10 rfl sw_in10 tyX10_ok nmX10 (by decide) lk_X10_106 rfl rfl (tyX10_ok 69 (by decide)) rfl rfl (by decide) (by decide +kernel) ?_
  refine kc_aload (by decide +kernel) ?_
  refine kc_bipush (z := 31) (v := 31) (by decide +kernel) (by decide) ?_
  refine kc_newa (atype := .boolean) (ty := .boolean) (N := 31) (t := 0) (a0 := (31, .inl (fun _ => 0))) ka_boolean rfl (by decide) (fun cA => rfl) rfl kr_boolean (kz_81 E) (by decide) (by decide) (by decide) (by decide) (Nat.le_of_ble_eq_true rfl) (by decide +kernel) ?_
  refine kc_putF (k0 := 70) (v := .ref 81) tyX10 rfl sw_in10 tyX10_ok nmX10 (by decide) lk_X10_109 rfl rfl (tyX10_ok 70 (by decide)) rfl rfl (by decide) (by decide +kernel) ?_
  refine kc_aload (by decide +kernel) ?_
  refine kc_iconst (z := 3) (v := 3) (by decide +kernel) (by decide) ?_
  refine kc_newa (atype := .boolean) (ty := .boolean) (N := 3) (t := 0) (a0 := (3, .inl (fun _ => 0))) ka_boolean rfl (by decide) (fun cA => rfl) rfl kr_boolean (kz_82 E) (by decide) (by decide) (by decide) (by decide) (Nat.le_of_ble_eq_true rfl) (by decide +kernel) ?_
  refine kc_putF (k0 := 71) (v := .ref 82) tyX10 rfl sw_in10 tyX10_ok nmX10 (by decide) lk_X10_112 rfl rfl (tyX10_ok 71 (by decide)) rfl rfl (by decide) (by decide +kernel) ?_
  refine kc_aload (by decide +kernel) ?_
  refine kc_bipush (z := 30) (v := 30) (by decide +kernel) (by decide) ?_
  refine kc_newa (atype := .int) (ty := .int) (N := 30) (t := 0) (a0 := (30, .inl (fun _ => 0))) ka_int rfl (by decide) (fun cA => rfl) rfl kr_int (kz_83 E) (by decide) (by decide) (by decide) (by decide) (Nat.le_of_ble_eq_true rfl) (by decide +kernel) ?_
  refine kc_putF (k0 := 72) (v := .ref 83) tyX10 rfl sw_in10 tyX10_ok nmX10 (by decide) lk_X10_115 rfl rfl (tyX10_ok 72 (by decide)) rfl rfl (by decide) (by decide +kernel) ?_
  exact kc_vret (by decide) (kv_49 E) rfl rfl rfl (by decide +kernel)
