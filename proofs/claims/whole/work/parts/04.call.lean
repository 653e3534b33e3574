theorem sw_blind (E : sw_E) (As : List Value) (σ : sw_M) (sz : Nat) : FrameBlind (sw_Pc E As σ sz) := by
  intro a U g mk q
  obtain ⟨q0, q1, hMv, hX, qP, qK, qD⟩ := q
  exact ⟨q0, q1, hMv, hMv.2 _ U _ _ rfl hX, qP, va_K.moved (u := U) (U := U.calling g mk a) (Vm.Alike.refl U.vm) qK, qD⟩
theorem sw_goodV {own : String} {index : Nat} {CN : String} {y : MethodName} {cc2 : ByteArray} {nL2 : Nat} {ret2 : Option FieldType} (hlink : Cond.methodLink own index y ∈ sw_T) (hinst : Cond.instanceMethod y ∈ sw_T) (hsel : Cond.selects CN y y ∈ sw_T) (hini : Cond.initialized CN ∈ sw_T) (hcode : Cond.code y cc2 nL2 ret2 ∈ sw_T) : GoodIn sw_T (wsV own index CN y (.code y cc2 nL2 ret2 :: sw_T)) := by
  intro w hw
  have hm : w ∈ sw_T := by
    simp only [wsV, List.cons_append, List.nil_append, List.mem_cons] at hw
    rcases hw with h | h | h | h | h | h
    · rw [h]; exact hlink
    · rw [h]; exact hinst
    · rw [h]; exact hsel
    · rw [h]; exact hini
    · rw [h]; exact hcode
    · exact h
  exact ⟨hm, sw_T_good w hm⟩
theorem sw_goodS {own : String} {index : Nat} {y : MethodName} {cc2 : ByteArray} {nL2 : Nat} {ret2 : Option FieldType} (hlink : Cond.methodLink own index y ∈ sw_T) (hst : Cond.static y ∈ sw_T) (hini : Cond.initialized y.cls ∈ sw_T) (hcode : Cond.code y cc2 nL2 ret2 ∈ sw_T) : GoodIn sw_T (va_wsS own index y (.code y cc2 nL2 ret2 :: sw_T)) := by
  intro w hw
  have hm : w ∈ sw_T := by
    simp only [va_wsS, List.cons_append, List.nil_append, List.mem_cons] at hw
    rcases hw with h | h | h | h | h
    · rw [h]; exact hlink
    · rw [h]; exact hst
    · rw [h]; exact hini
    · rw [h]; exact hcode
    · exact h
  exact ⟨hm, sw_T_good w hm⟩
section CALL
variable {l : Launch} {E : sw_E} {K : Nat} {own : String} {cc : ByteArray} {nL : Nat} {ret : Option FieldType} {pc : Nat} {lv lv' : List (Nat × Value)} {st st0 : List Value} {σ σ' : sw_M} {r : Option Value}
theorem sw_cat_sum (E : sw_E) (st : List Value) : ((st.map (sw_g E)).map fun v => v.category).sum = (st.map fun v => v.category).sum := by
  rw [List.map_map]
  congr 1
  apply List.map_congr_left
  intro v _
  exact sw_g_cat E v
theorem sw_free {A : Nat → Prop} {H0 H : Heap} {locs : List Loc} (hD : va_D A (sw_wl E σ)) (hS : va_S A H0 H locs) (hA : ∀ q, H0.size ≤ q → A q) : ∀ q, va_A (sw_wl E σ) H.size q → A q := by
  intro q h
  rcases h with ⟨k, e, h⟩ | h
  · exact hD.2 k (q, e) h
  · exact hA q (Nat.le_trans hS.1 h)
/-- behind a call -/
theorem sw_after {p : Program} {e : Env} {s : State} {m : MethodId} {args : Array Value} {below : List Frame} {meth : Method} {c : Code} {H : Heap} {locs : List Loc} {A A1 : Nat → Prop} {ls : Array Slot} {r2 : Option Value} {σ2 : sw_M} {a : Array Value} {Q : State → Prop}
    (hr : va_Run p l e (sw_rm K) s m args below meth c H locs 0 0 0 0 (F0 m pc ls (st0.map (sw_g E))) (st.map (sw_g E)) (sw_Qc E r2 σ2 A1 a) A1) (hS : va_S A s.heap H locs) (hA : ∀ q, A1 q → A q)
    (kk : ∀ (H1 : Heap) (locs1 : List Loc), va_P (sw_D E) sw_cl (sw_wl E σ2) H1 → va_S A s.heap H1 locs1 → W p l e (sw_rm K) s m args below meth c H1 locs1 0 0 Q (F0 m (pc + 3) ls ((r2.toList ++ st).map (sw_g E)))) : W p l e (sw_rm K) s m args below meth c H locs 0 0 Q (F0 m pc ls (st0.map (sw_g E))) := by
  intro T hT X
  obtain ⟨v, st₀, t, T', L, h0, X', hL, e1, e2, ⟨hv, hP2, hK2, hz, hk⟩, stp⟩ := hr T hT X
  injection hv with hv
  rw [h0] at hz hk
  have hS1 : va_S A s.heap T'.heap (locs ++ L) := ⟨Nat.le_trans hS.1 (by rw [e1]; exact hz), fun q h1 h2 => by rw [e1, hk q (Nat.lt_of_lt_of_le h1 hS.1) (fun z => h2 (hA q z))]; exact hS.2.1 q h1 h2, fun q hq => by
      rcases List.mem_append.mp hq with h | h
      · exact hS.2.2 q h
      · exact hA _ (hL q h)⟩
  obtain ⟨t2, a1, b1⟩ := kk T'.heap (locs ++ L) (by rw [e1]; exact hP2) hS1 T' rfl X'
  refine ⟨t2, stp t2 ?_, b1⟩
  have hst : v.toList ++ st.map (sw_g E) = (r2.toList ++ st).map (sw_g E) := by
    rw [hv, List.map_append]
    cases r2 <;> rfl
  rw [hst]
  exact a1
theorem sw_callV {K2 : Nat} {y : MethodName} {cc2 : ByteArray} {nL2 : Nat} {ret2 : Option FieldType} {i ci index n N : Nat} {CN : String} {T : u_T} {r2 : Option Value} {σ2 : sw_M} (As : List Value)
    (hM : sw_Ct l E K2 y cc2 nL2 ret2 (.ref i :: As) σ r2 σ2) (hst : st0 = As.reverse ++ .ref i :: st) (hK : K2 + 1 ≤ K)
    (hc : sw_cl[ci]? = some (CN, T, N)) (hG : GoodIn sw_T (wsV own index CN y (.code y cc2 nL2 ret2 :: sw_T)))
    (hy : y.cls = CN ∧ y.cls ≠ "java/lang/invoke/MethodHandle" ∧ y.cls ≠ "java/lang/invoke/VarHandle" ∧ (parseMethodDescriptor y.desc).map (fun d => d.parameters.length) = some n) (hL : nL2 ≤ 40)
    (hi : i < 84) (hs : sw_s i = (0, ci)) (hn : As.length = n) (hroom : (st.map fun v => v.category).sum ≤ 8) (hd : decode cc pc = .ok (.invokevirtual index, 3))
    (k : sw_Go l E K own cc nL ret (pc + 3) lv (r2.toList ++ st) σ2 r σ') : sw_Go l E K own cc nL ret pc lv st0 σ r σ' := by
  intro p e s m args below meth c H locs A ls C hP hS hl
  obtain ⟨hx, hb, hml, hr, hlk, hown, hts, hMv, hX, hK0, hD, hA⟩ := id C
  have hF := sw_free (hD σ) hS hA
  have run := va_runV (l := l) (e := e) (below := below) (meth := meth) (R := sw_rm K) (H := H) (locs := locs) (cells := 0) (slots := 0) (nL := nL) (As := As.map (sw_g E)) (rest := st.map (sw_g E)) (b := E.1 i) (g := F0 m pc ls (st0.map (sw_g E))) ⟨hx, hb, hml, hown, hts⟩ (hM H.size) (cwV n hts hG rfl rfl rfl hy ⟨hK, by show 8 + (nL2 + 11) + 64 * K2 ≤ 64 * K; omega⟩)
    ⟨sw_blind E _ σ _, va_recv hK0 hP hc (q0 := i) (by rw [sw_wl_at E σ hi, sw_ce_o hs]), fun U hU hW => ⟨rfl, by rw [hU], hMv, by rw [hU]; exact hMv.1 A _ s U s.heap H hX hS.2.1 hF hW, by rw [hU]; exact hP, va_K.moved hW.alike hK0, (hD σ).weaken (fun _ _ _ _ => trivial)⟩⟩
    rfl (by rw [List.length_map]; exact hn) hl.1 (by show st0.map (sw_g E) = _; rw [hst]; simp [sw_g]) (lv_room (by rw [sw_cat_sum]; exact hroom)) hd ⟨Nat.le_refl _, Nat.le_refl _⟩
  exact sw_after run hS hF (fun H1 locs1 hP1 hS1 => k p e s m args below meth c H1 locs1 A ls C hP1 hS1 hl)
theorem sw_callS {K2 : Nat} {y : MethodName} {cc2 : ByteArray} {nL2 : Nat} {ret2 : Option FieldType} {index n : Nat} {r2 : Option Value} {σ2 : sw_M} (As : List Value)
    (hM : sw_Ct l E K2 y cc2 nL2 ret2 As σ r2 σ2) (hst : st0 = As.reverse ++ st) (hK : K2 + 1 ≤ K)
    (hG : GoodIn sw_T (va_wsS own index y (.code y cc2 nL2 ret2 :: sw_T)))
    (hy : y.cls ≠ "java/lang/invoke/MethodHandle" ∧ y.cls ≠ "java/lang/invoke/VarHandle" ∧ (parseMethodDescriptor y.desc).map (fun d => d.parameters.length) = some n) (hL : nL2 ≤ 40)
    (hn : As.length = n) (hroom : (st.map fun v => v.category).sum ≤ 8) (hd : decode cc pc = .ok (.invokestatic index, 3))
    (k : sw_Go l E K own cc nL ret (pc + 3) lv (r2.toList ++ st) σ2 r σ') : sw_Go l E K own cc nL ret pc lv st0 σ r σ' := by
  intro p e s m args below meth c H locs A ls C hP hS hl
  obtain ⟨hx, hb, hml, hr, hlk, hown, hts, hMv, hX, hK0, hD, hA⟩ := id C
  have hF := sw_free (hD σ) hS hA
  have run := va_runS (l := l) (e := e) (below := below) (meth := meth) (R := sw_rm K) (H := H) (locs := locs) (cells := 0) (slots := 0) (nL := nL) (As := As.map (sw_g E)) (rest := st.map (sw_g E)) (g := F0 m pc ls (st0.map (sw_g E))) ⟨hx, hb, hml, hown, hts⟩ (hM H.size) (va_cwS n hts hG rfl rfl rfl hy ⟨hK, by show 8 + (nL2 + 11) + 64 * K2 ≤ 64 * K; omega⟩)
    ⟨sw_blind E _ σ _, fun U hU hW => ⟨rfl, by rw [hU], hMv, by rw [hU]; exact hMv.1 A _ s U s.heap H hX hS.2.1 hF hW, by rw [hU]; exact hP, va_K.moved hW.alike hK0, (hD σ).weaken (fun _ _ _ _ => trivial)⟩⟩
    rfl (by rw [List.length_map]; exact hn) hl.1 (by show st0.map (sw_g E) = _; rw [hst]; simp) (lv_room (by rw [sw_cat_sum]; exact hroom)) hd ⟨Nat.le_refl _, Nat.le_refl _⟩
  exact sw_after run hS hF (fun H1 locs1 hP1 hS1 => k p e s m args below meth c H1 locs1 A ls C hP1 hS1 hl)
/-- the first j places from p on, copied from f to g -/
theorem sw_acopy {a0 a n0 n1 index : Nat} {sp dp n : Int32} (hlink : Cond.methodLink own index arraycopyName ∈ sw_T) (hnat : Cond.native arraycopyName ∈ sw_T) (hstat : Cond.static arraycopyName ∈ sw_T) (hini : Cond.initialized "java/lang/System" ∈ sw_T)
    (ha0 : a0 < 84) (hs0 : sw_s a0 = (1, n0)) (ha : a < 84) (hs : sw_s a = (1, n1)) (h1 : ¬ sp < 0) (h2 : ¬ dp < 0) (h3 : ¬ n < 0) (h4 : sp.toNatClampNeg + n.toNatClampNeg ≤ n0) (h5 : dp.toNatClampNeg + n.toNatClampNeg ≤ n1) (hK : 1 ≤ K) (hroom : (st.map fun v => v.category).sum ≤ 8)
    (hd : decode cc pc = .ok (.invokestatic index, 3)) (k : sw_Go l E K own cc nL ret (pc + 3) lv st (sw_wA σ a (va_cpy (σ.1 a0) (σ.1 a) sp.toNatClampNeg dp.toNatClampNeg n.toNatClampNeg)) r σ') : sw_Go l E K own cc nL ret pc lv (.int n :: .int dp :: .ref a :: .int sp :: .ref a0 :: st) σ r σ' := by
  intro p e s m args below meth c H locs A ls C hP hS hl
  obtain ⟨hx, hb, hml, hr, hlk, hown, hts, hMv, hX, hK0, hD, hA⟩ := id C
  refine va_copyi (a := E.1 a) (ws := sw_wl E σ) hx hb (by rw [hml]; exact hl.1.symm) hown (hts _ hlink) (hts _ hnat) (hts _ hstat) (hts _ hini) hK0 hP (hD σ) hS a0 a a0 a (a0 := E.1 a0) (c0 := E.2.1 a0) (c1 := E.2.1 a) (n0 := n0) (n1 := n1) (f := σ.1 a0) (g := σ.1 a) (ty := .int)
    (by rw [sw_wl_at E σ ha0, sw_ce_i hs0 (by decide) (by decide)]) (by rw [sw_wl_at E σ ha, sw_ce_i hs (by decide) (by decide)]) (by rw [sw_ty_at E ha0, hs0]; rfl) (by rw [sw_ty_at E ha, hs]; rfl) rfl h1 h2 h3 h4 h5 (fun _ _ => rfl) hK (by
      show ((st.map (sw_g E)).map fun v => v.category).sum + (nativeFrameWords "java/lang/System" "arraycopy" 5 + 11) ≤ 64 * K
      rw [sw_cat_sum]
      have : nativeFrameWords "java/lang/System" "arraycopy" 5 + 11 ≤ 56 := by decide +kernel
      omega) hd (fun H1 locs1 hP1 hD1 hS1 => ?_)
  rw [sw_wl_set E σ (sw_wA σ a (va_cpy (σ.1 a0) (σ.1 a) sp.toNatClampNeg dp.toNatClampNeg n.toNatClampNeg)) (by rw [sw_ce_i hs (by decide) (by decide), sw_wA_self]) (sw_ce_wA E σ a _)] at hP1
  exact k p e s m args below meth c H1 locs1 A ls C hP1 hS1 hl
end CALL
