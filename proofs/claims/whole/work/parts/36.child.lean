theorem ck_blind {E : sw_E} {base i ci : Nat} {fs : List Value} : FrameBlind (va_Pc [.ref (E.1 i)] (fun U => U.heap.size = base + (i + 1) ∧ sw_Nx U ∧ sw_X E.1 (va_A [(E.1 i, .inr (ci, fs.map (sw_g E)))] (base + (i + 1))) U U.heap ∧ va_P (sw_D E) sw_cl [(E.1 i, .inr (ci, fs.map (sw_g E)))] U.heap ∧ va_K (sw_D E) sw_cl (sw_ty E) U ∧ va_D (fun _ => True) [(E.1 i, .inr (ci, fs.map (sw_g E)))])) := by
  intro a U g mk q
  obtain ⟨q0, q1, hN, hX, qP, qK, qD⟩ := q
  exact ⟨q0, q1, sw_Nx.same (u := U) (U := U.calling g mk a) rfl hN, (sw_X_mv E.1).2 _ U _ _ rfl hX, qP, va_K.moved (u := U) (U := U.calling g mk a) (Vm.Alike.refl U.vm) qK, qD⟩
theorem ck_one {D : va_G} {cl : List vw_C} {x : Nat × va_E} {H : Heap} (h : va_at D cl x H) : va_P D cl [x] H := by
  intro k q hq
  cases k with
  | zero => cases hq; exact h
  | succ k => simp at hq
theorem ck_oneD {x : Nat × va_E} : va_D (fun _ => True) [x] := by
  refine ⟨fun i j p q hi hj _ => ?_, fun _ _ _ => trivial⟩
  have h1 := (List.getElem?_eq_some_iff.mp hi).1
  have h2 := (List.getElem?_eq_some_iff.mp hj).1
  simp at h1 h2
  omega
theorem ck_good {y : MethodName} {cc : ByteArray} {nL : Nat} (hc : Cond.code y cc nL none ∈ sw_T) : GoodIn sw_T (.code y cc nL none :: sw_T) := by
  intro w hw
  have hm : w ∈ sw_T := by
    rcases List.mem_cons.mp hw with h | h
    · rw [h]; exact hc
    · exact h
  exact ⟨hm, sw_T_good w hm⟩
theorem ck_rest {wk : va_W} {x : Nat × va_E} {k : Nat} (hlen : wk.length = k + 1) : (List.range (k + 1)).map (fun i => (wk ++ [x])[i]?) = wk.map some := by
  apply List.ext_getElem?
  intro j
  rw [List.getElem?_map, List.getElem?_map]
  by_cases hj : j < k + 1
  · rw [List.getElem?_range hj]
    simp only [Option.map_some]
    rw [List.getElem?_append_left (by omega)]
    rw [List.getElem?_eq_getElem (by omega)]
    simp
  · rw [List.getElem?_eq_none (by simp; omega), List.getElem?_eq_none (by omega)]
    rfl
section CH
variable {l : Launch} {E : sw_E} {base K : Nat} {own : String} {cc : ByteArray} {nL i ci n mc ms pc : Nat} {lv : List (Nat × Value)} {st fs : List Value} {k slots : Nat}
set_option maxHeartbeats 1000000 in
theorem kc_child {idx1 idx2 ci2 n2 mc2 ms2 K2 N2 nL2 : Nat} {C2 host : String} {T2 : u_T} {y2 : MethodName} {cc2 : ByteArray} {fs2 : List Value} (ty2 : Nat → FieldType)
    (hM : sw_Ck l E base K2 (i + 1 + k) ci2 n2 mc2 ms2 y2 cc2 nL2 fs2) (hK : K2 + 1 ≤ K) (hnL : nL2 ≤ 40) (hn2 : mc2 + 1 = n2)
    (hc2 : sw_cl[ci2]? = some (C2, T2, N2)) (hin : ∀ w ∈ u_ws C2 T2 N2, w ∈ sw_T) (hty : ∀ k, k < N2 → parseFieldDescriptor (T2 k).2.2.1 = some (ty2 k))
    (hcl : Cond.classLink own idx1 C2 ∈ sw_T) (hinst : Cond.instantiable C2 N2 ∈ sw_T) (hini : Cond.initialized C2 ∈ sw_T) (hini2 : Cond.initialized y2.cls ∈ sw_T)
    (hfs : ∀ j, j < N2 → defaultValue (ty2 j) = vp_V (fs2.map (sw_g E)) j)
    (hnest : Cond.methodLinkNest own idx2 y2 host ∈ sw_NL) (hcode : Cond.code y2 cc2 nL2 none ∈ sw_T) (hinm : Cond.instanceMethod y2 ∈ sw_T) (hy1 : y2.name = "<init>")
    (hy : y2.cls ≠ "java/lang/invoke/MethodHandle" ∧ y2.cls ≠ "java/lang/invoke/VarHandle" ∧ (parseMethodDescriptor y2.desc).map (fun d => d.parameters.length) = some 0)
    (hk : i + 1 + k < 84) (hcells : k + n2 ≤ mc) (hslots : slots + N2 + ms2 ≤ ms) (hroom : (st.map fun v => v.category).sum ≤ 7) (hnd : va_nd (List.range (k + 1)) = true)
    (hd1 : decode cc pc = .ok (.new idx1, 3)) (hd2 : decode cc (pc + 3) = .ok (.dup, 1)) (hd3 : decode cc (pc + 3 + 1) = .ok (.invokespecial idx2, 3))
    (kk : sw_Gc l E base K own cc nL i ci n mc ms (pc + 3 + 1 + 3) lv (.ref (i + 1 + k) :: st) fs (k + n2) (slots + N2 + ms2)) : sw_Gc l E base K own cc nL i ci n mc ms pc lv st fs k slots := by
  intro p e s m args below meth c H locs A ls C hP hD hS hl
  obtain ⟨hx, hb, hml, hr, hlk, hown, hts, hin2, hNx, hX, hK0, hA, hsz, hAc, hB⟩ := id C
  refine va_new (ci := ci2) (fs := fs2.map (sw_g E)) (C := C2) (T := T2) (N := N2) hx hb hts hin ty2 hty hown (hts _ hcl) (hts _ hinst) (hts _ hini) hK0 hP hD hS hA hc2 hfs (by show k + 1 ≤ mc; omega) (by show slots + N2 ≤ ms; omega) hd1 (fun q H1 hP1 hD1 hS1 => ?_)
  refine kc_size fun hz => ?_
  have hlen : (sw_wk E i ci k fs).length = k + 1 := by simp [sw_sg]
  have hat : (sw_wk E i ci k fs ++ [(q, .inr (ci2, fs2.map (sw_g E)))])[k + 1]? = some (q, .inr (ci2, fs2.map (sw_g E))) := by
    rw [List.getElem?_append_right (by omega), hlen]
    simp
  have hlt : q < H1.size := (hP1 _ _ hat).lt
  have hq := kc_q hB hk hD1 hsz hAc (by omega)
  subst hq
  have hE1 := hB.1 _ hk
  have hz1 : H1.size = base + (i + 1 + k + 1) := by omega
  refine lv_dup hx hb hd2 rfl ?_
  have hsub : ∀ q, va_A [(E.1 (i + 1 + k), .inr (ci2, fs2.map (sw_g E)))] (base + (i + 1 + k + 1)) q → A q := by
    intro q h
    rcases h with ⟨k1, e1, h⟩ | h
    · cases k1 with
      | zero => simp at h; rw [← h.1]; exact hD1.2 _ _ hat
      | succ k1 => simp at h
    · exact hA q (by omega)
  have run := va_runIN (l := l) (e := e) (below := below) (meth := meth) (R := sw_rk K mc ms) (H := H1) (locs := locs) (cells := k + 1) (slots := slots + N2) (nL := nL) (As := []) (rest := .ref (E.1 (i + 1 + k)) :: st.map (sw_g E)) (b := E.1 (i + 1 + k)) (g := F0 m (pc + 3 + 1) ls (.ref (E.1 (i + 1 + k)) :: .ref (E.1 (i + 1 + k)) :: st.map (sw_g E))) ⟨hx, hb, hml, hown, hts⟩ hM
    ⟨va_cnB 0 hts (ck_good hcode) rfl rfl rfl (hNx _ hnest) (hts _ hini2) hy ⟨by show K2 + 1 ≤ K; exact hK, by show 8 + (nL2 + 11) + 64 * K2 ≤ 64 * K; omega⟩, hy1, hts _ hinm⟩
    ⟨ck_blind, fun U hU hW => ⟨rfl, by rw [hU]; exact hz1, hNx.warm hW, by rw [hU]; exact (sw_X_mv E.1).1 A _ s U s.heap H1 hX hS1.2.1 hsub hW, by rw [hU]; exact ck_one (hP1 _ _ hat), va_K.moved hW.alike hK0, ck_oneD⟩⟩
    rfl rfl hl.1 rfl (lv_room (by show 1 + ((st.map (sw_g E)).map fun v => v.category).sum ≤ 8; rw [sw_cat_sum]; omega)) hd3 ⟨by show k + 1 + mc2 ≤ mc; omega, hslots⟩
  intro T0 hT X
  obtain ⟨v0, st₀, t, T', Ll, h0, X', hLl, e1, e2, ⟨hv, hP2, hK2, hD2, hz2, hF1, hF2⟩, stp⟩ := run T0 hT X
  injection hv with hv
  subst hv
  rw [h0] at hF1 hF2
  have hjoin := va_join (wr := sw_wk E i ci k fs) (w1 := sw_sg E sw_0 (i + 1 + k) n2) (wc := [(E.1 (i + 1 + k), .inr (ci2, fs2.map (sw_g E)))]) hP1 hD1 [k + 1] (List.range (k + 1)) (by simp only [List.map_cons, List.map_nil]; rw [hat]) (ck_rest hlen) hnd (fun j hj => by simp at hj ⊢; omega)
    (H1 := T'.heap) (fun q h1 h2 => by rw [e1]; exact hF2 q h1 (by rw [hz1] at h2; exact h2)) (fun q h => hsub q (by rw [hz1] at h; exact h)) (by rw [e1]; exact hP2) (by rw [hz1]; exact hD2)
  have hw : sw_wk E i ci k fs ++ sw_sg E sw_0 (i + 1 + k) n2 = sw_wk E i ci (k + n2) fs := by
    show (E.1 i, _) :: (sw_sg E sw_0 (i + 1) k ++ _) = (E.1 i, _) :: sw_sg E sw_0 (i + 1) (k + n2)
    rw [sw_sg_app]
  rw [hw] at hjoin
  have hS2 : va_S A s.heap T'.heap (locs ++ Ll) := ⟨by rw [e1]; exact Nat.le_trans hS1.1 hF1, fun q h1 h2 => by rw [e1, hF2 q (Nat.lt_of_lt_of_le h1 hS1.1) (fun z => h2 (hsub q z))]; exact hS1.2.1 q h1 h2, fun q hq => by
      rcases List.mem_append.mp hq with h | h
      · exact hS1.2.2 q h
      · exact hsub _ (hLl q h)⟩
  have hcnt : k + 1 + mc2 = k + n2 := by omega
  rw [hcnt] at X'
  obtain ⟨t2, a1, b1⟩ := kk p e s m args below meth c T'.heap (locs ++ Ll) A ls C hjoin.1 hjoin.2 hS2 hl T' rfl X'
  exact ⟨t2, stp t2 a1, b1⟩
end CH
