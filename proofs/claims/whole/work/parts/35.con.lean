def sw_keyL : List Int64 := [223456, 232608281, 1365031, 1096673, 9757090, 376744, 91904, 5878, 187908, 12253591, 423, 1111, 10631, 1065, 6033331, 267347, 6476969, 7826771953, 2968]
def sw_key (k : Nat) : Int64 := sw_keyL.getD k 0
/-- the memory at the beginning -/
def sw_0 : sw_M := (fun a k => if a = 1 ∧ k = 3 then -1 else if a = 49 ∧ k = 3 then -1 else 0, fun a k => if a = 4 then sw_key k else 0, fun j => if j = 0 then 16 else 5)
def sw_sg (E : sw_E) (σ : sw_M) (a n : Nat) : va_W := (List.range' a n).map fun i => (E.1 i, sw_ce E σ i)
def sw_NL : List Cond := [.methodLinkNest RX9 9 yX5_init "SoapWorks", .methodLinkNest RX9 18 yX4_init "SoapWorks", .methodLinkNest RX9 25 yX8_init "SoapWorks", .methodLinkNest RX9 32 yX0_init "SoapWorks", .methodLinkNest RX9 39 yX1_init "SoapWorks", .methodLinkNest RX9 46 yX3_init "SoapWorks", .methodLinkNest RX9 53 yX6_init "SoapWorks", .methodLinkNest RX3 11 yX8_init "SoapWorks", .methodLinkNest RX4 33 yX2_init "SoapWorks", .methodLinkNest RX5 11 yX7_init "SoapWorks", .methodLinkNest RX5 20 yX4_init "SoapWorks"]
def sw_Nx (U : State) : Prop := ∀ w ∈ sw_NL, va_Nw w U
theorem sw_NL_in : ∀ w ∈ sw_NL, w ∈ lw_tbl ∧ w.onTables = true := by decide +kernel
theorem sw_Nx.warm {s U : State} (hW : s.WarmedH U.vm) (h : sw_Nx s) : sw_Nx U := by
  intro w hw
  have h0 := h w hw
  simp only [sw_NL, List.mem_cons, List.not_mem_nil, or_false] at hw
  rcases hw with rfl | rfl | rfl | rfl | rfl | rfl | rfl | rfl | rfl | rfl | rfl <;> exact va_Nw.warmM hW h0
theorem sw_Nx.same {u U : State} (hv : u.vm = U.vm) (h : sw_Nx u) : sw_Nx U := fun w hw => va_Nw.same (sw_NL_in w hw).2 hv (h w hw)
/-! a constructor's body: its own cell, with fields as they are by now, and the cells behind it that are made -/
def sw_Qk (E : sw_E) (base i n : Nat) (A : Nat → Prop) : Array Value → State → Outcome → State → Prop := fun _ st oc t =>
  oc = .returned none ∧ va_P (sw_D E) sw_cl (sw_sg E sw_0 i n) t.heap ∧ va_K (sw_D E) sw_cl (sw_ty E) t ∧ va_D A (sw_sg E sw_0 i n) ∧ t.heap.size = base + (i + n) ∧ va_F A st t
def sw_B (E : sw_E) (base : Nat) : Prop := (∀ j, j < 84 → E.1 j = base + j) ∧ E.2.2.2.2 = sw_X E.1
def sw_rk (K mc ms : Nat) : Room := { frames := K, cells := mc, slots := ms, locals := 64 * K }
def sw_Ck (l : Launch) (E : sw_E) (base K i ci n mc ms : Nat) (y : MethodName) (cc : ByteArray) (nL : Nat) (fs : List Value) : Prop :=
  Met l y (.code y cc nL none :: sw_T) (sw_rk K mc ms) (va_Pc [.ref (E.1 i)] (fun U => U.heap.size = base + (i + 1) ∧ sw_Nx U ∧ sw_X E.1 (va_A [(E.1 i, .inr (ci, fs.map (sw_g E)))] (base + (i + 1))) U U.heap ∧ va_P (sw_D E) sw_cl [(E.1 i, .inr (ci, fs.map (sw_g E)))] U.heap ∧ va_K (sw_D E) sw_cl (sw_ty E) U ∧ va_D (fun _ => True) [(E.1 i, .inr (ci, fs.map (sw_g E)))]))
    (sw_Qk E base i n (va_A [(E.1 i, .inr (ci, fs.map (sw_g E)))] (base + (i + 1)))) mc ms (va_A [(E.1 i, .inr (ci, fs.map (sw_g E)))] (base + (i + 1)))
def sw_Kx (E : sw_E) (base i : Nat) (own : String) (cc : ByteArray) (nL : Nat) (A : Nat → Prop) (p : Program) (s : State) (m : MethodId) (args : Array Value) (meth : Method) (c : Code) : Prop :=
  p.tables.exec = Jvm.exec ∧ c.code = cc ∧ c.maxLocals = nL ∧ meth.sig.returnType = none ∧ meth.locks = false ∧ s.vm.findClass own = some m.cls ∧ (∀ w ∈ sw_T, w.before args s = true) ∧ meth.name = "<init>" ∧ sw_Nx s ∧ sw_X E.1 A s s.heap ∧ va_K (sw_D E) sw_cl (sw_ty E) s ∧ (∀ q, s.heap.size ≤ q → A q) ∧ s.heap.size = base + (i + 1) ∧ (∀ q, A q → q = E.1 i ∨ s.heap.size ≤ q) ∧ sw_B E base
abbrev sw_wk (E : sw_E) (i ci k : Nat) (fs : List Value) : va_W := (E.1 i, .inr (ci, fs.map (sw_g E))) :: sw_sg E sw_0 (i + 1) k
def sw_Gc (l : Launch) (E : sw_E) (base K : Nat) (own : String) (cc : ByteArray) (nL i ci n mc ms pc : Nat) (lv : List (Nat × Value)) (st fs : List Value) (k slots : Nat) : Prop :=
  ∀ (p : Program) (e : Env) (s : State) (m : MethodId) (args : Array Value) (below : List Frame) (meth : Method) (c : Code) (H : Heap) (locs : List Loc) (A : Nat → Prop) (ls : Array Slot),
    sw_Kx E base i own cc nL A p s m args meth c → va_P (sw_D E) sw_cl (sw_wk E i ci k fs) H → va_D A (sw_wk E i ci k fs) → va_S A s.heap H locs → lv_has ls nL (lv.map (sw_g2 E)) →
    W p l e (sw_rk K mc ms) s m args below meth c H locs k slots (MQ below (sw_Qk E base i n A) args s mc ms A) (F0 m pc ls (st.map (sw_g E)))
theorem sw_sg_app (E : sw_E) (σ : sw_M) (a k n : Nat) : sw_sg E σ a k ++ sw_sg E σ (a + k) n = sw_sg E σ a (k + n) := by
  unfold sw_sg
  rw [← List.map_append, List.range'_append_1]
theorem sw_sg_1 (E : sw_E) (σ : sw_M) (a : Nat) : sw_sg E σ a 1 = [(E.1 a, sw_ce E σ a)] := rfl
theorem sw_sg_at (E : sw_E) (σ : sw_M) (a n j : Nat) (q : Nat × va_E) (h : (sw_sg E σ a n)[j]? = some q) : j < n ∧ q = (E.1 (a + j), sw_ce E σ (a + j)) := by
  unfold sw_sg at h
  rw [List.getElem?_map] at h
  by_cases hj : j < n
  · rw [List.getElem?_range' hj] at h
    simp only [Nat.one_mul, Option.map_some, Option.some.injEq] at h
    exact ⟨hj, h.symm⟩
  · rw [List.getElem?_eq_none (by simp; omega)] at h
    cases h
theorem sw_K_ent {l : Launch} {E : sw_E} {base K i ci n mc ms : Nat} {y : MethodName} {cc : ByteArray} {nL : Nat} {fs : List Value} {own : String} (hy : plainName y.cls = true) (hn : 1 ≤ nL) (hown : y.cls = own) (hnm : y.name = "<init>")
    (hB : sw_B E base) (h : sw_Gc l E base K own cc nL i ci n mc ms 0 [(0, .ref i)] [] fs 0 0) : sw_Ck l E base K i ci n mc ms y cc nL fs := by
  subst hown
  refine Met.ofW (cc := cc) (maxL := nL) (ret := none) hy rfl ?_
  intro p e s m args below meth c s₁ B hml hv
  obtain ⟨rfl, hsz, hN, hX, hP, hK, hD0⟩ := hv
  have hts := atoms_spec (ws := .code y cc nL none :: sw_T) B.pre
  have hown : s.vm.findClass y.cls = some m.cls := findClass_of_methodNamed B.named
  have hin : meth.name = "<init>" := (name_of_methodNamed B.named B.method).1.trans hnm
  have hD := hD0.self (sz := s.heap.size)
  have hl := lv_entry ([.ref (E.1 i)]) (n := nL) hn
  rw [lg_entry_eq]
  rw [← hsz] at hX ⊢
  exact h p e s m _ below meth c s.heap [] _ _ ⟨B.exec, B.bytes, hml, B.returns, B.notSynchronized, hown, fun w hw => hts w (List.mem_cons_of_mem _ hw), hin, hN, hX, hK, fun q hq => Or.inr hq, hsz, fun q hq => hq.elim (fun ⟨k, e, h⟩ => by
    cases k with
    | zero => simp at h; exact Or.inl h.1.symm
    | succ k => simp at h) (fun h => Or.inr h), hB⟩ hP hD va_S.rf hl
theorem kc_P_lt {E : sw_E} {base i ci k : Nat} {fs : List Value} {H : Heap} (hB : sw_B E base) (hk : i + k < 84) (hP : va_P (sw_D E) sw_cl (sw_wk E i ci k fs) H) : base + (i + 1 + k) ≤ H.size := by
  cases k with
  | zero =>
    have h := (hP 0 _ rfl).lt
    simp only at h
    rw [hB.1 i (by omega)] at h
    omega
  | succ k =>
    have hx : (sw_wk E i ci (k + 1) fs)[k + 1]? = some (E.1 (i + 1 + k), sw_ce E sw_0 (i + 1 + k)) := by
      show (sw_sg E sw_0 (i + 1) (k + 1))[k]? = _
      unfold sw_sg
      rw [List.getElem?_map, List.getElem?_range' (by omega)]
      simp
    have h := (hP _ _ hx).lt
    simp only at h
    rw [hB.1 _ (by omega)] at h
    omega
theorem kc_size {p : Program} {l : Launch} {e : Env} {R : Room} {s : State} {m : MethodId} {args : Array Value} {below : List Frame} {meth : Method} {c : Code} {H : Heap} {locs : List Loc} {cells slots : Nat} {Q : State → Prop} {g : JFrame} (h : H.size ≤ s.heap.size + cells → W p l e R s m args below meth c H locs cells slots Q g) : W p l e R s m args below meth c H locs cells slots Q g := by
  intro T hT X
  have h1 := X.same.2.2.1
  have h2 : T.heap.size ≤ s.heap.size + cells := h1
  rw [hT] at h2
  exact h h2 T hT X
/-- where a new cell lies -/
theorem kc_q {E : sw_E} {base i ci k q sz : Nat} {fs : List Value} {e : va_E} {A : Nat → Prop} (hB : sw_B E base) (hk : i + 1 + k < 84) (hD : va_D A (sw_wk E i ci k fs ++ [(q, e)])) (hsz : sz = base + (i + 1)) (hA : ∀ q, A q → q = E.1 i ∨ sz ≤ q) (hlt : q < sz + (k + 1)) : q = E.1 (i + 1 + k) := by
  have hlen : (sw_wk E i ci k fs).length = k + 1 := by simp [sw_sg]
  have hq : (sw_wk E i ci k fs ++ [(q, e)])[k + 1]? = some (q, e) := by
    rw [List.getElem?_append_right (by omega), hlen]
    simp
  have hAq := hA q (hD.2 _ _ hq)
  have hat : ∀ j, j < k → (sw_wk E i ci k fs ++ [(q, e)])[j + 1]? = some (E.1 (i + 1 + j), sw_ce E sw_0 (i + 1 + j)) := by
    intro j hj
    rw [List.getElem?_append_left (by omega)]
    show (sw_sg E sw_0 (i + 1) k)[j]? = _
    unfold sw_sg
    rw [List.getElem?_map, List.getElem?_range' hj]
    simp
  have h0 : (sw_wk E i ci k fs ++ [(q, e)])[0]? = some (E.1 i, .inr (ci, fs.map (sw_g E))) := rfl
  have hne : q ≠ E.1 i := fun h => by
    have := hD.1 0 (k + 1) _ _ h0 hq h.symm
    omega
  have hge : sz ≤ q := by
    rcases hAq with h | h
    · exact absurd h hne
    · exact h
  rw [hB.1 _ hk]
  rcases Nat.lt_or_ge q (base + (i + 1 + k)) with h | h
  · exfalso
    have hj : q - (base + (i + 1)) < k := by omega
    have := hD.1 _ (k + 1) _ _ (hat _ hj) hq (by
      show E.1 (i + 1 + (q - (base + (i + 1)))) = q
      rw [hB.1 _ (by omega)]
      omega)
    omega
  · omega
section KC
variable {l : Launch} {E : sw_E} {base K : Nat} {own : String} {cc : ByteArray} {nL i ci n mc ms pc : Nat} {lv : List (Nat × Value)} {st fs : List Value} {k slots : Nat}
theorem kc_aload (hd : decode cc pc = .ok (.aload_n 0, 1)) (kk : sw_Gc l E base K own cc nL i ci n mc ms (pc + 1) [(0, .ref i)] (.ref i :: st) fs k slots) : sw_Gc l E base K own cc nL i ci n mc ms pc [(0, .ref i)] st fs k slots := by
  intro p e s m args below meth c H locs A ls C hP hD hS hl
  exact lv_aload_n C.1 C.2.1 hd rfl (lv_at hl 0 rfl) (kk p e s m args below meth c H locs A ls C hP hD hS hl)
theorem kc_iconst {z : Int} {v : Int32} (hd : decode cc pc = .ok (.iconst z, 1)) (hv : Int32.ofInt z = v) (kk : sw_Gc l E base K own cc nL i ci n mc ms (pc + 1) lv (.int v :: st) fs k slots) : sw_Gc l E base K own cc nL i ci n mc ms pc lv st fs k slots := by
  intro p e s m args below meth c H locs A ls C hP hD hS hl
  exact lv_iconst C.1 C.2.1 hd hv (kk p e s m args below meth c H locs A ls C hP hD hS hl)
theorem kc_bipush {z : Int} {v : Int32} (hd : decode cc pc = .ok (.bipush z, 2)) (hv : (Int8.ofInt z).toInt32 = v) (kk : sw_Gc l E base K own cc nL i ci n mc ms (pc + 2) lv (.int v :: st) fs k slots) : sw_Gc l E base K own cc nL i ci n mc ms pc lv st fs k slots := by
  intro p e s m args below meth c H locs A ls C hP hD hS hl
  exact lv_bipush C.1 C.2.1 hd hv (kk p e s m args below meth c H locs A ls C hP hD hS hl)
theorem kc_sipush {z : Int} {v : Int32} (hd : decode cc pc = .ok (.sipush z, 3)) (hv : (Int16.ofInt z).toInt32 = v) (kk : sw_Gc l E base K own cc nL i ci n mc ms (pc + 3) lv (.int v :: st) fs k slots) : sw_Gc l E base K own cc nL i ci n mc ms pc lv st fs k slots := by
  intro p e s m args below meth c H locs A ls C hP hD hS hl
  exact lv_sipush C.1 C.2.1 hd hv (kk p e s m args below meth c H locs A ls C hP hD hS hl)
theorem kc_oinit {idx : Nat} (hK : 1 ≤ K) (hlink : Cond.methodLink own idx objectInit ∈ sw_T) (hi : Cond.instanceMethod objectInit ∈ sw_T) (hc : Cond.code objectInit ⟨#[0xb1]⟩ 1 none ∈ sw_T) (hd : decode cc pc = .ok (.invokespecial idx, 3)) (kk : sw_Gc l E base K own cc nL i ci n mc ms (pc + 3) lv [] fs k slots) : sw_Gc l E base K own cc nL i ci n mc ms pc lv [.ref i] fs k slots := by
  intro p e s m args below meth c H locs A ls C hP hD hS hl
  obtain ⟨hx, hb, hml, hr, hlk, hown, hts, hin2, hNx, hX, hK0, hA, hsz, hAc, hB⟩ := id C
  have hm : 2 * (F0 m pc ls [Value.ref (E.1 i)]).monitorRoom + 0 + 12 ≤ 64 * K := by
    have h1 : 2 * (F0 m pc ls [Value.ref (E.1 i)]).monitorRoom + 0 ≤ 8 := lv_room (m := m) (pc := pc) (ls := ls) (rest := [Value.ref (E.1 i)]) (st := []) (by decide)
    exact Nat.le_trans (Nat.add_le_add_right h1 12) (by omega)
  exact W.objInit hx hb hown (hts _ hlink) (hts _ hi) (hts _ hc) rfl (by rw [hml]; exact hl.1) rfl hd hK hm (kk p e s m args below meth c H locs A ls C hP hD hS hl)
theorem kc_vret (hk : i + k < 84) (hfs : .inr (ci, fs.map (sw_g E)) = sw_ce E sw_0 i) (hn : n = 1 + k) (hmc : k = mc) (hms : slots = ms) (hd : decode cc pc = .ok (.return_, 1)) : sw_Gc l E base K own cc nL i ci n mc ms pc lv [] fs k slots := by
  intro p e s m args below meth c H locs A ls C hP hD hS hl
  obtain ⟨hx, hb, hml, hr, hlk, hown, hts, hin2, hNx, hX, hK0, hA, hsz, hAc, hB⟩ := id C
  subst hmc; subst hms; subst hn
  have hlocks : meth.locks = false := hlk
  refine kc_size fun hz => ?_
  have hz2 := kc_P_lt hB hk hP
  have hw : sw_wk E i ci k fs = sw_sg E sw_0 i (1 + k) := by
    rw [← sw_sg_app, sw_sg_1, ← hfs]; rfl
  rw [hw] at hP hD
  exact W.vret hx hb hr (fun t ht hW => ⟨rfl, by rw [ht]; exact hP, va_K.moved hW.alike hK0, hD, by rw [ht]; omega, hS.F ht⟩) hS.2.2 hd
theorem kc_put {k0 index N : Nat} {CN : String} {T : u_T} {ty : FieldType} {v : Value} (ty0 : Nat → FieldType) (hc : sw_cl[ci]? = some (CN, T, N)) (hin : ∀ w ∈ u_ws CN T N, w ∈ sw_T) (hty : ∀ k, k < N → parseFieldDescriptor (T k).2.2.1 = some (ty0 k)) (hnm : ∀ a, a < N → ∀ b, b < N → a ≠ b → (T a).2.1 ≠ (T b).2.1) (hk : k0 < N) (hlink : Cond.fieldLink own index (T k0).1 (T k0).2.1 (T k0).2.2.1 ∈ sw_T) (hfin : (T k0).2.2.2 = false) (hdd : parseFieldDescriptor (T k0).2.2.1 = some ty)
    (hn : narrow ty (sw_g E v) = sw_g E v) (hfit : fits ty (sw_g E v) = true) (hlen : k0 < fs.length) (hd : decode cc pc = .ok (.putfield index, 3)) (kk : sw_Gc l E base K own cc nL i ci n mc ms (pc + 3) lv st (fs.set k0 v) k slots) : sw_Gc l E base K own cc nL i ci n mc ms pc lv (v :: .ref i :: st) fs k slots := by
  intro p e s m args below meth c H locs A ls C hP hD hS hl
  obtain ⟨hx, hb, hml, hr, hlk, hown, hts, hin2, hNx, hX, hK0, hA, hsz, hAc, hB⟩ := id C
  refine va_put (a := E.1 i) (ci := ci) (v := sw_g E v) (ty := ty) (C := CN) (T := T) (N := N) hx hb hts hin ty0 hty hnm hown hK0 hP hD hS 0 (fs := fs.map (sw_g E)) rfl hc k0 hk (hts _ hlink) (fun _ h9 => h9) hfin hdd hn hfit (by rw [List.length_map]; exact hlen) hd (fun H1 locs1 hP1 hD1 hS1 => ?_)
  rw [← List.map_set] at hP1 hD1
  exact kk p e s m args below meth c H1 locs1 A ls C hP1 hD1 hS1 hl
theorem kc_putF {k0 index N : Nat} {CN : String} {T : u_T} {ty : FieldType} {v : Value} (ty0 : Nat → FieldType) (hc : sw_cl[ci]? = some (CN, T, N)) (hin : ∀ w ∈ u_ws CN T N, w ∈ sw_T) (hty : ∀ k, k < N → parseFieldDescriptor (T k).2.2.1 = some (ty0 k)) (hnm : ∀ a, a < N → ∀ b, b < N → a ≠ b → (T a).2.1 ≠ (T b).2.1) (hk : k0 < N) (hlink : Cond.fieldLink own index (T k0).1 (T k0).2.1 (T k0).2.2.1 ∈ sw_T) (hfin : (T k0).2.2.2 = true) (hdecl : (T k0).1 = own) (hdd : parseFieldDescriptor (T k0).2.2.1 = some ty)
    (hn : narrow ty (sw_g E v) = sw_g E v) (hfit : fits ty (sw_g E v) = true) (hlen : k0 < fs.length) (hd : decode cc pc = .ok (.putfield index, 3)) (kk : sw_Gc l E base K own cc nL i ci n mc ms (pc + 3) lv st (fs.set k0 v) k slots) : sw_Gc l E base K own cc nL i ci n mc ms pc lv (v :: .ref i :: st) fs k slots := by
  intro p e s m args below meth c H locs A ls C hP hD hS hl
  obtain ⟨hx, hb, hml, hr, hlk, hown, hts, hin2, hNx, hX, hK0, hA, hsz, hAc, hB⟩ := id C
  refine va_putF (a := E.1 i) (ci := ci) (v := sw_g E v) (ty := ty) (C := CN) (T := T) (N := N) hx hb hts hin ty0 hty hnm hown hK0 hP hD hS 0 (fs := fs.map (sw_g E)) rfl hc k0 hk (hts _ hlink) (fun _ h9 => h9) hfin hin2 hdecl hdd hn hfit (by rw [List.length_map]; exact hlen) hd (fun H1 locs1 hP1 hD1 hS1 => ?_)
  rw [← List.map_set] at hP1 hD1
  exact kk p e s m args below meth c H1 locs1 A ls C hP1 hD1 hS1 hl
theorem kc_newa {atype : ArrayType} {ty : FieldType} {nn : Int32} {N t : Nat} {a0 : vp_A} (harr : Cond.arrayClass (newarray.typeOf atype) ∈ sw_T) (hty : newarray.typeOf atype = ty) (hk : i + 1 + k < 84) (ha : ∀ cA : ClassId, vp_cell cA a0 = arrV cA N (fun _ => defaultValue ty)) (ht : sw_tc (sw_s (i + 1 + k)).1 = ty) (hra : ∀ (U : State) (c1 c2 : ClassId), va_RA U c1 ty → va_RA U c2 ty → c1 = c2) (hce : sw_ce E sw_0 (i + 1 + k) = .inl (E.2.1 (i + 1 + k), a0)) (hn : ¬ nn < 0) (hN : nn.toNatClampNeg = N) (hbytes : N * componentBytes ty ≤ 536870912) (hcells : k + 1 ≤ mc) (hslots : slots + N ≤ ms) (hd : decode cc pc = .ok (.newarray atype, 2))
    (kk : sw_Gc l E base K own cc nL i ci n mc ms (pc + 2) lv (.ref (i + 1 + k) :: st) fs (k + 1) (slots + N)) : sw_Gc l E base K own cc nL i ci n mc ms pc lv (.int nn :: st) fs k slots := by
  intro p e s m args below meth c H locs A ls C hP hD hS hl
  obtain ⟨hx, hb, hml, hr, hlk, hown, hts, hin2, hNx, hX, hK0, hA, hsz, hAc, hB⟩ := id C
  refine va_newa (atype := atype) hx hb (hts _ harr) hty hK0 hP hD hS hA ha hn hN hbytes hcells hslots hd (fun q cA H1 hK1 hP1 hD1 hS1 => ?_)
  refine kc_size fun hz => ?_
  have hlen : (sw_wk E i ci k fs).length = k + 1 := by simp [sw_sg]
  have hlt : q < H1.size := by
    have hq : (sw_wk E i ci k fs ++ [(q, .inl (cA, a0))])[k + 1]? = some (q, .inl (cA, a0)) := by
      rw [List.getElem?_append_right (by omega), hlen]
      simp
    exact (hP1 _ _ hq).lt
  have hq := kc_q hB hk hD1 hsz hAc (by omega)
  have hcA : cA = E.2.1 (i + 1 + k) := by
    have h1 := (hK1.2 84 (cA, ty) (by rw [List.getElem?_append_right (by simp [sw_ty])]; simp [sw_ty])).2
    have h2 := (hK0.2 (i + 1 + k) _ (sw_ty_at E hk)).2
    rw [ht] at h2
    exact hra s _ _ h1 h2
  subst hq; subst hcA
  have hw : sw_wk E i ci k fs ++ [(E.1 (i + 1 + k), .inl (E.2.1 (i + 1 + k), a0))] = sw_wk E i ci (k + 1) fs := by
    show (E.1 i, _) :: (sw_sg E sw_0 (i + 1) k ++ _) = (E.1 i, _) :: sw_sg E sw_0 (i + 1) (k + 1)
    rw [← sw_sg_app, sw_sg_1, hce]
  rw [hw] at hP1 hD1
  exact kk p e s m args below meth c H1 locs A ls C hP1 hD1 hS1 hl
end KC
