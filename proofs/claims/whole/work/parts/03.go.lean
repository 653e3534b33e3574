/-! what may lie beside the cells (texts): it must bear a call -/
def sw_Mv (X : (Nat → Prop) → State → Heap → Prop) : Prop :=
  (∀ (A A' : Nat → Prop) (s U : State) (H0 H : Heap), X A s H0 → (∀ q : Nat, q < H0.size → ¬ A q → H[q]? = H0[q]?) → (∀ q, A' q → A q) → s.WarmedH U.vm → X A' U H) ∧
  (∀ (A : Nat → Prop) (u U : State) (H : Heap), U.vm = u.vm → X A u H → X A U H)
def sw_rm (K : Nat) : Room := { frames := K, cells := 0, slots := 0, locals := 64 * K }
def sw_Qc (E : sw_E) (r : Option Value) (σ' : sw_M) (A : Nat → Prop) : Array Value → State → Outcome → State → Prop := fun _ st oc t =>
  oc = .returned (r.map (sw_g E)) ∧ va_P (sw_D E) sw_cl (sw_wl E σ') t.heap ∧ va_K (sw_D E) sw_cl (sw_ty E) t ∧ va_F A st t
def sw_Pc (E : sw_E) (As : List Value) (σ : sw_M) (sz : Nat) : Array Value → State → Prop := va_Pc (As.map (sw_g E)) (fun U => U.heap.size = sz ∧ sw_Mv E.2.2.2.2 ∧ E.2.2.2.2 (va_A (sw_wl E σ) sz) U U.heap ∧ va_P (sw_D E) sw_cl (sw_wl E σ) U.heap ∧ va_K (sw_D E) sw_cl (sw_ty E) U ∧ va_D (fun _ => True) (sw_wl E σ))
/-- a method's contract: from the memory σ, with these arguments, it returns r and leaves σ' -/
def sw_Ct (l : Launch) (E : sw_E) (K : Nat) (y : MethodName) (cc : ByteArray) (nL : Nat) (ret : Option FieldType) (As : List Value) (σ : sw_M) (r : Option Value) (σ' : sw_M) : Prop :=
  ∀ sz : Nat, Met l y (.code y cc nL ret :: sw_T) (sw_rm K) (sw_Pc E As σ sz) (sw_Qc E r σ' (va_A (sw_wl E σ) sz)) 0 0 (va_A (sw_wl E σ) sz)
/-- what stays the same while a method's body runs -/
def sw_Cx (E : sw_E) (own : String) (cc : ByteArray) (nL : Nat) (ret : Option FieldType) (A : Nat → Prop) (p : Program) (s : State) (m : MethodId) (args : Array Value) (meth : Method) (c : Code) : Prop :=
  p.tables.exec = Jvm.exec ∧ c.code = cc ∧ c.maxLocals = nL ∧ meth.sig.returnType = ret ∧ meth.locks = false ∧ s.vm.findClass own = some m.cls ∧ (∀ w ∈ sw_T, w.before args s = true) ∧
  sw_Mv E.2.2.2.2 ∧ E.2.2.2.2 A s s.heap ∧ va_K (sw_D E) sw_cl (sw_ty E) s ∧ (∀ σ : sw_M, va_D A (sw_wl E σ)) ∧ (∀ q, s.heap.size ≤ q → A q)
def sw_Go (l : Launch) (E : sw_E) (K : Nat) (own : String) (cc : ByteArray) (nL : Nat) (ret : Option FieldType) (pc : Nat) (lv : List (Nat × Value)) (st : List Value) (σ : sw_M) (r : Option Value) (σ' : sw_M) : Prop :=
  ∀ (p : Program) (e : Env) (s : State) (m : MethodId) (args : Array Value) (below : List Frame) (meth : Method) (c : Code) (H : Heap) (locs : List Loc) (A : Nat → Prop) (ls : Array Slot),
    sw_Cx E own cc nL ret A p s m args meth c → va_P (sw_D E) sw_cl (sw_wl E σ) H → va_S A s.heap H locs → lv_has ls nL (lv.map (sw_g2 E)) →
    W p l e (sw_rm K) s m args below meth c H locs 0 0 (MQ below (sw_Qc E r σ' A) args s 0 0 A) (F0 m pc ls (st.map (sw_g E)))
theorem sw_lv_args (E : sw_E) : ∀ (i : Nat) (As : List Value), lv_args i (As.map (sw_g E)) = (lv_args i As).map (sw_g2 E)
  | _, [] => rfl
  | i, v :: vs => by
    show (i, sw_g E v) :: lv_args (if (sw_g E v).category = 2 then i + 2 else i + 1) (vs.map (sw_g E)) = (i, sw_g E v) :: (lv_args (if v.category = 2 then i + 2 else i + 1) vs).map (sw_g2 E)
    rw [sw_g_cat, sw_lv_args E _ vs]
theorem sw_lg_sl (E : sw_E) : ∀ (As : List Value), (lg_sl (As.map (sw_g E))).length = (lg_sl As).length
  | [] => rfl
  | v :: vs => by
    have ih := sw_lg_sl E vs
    simp only [lg_sl, List.map_cons, List.flatMap_cons, List.length_append] at ih ⊢
    rw [ih, sw_g_cat]
    by_cases h : v.category = 2 <;> simp [h]
theorem sw_ff (lv : List (Nat × Value)) (E : sw_E) (f : Nat × Value → Bool) (hf : ∀ q, f (sw_g2 E q) = f q) : (lv.map (sw_g2 E)).filter f = (lv.filter f).map (sw_g2 E) := by
  rw [List.filter_map]
  congr 1
  apply List.filter_congr
  intro q _
  exact hf q
theorem sw_enter {l : Launch} {E : sw_E} {K : Nat} {y : MethodName} {cc : ByteArray} {nL : Nat} {ret : Option FieldType} {As : List Value} {σ : sw_M} {r : Option Value} {σ' : sw_M} (hy : plainName y.cls = true) (hn : (lg_sl As).length ≤ nL)
    (h : sw_Go l E K y.cls cc nL ret 0 (lv_args 0 As) [] σ r σ') : sw_Ct l E K y cc nL ret As σ r σ' := by
  intro sz
  refine Met.ofW (cc := cc) (maxL := nL) (ret := ret) hy rfl ?_
  intro p e s m args below meth c s₁ B hml hv
  obtain ⟨rfl, hsz, hMv, hX, hP, hK, hD0⟩ := hv
  have hts := atoms_spec (ws := .code y cc nL ret :: sw_T) B.pre
  have hown : s.vm.findClass y.cls = some m.cls := findClass_of_methodNamed B.named
  subst hsz
  have hD := hD0.self (sz := s.heap.size)
  have hl := lv_entry (As.map (sw_g E)) (n := nL) (by rw [sw_lg_sl]; exact hn)
  rw [lg_entry_eq]
  rw [sw_lv_args] at hl
  exact h p e s m _ below meth c s.heap [] _ _ ⟨B.exec, B.bytes, hml, B.returns, B.notSynchronized, hown, fun w hw => hts w (List.mem_cons_of_mem _ hw), hMv, hX, hK, fun τ => sw_wl_D τ hD, fun q hq => Or.inr hq⟩ hP va_S.rf hl
section GO
variable {l : Launch} {E : sw_E} {K : Nat} {own : String} {cc : ByteArray} {nL : Nat} {ret : Option FieldType} {pc : Nat} {lv lv' : List (Nat × Value)} {st : List Value} {σ σ' : sw_M} {r : Option Value}
theorem sw_eqs {st2 : List Value} {lv2 : List (Nat × Value)} {σ2 : sw_M} (h1 : lv = lv2) (h2 : st = st2) (h3 : σ = σ2) (k : sw_Go l E K own cc nL ret pc lv2 st2 σ2 r σ') : sw_Go l E K own cc nL ret pc lv st σ r σ' := by
  subst h1; subst h2; subst h3; exact k
theorem sw_lv (ks : List Nat) (h : lv_pick lv ks = lv') (k : sw_Go l E K own cc nL ret pc lv' st σ r σ') : sw_Go l E K own cc nL ret pc lv st σ r σ' := by
  intro p e s m args below meth c H locs A ls C hP hS hl
  refine k p e s m args below meth c H locs A ls C hP hS (lv_sub hl ks ?_)
  subst h
  simp [lv_pick, List.map_filterMap, List.getElem?_map]
theorem sw_iconst {n : Int} {v : Int32} (hd : decode cc pc = .ok (.iconst n, 1)) (hv : Int32.ofInt n = v) (k : sw_Go l E K own cc nL ret (pc + 1) lv (.int v :: st) σ r σ') : sw_Go l E K own cc nL ret pc lv st σ r σ' := by
  intro p e s m args below meth c H locs A ls C hP hS hl
  exact lv_iconst C.1 C.2.1 hd hv (k p e s m args below meth c H locs A ls C hP hS hl)
theorem sw_bipush {n : Int} {v : Int32} (hd : decode cc pc = .ok (.bipush n, 2)) (hv : (Int8.ofInt n).toInt32 = v) (k : sw_Go l E K own cc nL ret (pc + 2) lv (.int v :: st) σ r σ') : sw_Go l E K own cc nL ret pc lv st σ r σ' := by
  intro p e s m args below meth c H locs A ls C hP hS hl
  exact lv_bipush C.1 C.2.1 hd hv (k p e s m args below meth c H locs A ls C hP hS hl)
theorem sw_sipush {n : Int} {v : Int32} (hd : decode cc pc = .ok (.sipush n, 3)) (hv : (Int16.ofInt n).toInt32 = v) (k : sw_Go l E K own cc nL ret (pc + 3) lv (.int v :: st) σ r σ') : sw_Go l E K own cc nL ret pc lv st σ r σ' := by
  intro p e s m args below meth c H locs A ls C hP hS hl
  exact lv_sipush C.1 C.2.1 hd hv (k p e s m args below meth c H locs A ls C hP hS hl)
theorem sw_iadd {x y : Int32} (hd : decode cc pc = .ok (.iadd, 1)) (k : sw_Go l E K own cc nL ret (pc + 1) lv (.int (x + y) :: st) σ r σ') : sw_Go l E K own cc nL ret pc lv (.int y :: .int x :: st) σ r σ' := by
  intro p e s m args below meth c H locs A ls C hP hS hl
  exact lv_iadd C.1 C.2.1 hd (k p e s m args below meth c H locs A ls C hP hS hl)
theorem sw_isub {x y : Int32} (hd : decode cc pc = .ok (.isub, 1)) (k : sw_Go l E K own cc nL ret (pc + 1) lv (.int (x - y) :: st) σ r σ') : sw_Go l E K own cc nL ret pc lv (.int y :: .int x :: st) σ r σ' := by
  intro p e s m args below meth c H locs A ls C hP hS hl
  exact lv_isub C.1 C.2.1 hd (k p e s m args below meth c H locs A ls C hP hS hl)
theorem sw_imul {x y : Int32} (hd : decode cc pc = .ok (.imul, 1)) (k : sw_Go l E K own cc nL ret (pc + 1) lv (.int (x * y) :: st) σ r σ') : sw_Go l E K own cc nL ret pc lv (.int y :: .int x :: st) σ r σ' := by
  intro p e s m args below meth c H locs A ls C hP hS hl
  exact lv_imul C.1 C.2.1 hd (k p e s m args below meth c H locs A ls C hP hS hl)
theorem sw_iand {x y : Int32} (hd : decode cc pc = .ok (.iand, 1)) (k : sw_Go l E K own cc nL ret (pc + 1) lv (.int (x &&& y) :: st) σ r σ') : sw_Go l E K own cc nL ret pc lv (.int y :: .int x :: st) σ r σ' := by
  intro p e s m args below meth c H locs A ls C hP hS hl
  exact lv_iand C.1 C.2.1 hd (k p e s m args below meth c H locs A ls C hP hS hl)
theorem sw_ior {x y : Int32} (hd : decode cc pc = .ok (.ior, 1)) (k : sw_Go l E K own cc nL ret (pc + 1) lv (.int (x ||| y) :: st) σ r σ') : sw_Go l E K own cc nL ret pc lv (.int y :: .int x :: st) σ r σ' := by
  intro p e s m args below meth c H locs A ls C hP hS hl
  exact lv_ior C.1 C.2.1 hd (k p e s m args below meth c H locs A ls C hP hS hl)
theorem sw_ixor {x y : Int32} (hd : decode cc pc = .ok (.ixor, 1)) (k : sw_Go l E K own cc nL ret (pc + 1) lv (.int (x ^^^ y) :: st) σ r σ') : sw_Go l E K own cc nL ret pc lv (.int y :: .int x :: st) σ r σ' := by
  intro p e s m args below meth c H locs A ls C hP hS hl
  exact lv_ixor C.1 C.2.1 hd (k p e s m args below meth c H locs A ls C hP hS hl)
theorem sw_idiv {x y : Int32} (hd : decode cc pc = .ok (.idiv, 1)) (hne : ¬ y = 0) (k : sw_Go l E K own cc nL ret (pc + 1) lv (.int (x / y) :: st) σ r σ') : sw_Go l E K own cc nL ret pc lv (.int y :: .int x :: st) σ r σ' := by
  intro p e s m args below meth c H locs A ls C hP hS hl
  exact lv_idiv C.1 C.2.1 hd hne (k p e s m args below meth c H locs A ls C hP hS hl)
theorem sw_irem {x y : Int32} (hd : decode cc pc = .ok (.irem, 1)) (hne : ¬ y = 0) (k : sw_Go l E K own cc nL ret (pc + 1) lv (.int (x - x / y * y) :: st) σ r σ') : sw_Go l E K own cc nL ret pc lv (.int y :: .int x :: st) σ r σ' := by
  intro p e s m args below meth c H locs A ls C hP hS hl
  exact lv_irem C.1 C.2.1 hd hne (k p e s m args below meth c H locs A ls C hP hS hl)
theorem sw_ladd {x y : Int64} (hd : decode cc pc = .ok (.ladd, 1)) (k : sw_Go l E K own cc nL ret (pc + 1) lv (.long (x + y) :: st) σ r σ') : sw_Go l E K own cc nL ret pc lv (.long y :: .long x :: st) σ r σ' := by
  intro p e s m args below meth c H locs A ls C hP hS hl
  exact lv_ladd C.1 C.2.1 hd (k p e s m args below meth c H locs A ls C hP hS hl)
theorem sw_lsub {x y : Int64} (hd : decode cc pc = .ok (.lsub, 1)) (k : sw_Go l E K own cc nL ret (pc + 1) lv (.long (x - y) :: st) σ r σ') : sw_Go l E K own cc nL ret pc lv (.long y :: .long x :: st) σ r σ' := by
  intro p e s m args below meth c H locs A ls C hP hS hl
  exact lv_lsub C.1 C.2.1 hd (k p e s m args below meth c H locs A ls C hP hS hl)
theorem sw_lmul {x y : Int64} (hd : decode cc pc = .ok (.lmul, 1)) (k : sw_Go l E K own cc nL ret (pc + 1) lv (.long (x * y) :: st) σ r σ') : sw_Go l E K own cc nL ret pc lv (.long y :: .long x :: st) σ r σ' := by
  intro p e s m args below meth c H locs A ls C hP hS hl
  exact lv_lmul C.1 C.2.1 hd (k p e s m args below meth c H locs A ls C hP hS hl)
theorem sw_lor {x y : Int64} (hd : decode cc pc = .ok (.lor, 1)) (k : sw_Go l E K own cc nL ret (pc + 1) lv (.long (x ||| y) :: st) σ r σ') : sw_Go l E K own cc nL ret pc lv (.long y :: .long x :: st) σ r σ' := by
  intro p e s m args below meth c H locs A ls C hP hS hl
  exact lv_lor C.1 C.2.1 hd (k p e s m args below meth c H locs A ls C hP hS hl)
theorem sw_ineg {x : Int32} (hd : decode cc pc = .ok (.ineg, 1)) (k : sw_Go l E K own cc nL ret (pc + 1) lv (.int (-x) :: st) σ r σ') : sw_Go l E K own cc nL ret pc lv (.int x :: st) σ r σ' := by
  intro p e s m args below meth c H locs A ls C hP hS hl
  exact lv_ineg C.1 C.2.1 hd (k p e s m args below meth c H locs A ls C hP hS hl)
theorem sw_i2l {x : Int32} (hd : decode cc pc = .ok (.i2l, 1)) (k : sw_Go l E K own cc nL ret (pc + 1) lv (.long (x.toInt64) :: st) σ r σ') : sw_Go l E K own cc nL ret pc lv (.int x :: st) σ r σ' := by
  intro p e s m args below meth c H locs A ls C hP hS hl
  exact lv_i2l C.1 C.2.1 hd rfl (k p e s m args below meth c H locs A ls C hP hS hl)
theorem sw_i2b {x : Int32} (hd : decode cc pc = .ok (.i2b, 1)) (k : sw_Go l E K own cc nL ret (pc + 1) lv (.int (x.toInt8.toInt32) :: st) σ r σ') : sw_Go l E K own cc nL ret pc lv (.int x :: st) σ r σ' := by
  intro p e s m args below meth c H locs A ls C hP hS hl
  exact lv_i2b C.1 C.2.1 hd rfl (k p e s m args below meth c H locs A ls C hP hS hl)
theorem sw_i2c {x : Int32} (hd : decode cc pc = .ok (.i2c, 1)) (k : sw_Go l E K own cc nL ret (pc + 1) lv (.int ((x.toUInt32 % 65536).toInt32) :: st) σ r σ') : sw_Go l E K own cc nL ret pc lv (.int x :: st) σ r σ' := by
  intro p e s m args below meth c H locs A ls C hP hS hl
  exact lv_i2c C.1 C.2.1 hd rfl (k p e s m args below meth c H locs A ls C hP hS hl)
theorem sw_ishl {x y : Int32} (hd : decode cc pc = .ok (.ishl, 1)) (k : sw_Go l E K own cc nL ret (pc + 1) lv (.int (x <<< (y &&& 31)) :: st) σ r σ') : sw_Go l E K own cc nL ret pc lv (.int y :: .int x :: st) σ r σ' := by
  intro p e s m args below meth c H locs A ls C hP hS hl
  exact lv_ishl C.1 C.2.1 hd (k p e s m args below meth c H locs A ls C hP hS hl)
theorem sw_ishr {x y : Int32} (hd : decode cc pc = .ok (.ishr, 1)) (k : sw_Go l E K own cc nL ret (pc + 1) lv (.int (x >>> (y &&& 31)) :: st) σ r σ') : sw_Go l E K own cc nL ret pc lv (.int y :: .int x :: st) σ r σ' := by
  intro p e s m args below meth c H locs A ls C hP hS hl
  exact lv_ishr C.1 C.2.1 hd (k p e s m args below meth c H locs A ls C hP hS hl)
theorem sw_iushr {x y : Int32} (hd : decode cc pc = .ok (.iushr, 1)) (k : sw_Go l E K own cc nL ret (pc + 1) lv (.int ((x.toUInt32 >>> (y.toUInt32 &&& Int32.toUInt32 31)).toInt32) :: st) σ r σ') : sw_Go l E K own cc nL ret pc lv (.int y :: .int x :: st) σ r σ' := by
  intro p e s m args below meth c H locs A ls C hP hS hl
  exact lv_iushr C.1 C.2.1 hd rfl (k p e s m args below meth c H locs A ls C hP hS hl)
theorem sw_lshl {x : Int64} {y : Int32} (hd : decode cc pc = .ok (.lshl, 1)) (k : sw_Go l E K own cc nL ret (pc + 1) lv (.long (x <<< (y.toInt64 &&& 63)) :: st) σ r σ') : sw_Go l E K own cc nL ret pc lv (.int y :: .long x :: st) σ r σ' := by
  intro p e s m args below meth c H locs A ls C hP hS hl
  exact lv_lshl C.1 C.2.1 hd rfl (k p e s m args below meth c H locs A ls C hP hS hl)
theorem sw_lcmp {x y : Int64} (hd : decode cc pc = .ok (.lcmp, 1)) (k : sw_Go l E K own cc nL ret (pc + 1) lv (.int (lg_cmp x y) :: st) σ r σ') : sw_Go l E K own cc nL ret pc lv (.long y :: .long x :: st) σ r σ' := by
  intro p e s m args below meth c H locs A ls C hP hS hl
  exact W.lcmp C.1 C.2.1 hd (k p e s m args below meth c H locs A ls C hP hS hl)
theorem sw_lconst {n : Fin 2} {v : Int64} (hd : decode cc pc = .ok (.lconst n, 1)) (hv : Int64.ofNat (n : Nat) = v) (k : sw_Go l E K own cc nL ret (pc + 1) lv (.long v :: st) σ r σ') : sw_Go l E K own cc nL ret pc lv st σ r σ' := by
  intro p e s m args below meth c H locs A ls C hP hS hl
  exact lv_lconst C.1 C.2.1 hd hv (k p e s m args below meth c H locs A ls C hP hS hl)
theorem sw_iload_n {k0 : Fin 4} {i : Nat} {x : Int32} (j : Nat) (hk : lv[j]? = some (i, .int x)) (hd : decode cc pc = .ok (.iload_n k0, 1)) (hi : (k0 : Nat) = i) (k : sw_Go l E K own cc nL ret (pc + 1) lv (.int x :: st) σ r σ') : sw_Go l E K own cc nL ret pc lv st σ r σ' := by
  intro p e s m args below meth c H locs A ls C hP hS hl
  exact lv_iload_n C.1 C.2.1 hd hi (lv_at hl j (by rw [List.getElem?_map, hk]; rfl)) (k p e s m args below meth c H locs A ls C hP hS hl)
theorem sw_iload {i : Nat} {x : Int32} (j : Nat) (hk : lv[j]? = some (i, .int x)) (hd : decode cc pc = .ok (.iload i, 2)) (k : sw_Go l E K own cc nL ret (pc + 2) lv (.int x :: st) σ r σ') : sw_Go l E K own cc nL ret pc lv st σ r σ' := by
  intro p e s m args below meth c H locs A ls C hP hS hl
  exact lv_iload C.1 C.2.1 hd (lv_at hl j (by rw [List.getElem?_map, hk]; rfl)) (k p e s m args below meth c H locs A ls C hP hS hl)
theorem sw_istore_n {k0 : Fin 4} {i : Nat} {x : Int32} (hd : decode cc pc = .ok (.istore_n k0, 1)) (hi : (k0 : Nat) = i) (hn : i < nL) (hl2 : (i, Value.int x) :: lv.filter (fun q => !(q.1 == i) && !(q.1 + 1 == i && q.2.category == 2)) = lv') (k : sw_Go l E K own cc nL ret (pc + 1) lv' st σ r σ') : sw_Go l E K own cc nL ret pc lv (.int x :: st) σ r σ' := by
  intro p e s m args below meth c H locs A ls C hP hS hl
  exact lv_istore_n C.1 C.2.1 hd hi hl hn (lv' := lv'.map (sw_g2 E)) (by subst hl2; rw [sw_ff lv E _ (fun q => by simp [sw_g2, sw_g_cat])]; rfl) (fun ls hl => (k p e s m args below meth c H locs A ls C hP hS hl))
theorem sw_istore {i : Nat} {x : Int32} (hd : decode cc pc = .ok (.istore i, 2)) (hn : i < nL) (hl2 : (i, Value.int x) :: lv.filter (fun q => !(q.1 == i) && !(q.1 + 1 == i && q.2.category == 2)) = lv') (k : sw_Go l E K own cc nL ret (pc + 2) lv' st σ r σ') : sw_Go l E K own cc nL ret pc lv (.int x :: st) σ r σ' := by
  intro p e s m args below meth c H locs A ls C hP hS hl
  exact lv_istore C.1 C.2.1 hd hl hn (lv' := lv'.map (sw_g2 E)) (by subst hl2; rw [sw_ff lv E _ (fun q => by simp [sw_g2, sw_g_cat])]; rfl) (fun ls hl => (k p e s m args below meth c H locs A ls C hP hS hl))
theorem sw_lload_n {k0 : Fin 4} {i : Nat} {x : Int64} (j : Nat) (hk : lv[j]? = some (i, .long x)) (hd : decode cc pc = .ok (.lload_n k0, 1)) (hi : (k0 : Nat) = i) (k : sw_Go l E K own cc nL ret (pc + 1) lv (.long x :: st) σ r σ') : sw_Go l E K own cc nL ret pc lv st σ r σ' := by
  intro p e s m args below meth c H locs A ls C hP hS hl
  exact lv_lload_n C.1 C.2.1 hd hi (lv_at hl j (by rw [List.getElem?_map, hk]; rfl)) (k p e s m args below meth c H locs A ls C hP hS hl)
theorem sw_lload {i : Nat} {x : Int64} (j : Nat) (hk : lv[j]? = some (i, .long x)) (hd : decode cc pc = .ok (.lload i, 2)) (k : sw_Go l E K own cc nL ret (pc + 2) lv (.long x :: st) σ r σ') : sw_Go l E K own cc nL ret pc lv st σ r σ' := by
  intro p e s m args below meth c H locs A ls C hP hS hl
  exact lv_lload C.1 C.2.1 hd (lv_at hl j (by rw [List.getElem?_map, hk]; rfl)) (k p e s m args below meth c H locs A ls C hP hS hl)
theorem sw_lstore_n {k0 : Fin 4} {i : Nat} {x : Int64} (hd : decode cc pc = .ok (.lstore_n k0, 1)) (hi : (k0 : Nat) = i) (hn : i + 1 < nL) (hl2 : (i, Value.long x) :: lv.filter (fun q => !(q.1 == i) && (!(q.1 == i + 1) && !(q.1 + 1 == i && q.2.category == 2))) = lv') (k : sw_Go l E K own cc nL ret (pc + 1) lv' st σ r σ') : sw_Go l E K own cc nL ret pc lv (.long x :: st) σ r σ' := by
  intro p e s m args below meth c H locs A ls C hP hS hl
  exact lv_lstore_n C.1 C.2.1 hd hi hl hn (lv' := lv'.map (sw_g2 E)) (by subst hl2; rw [sw_ff lv E _ (fun q => by simp [sw_g2, sw_g_cat])]; rfl) (fun ls hl => (k p e s m args below meth c H locs A ls C hP hS hl))
theorem sw_lstore {i : Nat} {x : Int64} (hd : decode cc pc = .ok (.lstore i, 2)) (hn : i + 1 < nL) (hl2 : (i, Value.long x) :: lv.filter (fun q => !(q.1 == i) && (!(q.1 == i + 1) && !(q.1 + 1 == i && q.2.category == 2))) = lv') (k : sw_Go l E K own cc nL ret (pc + 2) lv' st σ r σ') : sw_Go l E K own cc nL ret pc lv (.long x :: st) σ r σ' := by
  intro p e s m args below meth c H locs A ls C hP hS hl
  exact lv_lstore C.1 C.2.1 hd hl hn (lv' := lv'.map (sw_g2 E)) (by subst hl2; rw [sw_ff lv E _ (fun q => by simp [sw_g2, sw_g_cat])]; rfl) (fun ls hl => (k p e s m args below meth c H locs A ls C hP hS hl))
theorem sw_aload_n {k0 : Fin 4} {i : Nat} {x : Nat} (j : Nat) (hk : lv[j]? = some (i, .ref x)) (hd : decode cc pc = .ok (.aload_n k0, 1)) (hi : (k0 : Nat) = i) (k : sw_Go l E K own cc nL ret (pc + 1) lv (.ref x :: st) σ r σ') : sw_Go l E K own cc nL ret pc lv st σ r σ' := by
  intro p e s m args below meth c H locs A ls C hP hS hl
  exact lv_aload_n C.1 C.2.1 hd hi (lv_at hl j (by rw [List.getElem?_map, hk]; rfl)) (k p e s m args below meth c H locs A ls C hP hS hl)
theorem sw_aload {i : Nat} {x : Nat} (j : Nat) (hk : lv[j]? = some (i, .ref x)) (hd : decode cc pc = .ok (.aload i, 2)) (k : sw_Go l E K own cc nL ret (pc + 2) lv (.ref x :: st) σ r σ') : sw_Go l E K own cc nL ret pc lv st σ r σ' := by
  intro p e s m args below meth c H locs A ls C hP hS hl
  exact lv_aload C.1 C.2.1 hd (lv_at hl j (by rw [List.getElem?_map, hk]; rfl)) (k p e s m args below meth c H locs A ls C hP hS hl)
theorem sw_astore_n {k0 : Fin 4} {i : Nat} {x : Nat} (hd : decode cc pc = .ok (.astore_n k0, 1)) (hi : (k0 : Nat) = i) (hn : i < nL) (hl2 : (i, Value.ref x) :: lv.filter (fun q => !(q.1 == i) && !(q.1 + 1 == i && q.2.category == 2)) = lv') (k : sw_Go l E K own cc nL ret (pc + 1) lv' st σ r σ') : sw_Go l E K own cc nL ret pc lv (.ref x :: st) σ r σ' := by
  intro p e s m args below meth c H locs A ls C hP hS hl
  exact lv_astore_n C.1 C.2.1 hd hi hl hn (lv' := lv'.map (sw_g2 E)) (by subst hl2; rw [sw_ff lv E _ (fun q => by simp [sw_g2, sw_g_cat])]; rfl) (fun ls hl => (k p e s m args below meth c H locs A ls C hP hS hl))
theorem sw_astore {i : Nat} {x : Nat} (hd : decode cc pc = .ok (.astore i, 2)) (hn : i < nL) (hl2 : (i, Value.ref x) :: lv.filter (fun q => !(q.1 == i) && !(q.1 + 1 == i && q.2.category == 2)) = lv') (k : sw_Go l E K own cc nL ret (pc + 2) lv' st σ r σ') : sw_Go l E K own cc nL ret pc lv (.ref x :: st) σ r σ' := by
  intro p e s m args below meth c H locs A ls C hP hS hl
  exact lv_astore C.1 C.2.1 hd hl hn (lv' := lv'.map (sw_g2 E)) (by subst hl2; rw [sw_ff lv E _ (fun q => by simp [sw_g2, sw_g_cat])]; rfl) (fun ls hl => (k p e s m args below meth c H locs A ls C hP hS hl))
theorem sw_iinc {i : Nat} {n : Int} {x v : Int32} (j : Nat) (hk : lv[j]? = some (i, .int x)) (hd : decode cc pc = .ok (.iinc i n, 3)) (hv : Int32.ofInt n = v) (hn : i < nL) (hl2 : (i, Value.int (x + v)) :: lv.filter (fun q => !(q.1 == i) && !(q.1 + 1 == i && q.2.category == 2)) = lv') (k : sw_Go l E K own cc nL ret (pc + 3) lv' st σ r σ') : sw_Go l E K own cc nL ret pc lv st σ r σ' := by
  intro p e s m args below meth c H locs A ls C hP hS hl
  exact lv_iinc C.1 C.2.1 hd hl (k := j) (x := x) (by rw [List.getElem?_map, hk]; rfl) (by rw [hv]) hn (lv' := lv'.map (sw_g2 E)) (by subst hl2; rw [sw_ff lv E _ (fun q => by simp [sw_g2, sw_g_cat])]; rfl) (fun ls hl => (k p e s m args below meth c H locs A ls C hP hS hl))
theorem sw_dup {v : Value} (hd : decode cc pc = .ok (.dup, 1)) (hc : v.category = 1) (k : sw_Go l E K own cc nL ret (pc + 1) lv (v :: v :: st) σ r σ') : sw_Go l E K own cc nL ret pc lv (v :: st) σ r σ' := by
  intro p e s m args below meth c H locs A ls C hP hS hl
  exact lv_dup C.1 C.2.1 hd (by rw [sw_g_cat]; exact hc) (k p e s m args below meth c H locs A ls C hP hS hl)
theorem sw_pop {v : Value} (hd : decode cc pc = .ok (.pop, 1)) (hc : v.category = 1) (k : sw_Go l E K own cc nL ret (pc + 1) lv st σ r σ') : sw_Go l E K own cc nL ret pc lv (v :: st) σ r σ' := by
  intro p e s m args below meth c H locs A ls C hP hS hl
  exact lv_pop C.1 C.2.1 hd (by rw [sw_g_cat]; exact hc) (k p e s m args below meth c H locs A ls C hP hS hl)
theorem sw_dup2 {v w : Value} (hd : decode cc pc = .ok (.dup2, 1)) (hc : v.category = 1) (hc2 : w.category = 1) (k : sw_Go l E K own cc nL ret (pc + 1) lv (v :: w :: v :: w :: st) σ r σ') : sw_Go l E K own cc nL ret pc lv (v :: w :: st) σ r σ' := by
  intro p e s m args below meth c H locs A ls C hP hS hl
  exact lv_dup2_11 C.1 C.2.1 hd (by rw [sw_g_cat]; exact hc) (by rw [sw_g_cat]; exact hc2) (k p e s m args below meth c H locs A ls C hP hS hl)
theorem sw_if_eq {x : Int32} {off : Int} (tgt : Nat) (hd : decode cc pc = .ok (.ifCond .eq off, 3)) (ht : (pc : Int) + off = (tgt : Int)) (kt : x = 0 → sw_Go l E K own cc nL ret tgt lv st σ r σ') (kf : ¬ (x = 0) → sw_Go l E K own cc nL ret (pc + 3) lv st σ r σ') : sw_Go l E K own cc nL ret pc lv (.int x :: st) σ r σ' := by
  intro p e s m args below meth c H locs A ls C hP hS hl
  exact lv_if_eq C.1 C.2.1 hd ht (fun h => kt h p e s m args below meth c H locs A ls C hP hS hl) (fun h => kf h p e s m args below meth c H locs A ls C hP hS hl)
theorem sw_icmp_eq {x y : Int32} {off : Int} (tgt : Nat) (hd : decode cc pc = .ok (.if_icmp .eq off, 3)) (ht : (pc : Int) + off = (tgt : Int)) (kt : x = y → sw_Go l E K own cc nL ret tgt lv st σ r σ') (kf : ¬ (x = y) → sw_Go l E K own cc nL ret (pc + 3) lv st σ r σ') : sw_Go l E K own cc nL ret pc lv (.int y :: .int x :: st) σ r σ' := by
  intro p e s m args below meth c H locs A ls C hP hS hl
  exact lv_icmp_eq C.1 C.2.1 hd ht (fun h => kt h p e s m args below meth c H locs A ls C hP hS hl) (fun h => kf h p e s m args below meth c H locs A ls C hP hS hl)
theorem sw_if_ne {x : Int32} {off : Int} (tgt : Nat) (hd : decode cc pc = .ok (.ifCond .ne off, 3)) (ht : (pc : Int) + off = (tgt : Int)) (kt : ¬ x = 0 → sw_Go l E K own cc nL ret tgt lv st σ r σ') (kf : x = 0 → sw_Go l E K own cc nL ret (pc + 3) lv st σ r σ') : sw_Go l E K own cc nL ret pc lv (.int x :: st) σ r σ' := by
  intro p e s m args below meth c H locs A ls C hP hS hl
  exact lv_if_ne C.1 C.2.1 hd ht (fun h => kt h p e s m args below meth c H locs A ls C hP hS hl) (fun h => kf h p e s m args below meth c H locs A ls C hP hS hl)
theorem sw_icmp_ne {x y : Int32} {off : Int} (tgt : Nat) (hd : decode cc pc = .ok (.if_icmp .ne off, 3)) (ht : (pc : Int) + off = (tgt : Int)) (kt : ¬ x = y → sw_Go l E K own cc nL ret tgt lv st σ r σ') (kf : x = y → sw_Go l E K own cc nL ret (pc + 3) lv st σ r σ') : sw_Go l E K own cc nL ret pc lv (.int y :: .int x :: st) σ r σ' := by
  intro p e s m args below meth c H locs A ls C hP hS hl
  exact lv_icmp_ne C.1 C.2.1 hd ht (fun h => kt h p e s m args below meth c H locs A ls C hP hS hl) (fun h => kf h p e s m args below meth c H locs A ls C hP hS hl)
theorem sw_if_lt {x : Int32} {off : Int} (tgt : Nat) (hd : decode cc pc = .ok (.ifCond .lt off, 3)) (ht : (pc : Int) + off = (tgt : Int)) (kt : x < 0 → sw_Go l E K own cc nL ret tgt lv st σ r σ') (kf : ¬ (x < 0) → sw_Go l E K own cc nL ret (pc + 3) lv st σ r σ') : sw_Go l E K own cc nL ret pc lv (.int x :: st) σ r σ' := by
  intro p e s m args below meth c H locs A ls C hP hS hl
  exact lv_if_lt C.1 C.2.1 hd ht (fun h => kt h p e s m args below meth c H locs A ls C hP hS hl) (fun h => kf h p e s m args below meth c H locs A ls C hP hS hl)
theorem sw_icmp_lt {x y : Int32} {off : Int} (tgt : Nat) (hd : decode cc pc = .ok (.if_icmp .lt off, 3)) (ht : (pc : Int) + off = (tgt : Int)) (kt : x < y → sw_Go l E K own cc nL ret tgt lv st σ r σ') (kf : ¬ (x < y) → sw_Go l E K own cc nL ret (pc + 3) lv st σ r σ') : sw_Go l E K own cc nL ret pc lv (.int y :: .int x :: st) σ r σ' := by
  intro p e s m args below meth c H locs A ls C hP hS hl
  exact lv_icmp_lt C.1 C.2.1 hd ht (fun h => kt h p e s m args below meth c H locs A ls C hP hS hl) (fun h => kf h p e s m args below meth c H locs A ls C hP hS hl)
theorem sw_if_ge {x : Int32} {off : Int} (tgt : Nat) (hd : decode cc pc = .ok (.ifCond .ge off, 3)) (ht : (pc : Int) + off = (tgt : Int)) (kt : 0 ≤ x → sw_Go l E K own cc nL ret tgt lv st σ r σ') (kf : ¬ (0 ≤ x) → sw_Go l E K own cc nL ret (pc + 3) lv st σ r σ') : sw_Go l E K own cc nL ret pc lv (.int x :: st) σ r σ' := by
  intro p e s m args below meth c H locs A ls C hP hS hl
  exact lv_if_ge C.1 C.2.1 hd ht (fun h => kt h p e s m args below meth c H locs A ls C hP hS hl) (fun h => kf h p e s m args below meth c H locs A ls C hP hS hl)
theorem sw_icmp_ge {x y : Int32} {off : Int} (tgt : Nat) (hd : decode cc pc = .ok (.if_icmp .ge off, 3)) (ht : (pc : Int) + off = (tgt : Int)) (kt : y ≤ x → sw_Go l E K own cc nL ret tgt lv st σ r σ') (kf : ¬ (y ≤ x) → sw_Go l E K own cc nL ret (pc + 3) lv st σ r σ') : sw_Go l E K own cc nL ret pc lv (.int y :: .int x :: st) σ r σ' := by
  intro p e s m args below meth c H locs A ls C hP hS hl
  exact lv_icmp_ge C.1 C.2.1 hd ht (fun h => kt h p e s m args below meth c H locs A ls C hP hS hl) (fun h => kf h p e s m args below meth c H locs A ls C hP hS hl)
theorem sw_if_gt {x : Int32} {off : Int} (tgt : Nat) (hd : decode cc pc = .ok (.ifCond .gt off, 3)) (ht : (pc : Int) + off = (tgt : Int)) (kt : 0 < x → sw_Go l E K own cc nL ret tgt lv st σ r σ') (kf : ¬ (0 < x) → sw_Go l E K own cc nL ret (pc + 3) lv st σ r σ') : sw_Go l E K own cc nL ret pc lv (.int x :: st) σ r σ' := by
  intro p e s m args below meth c H locs A ls C hP hS hl
  exact lv_if_gt C.1 C.2.1 hd ht (fun h => kt h p e s m args below meth c H locs A ls C hP hS hl) (fun h => kf h p e s m args below meth c H locs A ls C hP hS hl)
theorem sw_icmp_gt {x y : Int32} {off : Int} (tgt : Nat) (hd : decode cc pc = .ok (.if_icmp .gt off, 3)) (ht : (pc : Int) + off = (tgt : Int)) (kt : y < x → sw_Go l E K own cc nL ret tgt lv st σ r σ') (kf : ¬ (y < x) → sw_Go l E K own cc nL ret (pc + 3) lv st σ r σ') : sw_Go l E K own cc nL ret pc lv (.int y :: .int x :: st) σ r σ' := by
  intro p e s m args below meth c H locs A ls C hP hS hl
  exact lv_icmp_gt C.1 C.2.1 hd ht (fun h => kt h p e s m args below meth c H locs A ls C hP hS hl) (fun h => kf h p e s m args below meth c H locs A ls C hP hS hl)
theorem sw_if_le {x : Int32} {off : Int} (tgt : Nat) (hd : decode cc pc = .ok (.ifCond .le off, 3)) (ht : (pc : Int) + off = (tgt : Int)) (kt : x ≤ 0 → sw_Go l E K own cc nL ret tgt lv st σ r σ') (kf : ¬ (x ≤ 0) → sw_Go l E K own cc nL ret (pc + 3) lv st σ r σ') : sw_Go l E K own cc nL ret pc lv (.int x :: st) σ r σ' := by
  intro p e s m args below meth c H locs A ls C hP hS hl
  exact lv_if_le C.1 C.2.1 hd ht (fun h => kt h p e s m args below meth c H locs A ls C hP hS hl) (fun h => kf h p e s m args below meth c H locs A ls C hP hS hl)
theorem sw_icmp_le {x y : Int32} {off : Int} (tgt : Nat) (hd : decode cc pc = .ok (.if_icmp .le off, 3)) (ht : (pc : Int) + off = (tgt : Int)) (kt : x ≤ y → sw_Go l E K own cc nL ret tgt lv st σ r σ') (kf : ¬ (x ≤ y) → sw_Go l E K own cc nL ret (pc + 3) lv st σ r σ') : sw_Go l E K own cc nL ret pc lv (.int y :: .int x :: st) σ r σ' := by
  intro p e s m args below meth c H locs A ls C hP hS hl
  exact lv_icmp_le C.1 C.2.1 hd ht (fun h => kt h p e s m args below meth c H locs A ls C hP hS hl) (fun h => kf h p e s m args below meth c H locs A ls C hP hS hl)
theorem sw_goto {off : Int} (tgt : Nat) (hd : decode cc pc = .ok (.goto off, 3)) (ht : (pc : Int) + off = (tgt : Int)) (k : sw_Go l E K own cc nL ret tgt lv st σ r σ') : sw_Go l E K own cc nL ret pc lv st σ r σ' := by
  intro p e s m args below meth c H locs A ls C hP hS hl
  exact lv_goto C.1 C.2.1 hd ht (k p e s m args below meth c H locs A ls C hP hS hl)
theorem sw_tabOut {dflt lo hi : Int} {offs : Array Int} {len : Nat} {x : Int32} (tgt : Nat) (hd : decode cc pc = .ok (.tableswitch dflt lo hi offs, len)) (h : x.toInt < lo ∨ hi < x.toInt) (ht : (pc : Int) + dflt = (tgt : Int)) (k : sw_Go l E K own cc nL ret tgt lv st σ r σ') : sw_Go l E K own cc nL ret pc lv (.int x :: st) σ r σ' := by
  intro p e s m args below meth c H locs A ls C hP hS hl
  exact lv_tableOut C.1 C.2.1 hd h ht (k p e s m args below meth c H locs A ls C hP hS hl)
theorem sw_tabIn {dflt lo hi : Int} {offs : Array Int} {len : Nat} {x : Int32} {off : Int} (tgt : Nat) (hd : decode cc pc = .ok (.tableswitch dflt lo hi offs, len)) (h1 : ¬ x.toInt < lo) (h2 : ¬ hi < x.toInt) (ho : offs[(x.toInt - lo).toNat]? = some off) (ht : (pc : Int) + off = (tgt : Int)) (k : sw_Go l E K own cc nL ret tgt lv st σ r σ') : sw_Go l E K own cc nL ret pc lv (.int x :: st) σ r σ' := by
  intro p e s m args below meth c H locs A ls C hP hS hl
  exact lv_tableIn C.1 C.2.1 hd h1 h2 ho ht (k p e s m args below meth c H locs A ls C hP hS hl)
theorem sw_lookup {dflt : Int} {ps : Array (Int × Int)} {len : Nat} {x : Int32} {off : Int} (tgt : Nat) (hd : decode cc pc = .ok (.lookupswitch dflt ps, len)) (hp : (ps.toList.zip (ps.toList.drop 1)).all (fun (a, next) => a.1 < next.1) = true) (ho : Op.lookupswitch.offset ps.toList dflt x.toInt = off) (ht : (pc : Int) + off = (tgt : Int)) (k : sw_Go l E K own cc nL ret tgt lv st σ r σ') : sw_Go l E K own cc nL ret pc lv (.int x :: st) σ r σ' := by
  intro p e s m args below meth c H locs A ls C hP hS hl
  exact lv_lookup C.1 C.2.1 hd hp ho ht (k p e s m args below meth c H locs A ls C hP hS hl)
theorem sw_ldc {index : Nat} {v : Int32} (hc : Cond.constant own index v ∈ sw_T) (hd : decode cc pc = .ok (.ldc index, 2)) (k : sw_Go l E K own cc nL ret (pc + 2) lv (.int v :: st) σ r σ') : sw_Go l E K own cc nL ret pc lv st σ r σ' := by
  intro p e s m args below meth c H locs A ls C hP hS hl
  exact lv_ldc C.1 C.2.1 C.2.2.2.2.2.1 (C.2.2.2.2.2.2.1 _ hc) hd (k p e s m args below meth c H locs A ls C hP hS hl)
theorem sw_ldc2 {index : Nat} {v : Int64} (hc : Cond.constantLong own index v ∈ sw_T) (hd : decode cc pc = .ok (.ldc2_w index, 3)) (k : sw_Go l E K own cc nL ret (pc + 3) lv (.long v :: st) σ r σ') : sw_Go l E K own cc nL ret pc lv st σ r σ' := by
  intro p e s m args below meth c H locs A ls C hP hS hl
  exact lv_ldc2 C.1 C.2.1 C.2.2.2.2.2.1 (C.2.2.2.2.2.2.1 _ hc) hd (k p e s m args below meth c H locs A ls C hP hS hl)
theorem sw_get {i ci k0 index N : Nat} {CN : String} {T : u_T} {v : Value} (hc : sw_cl[ci]? = some (CN, T, N)) (hin : ∀ w ∈ u_ws CN T N, w ∈ sw_T) (hk : k0 < N) (hlink : Cond.fieldLink own index (T k0).1 (T k0).2.1 (T k0).2.2.1 ∈ sw_T) (hv : (sw_fs σ i ci)[k0]? = some v) (hi : i < 84) (hs : sw_s i = (0, ci)) (hd : decode cc pc = .ok (.getfield index, 3)) (k : sw_Go l E K own cc nL ret (pc + 3) lv (v :: st) σ r σ') : sw_Go l E K own cc nL ret pc lv (.ref i :: st) σ r σ' := by
  intro p e s m args below meth c H locs A ls C hP hS hl
  refine va_get (a := E.1 i) (ws := sw_wl E σ) (ci := ci) (v := sw_g E v) (C := CN) (T := T) (N := N) C.1 C.2.1 C.2.2.2.2.2.2.1 hin C.2.2.2.2.2.1 C.2.2.2.2.2.2.2.2.2.1 hP i (fs := (sw_fs σ i ci).map (sw_g E)) (by rw [sw_wl_at E σ hi, sw_ce_o hs]) hc k0 hk (C.2.2.2.2.2.2.1 _ hlink) (fun _ h9 => h9) (by rw [List.getElem?_map, hv]; rfl) hd (k p e s m args below meth c H locs A ls C hP hS hl)
theorem sw_put {i ci k0 index N : Nat} {CN : String} {T : u_T} {ty : FieldType} {v : Value} {σ2 : sw_M} (ty0 : Nat → FieldType) (hc : sw_cl[ci]? = some (CN, T, N)) (hin : ∀ w ∈ u_ws CN T N, w ∈ sw_T) (hty : ∀ k, k < N → parseFieldDescriptor (T k).2.2.1 = some (ty0 k)) (hnm : ∀ a, a < N → ∀ b, b < N → a ≠ b → (T a).2.1 ≠ (T b).2.1) (hk : k0 < N) (hlink : Cond.fieldLink own index (T k0).1 (T k0).2.1 (T k0).2.2.1 ∈ sw_T) (hfin : (T k0).2.2.2 = false) (hdd : parseFieldDescriptor (T k0).2.2.1 = some ty)
    (hlen : k0 < (sw_fk.getD ci []).length) (hi : i < 84) (hs : sw_s i = (0, ci)) (hn : narrow ty (sw_g E v) = sw_g E v) (hfit : fits ty (sw_g E v) = true) (hset : sw_fs σ2 i ci = (sw_fs σ i ci).set k0 v) (ho : ∀ a, a ≠ i → sw_ce E σ2 a = sw_ce E σ a) (hd : decode cc pc = .ok (.putfield index, 3)) (k : sw_Go l E K own cc nL ret (pc + 3) lv st σ2 r σ') : sw_Go l E K own cc nL ret pc lv (v :: .ref i :: st) σ r σ' := by
  intro p e s m args below meth c H locs A ls C hP hS hl
  refine va_put (a := E.1 i) (ws := sw_wl E σ) (ci := ci) (v := sw_g E v) (ty := ty) (C := CN) (T := T) (N := N) C.1 C.2.1 C.2.2.2.2.2.2.1 hin ty0 hty hnm C.2.2.2.2.2.1 C.2.2.2.2.2.2.2.2.2.1 hP (C.2.2.2.2.2.2.2.2.2.2.1 σ) hS i (fs := (sw_fs σ i ci).map (sw_g E)) (by rw [sw_wl_at E σ hi, sw_ce_o hs]) hc k0 hk (C.2.2.2.2.2.2.1 _ hlink) (fun _ h9 => h9) hfin hdd hn hfit (by rw [List.length_map, sw_fs_len]; exact hlen) hd (fun H1 locs1 hP1 hD1 hS1 => ?_)
  rw [← List.map_set, ← hset, sw_wl_set E σ σ2 (sw_ce_o hs) ho] at hP1
  exact k p e s m args below meth c H1 locs1 A ls C hP1 hS1 hl
theorem sw_putI {i ci k0 index N : Nat} {CN : String} {T : u_T} {ty : FieldType} {x : Int32} (ty0 : Nat → FieldType) (hc : sw_cl[ci]? = some (CN, T, N)) (hin : ∀ w ∈ u_ws CN T N, w ∈ sw_T) (hty : ∀ k, k < N → parseFieldDescriptor (T k).2.2.1 = some (ty0 k)) (hnm : ∀ a, a < N → ∀ b, b < N → a ≠ b → (T a).2.1 ≠ (T b).2.1) (hk : k0 < N) (hlink : Cond.fieldLink own index (T k0).1 (T k0).2.1 (T k0).2.2.1 ∈ sw_T) (hfin : (T k0).2.2.2 = false) (hdd : parseFieldDescriptor (T k0).2.2.1 = some ty)
    (hk0 : (sw_fk.getD ci [])[k0]? = some 0) (hi : i < 84) (hs : sw_s i = (0, ci)) (hn : narrow ty (.int x) = .int x) (hfit : fits ty (.int x) = true) (hd : decode cc pc = .ok (.putfield index, 3)) (k : sw_Go l E K own cc nL ret (pc + 3) lv st (sw_w σ i k0 x) r σ') : sw_Go l E K own cc nL ret pc lv (.int x :: .ref i :: st) σ r σ' :=
  sw_put (v := .int x) ty0 hc hin hty hnm hk hlink hfin hdd (List.getElem?_eq_some_iff.mp hk0).1 hi hs hn hfit (sw_fs_w σ i ci k0 x hk0) (sw_ce_wA E σ i _) hd k
theorem sw_putL {i ci k0 index N : Nat} {CN : String} {T : u_T} {x : Int64} (ty0 : Nat → FieldType) (hc : sw_cl[ci]? = some (CN, T, N)) (hin : ∀ w ∈ u_ws CN T N, w ∈ sw_T) (hty : ∀ k, k < N → parseFieldDescriptor (T k).2.2.1 = some (ty0 k)) (hnm : ∀ a, a < N → ∀ b, b < N → a ≠ b → (T a).2.1 ≠ (T b).2.1) (hk : k0 < N) (hlink : Cond.fieldLink own index (T k0).1 (T k0).2.1 (T k0).2.2.1 ∈ sw_T) (hfin : (T k0).2.2.2 = false) (hdd : parseFieldDescriptor (T k0).2.2.1 = some .long)
    (hk0 : (sw_fk.getD ci [])[k0]? = some 1) (hi : i < 84) (hs : sw_s i = (0, ci)) (hd : decode cc pc = .ok (.putfield index, 3)) (k : sw_Go l E K own cc nL ret (pc + 3) lv st (sw_wL σ i k0 x) r σ') : sw_Go l E K own cc nL ret pc lv (.long x :: .ref i :: st) σ r σ' :=
  sw_put (v := .long x) ty0 hc hin hty hnm hk hlink hfin hdd (List.getElem?_eq_some_iff.mp hk0).1 hi hs rfl rfl (sw_fs_wL σ i ci k0 x hk0) (sw_ce_wL E σ i k0 x) hd k
theorem sw_iaload {a n : Nat} {i : Int32} (ha : a < 84) (hs : sw_s a = (1, n)) (hin : vp_in i n) (hd : decode cc pc = .ok (.iaload, 1)) (k : sw_Go l E K own cc nL ret (pc + 1) lv (.int (σ.1 a i.toNatClampNeg) :: st) σ r σ') : sw_Go l E K own cc nL ret pc lv (.int i :: .ref a :: st) σ r σ' := by
  intro p e s m args below meth c H locs A ls C hP hS hl
  exact va_iald (a := E.1 a) (ws := sw_wl E σ) C.1 C.2.1 C.2.2.2.2.2.2.2.2.2.1 hP a a (cA := E.2.1 a) (n := n) (f := σ.1 a) (by rw [sw_wl_at E σ ha, sw_ce_i hs (by decide) (by decide)]) (by rw [sw_ty_at E ha, hs]; rfl) hin hd (k p e s m args below meth c H locs A ls C hP hS hl)
theorem sw_baload {a n : Nat} {i : Int32} (ha : a < 84) (hs : sw_s a = (2, n)) (hin : vp_in i n) (hd : decode cc pc = .ok (.baload, 1)) (k : sw_Go l E K own cc nL ret (pc + 1) lv (.int (σ.1 a i.toNatClampNeg) :: st) σ r σ') : sw_Go l E K own cc nL ret pc lv (.int i :: .ref a :: st) σ r σ' := by
  intro p e s m args below meth c H locs A ls C hP hS hl
  exact va_bald (a := E.1 a) (ws := sw_wl E σ) C.1 C.2.1 C.2.2.2.2.2.2.2.2.2.1 hP a a (cA := E.2.1 a) (n := n) (f := σ.1 a) (by rw [sw_wl_at E σ ha, sw_ce_i hs (by decide) (by decide)]) (by rw [sw_ty_at E ha, hs]; rfl) hin hd (k p e s m args below meth c H locs A ls C hP hS hl)
theorem sw_zaload {a n : Nat} {i : Int32} (ha : a < 84) (hs : sw_s a = (3, n)) (hin : vp_in i n) (hd : decode cc pc = .ok (.baload, 1)) (k : sw_Go l E K own cc nL ret (pc + 1) lv (.int (σ.1 a i.toNatClampNeg) :: st) σ r σ') : sw_Go l E K own cc nL ret pc lv (.int i :: .ref a :: st) σ r σ' := by
  intro p e s m args below meth c H locs A ls C hP hS hl
  exact va_zald (a := E.1 a) (ws := sw_wl E σ) C.1 C.2.1 C.2.2.2.2.2.2.2.2.2.1 hP a a (cA := E.2.1 a) (n := n) (f := σ.1 a) (by rw [sw_wl_at E σ ha, sw_ce_i hs (by decide) (by decide)]) (by rw [sw_ty_at E ha, hs]; rfl) hin hd (k p e s m args below meth c H locs A ls C hP hS hl)
theorem sw_laload {a n : Nat} {i : Int32} (ha : a < 84) (hs : sw_s a = (4, n)) (hin : vp_in i n) (hd : decode cc pc = .ok (.laload, 1)) (k : sw_Go l E K own cc nL ret (pc + 1) lv (.long (σ.2.1 a i.toNatClampNeg) :: st) σ r σ') : sw_Go l E K own cc nL ret pc lv (.int i :: .ref a :: st) σ r σ' := by
  intro p e s m args below meth c H locs A ls C hP hS hl
  exact va_lald (a := E.1 a) (ws := sw_wl E σ) C.1 C.2.1 C.2.2.2.2.2.2.2.2.2.1 hP a a (cA := E.2.1 a) (n := n) (f := σ.2.1 a) (by rw [sw_wl_at E σ ha, sw_ce_l hs]) (by rw [sw_ty_at E ha, hs]; rfl) hin hd (k p e s m args below meth c H locs A ls C hP hS hl)
theorem sw_iastore {a n : Nat} {i x : Int32} (ha : a < 84) (hs : sw_s a = (1, n)) (hin : vp_in i n) (hd : decode cc pc = .ok (.iastore, 1)) (k : sw_Go l E K own cc nL ret (pc + 1) lv st (sw_w σ a i.toNatClampNeg (x)) r σ') : sw_Go l E K own cc nL ret pc lv (.int x :: .int i :: .ref a :: st) σ r σ' := by
  intro p e s m args below meth c H locs A ls C hP hS hl
  refine va_iast (a := E.1 a) (ws := sw_wl E σ) C.1 C.2.1 C.2.2.2.2.2.2.2.2.2.1 hP (C.2.2.2.2.2.2.2.2.2.2.1 σ) hS a a (cA := E.2.1 a) (n := n) (f := σ.1 a) (by rw [sw_wl_at E σ ha, sw_ce_i hs (by decide) (by decide)]) (by rw [sw_ty_at E ha, hs]; rfl) hin hd (fun H1 locs1 hP1 hD1 hS1 => ?_)
  rw [sw_wl_set E σ (sw_w σ a i.toNatClampNeg (x)) (by rw [sw_ce_i hs (by decide) (by decide), sw_w, sw_wA_self]) (sw_ce_wA E σ a _)] at hP1
  exact k p e s m args below meth c H1 locs1 A ls C hP1 hS1 hl
theorem sw_bastore {a n : Nat} {i x : Int32} (ha : a < 84) (hs : sw_s a = (2, n)) (hin : vp_in i n) (hd : decode cc pc = .ok (.bastore, 1)) (k : sw_Go l E K own cc nL ret (pc + 1) lv st (sw_w σ a i.toNatClampNeg (vp_nar .byte x)) r σ') : sw_Go l E K own cc nL ret pc lv (.int x :: .int i :: .ref a :: st) σ r σ' := by
  intro p e s m args below meth c H locs A ls C hP hS hl
  refine va_bast (a := E.1 a) (ws := sw_wl E σ) C.1 C.2.1 C.2.2.2.2.2.2.2.2.2.1 hP (C.2.2.2.2.2.2.2.2.2.2.1 σ) hS a a (cA := E.2.1 a) (n := n) (f := σ.1 a) (by rw [sw_wl_at E σ ha, sw_ce_i hs (by decide) (by decide)]) (by rw [sw_ty_at E ha, hs]; rfl) hin hd (fun H1 locs1 hP1 hD1 hS1 => ?_)
  rw [sw_wl_set E σ (sw_w σ a i.toNatClampNeg (vp_nar .byte x)) (by rw [sw_ce_i hs (by decide) (by decide), sw_w, sw_wA_self]) (sw_ce_wA E σ a _)] at hP1
  exact k p e s m args below meth c H1 locs1 A ls C hP1 hS1 hl
theorem sw_zastore {a n : Nat} {i x : Int32} (ha : a < 84) (hs : sw_s a = (3, n)) (hin : vp_in i n) (hd : decode cc pc = .ok (.bastore, 1)) (k : sw_Go l E K own cc nL ret (pc + 1) lv st (sw_w σ a i.toNatClampNeg (vp_nar .boolean x)) r σ') : sw_Go l E K own cc nL ret pc lv (.int x :: .int i :: .ref a :: st) σ r σ' := by
  intro p e s m args below meth c H locs A ls C hP hS hl
  refine va_zast (a := E.1 a) (ws := sw_wl E σ) C.1 C.2.1 C.2.2.2.2.2.2.2.2.2.1 hP (C.2.2.2.2.2.2.2.2.2.2.1 σ) hS a a (cA := E.2.1 a) (n := n) (f := σ.1 a) (by rw [sw_wl_at E σ ha, sw_ce_i hs (by decide) (by decide)]) (by rw [sw_ty_at E ha, hs]; rfl) hin hd (fun H1 locs1 hP1 hD1 hS1 => ?_)
  rw [sw_wl_set E σ (sw_w σ a i.toNatClampNeg (vp_nar .boolean x)) (by rw [sw_ce_i hs (by decide) (by decide), sw_w, sw_wA_self]) (sw_ce_wA E σ a _)] at hP1
  exact k p e s m args below meth c H1 locs1 A ls C hP1 hS1 hl
theorem sw_lastore {a n : Nat} {i : Int32} {x : Int64} (ha : a < 84) (hs : sw_s a = (4, n)) (hin : vp_in i n) (hd : decode cc pc = .ok (.lastore, 1)) (k : sw_Go l E K own cc nL ret (pc + 1) lv st (sw_wL σ a i.toNatClampNeg x) r σ') : sw_Go l E K own cc nL ret pc lv (.long x :: .int i :: .ref a :: st) σ r σ' := by
  intro p e s m args below meth c H locs A ls C hP hS hl
  refine va_last (a := E.1 a) (ws := sw_wl E σ) C.1 C.2.1 C.2.2.2.2.2.2.2.2.2.1 hP (C.2.2.2.2.2.2.2.2.2.2.1 σ) hS a a (cA := E.2.1 a) (n := n) (f := σ.2.1 a) (by rw [sw_wl_at E σ ha, sw_ce_l hs]) (by rw [sw_ty_at E ha, hs]; rfl) hin hd (fun H1 locs1 hP1 hD1 hS1 => ?_)
  rw [sw_wl_set E σ (sw_wL σ a i.toNatClampNeg x) (by rw [sw_ce_l hs, sw_wL_self]) (sw_ce_wL E σ a _ _)] at hP1
  exact k p e s m args below meth c H1 locs1 A ls C hP1 hS1 hl
theorem sw_alen {a t n : Nat} {v : Int32} (ha : a < 84) (hs : sw_s a = (t, n)) (ht : t ≠ 0) (hv : Int32.ofNat n = v) (hd : decode cc pc = .ok (.arraylength, 1)) (k : sw_Go l E K own cc nL ret (pc + 1) lv (.int v :: st) σ r σ') : sw_Go l E K own cc nL ret pc lv (.ref a :: st) σ r σ' := by
  intro p e s m args below meth c H locs A ls C hP hS hl
  by_cases h4 : t = 4
  · subst h4
    exact va_alen (a := E.1 a) (ws := sw_wl E σ) C.1 C.2.1 C.2.2.2.2.2.2.2.2.2.1 hP a a (cA := E.2.1 a) (x := (n, .inr (.inl (σ.2.1 a)))) (by rw [sw_wl_at E σ ha, sw_ce_l hs]) (sw_ty_at E ha) hv hd (k p e s m args below meth c H locs A ls C hP hS hl)
  · exact va_alen (a := E.1 a) (ws := sw_wl E σ) C.1 C.2.1 C.2.2.2.2.2.2.2.2.2.1 hP a a (cA := E.2.1 a) (x := (n, .inl (σ.1 a))) (by rw [sw_wl_at E σ ha, sw_ce_i hs ht h4]) (sw_ty_at E ha) hv hd (k p e s m args below meth c H locs A ls C hP hS hl)
theorem sw_vret (hd : decode cc pc = .ok (.return_, 1)) : sw_Go l E K own cc nL none pc lv [] σ none σ := by
  intro p e s m args below meth c H locs A ls C hP hS hl
  have hlocks : meth.locks = false := C.2.2.2.2.1
  exact W.vret C.1 C.2.1 C.2.2.2.1 (fun t ht hW => ⟨rfl, by rw [ht]; exact hP, va_K.moved hW.alike C.2.2.2.2.2.2.2.2.2.1, hS.F ht⟩) hS.2.2 hd
theorem sw_iret {v : Int32} (hd : decode cc pc = .ok (.ireturn, 1)) : sw_Go l E K own cc nL (some .int) pc lv [.int v] σ (some (.int v)) σ := by
  intro p e s m args below meth c H locs A ls C hP hS hl
  have hlocks : meth.locks = false := C.2.2.2.2.1
  exact W.iret C.1 C.2.1 C.2.2.2.1 (fun t ht hW => ⟨rfl, by rw [ht]; exact hP, va_K.moved hW.alike C.2.2.2.2.2.2.2.2.2.1, hS.F ht⟩) hS.2.2 hd
theorem sw_lret {v : Int64} (hd : decode cc pc = .ok (.lreturn, 1)) : sw_Go l E K own cc nL (some .long) pc lv [.long v] σ (some (.long v)) σ := by
  intro p e s m args below meth c H locs A ls C hP hS hl
  have hlocks : meth.locks = false := C.2.2.2.2.1
  exact W.lret C.1 C.2.1 C.2.2.2.1 (fun t ht hW => ⟨rfl, by rw [ht]; exact hP, va_K.moved hW.alike C.2.2.2.2.2.2.2.2.2.1, hS.F ht⟩) hS.2.2 hd
theorem sw_zret {v : Int32} {ty : FieldType} (hn : narrow ty (.int v) = .int v) (hd : decode cc pc = .ok (.ireturn, 1)) : sw_Go l E K own cc nL (some ty) pc lv [.int v] σ (some (.int v)) σ := by
  intro p e s m args below meth c H locs A ls C hP hS hl
  have hlocks : meth.locks = false := C.2.2.2.2.1
  exact W.zret C.1 C.2.1 C.2.2.2.1 hn (fun t ht hW => ⟨rfl, by rw [ht]; exact hP, va_K.moved hW.alike C.2.2.2.2.2.2.2.2.2.1, hS.F ht⟩) hS.2.2 hd
end GO
