def sw_len : List Nat := [98, 11]
def sw_byt : List (List Int32) := [[107, 105, 110, 100, 32, 112, 101, 114, 115, 111, 110, 32, 98, 111, 105, 108, 115, 32, 98, 97, 115, 105, 110, 32, 114, 105, 115, 101, 115, 32, 115, 99, 117, 109, 32, 100, 114, 97, 119, 32, 104, 97, 115, 32, 105, 110, 116, 111, 32, 119, 97, 110, 116, 115, 32, 111, 114, 32, 97, 110, 100, 32, 110, 111, 116, 32, 97, 108, 108, 32, 107, 105, 110, 100, 115, 32, 109, 111, 115, 116, 32, 108, 101, 97, 115, 116, 32, 116, 101, 108, 108, 101, 114, 115, 32, 100, 97, 121], [59, 40, 41, 60, 62, 61, 43, 45, 42, 47, 37]]
abbrev sw_tK : String := "kind person boils basin rises scum draw has into wants or and not all kinds most least tellers day"
abbrev sw_tS : String := ";()<>=+-*/%"
def sw_X (ad : Nat → Nat) : (Nat → Prop) → State → Heap → Prop := fun A U H => vk_S 2 sw_len sw_byt (fun i => ad (84 + i)) (fun i => ad (86 + i)) A U H ∧ vk_R RX7 15 sw_tK (ad 84) U ∧ vk_R RX7 81 sw_tS (ad 85) U ∧ va_Z "java/lang/String" "COMPACT_STRINGS" "Z" (.int 1) A U H ∧ va_Zq "jdk/internal/util/Preconditions" "SIOOBE_FORMATTER" "Ljava/util/function/BiFunction;" A U H
theorem sw_X_mv (ad : Nat → Nat) : sw_Mv (sw_X ad) := by
  refine ⟨fun A A' s U H0 H h hq hA hW => ?_, fun A u U H hv h => ?_⟩
  · obtain ⟨h1, h2, h3, h4, h5⟩ := h
    refine ⟨((h1.kept hq).narrow hA).moved hW.alike, h2.warm hW, h3.warm hW, ((h4.kept hq).narrow hA).moved hW.alike, ?_⟩
    rcases h5 with h | ⟨t, h⟩
    · exact Or.inl (((h.kept hq).narrow hA).moved hW.alike)
    · exact Or.inr ⟨t, ((h.kept hq).narrow hA).moved hW.alike⟩
  · obtain ⟨h1, h2, h3, h4, h5⟩ := h
    have ha : u.vm.Alike U.vm := by rw [hv]; exact Vm.Alike.refl _
    refine ⟨h1.moved ha, h2.same hv, h3.same hv, h4.moved ha, ?_⟩
    rcases h5 with h | ⟨t, h⟩
    · exact Or.inl (h.moved ha)
    · exact Or.inr ⟨t, h.moved ha⟩
/-! methods that touch nothing: the heap stays -/
def sp_Pc (ad : Nat → Nat) (As : List Value) : Array Value → State → Prop := fun a U => a = As.toArray ∧ sw_X ad (fun q => U.heap.size ≤ q) U U.heap
def sp_Qc (r : Option Value) : Array Value → State → Outcome → State → Prop := fun _ st oc t => oc = .returned r ∧ t.heap = st.heap
def sp_Ct (l : Launch) (ad : Nat → Nat) (K : Nat) (y : MethodName) (cc : ByteArray) (nL : Nat) (ret : Option FieldType) (As : List Value) (r : Option Value) : Prop :=
  Met l y (.code y cc nL ret :: sw_T) (sw_rm K) (sp_Pc ad As) (sp_Qc r) 0 0 (fun _ => False)
def sp_Cx (ad : Nat → Nat) (own : String) (cc : ByteArray) (nL : Nat) (ret : Option FieldType) (p : Program) (s : State) (m : MethodId) (args : Array Value) (meth : Method) (c : Code) : Prop :=
  p.tables.exec = Jvm.exec ∧ c.code = cc ∧ c.maxLocals = nL ∧ meth.sig.returnType = ret ∧ meth.locks = false ∧ s.vm.findClass own = some m.cls ∧ (∀ w ∈ sw_T, w.before args s = true) ∧ sw_X ad (fun q => s.heap.size ≤ q) s s.heap
def sp_Go (l : Launch) (ad : Nat → Nat) (K : Nat) (own : String) (cc : ByteArray) (nL : Nat) (ret : Option FieldType) (pc : Nat) (lv : List (Nat × Value)) (st : List Value) (r : Option Value) : Prop :=
  ∀ (p : Program) (e : Env) (s : State) (m : MethodId) (args : Array Value) (below : List Frame) (meth : Method) (c : Code) (ls : Array Slot),
    sp_Cx ad own cc nL ret p s m args meth c → lv_has ls nL lv →
    W p l e (sw_rm K) s m args below meth c s.heap [] 0 0 (MQ below (sp_Qc r) args s 0 0 (fun _ => False)) (F0 m pc ls st)
section SP
variable {l : Launch} {ad : Nat → Nat} {K : Nat} {own : String} {cc : ByteArray} {nL : Nat} {ret : Option FieldType} {pc : Nat} {lv lv' : List (Nat × Value)} {st st0 : List Value} {r : Option Value}
theorem sp_enter {y : MethodName} {As : List Value} (hy : plainFor y = true) (hn : (lg_sl As).length ≤ nL) (hown : y.cls = own) (hlv : lv_args 0 As = lv)
    (h : sp_Go l ad K own cc nL ret 0 lv [] r) : sp_Ct l ad K y cc nL ret As r := by
  subst hown; subst hlv
  refine va_MetF (cc := cc) (maxL := nL) (ret := ret) hy rfl ?_
  intro p e s m args below meth c s₁ B hml hv
  obtain ⟨rfl, hX⟩ := hv
  have hts := atoms_spec (ws := .code y cc nL ret :: sw_T) B.pre
  have hown : s.vm.findClass y.cls = some m.cls := findClass_of_methodNamed B.named
  have hl := lv_entry As (n := nL) hn
  rw [lg_entry_eq]
  exact h p e s m _ below meth c _ ⟨B.exec, B.bytes, hml, B.returns, B.notSynchronized, hown, fun w hw => hts w (List.mem_cons_of_mem _ hw), hX⟩ hl
theorem sp_iadd {x y : Int32} (hd : decode cc pc = .ok (.iadd, 1)) (k : sp_Go l ad K own cc nL ret (pc + 1) lv (.int (x + y) :: st) r) : sp_Go l ad K own cc nL ret pc lv (.int y :: .int x :: st) r := by
  intro p e s m args below meth c ls C hl
  exact lv_iadd C.1 C.2.1 hd (k p e s m args below meth c ls C hl)
theorem sp_iand {x y : Int32} (hd : decode cc pc = .ok (.iand, 1)) (k : sp_Go l ad K own cc nL ret (pc + 1) lv (.int (x &&& y) :: st) r) : sp_Go l ad K own cc nL ret pc lv (.int y :: .int x :: st) r := by
  intro p e s m args below meth c ls C hl
  exact lv_iand C.1 C.2.1 hd (k p e s m args below meth c ls C hl)
theorem sp_ishr {x y : Int32} (hd : decode cc pc = .ok (.ishr, 1)) (k : sp_Go l ad K own cc nL ret (pc + 1) lv (.int (x >>> (y &&& 31)) :: st) r) : sp_Go l ad K own cc nL ret pc lv (.int y :: .int x :: st) r := by
  intro p e s m args below meth c ls C hl
  exact lv_ishr C.1 C.2.1 hd (k p e s m args below meth c ls C hl)
theorem sp_i2c {x : Int32} (hd : decode cc pc = .ok (.i2c, 1)) (k : sp_Go l ad K own cc nL ret (pc + 1) lv (.int ((x.toUInt32 % 65536).toInt32) :: st) r) : sp_Go l ad K own cc nL ret pc lv (.int x :: st) r := by
  intro p e s m args below meth c ls C hl
  exact lv_i2c C.1 C.2.1 hd rfl (k p e s m args below meth c ls C hl)
theorem sp_i2b {x : Int32} (hd : decode cc pc = .ok (.i2b, 1)) (k : sp_Go l ad K own cc nL ret (pc + 1) lv (.int (x.toInt8.toInt32) :: st) r) : sp_Go l ad K own cc nL ret pc lv (.int x :: st) r := by
  intro p e s m args below meth c ls C hl
  exact lv_i2b C.1 C.2.1 hd rfl (k p e s m args below meth c ls C hl)
theorem sp_iconst {n : Int} {v : Int32} (hd : decode cc pc = .ok (.iconst n, 1)) (hv : Int32.ofInt n = v) (k : sp_Go l ad K own cc nL ret (pc + 1) lv (.int v :: st) r) : sp_Go l ad K own cc nL ret pc lv st r := by
  intro p e s m args below meth c ls C hl
  exact lv_iconst C.1 C.2.1 hd hv (k p e s m args below meth c ls C hl)
theorem sp_sipush {n : Int} {v : Int32} (hd : decode cc pc = .ok (.sipush n, 3)) (hv : (Int16.ofInt n).toInt32 = v) (k : sp_Go l ad K own cc nL ret (pc + 3) lv (.int v :: st) r) : sp_Go l ad K own cc nL ret pc lv st r := by
  intro p e s m args below meth c ls C hl
  exact lv_sipush C.1 C.2.1 hd hv (k p e s m args below meth c ls C hl)
theorem sp_iload_n {k0 : Fin 4} {i : Nat} {x : Int32} (j : Nat) (hk : lv[j]? = some (i, .int x)) (hd : decode cc pc = .ok (.iload_n k0, 1)) (hi : (k0 : Nat) = i) (k : sp_Go l ad K own cc nL ret (pc + 1) lv (.int x :: st) r) : sp_Go l ad K own cc nL ret pc lv st r := by
  intro p e s m args below meth c ls C hl
  exact lv_iload_n C.1 C.2.1 hd hi (lv_at hl j hk) (k p e s m args below meth c ls C hl)
theorem sp_iload {i : Nat} {x : Int32} (j : Nat) (hk : lv[j]? = some (i, .int x)) (hd : decode cc pc = .ok (.iload i, 2)) (k : sp_Go l ad K own cc nL ret (pc + 2) lv (.int x :: st) r) : sp_Go l ad K own cc nL ret pc lv st r := by
  intro p e s m args below meth c ls C hl
  exact lv_iload C.1 C.2.1 hd (lv_at hl j hk) (k p e s m args below meth c ls C hl)
theorem sp_aload_n {k0 : Fin 4} {i : Nat} {x : Nat} (j : Nat) (hk : lv[j]? = some (i, .ref x)) (hd : decode cc pc = .ok (.aload_n k0, 1)) (hi : (k0 : Nat) = i) (k : sp_Go l ad K own cc nL ret (pc + 1) lv (.ref x :: st) r) : sp_Go l ad K own cc nL ret pc lv st r := by
  intro p e s m args below meth c ls C hl
  exact lv_aload_n C.1 C.2.1 hd hi (lv_at hl j hk) (k p e s m args below meth c ls C hl)
theorem sp_aload {i : Nat} {x : Nat} (j : Nat) (hk : lv[j]? = some (i, .ref x)) (hd : decode cc pc = .ok (.aload i, 2)) (k : sp_Go l ad K own cc nL ret (pc + 2) lv (.ref x :: st) r) : sp_Go l ad K own cc nL ret pc lv st r := by
  intro p e s m args below meth c ls C hl
  exact lv_aload C.1 C.2.1 hd (lv_at hl j hk) (k p e s m args below meth c ls C hl)
theorem sp_istore_n {k0 : Fin 4} {i : Nat} {x : Int32} (hd : decode cc pc = .ok (.istore_n k0, 1)) (hi : (k0 : Nat) = i) (hn : i < nL) (hl2 : (i, Value.int x) :: lv.filter (fun q => !(q.1 == i) && !(q.1 + 1 == i && q.2.category == 2)) = lv') (k : sp_Go l ad K own cc nL ret (pc + 1) lv' st r) : sp_Go l ad K own cc nL ret pc lv (.int x :: st) r := by
  intro p e s m args below meth c ls C hl
  exact lv_istore_n C.1 C.2.1 hd hi hl hn hl2 (fun ls hl => (k p e s m args below meth c ls C hl))
theorem sp_istore {i : Nat} {x : Int32} (hd : decode cc pc = .ok (.istore i, 2)) (hn : i < nL) (hl2 : (i, Value.int x) :: lv.filter (fun q => !(q.1 == i) && !(q.1 + 1 == i && q.2.category == 2)) = lv') (k : sp_Go l ad K own cc nL ret (pc + 2) lv' st r) : sp_Go l ad K own cc nL ret pc lv (.int x :: st) r := by
  intro p e s m args below meth c ls C hl
  exact lv_istore C.1 C.2.1 hd hl hn hl2 (fun ls hl => (k p e s m args below meth c ls C hl))
theorem sp_iinc {i : Nat} {n : Int} {x v : Int32} (j : Nat) (hk : lv[j]? = some (i, .int x)) (hd : decode cc pc = .ok (.iinc i n, 3)) (hv : x + Int32.ofInt n = v) (hn : i < nL) (hl2 : (i, Value.int v) :: lv.filter (fun q => !(q.1 == i) && !(q.1 + 1 == i && q.2.category == 2)) = lv') (k : sp_Go l ad K own cc nL ret (pc + 3) lv' st r) : sp_Go l ad K own cc nL ret pc lv st r := by
  intro p e s m args below meth c ls C hl
  exact lv_iinc C.1 C.2.1 hd hl hk hv hn hl2 (fun ls hl => (k p e s m args below meth c ls C hl))
theorem sp_lv (ks : List Nat) (h : lv_pick lv ks = lv') (k : sp_Go l ad K own cc nL ret pc lv' st r) : sp_Go l ad K own cc nL ret pc lv st r := by
  intro p e s m args below meth c ls C hl
  exact k p e s m args below meth c ls C (lv_sub hl ks h)
theorem sp_topi {x e : Int32} (h : e = x) (k : sp_Go l ad K own cc nL ret pc lv (.int x :: st) r) : sp_Go l ad K own cc nL ret pc lv (.int e :: st) r := h ▸ k
theorem sp_pop {v : Value} (hd : decode cc pc = .ok (.pop, 1)) (hc : v.category = 1) (k : sp_Go l ad K own cc nL ret (pc + 1) lv st r) : sp_Go l ad K own cc nL ret pc lv (v :: st) r := by
  intro p e s m args below meth c ls C hl
  exact lv_pop C.1 C.2.1 hd hc (k p e s m args below meth c ls C hl)
theorem sp_if_eq {x : Int32} {off : Int} (tgt : Nat) (hd : decode cc pc = .ok (.ifCond .eq off, 3)) (ht : (pc : Int) + off = (tgt : Int)) (kt : x = 0 → sp_Go l ad K own cc nL ret tgt lv st r) (kf : ¬ (x = 0) → sp_Go l ad K own cc nL ret (pc + 3) lv st r) : sp_Go l ad K own cc nL ret pc lv (.int x :: st) r := by
  intro p e s m args below meth c ls C hl
  exact lv_if_eq C.1 C.2.1 hd ht (fun h => kt h p e s m args below meth c ls C hl) (fun h => kf h p e s m args below meth c ls C hl)
theorem sp_icmp_eq {x y : Int32} {off : Int} (tgt : Nat) (hd : decode cc pc = .ok (.if_icmp .eq off, 3)) (ht : (pc : Int) + off = (tgt : Int)) (kt : x = y → sp_Go l ad K own cc nL ret tgt lv st r) (kf : ¬ (x = y) → sp_Go l ad K own cc nL ret (pc + 3) lv st r) : sp_Go l ad K own cc nL ret pc lv (.int y :: .int x :: st) r := by
  intro p e s m args below meth c ls C hl
  exact lv_icmp_eq C.1 C.2.1 hd ht (fun h => kt h p e s m args below meth c ls C hl) (fun h => kf h p e s m args below meth c ls C hl)
theorem sp_if_lt {x : Int32} {off : Int} (tgt : Nat) (hd : decode cc pc = .ok (.ifCond .lt off, 3)) (ht : (pc : Int) + off = (tgt : Int)) (kt : x < 0 → sp_Go l ad K own cc nL ret tgt lv st r) (kf : ¬ (x < 0) → sp_Go l ad K own cc nL ret (pc + 3) lv st r) : sp_Go l ad K own cc nL ret pc lv (.int x :: st) r := by
  intro p e s m args below meth c ls C hl
  exact lv_if_lt C.1 C.2.1 hd ht (fun h => kt h p e s m args below meth c ls C hl) (fun h => kf h p e s m args below meth c ls C hl)
theorem sp_icmp_lt {x y : Int32} {off : Int} (tgt : Nat) (hd : decode cc pc = .ok (.if_icmp .lt off, 3)) (ht : (pc : Int) + off = (tgt : Int)) (kt : x < y → sp_Go l ad K own cc nL ret tgt lv st r) (kf : ¬ (x < y) → sp_Go l ad K own cc nL ret (pc + 3) lv st r) : sp_Go l ad K own cc nL ret pc lv (.int y :: .int x :: st) r := by
  intro p e s m args below meth c ls C hl
  exact lv_icmp_lt C.1 C.2.1 hd ht (fun h => kt h p e s m args below meth c ls C hl) (fun h => kf h p e s m args below meth c ls C hl)
theorem sp_if_ge {x : Int32} {off : Int} (tgt : Nat) (hd : decode cc pc = .ok (.ifCond .ge off, 3)) (ht : (pc : Int) + off = (tgt : Int)) (kt : 0 ≤ x → sp_Go l ad K own cc nL ret tgt lv st r) (kf : ¬ (0 ≤ x) → sp_Go l ad K own cc nL ret (pc + 3) lv st r) : sp_Go l ad K own cc nL ret pc lv (.int x :: st) r := by
  intro p e s m args below meth c ls C hl
  exact lv_if_ge C.1 C.2.1 hd ht (fun h => kt h p e s m args below meth c ls C hl) (fun h => kf h p e s m args below meth c ls C hl)
theorem sp_icmp_ge {x y : Int32} {off : Int} (tgt : Nat) (hd : decode cc pc = .ok (.if_icmp .ge off, 3)) (ht : (pc : Int) + off = (tgt : Int)) (kt : y ≤ x → sp_Go l ad K own cc nL ret tgt lv st r) (kf : ¬ (y ≤ x) → sp_Go l ad K own cc nL ret (pc + 3) lv st r) : sp_Go l ad K own cc nL ret pc lv (.int y :: .int x :: st) r := by
  intro p e s m args below meth c ls C hl
  exact lv_icmp_ge C.1 C.2.1 hd ht (fun h => kt h p e s m args below meth c ls C hl) (fun h => kf h p e s m args below meth c ls C hl)
theorem sp_if_gt {x : Int32} {off : Int} (tgt : Nat) (hd : decode cc pc = .ok (.ifCond .gt off, 3)) (ht : (pc : Int) + off = (tgt : Int)) (kt : 0 < x → sp_Go l ad K own cc nL ret tgt lv st r) (kf : ¬ (0 < x) → sp_Go l ad K own cc nL ret (pc + 3) lv st r) : sp_Go l ad K own cc nL ret pc lv (.int x :: st) r := by
  intro p e s m args below meth c ls C hl
  exact lv_if_gt C.1 C.2.1 hd ht (fun h => kt h p e s m args below meth c ls C hl) (fun h => kf h p e s m args below meth c ls C hl)
theorem sp_icmp_gt {x y : Int32} {off : Int} (tgt : Nat) (hd : decode cc pc = .ok (.if_icmp .gt off, 3)) (ht : (pc : Int) + off = (tgt : Int)) (kt : y < x → sp_Go l ad K own cc nL ret tgt lv st r) (kf : ¬ (y < x) → sp_Go l ad K own cc nL ret (pc + 3) lv st r) : sp_Go l ad K own cc nL ret pc lv (.int y :: .int x :: st) r := by
  intro p e s m args below meth c ls C hl
  exact lv_icmp_gt C.1 C.2.1 hd ht (fun h => kt h p e s m args below meth c ls C hl) (fun h => kf h p e s m args below meth c ls C hl)
theorem sp_if_ne {x : Int32} {off : Int} (tgt : Nat) (hd : decode cc pc = .ok (.ifCond .ne off, 3)) (ht : (pc : Int) + off = (tgt : Int)) (kt : ¬ x = 0 → sp_Go l ad K own cc nL ret tgt lv st r) (kf : x = 0 → sp_Go l ad K own cc nL ret (pc + 3) lv st r) : sp_Go l ad K own cc nL ret pc lv (.int x :: st) r := by
  intro p e s m args below meth c ls C hl
  exact lv_if_ne C.1 C.2.1 hd ht (fun h => kt h p e s m args below meth c ls C hl) (fun h => kf h p e s m args below meth c ls C hl)
theorem sp_icmp_ne {x y : Int32} {off : Int} (tgt : Nat) (hd : decode cc pc = .ok (.if_icmp .ne off, 3)) (ht : (pc : Int) + off = (tgt : Int)) (kt : ¬ x = y → sp_Go l ad K own cc nL ret tgt lv st r) (kf : x = y → sp_Go l ad K own cc nL ret (pc + 3) lv st r) : sp_Go l ad K own cc nL ret pc lv (.int y :: .int x :: st) r := by
  intro p e s m args below meth c ls C hl
  exact lv_icmp_ne C.1 C.2.1 hd ht (fun h => kt h p e s m args below meth c ls C hl) (fun h => kf h p e s m args below meth c ls C hl)
theorem sp_goto {off : Int} (tgt : Nat) (hd : decode cc pc = .ok (.goto off, 3)) (ht : (pc : Int) + off = (tgt : Int)) (k : sp_Go l ad K own cc nL ret tgt lv st r) : sp_Go l ad K own cc nL ret pc lv st r := by
  intro p e s m args below meth c ls C hl
  exact lv_goto C.1 C.2.1 hd ht (k p e s m args below meth c ls C hl)
theorem sp_compact (hlink : Cond.fieldLink own 38 "java/lang/String" "COMPACT_STRINGS" "Z" ∈ sw_T) (hd : decode cc pc = .ok (.getstatic 38, 3)) (k : sp_Go l ad K own cc nL ret (pc + 3) lv (.int 1 :: st) r) : sp_Go l ad K own cc nL ret pc lv st r := by
  intro p e s m args below meth c ls C hl
  exact va_gets C.1 C.2.1 C.2.2.2.2.2.2.2.2.2.2.1 va_S.rf C.2.2.2.2.2.1 (C.2.2.2.2.2.2.1 _ hlink) (fun _ h => h) hd (k p e s m args below meth c ls C hl)
theorem sp_coder {i : Nat} (hi : i < 2) (hlink : Cond.fieldLink own 15 "java/lang/String" "coder" "B" ∈ sw_T) (hd : decode cc pc = .ok (.getfield 15, 3)) (k : sp_Go l ad K own cc nL ret (pc + 3) lv (.int 0 :: st) r) : sp_Go l ad K own cc nL ret pc lv (.ref (ad (84 + i)) :: st) r := by
  intro p e s m args below meth c ls C hl
  exact vk_getf C.1 C.2.1 (C.2.2.2.2.2.2.2.1.1 i hi).2.1 va_S.rf C.2.2.2.2.2.1 (C.2.2.2.2.2.2.1 _ hlink) (fun _ h => h) hd (k p e s m args below meth c ls C hl)
theorem sp_value {i : Nat} (hi : i < 2) (hlink : Cond.fieldLink own 9 "java/lang/String" "value" "[B" ∈ sw_T) (hd : decode cc pc = .ok (.getfield 9, 3)) (k : sp_Go l ad K own cc nL ret (pc + 3) lv (.ref (ad (86 + i)) :: st) r) : sp_Go l ad K own cc nL ret pc lv (.ref (ad (84 + i)) :: st) r := by
  intro p e s m args below meth c ls C hl
  exact vk_getf C.1 C.2.1 (C.2.2.2.2.2.2.2.1.1 i hi).2.2.1 va_S.rf C.2.2.2.2.2.1 (C.2.2.2.2.2.2.1 _ hlink) (fun _ h => h) hd (k p e s m args below meth c ls C hl)
theorem sp_alen {i : Nat} (hi : i < 2) (hd : decode cc pc = .ok (.arraylength, 1)) (k : sp_Go l ad K own cc nL ret (pc + 1) lv (.int (nI (sw_len.getD i 0)) :: st) r) : sp_Go l ad K own cc nL ret pc lv (.ref (ad (86 + i)) :: st) r := by
  intro p e s m args below meth c ls C hl
  exact va_tlen C.1 C.2.1 (C.2.2.2.2.2.2.2.1.1 i hi).2.2.2 va_S.rf rfl hd (k p e s m args below meth c ls C hl)
theorem sp_baload {i : Nat} {j : Int32} (hi : i < 2) (hin : vp_in j (sw_len.getD i 0)) (hd : decode cc pc = .ok (.baload, 1)) (k : sp_Go l ad K own cc nL ret (pc + 1) lv (.int ((sw_byt.getD i []).getD j.toNatClampNeg 0) :: st) r) : sp_Go l ad K own cc nL ret pc lv (.int j :: .ref (ad (86 + i)) :: st) r := by
  intro p e s m args below meth c ls C hl
  exact va_tb C.1 C.2.1 (C.2.2.2.2.2.2.2.1.1 i hi).2.2.2 va_S.rf hin rfl hd (k p e s m args below meth c ls C hl)
theorem sp_iret {v : Int32} (hd : decode cc pc = .ok (.ireturn, 1)) : sp_Go l ad K own cc nL (some .int) pc lv [.int v] (some (.int v)) := by
  intro p e s m args below meth c ls C hl
  have hlocks : meth.locks = false := C.2.2.2.2.1
  exact W.iret C.1 C.2.1 C.2.2.2.1 (fun t ht hW => ⟨rfl, ht⟩) (fun q hq => by cases hq) hd
theorem sp_zret {v : Int32} {ty : FieldType} (hn : narrow ty (.int v) = .int v) (hd : decode cc pc = .ok (.ireturn, 1)) : sp_Go l ad K own cc nL (some ty) pc lv [.int v] (some (.int v)) := by
  intro p e s m args below meth c ls C hl
  have hlocks : meth.locks = false := C.2.2.2.2.1
  exact W.zret C.1 C.2.1 C.2.2.2.1 hn (fun t ht hW => ⟨rfl, ht⟩) (fun q hq => by cases hq) hd
theorem sp_vret (hd : decode cc pc = .ok (.return_, 1)) : sp_Go l ad K own cc nL none pc lv [] none := by
  intro p e s m args below meth c ls C hl
  have hlocks : meth.locks = false := C.2.2.2.2.1
  exact W.vret C.1 C.2.1 C.2.2.2.1 (fun t ht hW => ⟨rfl, ht⟩) (fun q hq => by cases hq) hd
theorem sp_blind (ad : Nat → Nat) (As : List Value) : FrameBlind (sp_Pc ad As) := by
  intro a U g mk q
  exact ⟨q.1, (sw_X_mv ad).2 _ U _ _ rfl q.2⟩
/-- behind a call that touches nothing, from any body -/
theorem sp_after {R : Room} {p : Program} {e : Env} {s : State} {m : MethodId} {args : Array Value} {below : List Frame} {meth : Method} {c : Code} {H : Heap} {locs : List Loc} {ls : Array Slot} {v : Option Value} {a : Array Value} {Q : State → Prop} {cells slots : Nat}
    (hr : va_Run p l e R s m args below meth c H locs cells slots 0 0 (F0 m pc ls st0) st (sp_Qc v a) (fun _ => False))
    (kk : W p l e R s m args below meth c H locs cells slots Q (F0 m (pc + 3) ls (v.toList ++ st))) : W p l e R s m args below meth c H locs cells slots Q (F0 m pc ls st0) := by
  intro T hT X
  obtain ⟨v0, st₀, t, T', L, h0, X', hL, e1, e2, ⟨hv, hh⟩, stp⟩ := hr T hT X
  injection hv with hv
  subst hv
  have hL0 : L = [] := by
    cases L with
    | nil => rfl
    | cons x xs => exact (hL x List.mem_cons_self).elim
  subst hL0
  rw [List.append_nil] at X'
  obtain ⟨t2, a1, b1⟩ := kk T' (by rw [e1, hh, h0]) X'
  exact ⟨t2, stp t2 a1, b1⟩
theorem sp_callS {K2 : Nat} {y : MethodName} {cc2 : ByteArray} {nL2 : Nat} {ret2 : Option FieldType} {index n : Nat} {v : Option Value} (As : List Value)
    (hM : sp_Ct l ad K2 y cc2 nL2 ret2 As v) (hst : st0 = As.reverse ++ st) (hK : K2 + 1 ≤ K) (hG : GoodIn sw_T (va_wsS own index y (.code y cc2 nL2 ret2 :: sw_T)))
    (hy : y.cls ≠ "java/lang/invoke/MethodHandle" ∧ y.cls ≠ "java/lang/invoke/VarHandle" ∧ (parseMethodDescriptor y.desc).map (fun d => d.parameters.length) = some n) (hL : nL2 ≤ 40) (hn : As.length = n) (hroom : (st.map fun v => v.category).sum ≤ 8) (hd : decode cc pc = .ok (.invokestatic index, 3))
    (k : sp_Go l ad K own cc nL ret (pc + 3) lv (v.toList ++ st) r) : sp_Go l ad K own cc nL ret pc lv st0 r := by
  intro p e s m args below meth c ls C hl
  obtain ⟨hx, hb, hml, hr, hlk, hown, hts, hX⟩ := id C
  have run := va_runS (l := l) (e := e) (below := below) (meth := meth) (R := sw_rm K) (H := s.heap) (locs := []) (cells := 0) (slots := 0) (nL := nL) (As := As) (rest := st) (g := F0 m pc ls st0) ⟨hx, hb, hml, hown, hts⟩ hM (va_cwS n hts hG rfl rfl rfl hy ⟨hK, by show 8 + (nL2 + 11) + 64 * K2 ≤ 64 * K; omega⟩)
    ⟨sp_blind ad _, fun U hU hW => ⟨rfl, by rw [hU]; exact (sw_X_mv ad).1 _ _ s U s.heap s.heap hX (fun _ _ _ => rfl) (fun q h => h) hW⟩⟩
    rfl hn hl.1 hst (lv_room hroom) hd ⟨Nat.le_refl _, Nat.le_refl _⟩
  exact sp_after run (k p e s m args below meth c ls C hl)
theorem sp_callV {K2 : Nat} {y : MethodName} {cc2 : ByteArray} {nL2 : Nat} {ret2 : Option FieldType} {i index n : Nat} {v : Option Value} (As : List Value) (hi : i < 2)
    (hM : sp_Ct l ad K2 y cc2 nL2 ret2 (.ref (ad (84 + i)) :: As) v) (hst : st0 = As.reverse ++ .ref (ad (84 + i)) :: st) (hK : K2 + 1 ≤ K) (hG : GoodIn sw_T (wsV own index "java/lang/String" y (.code y cc2 nL2 ret2 :: sw_T)))
    (hy : y.cls = "java/lang/String" ∧ y.cls ≠ "java/lang/invoke/MethodHandle" ∧ y.cls ≠ "java/lang/invoke/VarHandle" ∧ (parseMethodDescriptor y.desc).map (fun d => d.parameters.length) = some n) (hL : nL2 ≤ 40) (hn : As.length = n) (hroom : (st.map fun v => v.category).sum ≤ 8) (hd : decode cc pc = .ok (.invokevirtual index, 3))
    (k : sp_Go l ad K own cc nL ret (pc + 3) lv (v.toList ++ st) r) : sp_Go l ad K own cc nL ret pc lv st0 r := by
  intro p e s m args below meth c ls C hl
  obtain ⟨hx, hb, hml, hr, hlk, hown, hts, hX⟩ := id C
  have run := va_runV (l := l) (e := e) (below := below) (meth := meth) (R := sw_rm K) (H := s.heap) (locs := []) (cells := 0) (slots := 0) (nL := nL) (As := As) (rest := st) (b := ad (84 + i)) (g := F0 m pc ls st0) ⟨hx, hb, hml, hown, hts⟩ hM (cwV n hts hG rfl rfl rfl hy ⟨hK, by show 8 + (nL2 + 11) + 64 * K2 ≤ 64 * K; omega⟩)
    ⟨sp_blind ad _, vk_recv (adK := fun i => ad (84 + i)) hX.1 hi va_S.rf, fun U hU hW => ⟨rfl, by rw [hU]; exact (sw_X_mv ad).1 _ _ s U s.heap s.heap hX (fun _ _ _ => rfl) (fun q h => h) hW⟩⟩
    rfl hn hl.1 hst (lv_room hroom) hd ⟨Nat.le_refl _, Nat.le_refl _⟩
  exact sp_after run (k p e s m args below meth c ls C hl)
theorem sp_mmax {index : Nat} {x y : Int32} (hlink : Cond.methodLink own index Lib.Math.max.name ∈ sw_T) (hK : 1 ≤ K) (hroom : (st.map fun v => v.category).sum ≤ 8) (hd : decode cc pc = .ok (.invokestatic index, 3)) (k : sp_Go l ad K own cc nL ret (pc + 3) lv (.int (if x < y then y else x) :: st) r) : sp_Go l ad K own cc nL ret pc lv (.int y :: .int x :: st) r := by
  intro p e s m args below meth c ls C hl
  obtain ⟨hx, hb, hml, hr, hlk, hown, hts, hX⟩ := id C
  exact va_mmax hx hb (by rw [hml]; exact hl.1.symm) hown (hts _ hlink) (hts _ mx_max_s) (hts _ mx_i) (hts _ mx_max_c) hK (by show (st.map fun v => v.category).sum + 13 ≤ 64 * K; omega) (Nat.zero_le _) (Nat.zero_le _) hd (k p e s m args below meth c ls C hl)
theorem sp_mmin {index : Nat} {x y : Int32} (hlink : Cond.methodLink own index Lib.Math.min.name ∈ sw_T) (hK : 1 ≤ K) (hroom : (st.map fun v => v.category).sum ≤ 8) (hd : decode cc pc = .ok (.invokestatic index, 3)) (k : sp_Go l ad K own cc nL ret (pc + 3) lv (.int (if y < x then y else x) :: st) r) : sp_Go l ad K own cc nL ret pc lv (.int y :: .int x :: st) r := by
  intro p e s m args below meth c ls C hl
  obtain ⟨hx, hb, hml, hr, hlk, hown, hts, hX⟩ := id C
  exact va_mmin hx hb (by rw [hml]; exact hl.1.symm) hown (hts _ hlink) (hts _ mx_min_s) (hts _ mx_i) (hts _ mx_min_c) hK (by show (st.map fun v => v.category).sum + 13 ≤ 64 * K; omega) (Nat.zero_le _) (Nat.zero_le _) hd (k p e s m args below meth c ls C hl)
/-- SIOOBE_FORMATTER: something, or null -/
theorem sp_sioobe (hlink : Cond.fieldLink own 1053 "jdk/internal/util/Preconditions" "SIOOBE_FORMATTER" "Ljava/util/function/BiFunction;" ∈ sw_T) (hd : decode cc pc = .ok (.getstatic 1053, 3)) (k : ∀ v : Value, (v = .null ∨ ∃ t, v = .ref t) → sp_Go l ad K own cc nL ret (pc + 3) lv (v :: st) r) : sp_Go l ad K own cc nL ret pc lv st r := by
  intro p e s m args below meth c ls C hl
  rcases C.2.2.2.2.2.2.2.2.2.2.2 with h | ⟨t, h⟩
  · exact va_gets C.1 C.2.1 h va_S.rf C.2.2.2.2.2.1 (C.2.2.2.2.2.2.1 _ hlink) (fun _ h => h) hd (k _ (Or.inl rfl) p e s m args below meth c ls C hl)
  · exact va_gets C.1 C.2.1 h va_S.rf C.2.2.2.2.2.1 (C.2.2.2.2.2.2.1 _ hlink) (fun _ h => h) hd (k _ (Or.inr ⟨t, rfl⟩) p e s m args below meth c ls C hl)
end SP
theorem sf_38 : Cond.fieldLink RJ0 38 "java/lang/String" "COMPACT_STRINGS" "Z" ∈ sw_T := sw_T_of (i := 152) (by decide +kernel) rfl
theorem sf_1053 : Cond.fieldLink RJ0 1053 "jdk/internal/util/Preconditions" "SIOOBE_FORMATTER" "Ljava/util/function/BiFunction;" ∈ sw_T := sw_T_of (i := 168) (by decide +kernel) rfl
theorem sf_9 : Cond.fieldLink RJ0 9 "java/lang/String" "value" "[B" ∈ sw_T := sw_T_of (i := 1995) (by decide +kernel) rfl
theorem sf_15 : Cond.fieldLink RJ0 15 "java/lang/String" "coder" "B" ∈ sw_T := sw_T_of (i := 1996) (by decide +kernel) rfl
theorem sg_X7_89 : GoodIn sw_T (wsV RX7 89 "java/lang/String" yJ0_length_8abf5 (.code yJ0_length_8abf5 cJ0_length_8abf5 1 (some .int) :: sw_T)) := sw_goodV (sw_T_of (i := 144) (by decide +kernel) rfl) (sw_T_of (i := 145) (by decide +kernel) rfl) (sw_T_of (i := 146) (by decide +kernel) rfl) (sw_T_of (i := 103) (by decide +kernel) rfl) cd_J0_length_8abf5
theorem sg_J0_335 : GoodIn sw_T (wsV RJ0 335 "java/lang/String" yJ0_coder_7d493 (.code yJ0_coder_7d493 cJ0_coder_7d493 1 (some .byte) :: sw_T)) := sw_goodV (sw_T_of (i := 148) (by decide +kernel) rfl) (sw_T_of (i := 149) (by decide +kernel) rfl) (sw_T_of (i := 150) (by decide +kernel) rfl) (sw_T_of (i := 103) (by decide +kernel) rfl) cd_J0_coder_7d493
theorem sg_X7_92 : GoodIn sw_T (wsV RX7 92 "java/lang/String" yJ0_charAt_5068e (.code yJ0_charAt_5068e cJ0_charAt_5068e 2 (some .char) :: sw_T)) := sw_goodV (sw_T_of (i := 154) (by decide +kernel) rfl) (sw_T_of (i := 155) (by decide +kernel) rfl) (sw_T_of (i := 156) (by decide +kernel) rfl) (sw_T_of (i := 103) (by decide +kernel) rfl) cd_J0_charAt_5068e
theorem sg_J0_492 : GoodIn sw_T (wsV RJ0 492 "java/lang/String" yJ0_isLatin1_aae02 (.code yJ0_isLatin1_aae02 cJ0_isLatin1_aae02 1 (some .boolean) :: sw_T)) := sw_goodV (sw_T_of (i := 158) (by decide +kernel) rfl) (sw_T_of (i := 159) (by decide +kernel) rfl) (sw_T_of (i := 160) (by decide +kernel) rfl) (sw_T_of (i := 103) (by decide +kernel) rfl) cd_J0_isLatin1_aae02
theorem sg_X7_83 : GoodIn sw_T (wsV RX7 83 "java/lang/String" yJ0_indexOf_0f7a4 (.code yJ0_indexOf_0f7a4 cJ0_indexOf_0f7a4 2 (some .int) :: sw_T)) := sw_goodV (sw_T_of (i := 593) (by decide +kernel) rfl) (sw_T_of (i := 594) (by decide +kernel) rfl) (sw_T_of (i := 595) (by decide +kernel) rfl) (sw_T_of (i := 103) (by decide +kernel) rfl) cd_J0_indexOf_0f7a4
theorem sg_J0_633 : GoodIn sw_T (wsV RJ0 633 "java/lang/String" yJ0_indexOf_7cf53 (.code yJ0_indexOf_7cf53 cJ0_indexOf_7cf53 3 (some .int) :: sw_T)) := sw_goodV (sw_T_of (i := 597) (by decide +kernel) rfl) (sw_T_of (i := 598) (by decide +kernel) rfl) (sw_T_of (i := 599) (by decide +kernel) rfl) (sw_T_of (i := 103) (by decide +kernel) rfl) cd_J0_indexOf_7cf53
theorem sg_J0_505 : GoodIn sw_T (wsV RJ0 505 "java/lang/String" yJ0_length_8abf5 (.code yJ0_length_8abf5 cJ0_length_8abf5 1 (some .int) :: sw_T)) := sw_goodV (sw_T_of (i := 601) (by decide +kernel) rfl) (sw_T_of (i := 145) (by decide +kernel) rfl) (sw_T_of (i := 146) (by decide +kernel) rfl) (sw_T_of (i := 103) (by decide +kernel) rfl) cd_J0_length_8abf5
theorem sy_J0_length_8abf5 : yJ0_length_8abf5.cls = "java/lang/String" ∧ yJ0_length_8abf5.cls ≠ "java/lang/invoke/MethodHandle" ∧ yJ0_length_8abf5.cls ≠ "java/lang/invoke/VarHandle" ∧ (parseMethodDescriptor yJ0_length_8abf5.desc).map (fun d => d.parameters.length) = some 0 := by decide +kernel
theorem sy_J0_charAt_5068e : yJ0_charAt_5068e.cls = "java/lang/String" ∧ yJ0_charAt_5068e.cls ≠ "java/lang/invoke/MethodHandle" ∧ yJ0_charAt_5068e.cls ≠ "java/lang/invoke/VarHandle" ∧ (parseMethodDescriptor yJ0_charAt_5068e.desc).map (fun d => d.parameters.length) = some 1 := by decide +kernel
theorem sy_J0_indexOf_0f7a4 : yJ0_indexOf_0f7a4.cls = "java/lang/String" ∧ yJ0_indexOf_0f7a4.cls ≠ "java/lang/invoke/MethodHandle" ∧ yJ0_indexOf_0f7a4.cls ≠ "java/lang/invoke/VarHandle" ∧ (parseMethodDescriptor yJ0_indexOf_0f7a4.desc).map (fun d => d.parameters.length) = some 1 := by decide +kernel
theorem sy_J0_indexOf_7cf53 : yJ0_indexOf_7cf53.cls = "java/lang/String" ∧ yJ0_indexOf_7cf53.cls ≠ "java/lang/invoke/MethodHandle" ∧ yJ0_indexOf_7cf53.cls ≠ "java/lang/invoke/VarHandle" ∧ (parseMethodDescriptor yJ0_indexOf_7cf53.desc).map (fun d => d.parameters.length) = some 2 := by decide +kernel
theorem sy_J0_isLatin1_aae02 : yJ0_isLatin1_aae02.cls = "java/lang/String" ∧ yJ0_isLatin1_aae02.cls ≠ "java/lang/invoke/MethodHandle" ∧ yJ0_isLatin1_aae02.cls ≠ "java/lang/invoke/VarHandle" ∧ (parseMethodDescriptor yJ0_isLatin1_aae02.desc).map (fun d => d.parameters.length) = some 0 := by decide +kernel
theorem sy_J0_coder_7d493 : yJ0_coder_7d493.cls = "java/lang/String" ∧ yJ0_coder_7d493.cls ≠ "java/lang/invoke/MethodHandle" ∧ yJ0_coder_7d493.cls ≠ "java/lang/invoke/VarHandle" ∧ (parseMethodDescriptor yJ0_coder_7d493.desc).map (fun d => d.parameters.length) = some 0 := by decide +kernel
theorem sm_max : Cond.methodLink RJ1 92 Lib.Math.max.name ∈ sw_T := sw_T_of (i := 608) (by decide +kernel) rfl
theorem sm_min : Cond.methodLink RJ1 38 Lib.Math.min.name ∈ sw_T := sw_T_of (i := 611) (by decide +kernel) rfl
