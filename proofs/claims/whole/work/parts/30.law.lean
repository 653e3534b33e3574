/-! THE CLAIM OUT OF ONE WALK OF THE LAW'S BODY. Your part is whole_start (and what it stands on); all else here is the same for every law, but numbers. -/
def R_law : String := "SoapWorksLaw"
def lw_P (b : Addr) (xs : List Int32) (args : Array Value) (s : State) : Prop := args = #[.ref b] ∧ s.IntsAt b xs ∧ xs.length ≤ 3072 ∧ (Jvm.Cond.and given_1 narrow_1).before args s = true
def lw_Q (_ : Array Value) (s : State) (o : Outcome) (t : State) : Prop := o = .returned (some (.int 1)) ∧ Framed s o t [] 600000 7302250
def lw_Z (below : List Frame) (a : Array Value) (s : State) : State → Prop := fun t => ∃ o, t.status = .running ∧ Ended t below o ∧ lw_Q a s o t
/-- the law's own end, with 1 on the stack, nothing written that was there before, its room as the claim has it -/
theorem lw_ret {p : Program} {l : Launch} {e : Env} {s : State} {m : MethodId} {below : List Frame} {meth : Method} {c : Code} {b : Nat} (hx : p.tables.exec = Jvm.exec) (hb : c.code = code) (hr : meth.sig.returnType = ret) (hlocks : meth.locks = false) {pc : Nat} {H : Heap} {ls : Array Slot} (hdg : decode code pc = .ok (.ireturn, 1)) : W p l e room_1 s m #[Value.ref b] below meth c H [] 600000 7302250 (lw_Z below #[Value.ref b] s) (F0 m pc ls [.int 1]) := by
  intro T hT X
  obtain ⟨fs, hret, hrun, hended, hW, hframe⟩ := X.leave (v := some (.int 1)) (hlocks := hlocks) (fun h => by rw [hr] at h; cases h)
  have hmeth' : T.vm.method? m = some meth := X.method'
  refine ⟨T.setFrames fs, ?_, .returned (some (.int 1)), hrun, hended, rfl, ⟨_, rfl⟩, hW, hframe⟩
  jvm_step X.here [X.here.top, hx, hb, hdg, hmeth', hr, ret, narrow_b1]
  (try refine ⟨rfl, ?_⟩); (try refine ⟨rfl, ?_⟩)
  first | (intro acts; rw [hret _ acts rfl rfl rfl]) | rw [hret _ _ rfl rfl rfl]
  exact Steps.refl _
/-- what holds at the law's entry: the machine, the code, the tables' words (any of lw_tbl by 'hts w (by decide +kernel)'), the script of L ints xs at the cell b, what the Statement gives of the start (any of its parts by flat_of_before) -/
def lw_At (p : Program) (s : State) (m : MethodId) (meth : Method) (c : Code) (b L : Nat) (xs : Nat → Int32) : Prop :=
  p.tables.exec = Jvm.exec ∧ c.code = code ∧ meth.sig.returnType = ret ∧ c.maxLocals = 4 ∧ s.vm.findClass R_law = some m.cls ∧ (∀ w ∈ lw_tbl, w.before #[Value.ref b] s = true) ∧ va_X b L xs s s.heap ∧ b < s.heap.size ∧ meth.locks = false ∧ (Jvm.Cond.and given_1 narrow_1).before #[Value.ref b] s = true
/-! the law's loop over the memory: the script is the reference 90 -/
def sw_Lx (E : sw_E) (b L : Nat) (xs : Nat → Int32) (p : Program) (s : State) (m : MethodId) (meth : Method) (c : Code) : Prop :=
  p.tables.exec = Jvm.exec ∧ c.code = code ∧ c.maxLocals = 4 ∧ meth.sig.returnType = ret ∧ meth.locks = false ∧ s.vm.findClass R_law = some m.cls ∧ (∀ w ∈ sw_T, w.before #[Value.ref b] s = true) ∧
  sw_Mv E.2.2.2.2 ∧ E.2.2.2.2 (fun q => s.heap.size ≤ q) s s.heap ∧ va_K (sw_D E) sw_cl (sw_ty E) s ∧ (∀ σ : sw_M, va_D (fun q => s.heap.size ≤ q) (sw_wl E σ)) ∧ va_X b L xs s s.heap ∧ b < s.heap.size ∧ E.1 90 = b
def sw_Gl (l : Launch) (E : sw_E) (b L : Nat) (xs : Nat → Int32) (pc : Nat) (lv : List (Nat × Value)) (st : List Value) (σ : sw_M) : Prop :=
  ∀ (p : Program) (e : Env) (s : State) (m : MethodId) (below : List Frame) (meth : Method) (c : Code) (H : Heap) (locs : List Loc) (ls : Array Slot),
    sw_Lx E b L xs p s m meth c → va_P (sw_D E) sw_cl (sw_wl E σ) H → va_S (fun q => s.heap.size ≤ q) s.heap H locs → lv_has ls 4 (lv.map (sw_g2 E)) →
    W p l e room_1 s m #[Value.ref b] below meth c H locs 600000 7302250 (lw_Z below #[Value.ref b] s) (F0 m pc ls (st.map (sw_g E)))
section GL
variable {l : Launch} {E : sw_E} {b L : Nat} {xs : Nat → Int32} {pc : Nat} {lv lv' : List (Nat × Value)} {st st0 : List Value} {σ : sw_M}
theorem gl_lv (ks : List Nat) (h : lv_pick lv ks = lv') (k : sw_Gl l E b L xs pc lv' st σ) : sw_Gl l E b L xs pc lv st σ := by
  intro p e s m below meth c H locs ls C hP hS hl
  refine k p e s m below meth c H locs ls C hP hS (lv_sub hl ks ?_)
  subst h
  simp [lv_pick, List.map_filterMap, List.getElem?_map]
theorem gl_mem {τ : sw_M} (h : τ = σ) (k : sw_Gl l E b L xs pc lv st τ) : sw_Gl l E b L xs pc lv st σ := h ▸ k
theorem gl_topi {x e : Int32} (h : x = e) (k : sw_Gl l E b L xs pc lv (.int x :: st) σ) : sw_Gl l E b L xs pc lv (.int e :: st) σ := h ▸ k
theorem gl_iconst {n : Int} {v : Int32} (hd : decode code pc = .ok (.iconst n, 1)) (hv : Int32.ofInt n = v) (k : sw_Gl l E b L xs (pc + 1) lv (.int v :: st) σ) : sw_Gl l E b L xs pc lv st σ := by
  intro p e s m below meth c H locs ls C hP hS hl
  exact lv_iconst C.1 C.2.1 hd hv (k p e s m below meth c H locs ls C hP hS hl)
theorem gl_bipush {n : Int} {v : Int32} (hd : decode code pc = .ok (.bipush n, 2)) (hv : (Int8.ofInt n).toInt32 = v) (k : sw_Gl l E b L xs (pc + 2) lv (.int v :: st) σ) : sw_Gl l E b L xs pc lv st σ := by
  intro p e s m below meth c H locs ls C hP hS hl
  exact lv_bipush C.1 C.2.1 hd hv (k p e s m below meth c H locs ls C hP hS hl)
theorem gl_iadd {x y : Int32} (hd : decode code pc = .ok (.iadd, 1)) (k : sw_Gl l E b L xs (pc + 1) lv (.int (x + y) :: st) σ) : sw_Gl l E b L xs pc lv (.int y :: .int x :: st) σ := by
  intro p e s m below meth c H locs ls C hP hS hl
  exact lv_iadd C.1 C.2.1 hd (k p e s m below meth c H locs ls C hP hS hl)
theorem gl_isub {x y : Int32} (hd : decode code pc = .ok (.isub, 1)) (k : sw_Gl l E b L xs (pc + 1) lv (.int (x - y) :: st) σ) : sw_Gl l E b L xs pc lv (.int y :: .int x :: st) σ := by
  intro p e s m below meth c H locs ls C hP hS hl
  exact lv_isub C.1 C.2.1 hd (k p e s m below meth c H locs ls C hP hS hl)
theorem gl_iand {x y : Int32} (hd : decode code pc = .ok (.iand, 1)) (k : sw_Gl l E b L xs (pc + 1) lv (.int (x &&& y) :: st) σ) : sw_Gl l E b L xs pc lv (.int y :: .int x :: st) σ := by
  intro p e s m below meth c H locs ls C hP hS hl
  exact lv_iand C.1 C.2.1 hd (k p e s m below meth c H locs ls C hP hS hl)
theorem gl_iload_n {k0 : Fin 4} {i : Nat} {x : Int32} (j : Nat) (hk : lv[j]? = some (i, .int x)) (hd : decode code pc = .ok (.iload_n k0, 1)) (hi : (k0 : Nat) = i) (k : sw_Gl l E b L xs (pc + 1) lv (.int x :: st) σ) : sw_Gl l E b L xs pc lv st σ := by
  intro p e s m below meth c H locs ls C hP hS hl
  exact lv_iload_n C.1 C.2.1 hd hi (lv_at hl j (by rw [List.getElem?_map, hk]; rfl)) (k p e s m below meth c H locs ls C hP hS hl)
theorem gl_aload_n {k0 : Fin 4} {i : Nat} {x : Nat} (j : Nat) (hk : lv[j]? = some (i, .ref x)) (hd : decode code pc = .ok (.aload_n k0, 1)) (hi : (k0 : Nat) = i) (k : sw_Gl l E b L xs (pc + 1) lv (.ref x :: st) σ) : sw_Gl l E b L xs pc lv st σ := by
  intro p e s m below meth c H locs ls C hP hS hl
  exact lv_aload_n C.1 C.2.1 hd hi (lv_at hl j (by rw [List.getElem?_map, hk]; rfl)) (k p e s m below meth c H locs ls C hP hS hl)
theorem gl_iincv {i : Nat} {n : Int} {x c v : Int32} (j : Nat) (hk : lv[j]? = some (i, .int x)) (hv : v = x + c) (hd : decode code pc = .ok (.iinc i n, 3)) (hc : Int32.ofInt n = c) (hn : i < 4) (hl2 : (i, Value.int v) :: lv.filter (fun q => !(q.1 == i) && !(q.1 + 1 == i && q.2.category == 2)) = lv') (k : sw_Gl l E b L xs (pc + 3) lv' st σ) : sw_Gl l E b L xs pc lv st σ := by
  subst hv
  intro p e s m below meth c9 H locs ls C hP hS hl
  exact lv_iinc C.1 C.2.1 hd hl (k := j) (x := x) (by rw [List.getElem?_map, hk]; rfl) (by rw [hc]) hn (lv' := lv'.map (sw_g2 E)) (by subst hl2; rw [sw_ff lv E _ (fun q => by simp [sw_g2, sw_g_cat])]; rfl) (fun ls hl => k p e s m below meth c9 H locs ls C hP hS hl)
theorem gl_icmp_eq {x y : Int32} {off : Int} (tgt : Nat) (hd : decode code pc = .ok (.if_icmp .eq off, 3)) (ht : (pc : Int) + off = (tgt : Int)) (kt : x = y → sw_Gl l E b L xs tgt lv st σ) (kf : ¬ (x = y) → sw_Gl l E b L xs (pc + 3) lv st σ) : sw_Gl l E b L xs pc lv (.int y :: .int x :: st) σ := by
  intro p e s m below meth c H locs ls C hP hS hl
  exact lv_icmp_eq C.1 C.2.1 hd ht (fun h => kt h p e s m below meth c H locs ls C hP hS hl) (fun h => kf h p e s m below meth c H locs ls C hP hS hl)
theorem gl_icmp_gt {x y : Int32} {off : Int} (tgt : Nat) (hd : decode code pc = .ok (.if_icmp .gt off, 3)) (ht : (pc : Int) + off = (tgt : Int)) (kt : y < x → sw_Gl l E b L xs tgt lv st σ) (kf : ¬ (y < x) → sw_Gl l E b L xs (pc + 3) lv st σ) : sw_Gl l E b L xs pc lv (.int y :: .int x :: st) σ := by
  intro p e s m below meth c H locs ls C hP hS hl
  exact lv_icmp_gt C.1 C.2.1 hd ht (fun h => kt h p e s m below meth c H locs ls C hP hS hl) (fun h => kf h p e s m below meth c H locs ls C hP hS hl)
theorem gl_if_eq {x : Int32} {off : Int} (tgt : Nat) (hd : decode code pc = .ok (.ifCond .eq off, 3)) (ht : (pc : Int) + off = (tgt : Int)) (kt : x = 0 → sw_Gl l E b L xs tgt lv st σ) (kf : ¬ (x = 0) → sw_Gl l E b L xs (pc + 3) lv st σ) : sw_Gl l E b L xs pc lv (.int x :: st) σ := by
  intro p e s m below meth c H locs ls C hP hS hl
  exact lv_if_eq C.1 C.2.1 hd ht (fun h => kt h p e s m below meth c H locs ls C hP hS hl) (fun h => kf h p e s m below meth c H locs ls C hP hS hl)
theorem gl_goto {off : Int} (tgt : Nat) (hd : decode code pc = .ok (.goto off, 3)) (ht : (pc : Int) + off = (tgt : Int)) (k : sw_Gl l E b L xs tgt lv st σ) : sw_Gl l E b L xs pc lv st σ := by
  intro p e s m below meth c H locs ls C hP hS hl
  exact lv_goto C.1 C.2.1 hd ht (k p e s m below meth c H locs ls C hP hS hl)
theorem gl_tabOut {dflt lo hi : Int} {offs : Array Int} {len : Nat} {x : Int32} (tgt : Nat) (hd : decode code pc = .ok (.tableswitch dflt lo hi offs, len)) (h : x.toInt < lo ∨ hi < x.toInt) (ht : (pc : Int) + dflt = (tgt : Int)) (k : sw_Gl l E b L xs tgt lv st σ) : sw_Gl l E b L xs pc lv (.int x :: st) σ := by
  intro p e s m below meth c H locs ls C hP hS hl
  exact lv_tableOut C.1 C.2.1 hd h ht (k p e s m below meth c H locs ls C hP hS hl)
theorem gl_tabIn {dflt lo hi : Int} {offs : Array Int} {len : Nat} {x : Int32} {off : Int} (tgt : Nat) (hd : decode code pc = .ok (.tableswitch dflt lo hi offs, len)) (h1 : ¬ x.toInt < lo) (h2 : ¬ hi < x.toInt) (ho : offs[(x.toInt - lo).toNat]? = some off) (ht : (pc : Int) + off = (tgt : Int)) (k : sw_Gl l E b L xs tgt lv st σ) : sw_Gl l E b L xs pc lv (.int x :: st) σ := by
  intro p e s m below meth c H locs ls C hP hS hl
  exact lv_tableIn C.1 C.2.1 hd h1 h2 ho ht (k p e s m below meth c H locs ls C hP hS hl)
theorem gl_bA {s : State} (h : b < s.heap.size) : ¬ (fun q => s.heap.size ≤ q) b := Nat.not_le.mpr h
theorem gl_alen (hd : decode code pc = .ok (.arraylength, 1)) (k : sw_Gl l E b L xs (pc + 1) lv (.int (Int32.ofNat L) :: st) σ) : sw_Gl l E b L xs pc lv (.ref 90 :: st) σ := by
  intro p e s m below meth c H locs ls C hP hS hl
  obtain ⟨hx, hb, hml, hr, hlk, hown, hts, hMv, hXX, hK0, hD, hX, hbl, h90⟩ := id C
  show W p l e room_1 s m #[Value.ref b] below meth c H locs 600000 7302250 (lw_Z below #[Value.ref b] s) (F0 m pc ls (.ref (E.1 90) :: st.map (sw_g E)))
  rw [h90]
  exact va_slen hx hb hX hbl (gl_bA hbl) hS hd (k p e s m below meth c H locs ls C hP hS hl)
theorem gl_iaload {i : Int32} (hin : vp_in i L) (hd : decode code pc = .ok (.iaload, 1)) (k : sw_Gl l E b L xs (pc + 1) lv (.int (xs i.toNatClampNeg) :: st) σ) : sw_Gl l E b L xs pc lv (.int i :: .ref 90 :: st) σ := by
  intro p e s m below meth c H locs ls C hP hS hl
  obtain ⟨hx, hb, hml, hr, hlk, hown, hts, hMv, hXX, hK0, hD, hX, hbl, h90⟩ := id C
  show W p l e room_1 s m #[Value.ref b] below meth c H locs 600000 7302250 (lw_Z below #[Value.ref b] s) (F0 m pc ls (.int i :: .ref (E.1 90) :: st.map (sw_g E)))
  rw [h90]
  exact va_sld hx hb hX hbl (gl_bA hbl) hS hin hd (k p e s m below meth c H locs ls C hP hS hl)
theorem gl_zret (hd : decode code pc = .ok (.ireturn, 1)) : sw_Gl l E b L xs pc lv [.int 1] σ := by
  intro p e s m below meth c H locs ls C hP hS hl
  obtain ⟨hx, hb, hml, hr, hlk, hown, hts, hMv, hXX, hK0, hD, hX, hbl, h90⟩ := id C
  refine va_forget (fun q hq => hS.2.2 q hq) ?_
  exact lw_ret hx hb hr hlk hd
theorem gl_callVi {K2 : Nat} {y : MethodName} {cc2 : ByteArray} {nL2 : Nat} {ret2 : Option FieldType} {i ci index n N : Nat} {CN : String} {T : u_T} {v : Int32} {σ2 : sw_M} (As : List Value)
    (hM : sw_Ct l E K2 y cc2 nL2 ret2 (.ref i :: As) σ (some (.int v)) σ2) (hst : st0 = As.reverse ++ .ref i :: st) (hK : K2 ≤ 1000) (hc : sw_cl[ci]? = some (CN, T, N)) (hG : GoodIn sw_T (wsV R_law index CN y (.code y cc2 nL2 ret2 :: sw_T)))
    (hy : y.cls = CN ∧ y.cls ≠ "java/lang/invoke/MethodHandle" ∧ y.cls ≠ "java/lang/invoke/VarHandle" ∧ (parseMethodDescriptor y.desc).map (fun d => d.parameters.length) = some n) (hL : nL2 ≤ 40) (hi : i < 84) (hs : sw_s i = (0, ci)) (hn : As.length = n) (hroom : (st.map fun v => v.category).sum ≤ 8) (hd : decode code pc = .ok (.invokevirtual index, 3))
    (k : sw_Gl l E b L xs (pc + 3) lv (.int v :: st) σ2) : sw_Gl l E b L xs pc lv st0 σ := by
  intro p e s m below meth c H locs ls C hP hS hl
  obtain ⟨hx, hb, hml, hr, hlk, hown, hts, hMv, hXX, hK0, hD, hX, hbl, h90⟩ := id C
  have hF := sw_free (hD σ) hS (fun q h => h)
  have run := va_runV (l := l) (e := e) (below := below) (meth := meth) (R := room_1) (H := H) (locs := locs) (cells := 600000) (slots := 7302250) (nL := 4) (As := As.map (sw_g E)) (rest := st.map (sw_g E)) (b := E.1 i) (g := F0 m pc ls (st0.map (sw_g E))) ⟨hx, hb, hml, hown, hts⟩ (hM H.size) (cwV n hts hG rfl rfl rfl hy ⟨by show K2 + 1 ≤ 2048; omega, by show 8 + (nL2 + 11) + 64 * K2 ≤ 84000; omega⟩)
    ⟨sw_blind E _ σ _, va_recv hK0 hP hc (q0 := i) (by rw [sw_wl_at E σ hi, sw_ce_o hs]), fun U hU hW => ⟨rfl, by rw [hU], hMv, by rw [hU]; exact hMv.1 _ _ s U s.heap H hXX hS.2.1 hF hW, by rw [hU]; exact hP, va_K.moved hW.alike hK0, (hD σ).weaken (fun _ _ _ _ => trivial)⟩⟩
    rfl (by rw [List.length_map]; exact hn) hl.1 (by show st0.map (sw_g E) = _; rw [hst]; simp [sw_g]) (lv_room (by rw [sw_cat_sum]; exact hroom)) hd ⟨Nat.le_refl _, Nat.le_refl _⟩
  intro T0 hT X
  obtain ⟨v0, st₀, t, T', Ll, h0, X', hLl, e1, e2, ⟨hv, hP2, hK2, hz, hk⟩, stp⟩ := run T0 hT X
  injection hv with hv
  rw [h0] at hz hk
  have hS1 : va_S (fun q => s.heap.size ≤ q) s.heap T'.heap (locs ++ Ll) := ⟨Nat.le_trans hS.1 (by rw [e1]; exact hz), fun q h1 h2 => by rw [e1, hk q (Nat.lt_of_lt_of_le h1 hS.1) (fun z => h2 (hF q z))]; exact hS.2.1 q h1 h2, fun q hq => by
      rcases List.mem_append.mp hq with h | h
      · exact hS.2.2 q h
      · exact hF _ (hLl q h)⟩
  obtain ⟨t2, a1, b1⟩ := k p e s m below meth c T'.heap (locs ++ Ll) ls C (by rw [e1]; exact hP2) hS1 hl T' rfl X'
  refine ⟨t2, stp t2 ?_, b1⟩
  rw [hv]
  exact a1
end GL
