/-! the words in which the methods' meanings are written, and how a proof goes through them -/
def sw_let {α β : Type} (a : α) (f : α → β) : β := f a
theorem sw_let_e {α β : Type} {a : α} {f : α → β} {b : β} (h : sw_let a f = b) : ∃ x, x = a ∧ f x = b := ⟨a, rfl, h⟩
def sw_gd {α : Type} (b : Bool) (a : Option α) : Option α := if b = true then a else none
theorem sw_gd_e {α : Type} {b : Bool} {a : Option α} {r : α} (h : sw_gd b a = some r) : b = true ∧ a = some r := by
  unfold sw_gd at h
  split at h
  · exact ⟨by assumption, h⟩
  · cases h
theorem sw_gd_t {α : Type} {b : Bool} {a : Option α} (h : b = true) : sw_gd b a = a := by simp [sw_gd, h]
def sw_b1 {α β : Type} (o : Option α) (f : α → Option β) : Option β := match o with
  | none => none
  | some a => f a
theorem sw_b1_e {α β : Type} {o : Option α} {f : α → Option β} {r : β} (h : sw_b1 o f = some r) : ∃ a, o = some a ∧ f a = some r := by
  unfold sw_b1 at h
  split at h
  · cases h
  · exact ⟨_, rfl, h⟩
theorem sw_b1_s {α β : Type} {a : α} {f : α → Option β} : sw_b1 (some a) f = f a := rfl
def sw_b2 {α γ β : Type} (o : Option (α × γ)) (f : α → γ → Option β) : Option β := match o with
  | none => none
  | some a => f a.1 a.2
theorem sw_b2_e {α γ β : Type} {o : Option (α × γ)} {f : α → γ → Option β} {r : β} (h : sw_b2 o f = some r) : ∃ a c, o = some (a, c) ∧ f a c = some r := by
  unfold sw_b2 at h
  split at h
  · cases h
  · exact ⟨_, _, rfl, h⟩
theorem sw_b2_s {α γ β : Type} {a : α} {c : γ} {f : α → γ → Option β} : sw_b2 (some (a, c)) f = f a c := rfl
/-- out of a loop's body: what was reached is handed on -/
def sw_up {S T : Type} (o : Option T) : Option (S ⊕ T) := match o with
  | none => none
  | some a => some (.inr a)
theorem sw_up_e {S T : Type} {o : Option T} {t : S ⊕ T} (h : sw_up o = some t) : ∃ a, o = some a ∧ t = .inr a := by
  unfold sw_up at h
  split at h
  · cases h
  · cases h; exact ⟨_, rfl, rfl⟩
theorem sw_up_s {S T : Type} {a : T} : (sw_up (some a) : Option (S ⊕ T)) = some (.inr a) := rfl
def sw_wh {S T : Type} : Nat → (S → Option (S ⊕ T)) → S → Option T
  | 0, _, _ => none
  | n + 1, b, s => match b s with
    | none => none
    | some (.inl s') => sw_wh n b s'
    | some (.inr t) => some t
theorem sw_wh_e {S T : Type} (P : S → Prop) (Q : T → Prop) (b : S → Option (S ⊕ T)) (hb : ∀ s t, b s = some t → Sum.elim P Q t → P s) : ∀ (n : Nat) (s : S) (t : T), sw_wh n b s = some t → Q t → P s
  | 0, _, _, h, _ => by cases h
  | n + 1, s, t, h, hq => by
    unfold sw_wh at h
    split at h
    · cases h
    · next s' e => exact hb s _ e (sw_wh_e P Q b hb n s' t h hq)
    · next t' e => cases h; exact hb s _ e hq
def sw_F : Nat := 4000
def sw_in (i : Int32) (n : Nat) : Bool := decide (¬ (i < 0 ∨ n ≤ i.toNatClampNeg))
theorem sw_in_e {i : Int32} {n : Nat} (h : sw_in i n = true) : vp_in i n := of_decide_eq_true (p := ¬ (i < 0 ∨ n ≤ i.toNatClampNeg)) h
def sw_nz (i : Int32) : Bool := decide (¬ i = 0)
theorem sw_nz_e {i : Int32} (h : sw_nz i = true) : ¬ i = 0 := of_decide_eq_true h
def sw_bo (i : Int32) : Bool := decide (i = 0 ∨ i = 1)
theorem sw_bo_n {i : Int32} (h : i = 0 ∨ i = 1) : narrow .boolean (.int i) = .int i := by rcases h with rfl | rfl <;> rfl
theorem sw_bo_f {i : Int32} (h : i = 0 ∨ i = 1) : fits .boolean (.int i) = true := by rcases h with rfl | rfl <;> rfl
theorem sw_bo_e {i : Int32} (h : sw_bo i = true) : i = 0 ∨ i = 1 := of_decide_eq_true h
def sw_cg (sp dp n : Int32) (n0 n1 : Nat) : Bool := decide ((¬ sp < 0) ∧ (¬ dp < 0) ∧ (¬ n < 0) ∧ sp.toNatClampNeg + n.toNatClampNeg ≤ n0 ∧ dp.toNatClampNeg + n.toNatClampNeg ≤ n1)
theorem sw_cg_e {sp dp n : Int32} {n0 n1 : Nat} (h : sw_cg sp dp n n0 n1 = true) : (¬ sp < 0) ∧ (¬ dp < 0) ∧ (¬ n < 0) ∧ sp.toNatClampNeg + n.toNatClampNeg ≤ n0 ∧ dp.toNatClampNeg + n.toNatClampNeg ≤ n1 := of_decide_eq_true h
def sw_isP (P : Nat) : Prop := P = 5 ∨ P = 16
def sw_isV (P : Nat) : Prop := P = 27 ∨ P = 35
def sw_isF (P : Nat) : Prop := P = 12 ∨ P = 23
def sw_isA (t a : Nat) : Prop := a < 84 ∧ (sw_s a).1 = t
theorem sw_isA.s {t a : Nat} (h : sw_isA t a) : sw_s a = (t, (sw_s a).2) := Prod.ext h.2 rfl
theorem sw_isP.o {P : Nat} (h : sw_isP P) : P < 84 ∧ sw_s P = (0, 4) := by rcases h with rfl | rfl <;> exact ⟨by decide, rfl⟩
theorem sw_isV.o {P : Nat} (h : sw_isV P) : P < 84 ∧ sw_s P = (0, 8) := by rcases h with rfl | rfl <;> exact ⟨by decide, rfl⟩
theorem sw_isF.o {P : Nat} (h : sw_isF P) : P < 84 ∧ sw_s P = (0, 2) := by rcases h with rfl | rfl <;> exact ⟨by decide, rfl⟩
theorem sw_isP.p1 {P : Nat} (h : sw_isP P) : P + 1 < 84 ∧ sw_s (P + 1) = (4, 5) := by rcases h with rfl | rfl <;> exact ⟨by decide, rfl⟩
theorem sw_isP.p2 {P : Nat} (h : sw_isP P) : P + 2 < 84 ∧ sw_s (P + 2) = (4, 7) := by rcases h with rfl | rfl <;> exact ⟨by decide, rfl⟩
theorem sw_isP.p3 {P : Nat} (h : sw_isP P) : P + 3 < 84 ∧ sw_s (P + 3) = (4, 4) := by rcases h with rfl | rfl <;> exact ⟨by decide, rfl⟩
theorem sw_isP.p4 {P : Nat} (h : sw_isP P) : P + 4 < 84 ∧ sw_s (P + 4) = (1, 35) := by rcases h with rfl | rfl <;> exact ⟨by decide, rfl⟩
theorem sw_isP.p5 {P : Nat} (h : sw_isP P) : P + 5 < 84 ∧ sw_s (P + 5) = (1, 20) := by rcases h with rfl | rfl <;> exact ⟨by decide, rfl⟩
theorem sw_isP.p6 {P : Nat} (h : sw_isP P) : P + 6 < 84 ∧ sw_s (P + 6) = (1, 24) := by rcases h with rfl | rfl <;> exact ⟨by decide, rfl⟩
theorem sw_isP.F {P : Nat} (h : sw_isP P) : sw_isF (P + 7) := by rcases h with rfl | rfl <;> simp [sw_isF]
theorem sw_isV.p1 {P : Nat} (h : sw_isV P) : P + 1 < 84 ∧ sw_s (P + 1) = (1, 5) := by rcases h with rfl | rfl <;> exact ⟨by decide, rfl⟩
theorem sw_isF.p1 {P : Nat} (h : sw_isF P) : P + 1 < 84 ∧ sw_s (P + 1) = (1, 270) := by rcases h with rfl | rfl <;> exact ⟨by decide, rfl⟩
theorem sw_isF.p2 {P : Nat} (h : sw_isF P) : P + 2 < 84 ∧ sw_s (P + 2) = (1, 31) := by rcases h with rfl | rfl <;> exact ⟨by decide, rfl⟩
theorem sw_isF.p3 {P : Nat} (h : sw_isF P) : P + 3 < 84 ∧ sw_s (P + 3) = (1, 6) := by rcases h with rfl | rfl <;> exact ⟨by decide, rfl⟩
theorem sw_pl_P (n : Nat) : sw_isP (sw_pl n) := by unfold sw_pl; split <;> simp [sw_isP]
theorem sw_pl_id {P : Nat} (h : sw_isP P) : sw_pl P = P := by rcases h with rfl | rfl <;> rfl
theorem sw_A_of {t n a : Nat} (h1 : a < 84) (h2 : sw_s a = (t, n)) : sw_isA t a := ⟨h1, by rw [h2]⟩
section COMB
variable {l : Launch} {E : sw_E} {K : Nat} {own : String} {cc : ByteArray} {nL : Nat} {ret : Option FieldType} {pc : Nat} {lv lv' : List (Nat × Value)} {st st0 : List Value} {σ σ' : sw_M} {r : Option Value}
theorem sw_mem {τ : sw_M} (h : τ = σ) (k : sw_Go l E K own cc nL ret pc lv st τ r σ') : sw_Go l E K own cc nL ret pc lv st σ r σ' := h ▸ k
theorem sw_topi {x e : Int32} (h : x = e) (k : sw_Go l E K own cc nL ret pc lv (.int x :: st) σ r σ') : sw_Go l E K own cc nL ret pc lv (.int e :: st) σ r σ' := h ▸ k
theorem sw_topl {x e : Int64} (h : x = e) (k : sw_Go l E K own cc nL ret pc lv (.long x :: st) σ r σ') : sw_Go l E K own cc nL ret pc lv (.long e :: st) σ r σ' := h ▸ k
theorem sw_callVi {K2 : Nat} {y : MethodName} {cc2 : ByteArray} {nL2 : Nat} {ret2 : Option FieldType} {i ci index n N : Nat} {CN : String} {T : u_T} {v : Int32} {σ2 : sw_M} (As : List Value)
    (hM : sw_Ct l E K2 y cc2 nL2 ret2 (.ref i :: As) σ (some (.int v)) σ2) (hst : st0 = As.reverse ++ .ref i :: st) (hK : K2 + 1 ≤ K) (hc : sw_cl[ci]? = some (CN, T, N)) (hG : GoodIn sw_T (wsV own index CN y (.code y cc2 nL2 ret2 :: sw_T)))
    (hy : y.cls = CN ∧ y.cls ≠ "java/lang/invoke/MethodHandle" ∧ y.cls ≠ "java/lang/invoke/VarHandle" ∧ (parseMethodDescriptor y.desc).map (fun d => d.parameters.length) = some n) (hL : nL2 ≤ 40) (hi : i < 84) (hs : sw_s i = (0, ci)) (hn : As.length = n) (hroom : (st.map fun v => v.category).sum ≤ 8) (hd : decode cc pc = .ok (.invokevirtual index, 3))
    (k : sw_Go l E K own cc nL ret (pc + 3) lv (.int v :: st) σ2 r σ') : sw_Go l E K own cc nL ret pc lv st0 σ r σ' := sw_callV As hM hst hK hc hG hy hL hi hs hn hroom hd k
theorem sw_callVv {K2 : Nat} {y : MethodName} {cc2 : ByteArray} {nL2 : Nat} {ret2 : Option FieldType} {i ci index n N : Nat} {CN : String} {T : u_T} {σ2 : sw_M} (As : List Value)
    (hM : sw_Ct l E K2 y cc2 nL2 ret2 (.ref i :: As) σ none σ2) (hst : st0 = As.reverse ++ .ref i :: st) (hK : K2 + 1 ≤ K) (hc : sw_cl[ci]? = some (CN, T, N)) (hG : GoodIn sw_T (wsV own index CN y (.code y cc2 nL2 ret2 :: sw_T)))
    (hy : y.cls = CN ∧ y.cls ≠ "java/lang/invoke/MethodHandle" ∧ y.cls ≠ "java/lang/invoke/VarHandle" ∧ (parseMethodDescriptor y.desc).map (fun d => d.parameters.length) = some n) (hL : nL2 ≤ 40) (hi : i < 84) (hs : sw_s i = (0, ci)) (hn : As.length = n) (hroom : (st.map fun v => v.category).sum ≤ 8) (hd : decode cc pc = .ok (.invokevirtual index, 3))
    (k : sw_Go l E K own cc nL ret (pc + 3) lv st σ2 r σ') : sw_Go l E K own cc nL ret pc lv st0 σ r σ' := sw_callV As hM hst hK hc hG hy hL hi hs hn hroom hd k
theorem sw_callSi {K2 : Nat} {y : MethodName} {cc2 : ByteArray} {nL2 : Nat} {ret2 : Option FieldType} {index n : Nat} {v : Int32} {σ2 : sw_M} (As : List Value)
    (hM : sw_Ct l E K2 y cc2 nL2 ret2 As σ (some (.int v)) σ2) (hst : st0 = As.reverse ++ st) (hK : K2 + 1 ≤ K) (hG : GoodIn sw_T (va_wsS own index y (.code y cc2 nL2 ret2 :: sw_T)))
    (hy : y.cls ≠ "java/lang/invoke/MethodHandle" ∧ y.cls ≠ "java/lang/invoke/VarHandle" ∧ (parseMethodDescriptor y.desc).map (fun d => d.parameters.length) = some n) (hL : nL2 ≤ 40) (hn : As.length = n) (hroom : (st.map fun v => v.category).sum ≤ 8) (hd : decode cc pc = .ok (.invokestatic index, 3))
    (k : sw_Go l E K own cc nL ret (pc + 3) lv (.int v :: st) σ2 r σ') : sw_Go l E K own cc nL ret pc lv st0 σ r σ' := sw_callS As hM hst hK hG hy hL hn hroom hd k
theorem sw_callSl {K2 : Nat} {y : MethodName} {cc2 : ByteArray} {nL2 : Nat} {ret2 : Option FieldType} {index n : Nat} {v : Int64} {σ2 : sw_M} (As : List Value)
    (hM : sw_Ct l E K2 y cc2 nL2 ret2 As σ (some (.long v)) σ2) (hst : st0 = As.reverse ++ st) (hK : K2 + 1 ≤ K) (hG : GoodIn sw_T (va_wsS own index y (.code y cc2 nL2 ret2 :: sw_T)))
    (hy : y.cls ≠ "java/lang/invoke/MethodHandle" ∧ y.cls ≠ "java/lang/invoke/VarHandle" ∧ (parseMethodDescriptor y.desc).map (fun d => d.parameters.length) = some n) (hL : nL2 ≤ 40) (hn : As.length = n) (hroom : (st.map fun v => v.category).sum ≤ 8) (hd : decode cc pc = .ok (.invokestatic index, 3))
    (k : sw_Go l E K own cc nL ret (pc + 3) lv (.long v :: st) σ2 r σ') : sw_Go l E K own cc nL ret pc lv st0 σ r σ' := sw_callS As hM hst hK hG hy hL hn hroom hd k
theorem sw_callSv {K2 : Nat} {y : MethodName} {cc2 : ByteArray} {nL2 : Nat} {ret2 : Option FieldType} {index n : Nat} {σ2 : sw_M} (As : List Value)
    (hM : sw_Ct l E K2 y cc2 nL2 ret2 As σ none σ2) (hst : st0 = As.reverse ++ st) (hK : K2 + 1 ≤ K) (hG : GoodIn sw_T (va_wsS own index y (.code y cc2 nL2 ret2 :: sw_T)))
    (hy : y.cls ≠ "java/lang/invoke/MethodHandle" ∧ y.cls ≠ "java/lang/invoke/VarHandle" ∧ (parseMethodDescriptor y.desc).map (fun d => d.parameters.length) = some n) (hL : nL2 ≤ 40) (hn : As.length = n) (hroom : (st.map fun v => v.category).sum ≤ 8) (hd : decode cc pc = .ok (.invokestatic index, 3))
    (k : sw_Go l E K own cc nL ret (pc + 3) lv st σ2 r σ') : sw_Go l E K own cc nL ret pc lv st0 σ r σ' := sw_callS As hM hst hK hG hy hL hn hroom hd k
end COMB
