section MORE
variable {l : Launch} {E : sw_E} {K : Nat} {own : String} {cc : ByteArray} {nL : Nat} {ret : Option FieldType} {pc : Nat} {lv lv' : List (Nat × Value)} {st st0 : List Value} {σ σ' : sw_M} {r : Option Value}
theorem sw_refj {i : Nat} (j : Nat) (h : i = j) (k : sw_Go l E K own cc nL ret pc lv (.ref j :: st) σ r σ') : sw_Go l E K own cc nL ret pc lv (.ref i :: st) σ r σ' := h ▸ k
theorem sw_enter2 {y : MethodName} {As : List Value} (hy : plainName y.cls = true) (hn : (lg_sl As).length ≤ nL) (hown : y.cls = own) (hlv : lv_args 0 As = lv)
    (h : sw_Go l E K own cc nL ret 0 lv [] σ r σ') : sw_Ct l E K y cc nL ret As σ r σ' := by
  subst hown; subst hlv
  exact sw_enter hy hn h
theorem sw_iincv {i : Nat} {n : Int} {x c v : Int32} (j : Nat) (hk : lv[j]? = some (i, .int x)) (hv : v = x + c) (hd : decode cc pc = .ok (.iinc i n, 3)) (hc : Int32.ofInt n = c) (hn : i < nL) (hl2 : (i, Value.int v) :: lv.filter (fun q => !(q.1 == i) && !(q.1 + 1 == i && q.2.category == 2)) = lv') (k : sw_Go l E K own cc nL ret (pc + 3) lv' st σ r σ') : sw_Go l E K own cc nL ret pc lv st σ r σ' := by
  subst hv
  exact sw_iinc j hk hd hc hn hl2 k
theorem sw_putP {i ci k0 index N c : Nat} {CN : String} {T : u_T} {P : Nat} {D : String} (ty0 : Nat → FieldType) (hc : sw_cl[ci]? = some (CN, T, N)) (hin : ∀ w ∈ u_ws CN T N, w ∈ sw_T) (hty : ∀ k, k < N → parseFieldDescriptor (T k).2.2.1 = some (ty0 k)) (hnm : ∀ a, a < N → ∀ b, b < N → a ≠ b → (T a).2.1 ≠ (T b).2.1) (hk : k0 < N) (hlink : Cond.fieldLink own index (T k0).1 (T k0).2.1 (T k0).2.2.1 ∈ sw_T) (hfin : (T k0).2.2.2 = false) (hdd : parseFieldDescriptor (T k0).2.2.1 = some (.object D))
    (hk0 : (sw_fk.getD ci [])[k0]? = some (902 + c)) (hP : sw_isP P) (hi : i < 84) (hs : sw_s i = (0, ci)) (hset : sw_fs (sw_wP σ c P) i ci = (sw_fs σ i ci).set k0 (.ref (sw_pl P))) (ho : ∀ a, a ≠ i → sw_ce E (sw_wP σ c P) a = sw_ce E σ a) (hd : decode cc pc = .ok (.putfield index, 3)) (k : sw_Go l E K own cc nL ret (pc + 3) lv st (sw_wP σ c P) r σ') : sw_Go l E K own cc nL ret pc lv (.ref P :: .ref i :: st) σ r σ' := by
  rw [sw_pl_id hP] at hset
  exact sw_put (v := .ref P) ty0 hc hin hty hnm hk hlink hfin hdd (List.getElem?_eq_some_iff.mp hk0).1 hi hs rfl rfl hset ho hd k
end MORE
theorem sw_fs_wP (σ : sw_M) (i ci c P : Nat) (h : ∀ x ∈ sw_fk.getD ci [], x ≠ 902 + c) : sw_fs (sw_wP σ c P) i ci = sw_fs σ i ci := by
  apply List.ext_getElem?
  intro j
  rw [sw_fs_at, sw_fs_at]
  cases hc : (sw_fk.getD ci [])[j]? with
  | none => simp
  | some x =>
    have hx := h x (List.mem_of_getElem? hc)
    simp only [Option.map_some]
    apply congrArg some
    match x, hx with
    | 0, _ => simp [sw_fv, sw_wP]
    | 1, _ => simp [sw_fv, sw_wP]
    | x + 2, hx =>
      simp only [sw_fv]
      split
      · rfl
      · next hlt =>
        have : x - 900 ≠ c := by omega
        simp [sw_wP, this]
set_option maxRecDepth 100000 in
theorem sw_fs_wP9 (σ : sw_M) (i P : Nat) : sw_fs (sw_wP σ 0 P) i 9 = (sw_fs σ i 9).set 1 (.ref (sw_pl P)) := rfl
set_option maxRecDepth 100000 in
theorem sw_fs_wP5 (σ : sw_M) (i P : Nat) : sw_fs (sw_wP σ 1 P) i 5 = (sw_fs σ i 5).set 1 (.ref (sw_pl P)) := rfl
theorem sw_sh_wP : ∀ a, a < 84 → ∀ c, c < 2 → a ≠ c → ∀ x ∈ sw_fk.getD (sw_s a).2 [], (sw_s a).1 = 0 → x ≠ 902 + c := by decide +kernel
theorem sw_ce_wP (E : sw_E) (σ : sw_M) (c P : Nat) (hc : c < 2) : ∀ a, a ≠ c → sw_ce E (sw_wP σ c P) a = sw_ce E σ a := by
  intro a ha
  by_cases h0 : (sw_s a).1 = 0
  · by_cases h84 : a < 84
    · have hf : sw_fs (sw_wP σ c P) a (sw_s a).2 = sw_fs σ a (sw_s a).2 := sw_fs_wP σ a _ c P (fun x hx => sw_sh_wP a h84 c hc ha x hx h0)
      simp only [sw_ce, h0, if_true, hf]
    · have h9 : (sw_s a).1 = 1 := by
        have : sw_s a = (1, 0) := by
          unfold sw_s
          rw [List.getD_eq_getElem?_getD, List.getElem?_eq_none (by show 84 ≤ a; omega)]
          rfl
        rw [this]
      omega
  · simp only [sw_ce, h0, if_false]
    rfl
section PUTP
variable {l : Launch} {E : sw_E} {K : Nat} {cc : ByteArray} {nL : Nat} {ret : Option FieldType} {pc P : Nat} {lv : List (Nat × Value)} {st : List Value} {σ σ' : sw_M} {r : Option Value}
set_option maxRecDepth 100000 in
theorem pf_X9_19 (hP : sw_isP P) (hd : decode cc pc = .ok (.putfield 19, 3)) (k : sw_Go l E K RX9 cc nL ret (pc + 3) lv st (sw_wP σ 0 P) r σ') : sw_Go l E K RX9 cc nL ret pc lv (.ref P :: .ref 0 :: st) σ r σ' :=
  sw_putP (ci := 9) (k0 := 1) tyX9 rfl sw_in9 tyX9_ok nmX9 (by decide) lk_X9_19 rfl (tyX9_ok 1 (by decide)) rfl hP (by decide) rfl (sw_fs_wP9 σ 0 P) (sw_ce_wP E σ 0 P (by decide)) hd k
set_option maxRecDepth 100000 in
theorem pf_X9_86 (hP : sw_isP P) (hd : decode cc pc = .ok (.putfield 86, 3)) (k : sw_Go l E K RX9 cc nL ret (pc + 3) lv st (sw_wP σ 1 P) r σ') : sw_Go l E K RX9 cc nL ret pc lv (.ref P :: .ref 1 :: st) σ r σ' :=
  sw_putP (ci := 5) (k0 := 1) tyX5 rfl sw_in5 tyX5_ok nmX5 (by decide) lk_X9_86 rfl (tyX5_ok 1 (by decide)) rfl hP (by decide) rfl (sw_fs_wP5 σ 1 P) (sw_ce_wP E σ 1 P (by decide)) hd k
end PUTP
theorem sw_ldcw {l : Launch} {E : sw_E} {K : Nat} {own : String} {cc : ByteArray} {nL : Nat} {ret : Option FieldType} {pc : Nat} {lv : List (Nat × Value)} {st : List Value} {σ σ' : sw_M} {r : Option Value} {index : Nat} {v : Int32} (hc : Cond.constant own index v ∈ sw_T) (hd : decode cc pc = .ok (.ldc_w index, 3)) (k : sw_Go l E K own cc nL ret (pc + 3) lv (.int v :: st) σ r σ') : sw_Go l E K own cc nL ret pc lv st σ r σ' := by
  intro p e s m args below meth c H locs A ls C hP hS hl
  exact lv_ldcw C.1 C.2.1 C.2.2.2.2.2.1 (C.2.2.2.2.2.2.1 _ hc) hd (k p e s m args below meth c H locs A ls C hP hS hl)
/-- where a sign stands in ;()<>=+-*/% -/
def sw_sgn (x : Int32) : Int32 := if x = 59 then 0 else if x = 40 then 1 else if x = 41 then 2 else if x = 60 then 3 else if x = 62 then 4 else if x = 61 then 5 else if x = 43 then 6 else if x = 45 then 7 else if x = 42 then 8 else if x = 47 then 9 else if x = 37 then 10 else -1
def sw_max (x y : Int32) : Int32 := if x < y then y else x
def sw_min (x y : Int32) : Int32 := if y < x then y else x
section MATH
variable {l : Launch} {E : sw_E} {K : Nat} {own : String} {cc : ByteArray} {nL : Nat} {ret : Option FieldType} {pc : Nat} {lv : List (Nat × Value)} {st : List Value} {σ σ' : sw_M} {r : Option Value} {index : Nat} {x y : Int32}
theorem sw_mmax (hlink : Cond.methodLink own index Lib.Math.max.name ∈ sw_T) (hst : Cond.static Lib.Math.max.name ∈ sw_T) (hini : Cond.initialized "java/lang/Math" ∈ sw_T) (hcode : Cond.code Lib.Math.max.name Lib.Math.max.code 2 (some .int) ∈ sw_T) (hK : 1 ≤ K) (hroom : (st.map fun v => v.category).sum ≤ 8) (hd : decode cc pc = .ok (.invokestatic index, 3))
    (k : sw_Go l E K own cc nL ret (pc + 3) lv (.int (sw_max x y) :: st) σ r σ') : sw_Go l E K own cc nL ret pc lv (.int y :: .int x :: st) σ r σ' := by
  intro p e s m args below meth c H locs A ls C hP hS hl
  obtain ⟨hx, hb, hml, hr, hlk, hown, hts, hMv, hX, hK0, hD, hA⟩ := id C
  exact va_mmax hx hb (by rw [hml]; exact hl.1.symm) hown (hts _ hlink) (hts _ hst) (hts _ hini) (hts _ hcode) hK (by
    show ((st.map (sw_g E)).map fun v => v.category).sum + 13 ≤ 64 * K
    rw [sw_cat_sum]; omega) (Nat.zero_le _) (Nat.zero_le _) hd (k p e s m args below meth c H locs A ls C hP hS hl)
theorem sw_mmin (hlink : Cond.methodLink own index Lib.Math.min.name ∈ sw_T) (hst : Cond.static Lib.Math.min.name ∈ sw_T) (hini : Cond.initialized "java/lang/Math" ∈ sw_T) (hcode : Cond.code Lib.Math.min.name Lib.Math.min.code 2 (some .int) ∈ sw_T) (hK : 1 ≤ K) (hroom : (st.map fun v => v.category).sum ≤ 8) (hd : decode cc pc = .ok (.invokestatic index, 3))
    (k : sw_Go l E K own cc nL ret (pc + 3) lv (.int (sw_min x y) :: st) σ r σ') : sw_Go l E K own cc nL ret pc lv (.int y :: .int x :: st) σ r σ' := by
  intro p e s m args below meth c H locs A ls C hP hS hl
  obtain ⟨hx, hb, hml, hr, hlk, hown, hts, hMv, hX, hK0, hD, hA⟩ := id C
  exact va_mmin hx hb (by rw [hml]; exact hl.1.symm) hown (hts _ hlink) (hts _ hst) (hts _ hini) (hts _ hcode) hK (by
    show ((st.map (sw_g E)).map fun v => v.category).sum + 13 ≤ 64 * K
    rw [sw_cat_sum]; omega) (Nat.zero_le _) (Nat.zero_le _) hd (k p e s m args below meth c H locs A ls C hP hS hl)
end MATH
theorem mx_max_s : Cond.static Lib.Math.max.name ∈ sw_T := sw_T_of (i := 609) (by decide +kernel) rfl
theorem mx_max_c : Cond.code Lib.Math.max.name Lib.Math.max.code 2 (some .int) ∈ sw_T := sw_T_of (i := 610) (by decide +kernel) rfl
theorem mx_X2_45 : Cond.methodLink RX2 45 Lib.Math.max.name ∈ sw_T := sw_T_of (i := 894) (by decide +kernel) rfl
theorem mx_X4_99 : Cond.methodLink RX4 99 Lib.Math.max.name ∈ sw_T := sw_T_of (i := 881) (by decide +kernel) rfl
theorem mx_X6_62 : Cond.methodLink RX6 62 Lib.Math.max.name ∈ sw_T := sw_T_of (i := 1219) (by decide +kernel) rfl
theorem mx_J1_92 : Cond.methodLink RJ1 92 Lib.Math.max.name ∈ sw_T := sw_T_of (i := 608) (by decide +kernel) rfl
theorem mx_J2_224 : Cond.methodLink RJ2 224 Lib.Math.max.name ∈ sw_T := sw_T_of (i := 620) (by decide +kernel) rfl
theorem mx_min_s : Cond.static Lib.Math.min.name ∈ sw_T := sw_T_of (i := 612) (by decide +kernel) rfl
theorem mx_min_c : Cond.code Lib.Math.min.name Lib.Math.min.code 2 (some .int) ∈ sw_T := sw_T_of (i := 613) (by decide +kernel) rfl
theorem mx_X2_51 : Cond.methodLink RX2 51 Lib.Math.min.name ∈ sw_T := sw_T_of (i := 895) (by decide +kernel) rfl
theorem mx_X4_91 : Cond.methodLink RX4 91 Lib.Math.min.name ∈ sw_T := sw_T_of (i := 836) (by decide +kernel) rfl
theorem mx_J1_38 : Cond.methodLink RJ1 38 Lib.Math.min.name ∈ sw_T := sw_T_of (i := 611) (by decide +kernel) rfl
theorem mx_J2_183 : Cond.methodLink RJ2 183 Lib.Math.min.name ∈ sw_T := sw_T_of (i := 621) (by decide +kernel) rfl
theorem mx_i : Cond.initialized "java/lang/Math" ∈ sw_T := sw_T_of (i := 116) (by decide +kernel) rfl
