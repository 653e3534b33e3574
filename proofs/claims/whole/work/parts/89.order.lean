/-! order -/
def v_ord (ρ : Nat → Int32) (F : Nat → Nat) : Nat → (Nat → Int32) → Nat → Int32
  | 0, v => v
  | i + 1, v => v_turn ρ (F i) (ρ (4 * F i + 3)) (v_ord ρ F i v)
theorem ord_cg {ρ ρ' v v' : Nat → Int32} {F : Nat → Nat} {n K R : Nat} (hρ : ok_ρ ρ K R) (hK5 : K ≤ 5) (hK : K ≤ n) (hF : ∀ i, i < R → F i < R) (hq : ∀ r c, r < R → c < 4 → ρ' (4 * r + c) = ρ (4 * r + c)) (h : ∀ j, j < n → v' j = v j) : ∀ m, m ≤ R → ∀ j, j < n → v_ord ρ' F m v' j = v_ord ρ F m v j
  | 0, _, j, hj => h j hj
  | m + 1, hm, j, hj => by
    have hr : F m < R := hF m (by omega)
    show v_turn ρ' (F m) (ρ' (4 * F m + 3)) (v_ord ρ' F m v') j = v_turn ρ (F m) (ρ (4 * F m + 3)) (v_ord ρ F m v) j
    rw [hq (F m) 3 hr (by decide)]
    exact v_turn_cg hρ hr hK5 hK (fun c hc => hq (F m) c hr hc) (ord_cg hρ hK5 hK hF hq h m (by omega)) hj
theorem nv_ord {ρ u : Nat → Int32} {F : Nat → Nat} {K R B : Nat} (hρ : ok_ρ ρ K R) (hl : ok_lim ρ R) (hK : K ≤ 5) (hF : ∀ i, i < R → F i < R) (h : nv K B u) : ∀ m, m ≤ R → nv K B (v_ord ρ F m u)
  | 0, _ => h
  | m + 1, hm => by
    have hr : F m < R := hF m (by omega)
    obtain ⟨l, l1, l2⟩ := hl (F m) hr
    show nv K B (v_turn ρ (F m) (ρ (4 * F m + 3)) (v_ord ρ F m u))
    rw [l2]
    exact nv_turn hρ hr hK l1 (nv_ord hρ hl hK hF h m (by omega))
def o_fold (val : Nat → Int32) : List Nat → Int32 → Nat → Int32 × Nat
  | [], m, b => (m, b)
  | c :: l, m, b => if val c ≤ m then o_fold val l m b else o_fold val l (val c) c
theorem fold_ge {val : Nat → Int32} : ∀ (l : List Nat) (m : Int32) (b : Nat), m ≤ (o_fold val l m b).1
  | [], m, b => Int32.le_refl m
  | c :: l, m, b => by
    rw [o_fold]
    split
    · exact fold_ge l m b
    · rename_i h
      exact Int32.le_trans (Int32.le_of_lt (Int32.not_le.mp h)) (fold_ge l _ _)
theorem o_digs {R a : Nat} (h : o_dig R a = true) : ∀ j, j < R → o_get a j < R := by
  intro j hj
  unfold o_dig at h
  rw [List.all_eq_true] at h
  exact of_decide_eq_true (h j (List.mem_range.mpr hj))
theorem o_chk1 {R a : Nat} (h : o_chk R [a] = true) : o_dig R a = true ∧ o_end R a = true := by
  rw [o_chk, Bool.and_eq_true] at h
  exact h
theorem o_chk2 {R a b : Nat} {t : List Nat} (h : o_chk R (a :: b :: t) = true) : o_dig R a = true ∧ o_ok R a b = true ∧ o_chk R (b :: t) = true := by
  rw [o_chk, Bool.and_eq_true, Bool.and_eq_true] at h
  exact ⟨h.1.1, h.1.2, h.2⟩
theorem o_dig1 {R a : Nat} {t : List Nat} (h : o_chk R (a :: t) = true) : ∀ j, j < R → o_get a j < R := by
  cases t with
  | nil => exact o_digs (o_chk1 h).1
  | cons b t => exact o_digs (o_chk2 h).1
theorem o_mem70 {R c : Nat} : (o_mem R c).1 70 = fun j => nI (o_get c j) := rfl
/-- the class's next row, by the numbers -/
theorem c_nx {m : sw_M} {R c : Nat} {t : List Nat} (hR : R ≤ 6) (hc : o_chk R (c :: t) = true) (hm : ∀ j, j < R → m.1 38 j = nI (o_get c j)) : ∃ f', fX3_toNextOrder m (nI R) = some ((if t = [] then 0 else 1), sw_wA m 38 f') ∧ ∀ b t', t = b :: t' → ∀ j, j < R → f' j = nI (o_get b j) := by
  obtain ⟨r, f', g', h1, h2, h3⟩ := o_next (σ := m) (τ := o_mem R c) (f := m.1 38) (g := (o_mem R c).1 70) hR rfl (fun j hj => by rw [hm j hj]; rfl)
  rw [m_self] at h1 h2
  cases t with
  | nil =>
    have he := (o_chk1 hc).2
    unfold o_end at he
    rw [h2] at he
    have e : r = 0 := by simpa using he
    rw [e] at h1
    exact ⟨f', h1, fun b t' h => by cases h⟩
  | cons b t =>
    have he := (o_chk2 hc).2.1
    unfold o_ok at he
    rw [h2] at he
    simp only [Bool.and_eq_true, List.all_eq_true] at he
    have e : r = 1 := by simpa using he.1
    rw [e] at h1
    refine ⟨f', h1, fun b' t' h j hj => ?_⟩
    cases h
    have := he.2 j (List.mem_range.mpr hj)
    rw [m_eq] at this
    rw [h3 j hj]
    simpa using this
theorem e_nx {m : sw_M} {R c : Nat} {t : List Nat} (hR : R ≤ 6) (hRm : m.1 49 43 = nI R) (hc : o_chk R (c :: t) = true) (hm : ∀ j, j < R → m.1 70 j = nI (o_get c j)) : ∃ f', fX10_nextRow m = some ((if t = [] then 0 else 1), sw_wA m 70 f') ∧ ∀ b t', t = b :: t' → ∀ j, j < R → f' j = nI (o_get b j) := by
  obtain ⟨κ, hκ⟩ : ∃ κ : sw_M, κ = sw_wA (o_mem R c) 38 (fun j => nI (o_get c j)) := ⟨_, rfl⟩
  have k38 : ∀ j, j < R → κ.1 38 j = nI (o_get c j) := fun j hj => by rw [hκ, m_eq]
  obtain ⟨f, a1, a2⟩ := c_nx (m := κ) hR hc k38
  obtain ⟨r, f', g', h1, h2, h3⟩ := o_next (σ := κ) (τ := m) (f := κ.1 38) (g := m.1 70) hR hRm (fun j hj => by rw [hm j hj, k38 j hj])
  rw [m_self] at h1 h2
  have e := Option.some.inj (h1.symm.trans a1)
  have e1 : r = if t = [] then 0 else 1 := congrArg (fun x => x.1) e
  have e2 : f' = f := by
    have := congrArg (fun x : Int32 × sw_M => x.2.1 38) e
    simp only [m_eq] at this
    exact this
  refine ⟨g', by rw [h2, e1], fun b t' h j hj => ?_⟩
  rw [← h3 j hj, e2]
  exact a2 b t' h j hj
def agO (σ τ : sw_M) : Prop := τ.2 = σ.2 ∧ ∀ a, a ≠ 37 → a ≠ 38 → a ≠ 48 → τ.1 a = σ.1 a
def aeO (σ τ : sw_M) : Prop := τ.2 = σ.2 ∧ ∀ a, a ≠ 66 → a ≠ 69 → a ≠ 70 → τ.1 a = σ.1 a
section KO
variable {σ τ : sw_M} {P K N R Bn z : Nat} {mm ww : Nat → Nat}
theorem agO.tr {υ : sw_M} (h : agO σ τ) (h' : agO τ υ) : agO σ υ := ⟨h'.1.trans h.1, fun a h1 h2 h3 => (h'.2 a h1 h2 h3).trans (h.2 a h1 h2 h3)⟩
theorem aeO.tr {υ : sw_M} (h : aeO σ τ) (h' : aeO τ υ) : aeO σ υ := ⟨h'.1.trans h.1, fun a h1 h2 h3 => (h'.2 a h1 h2 h3).trans (h.2 a h1 h2 h3)⟩
theorem agO_w {f : Nat → Int32} {a : Nat} (ha : a = 37 ∨ a = 38 ∨ a = 48) : agO σ (sw_wA σ a f) := ⟨rfl, fun b h1 h2 h3 => m_ne (by rcases ha with rfl | rfl | rfl <;> assumption)⟩
theorem aeO_w {f : Nat → Int32} {a : Nat} (ha : a = 66 ∨ a = 69 ∨ a = 70) : aeO σ (sw_wA σ a f) := ⟨rfl, fun b h1 h2 h3 => m_ne (by rcases ha with rfl | rfl | rfl <;> assumption)⟩
theorem rl_p_agO (r1 : rl_p σ P K N R Bn z mm ww) (h : agO σ τ) : rl_p τ P K N R Bn z mm ww := by
  have hP := rl_isP r1
  have k := h.2
  have e49 := k 49 (by decide) (by decide) (by decide)
  rcases hP with rfl | rfl <;>
  · refine rl_p_cg (by rw [h.1]) ?_ ?_ ?_ ?_ ?_ ?_ ?_ ?_ ?_ ?_ ?_ (by rw [e49]) (by rw [e49]) (by rw [e49]) (by rw [e49]) (by rw [e49]) (by rw [e49]) (by rw [e49]) (by rw [e49]) (by rw [e49]) r1
    all_goals exact k _ (by decide) (by decide) (by decide)
theorem rl_p_aeO (r1 : rl_p σ P K N R Bn z mm ww) (h : aeO σ τ) : rl_p τ P K N R Bn z mm ww := by
  have hP := rl_isP r1
  have k := h.2
  have e49 := k 49 (by decide) (by decide) (by decide)
  rcases hP with rfl | rfl <;>
  · refine rl_p_cg (by rw [h.1]) ?_ ?_ ?_ ?_ ?_ ?_ ?_ ?_ ?_ ?_ ?_ (by rw [e49]) (by rw [e49]) (by rw [e49]) (by rw [e49]) (by rw [e49]) (by rw [e49]) (by rw [e49]) (by rw [e49]) (by rw [e49]) r1
    all_goals exact k _ (by decide) (by decide) (by decide)
theorem c_ord {m : sw_M} {j : Nat} {F : Nat → Nat} (r1 : rl_p m P K N R Bn z mm ww) (hF : ∀ i, i < R → F i < R) (hm : ∀ i, i < R → m.1 38 i = nI (F i)) (hj : j < 5) : fX3_muchByOrder P 27 m (nI j) = some (v_ord (m.1 (P + 6)) F R (va_cpy (m.1 28) (m.1 37) 0 0 5) j, sw_wA m 37 (v_ord (m.1 (P + 6)) F R (va_cpy (m.1 28) (m.1 37) 0 0 5))) := by
  have hP := rl_isP r1
  obtain ⟨p1, p2, p3, p4, p5⟩ := r1
  have hK := p3.k5
  have hR := p3.r6
  have z0 : (0 : Int32).toNatClampNeg = 0 := by decide
  have z5 : (5 : Int32).toNatClampNeg = 5 := by decide
  obtain ⟨D, hD⟩ : ∃ D, D = va_cpy (m.1 28) (m.1 37) 0 0 5 := ⟨_, rfl⟩
  have hD' : va_cpy (m.1 (27 + 1)) (m.1 37) 0 0 5 = D := by rw [hD]
  have nP : ∀ f, (sw_wA m 37 f).1 P = m.1 P := fun f => m_ne (isP_ne0 hP (by decide))
  have n6 : ∀ f, (sw_wA m 37 f).1 (P + 6) = m.1 (P + 6) := fun f => m_ne (isP_ne hP (by decide) (by decide))
  have n38 : ∀ f, (sw_wA m 37 f).1 38 = m.1 38 := fun f => m_ne (by decide)
  unfold fX3_muchByOrder
  rw [sw_gd_t (by decide), let_s, z0, z5, hD']
  refine wh_runs (b := fun s : Int32 × sw_M => fX3_muchByOrder_L17 P 27 s.2 (nI j) s.1) (fun i => (nI i, sw_wA m 37 (v_ord (m.1 (P + 6)) F i D))) R rfl (fun i hi => ?_) ?_ (by omega)
  · show fX3_muchByOrder_L17 P 27 (sw_wA m 37 (v_ord (m.1 (P + 6)) F i D)) (nI j) (nI i) = _
    have hFi := hF i hi
    have ht := c_turn (σ := sw_wA m 37 (v_ord (m.1 (P + 6)) F i D)) (P := P) (a := 37) (lim := m.1 (P + 6) (4 * F i + 3)) (r := F i) (K := K) (R := R) hP (by decide) rfl hK hR (by rw [n6]; exact p3.ρ) hFi
    rw [n6, m_eq, m_mm] at ht
    unfold fX3_muchByOrder_L17
    rw [nP, p3.r, if_neg (le_f hi (by omega)), sw_gd_t (in_t (show i < 6 by omega) (by decide)), sw_gd_t (in_t (show i < 6 by omega) (by decide)), nI_clamp (by omega), n38, hm i hi, c_limit (by omega), b1_s, n6, ht, b2_s, let_s, nI_1]
    rfl
  · show fX3_muchByOrder_L17 P 27 (sw_wA m 37 (v_ord (m.1 (P + 6)) F R D)) (nI j) (nI R) = _
    unfold fX3_muchByOrder_L17
    rw [nP, p3.r, if_pos (le_t R (by omega)), sw_gd_t (in_t hj (by decide)), nI_clamp (by omega), m_eq]
theorem cg_R : ∀ R, R < 7 → sw_cg 0 0 (nI R) 6 (sw_s 48).2 = true := by decide
theorem c_order {j : Nat} {u : Nat → Int32} {c0 : Nat} {l0 : List Nat} (r1 : rl_p σ P K N R Bn z mm ww) (hu : ∀ i, i < 5 → σ.1 28 i = u i) (hc : o_chk R (c0 :: l0) = true) (hl : l0.length ≤ 719) (hid : ∀ j, j < R → o_get c0 j = j) (hj : j < K) :
    ∃ x, fX3_mostByOrder P 27 48 σ (nI j) = some x ∧ agO σ x.2 ∧ x.1 = (o_fold (fun c => v_ord (σ.1 (P + 6)) (o_get c) R u j) (c0 :: l0) (-1) 0).1 ∧ (x.1 = -1 ∨ ∀ i, i < R → x.2.1 48 i = nI (o_get (o_fold (fun c => v_ord (σ.1 (P + 6)) (o_get c) R u j) (c0 :: l0) (-1) 0).2 i)) := by
  have hP := rl_isP r1
  obtain ⟨p1, p2, p3, p4, p5⟩ := id r1
  have hK := p3.k5
  have hR := p3.r6
  obtain ⟨val, hval⟩ : ∃ val, val = fun c => v_ord (σ.1 (P + 6)) (o_get c) R u j := ⟨_, rfl⟩
  rw [← hval]
  obtain ⟨W, hW⟩ : ∃ W, W = o_fold val (c0 :: l0) (-1) 0 := ⟨_, rfl⟩
  rw [← hW]
  obtain ⟨m0, hm0⟩ : ∃ m0, m0 = sw_wA σ 38 (v_mix R (fun i => nI i) (σ.1 38)) := ⟨_, rfl⟩
  have ha0 : agO σ m0 := by rw [hm0]; exact agO_w (.inr (.inl rfl))
  have main : ∃ x, sw_wh sw_F (fun s : Int32 × Int32 × sw_M => fX3_mostByOrder_L33 P 27 48 s.2.2 (nI j) s.1 s.2.1) ((-1), 0, m0) = some x ∧ (agO σ x.2 ∧ x.1 = W.1 ∧ (x.1 = -1 ∨ ∀ i, i < R → x.2.1 48 i = nI (o_get W.2 i))) := by
    refine wh_gen (b := fun s : Int32 × Int32 × sw_M => fX3_mostByOrder_L33 P 27 48 s.2.2 (nI j) s.1 s.2.1) (fun k s => ∃ c l b, l.length + k = l0.length ∧ o_chk R (c :: l) = true ∧ s.2.1 = nI k ∧ agO σ s.2.2 ∧ (∀ i, i < R → s.2.2.1 38 i = nI (o_get c i)) ∧ (s.1 = -1 ∨ ∀ i, i < R → s.2.2.1 48 i = nI (o_get b i)) ∧ o_fold val (c :: l) s.1 b = W) (fun x => agO σ x.2 ∧ x.1 = W.1 ∧ (x.1 = -1 ∨ ∀ i, i < R → x.2.1 48 i = nI (o_get W.2 i))) l0.length (fun k s hk hI => ?_) ⟨c0, l0, 0, rfl, hc, rfl, ha0, fun i hi => by rw [hm0, m_eq, v_mix, if_pos hi, hid i hi], .inl rfl, hW.symm⟩ (F_big (by omega))
    obtain ⟨most, y, m⟩ := s
    obtain ⟨c, l, b, i1, i2, rfl, i4, i5, i6, i7⟩ : ∃ c l b, l.length + k = l0.length ∧ o_chk R (c :: l) = true ∧ y = nI k ∧ agO σ m ∧ (∀ i, i < R → m.1 38 i = nI (o_get c i)) ∧ (most = -1 ∨ ∀ i, i < R → m.1 48 i = nI (o_get b i)) ∧ o_fold val (c :: l) most b = W := hI
    show (∃ s', fX3_mostByOrder_L33 P 27 48 m (nI j) most (nI k) = some (.inl s') ∧ (∃ c l b, l.length + (k + 1) = l0.length ∧ o_chk R (c :: l) = true ∧ s'.2.1 = nI (k + 1) ∧ agO σ s'.2.2 ∧ (∀ i, i < R → s'.2.2.1 38 i = nI (o_get c i)) ∧ (s'.1 = -1 ∨ ∀ i, i < R → s'.2.2.1 48 i = nI (o_get b i)) ∧ o_fold val (c :: l) s'.1 b = W) ∧ k < l0.length) ∨ (∃ x, fX3_mostByOrder_L33 P 27 48 m (nI j) most (nI k) = some (.inr x) ∧ (agO σ x.2 ∧ x.1 = W.1 ∧ (x.1 = -1 ∨ ∀ i, i < R → x.2.1 48 i = nI (o_get W.2 i))))
    have hF := o_dig1 i2
    have q := rl_p_agO r1 i4
    have co := c_ord (j := j) q hF i5 (by omega)
    have e6 : m.1 (P + 6) = σ.1 (P + 6) := i4.2 _ (isP_ne hP (by decide) (by decide)) (isP_ne hP (by decide) (by decide)) (isP_ne hP (by decide) (by decide))
    have e28 : m.1 28 = σ.1 28 := i4.2 28 (by decide) (by decide) (by decide)
    obtain ⟨V, hV⟩ : ∃ V, V = v_ord (m.1 (P + 6)) (o_get c) R (va_cpy (m.1 28) (m.1 37) 0 0 5) := ⟨_, rfl⟩
    have hVj : V j = val c := by
      rw [hV, hval, e6]
      refine ord_cg (n := 5) p3.ρ hK hK hF (fun _ _ _ _ => rfl) (fun i hi => ?_) R (Nat.le_refl R) j (by omega)
      show (if 0 ≤ i ∧ i < 0 + 5 then m.1 28 (0 + (i - 0)) else m.1 37 i) = u i
      rw [if_pos (by omega), e28, Nat.sub_zero, Nat.zero_add, hu i hi]
    rw [← hV, hVj] at co
    have hnk : ¬ (720 : Int32) ≤ nI k := nI_ge (b := 720) (by omega) (by decide)
    -- from there on to the next
    have nxt : ∀ (M : sw_M) (r2 : Int32) (b2 : Nat), agO σ M → M.1 38 = m.1 38 → (r2 = -1 ∨ ∀ i, i < R → M.1 48 i = nI (o_get b2 i)) → o_fold val l r2 b2 = W → (∃ s', fX3_mostByOrder_L76 P 27 48 M (nI j) r2 (nI k) = some (.inl s') ∧ (∃ c l b, l.length + (k + 1) = l0.length ∧ o_chk R (c :: l) = true ∧ s'.2.1 = nI (k + 1) ∧ agO σ s'.2.2 ∧ (∀ i, i < R → s'.2.2.1 38 i = nI (o_get c i)) ∧ (s'.1 = -1 ∨ ∀ i, i < R → s'.2.2.1 48 i = nI (o_get b i)) ∧ o_fold val (c :: l) s'.1 b = W) ∧ k < l0.length) ∨ (∃ x, fX3_mostByOrder_L76 P 27 48 M (nI j) r2 (nI k) = some (.inr x) ∧ (agO σ x.2 ∧ x.1 = W.1 ∧ (x.1 = -1 ∨ ∀ i, i < R → x.2.1 48 i = nI (o_get W.2 i)))) := by
      intro M r2 b2 hM hM38 hr hf
      have hMr : M.1 P 2 = nI R := (rl_p_agO r1 hM).2.2.1.r
      obtain ⟨f', a1, a2⟩ := c_nx (m := M) hR i2 (fun i hi => by rw [hM38]; exact i5 i hi)
      have n48 : (sw_wA M 38 f').1 48 = M.1 48 := m_ne (by decide)
      unfold fX3_mostByOrder_L76
      rw [hMr, a1, b2_s]
      cases l with
      | nil =>
        rw [if_pos rfl, if_pos rfl]
        have hW2 : W = (r2, b2) := hf.symm
        refine .inr ⟨_, rfl, hM.tr (agO_w (.inr (.inl rfl))), by rw [hW2], ?_⟩
        rw [hW2]
        rcases hr with e | e
        · exact .inl e
        · exact .inr (fun i hi => by show (sw_wA M 38 f').1 48 i = _; rw [n48]; exact e i hi)
      | cons c' l' =>
        rw [if_neg (by simp), let_s, nI_1]
        have hlen : l'.length + 1 + k = l0.length := i1
        refine .inl ⟨_, rfl, ⟨c', l', b2, by omega, (o_chk2 i2).2.2, rfl, hM.tr (agO_w (.inr (.inl rfl))), fun i hi => by show (sw_wA M 38 f').1 38 i = _; rw [m_eq]; exact a2 c' l' rfl i hi, ?_, hf⟩, by omega⟩
        rcases hr with e | e
        · exact .inl e
        · exact .inr (fun i hi => by show (sw_wA M 38 f').1 48 i = _; rw [n48]; exact e i hi)
    have hMr : (sw_wA m 37 V).1 P 2 = nI R := (rl_p_agO q (agO_w (.inl rfl))).2.2.1.r
    have z0 : (0 : Int32).toNatClampNeg = 0 := by decide
    unfold fX3_mostByOrder_L33
    rw [if_neg hnk, co, b2_s]
    rw [o_fold] at i7
    by_cases hle : val c ≤ most
    · rw [if_pos hle] at i7
      rw [if_pos hle]
      exact nxt _ most b (i4.tr (agO_w (.inl rfl))) (m_ne (by decide)) (by rw [m_ne (show (48 : Nat) ≠ 37 by decide)]; exact i6) i7
    · rw [if_neg hle] at i7
      rw [if_neg hle, hMr, sw_gd_t (cg_R R (by omega)), let_s, z0, nI_clamp (by omega)]
      refine nxt _ (val c) c ((i4.tr (agO_w (.inl rfl))).tr (agO_w (.inr (.inr rfl)))) (by rw [m_ne (by decide), m_ne (by decide)]) (.inr (fun i hi => ?_)) i7
      rw [m_eq, m_ne (show (38 : Nat) ≠ 37 by decide)]
      show (if 0 ≤ i ∧ i < 0 + R then m.1 38 (0 + (i - 0)) else _) = _
      rw [if_pos (by omega), Nat.sub_zero, Nat.zero_add, i5 i hi]
  obtain ⟨x, h1, h2⟩ := main
  refine ⟨x, ?_, h2⟩
  unfold fX3_mostByOrder
  refine wh_map (b := fun s : Int32 × sw_M => fX3_mostByOrder_L3 P 27 48 s.2 (nI j) s.1) σ 38 (fun i => nI i) R (fun i hi => ?_) ?_ (by omega)
  · show fX3_mostByOrder_L3 P 27 48 (sw_wA σ 38 (v_mix i (fun i => nI i) (σ.1 38))) (nI j) (nI i) = _
    unfold fX3_mostByOrder_L3
    rw [m_ne (isP_ne0 hP (by decide)), p3.r, if_neg (le_f hi (by omega)), sw_gd_t (in_t (show i < 6 by omega) (by decide)), let_s, let_s, nI_1, nI_clamp (by omega), m_ww]
  · show fX3_mostByOrder_L3 P 27 48 (sw_wA σ 38 (v_mix R (fun i => nI i) (σ.1 38))) (nI j) (nI R) = _
    unfold fX3_mostByOrder_L3
    rw [m_ne (isP_ne0 hP (by decide)), p3.r, if_pos (le_t R (by omega)), ← hm0, h1, sw_up_s]
end KO
