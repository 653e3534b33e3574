/-! the cells of both systems, once they are made: 84 of them, in a fixed order; a memory gives what they hold -/
abbrev sw_cl : List vw_C := [(RX0, TX0, 3), (RX1, TX1, 2), (RX2, TX2, 6), (RX3, TX3, 3), (RX4, TX4, 16), (RX5, TX5, 5), (RX6, TX6, 10), (RX7, TX7, 10), (RX8, TX8, 6), (RX9, TX9, 10), (RX10, TX10, 73)]
abbrev sw_M : Type := (Nat → Nat → Int32) × (Nat → Nat → Int64) × (Nat → Nat)
abbrev sw_E : Type := (Nat → Nat) × (Nat → ClassId) × (Nat → ClassId) × (Nat → Nat → Nat) × ((Nat → Prop) → State → Heap → Prop)
def sw_sh : List (Nat × Nat) := [(0, 9), (0, 5), (0, 7), (2, 1600), (4, 19), (0, 4), (4, 5), (4, 7), (4, 4), (1, 35), (1, 20), (1, 24), (0, 2), (1, 270), (1, 31), (1, 6), (0, 4), (4, 5), (4, 7), (4, 4), (1, 35), (1, 20), (1, 24), (0, 2), (1, 270), (1, 31), (1, 6), (0, 8), (1, 5), (0, 0), (1, 410), (0, 1), (3, 3), (1, 30), (0, 3), (0, 8), (1, 5), (1, 5), (1, 6), (0, 6), (1, 30), (1, 30), (1, 30), (3, 30), (1, 30), (1, 30), (1, 5), (1, 2015), (1, 6), (0, 10), (1, 1600), (4, 16), (1, 320), (1, 320), (1, 320), (1, 320), (1, 160), (1, 64), (1, 6), (1, 35), (1, 20), (1, 24), (1, 35), (1, 20), (1, 24), (1, 10), (1, 10), (1, 400), (1, 5), (1, 6), (1, 6), (1, 4), (1, 4), (1, 30), (1, 30), (1, 30), (1, 30), (1, 30), (3, 30), (1, 2015), (1, 1000), (3, 31), (3, 3), (1, 30)]
def sw_s (i : Nat) : Nat × Nat := sw_sh.getD i (1, 0)
def sw_fk : List (List Nat) := [[3, 0, 0], [3, 4], [0, 0, 0, 3, 4, 5], [3, 5, 6], [0, 0, 0, 0, 0, 0, 0, 0, 0, 3, 4, 5, 6, 7, 8, 9], [3, 903, 0, 0, 0], [0, 3, 4, 5, 6, 7, 8, 9, 10, 0], [3, 0, 4, 0, 0, 0, 1, 0, 0, 0], [3, 0, 0, 0, 0, 0], [3, 902, 29, 31, 33, 36, 41, 50, 0, 0], [3, 0, 0, 0, 0, 0, 0, 0, 0, 1, 4, 5, 6, 7, 8, 9, 10, 0, 0, 0, 0, 0, 0, 0, 0, 0, 11, 12, 13, 14, 15, 16, 17, 0, 0, 0, 0, 0, 0, 0, 0, 0, 0, 0, 0, 0, 0, 0, 0, 18, 19, 20, 0, 0, 21, 22, 23, 0, 24, 25, 26, 27, 28, 29, 30, 31, 0, 0, 32, 33, 34, 35, 36]]
def sw_pl (n : Nat) : Nat := if n = 5 then 5 else 16
def sw_fv (σ : sw_M) (i k code : Nat) : Value := match code with
  | 0 => .int (σ.1 i k)
  | 1 => .long (σ.2.1 i k)
  | c + 2 => if c < 900 then .ref (i + c) else .ref (sw_pl (σ.2.2 (c - 900)))
def sw_fs (σ : sw_M) (i ci : Nat) : List Value := (sw_fk.getD ci []).zipIdx.map (fun q => sw_fv σ i q.2 q.1)
def sw_g (E : sw_E) : Value → Value
  | .ref i => .ref (E.1 i)
  | v => v
def sw_g2 (E : sw_E) (q : Nat × Value) : Nat × Value := (q.1, sw_g E q.2)
def sw_ce (E : sw_E) (σ : sw_M) (i : Nat) : va_E :=
  if (sw_s i).1 = 0 then .inr ((sw_s i).2, (sw_fs σ i (sw_s i).2).map (sw_g E))
  else if (sw_s i).1 = 4 then .inl (E.2.1 i, (sw_s i).2, .inr (.inl (σ.2.1 i)))
  else .inl (E.2.1 i, (sw_s i).2, .inl (σ.1 i))
def sw_wl (E : sw_E) (σ : sw_M) : va_W := (List.range 84).map fun i => (E.1 i, sw_ce E σ i)
def sw_tc : Nat → FieldType
  | 2 => .byte
  | 3 => .boolean
  | 4 => .long
  | _ => .int
def sw_ty (E : sw_E) : List (ClassId × FieldType) := (List.range 84).map fun i => (E.2.1 i, sw_tc (sw_s i).1)
abbrev sw_D (E : sw_E) : va_G := (E.2.2.1, E.2.2.2.1)
def sw_wA (σ : sw_M) (i : Nat) (f : Nat → Int32) : sw_M := (fun a => if a = i then f else σ.1 a, σ.2)
def sw_w (σ : sw_M) (i k : Nat) (x : Int32) : sw_M := sw_wA σ i (upd (σ.1 i) k x)
def sw_wL (σ : sw_M) (i k : Nat) (x : Int64) : sw_M := (σ.1, fun a => if a = i then vp_updL (σ.2.1 i) k x else σ.2.1 a, σ.2.2)
def sw_wP (σ : sw_M) (j r : Nat) : sw_M := (σ.1, σ.2.1, fun a => if a = j then r else σ.2.2 a)
theorem sw_wl_at (E : sw_E) (σ : sw_M) {i : Nat} (hi : i < 84) : (sw_wl E σ)[i]? = some (E.1 i, sw_ce E σ i) := by
  simp [sw_wl, hi]
theorem sw_ty_at (E : sw_E) {i : Nat} (hi : i < 84) : (sw_ty E)[i]? = some (E.2.1 i, sw_tc (sw_s i).1) := by
  simp [sw_ty, hi]
theorem sw_wl_set (E : sw_E) (σ σ' : sw_M) {i : Nat} {e : va_E} (he : sw_ce E σ' i = e) (ho : ∀ a, a ≠ i → sw_ce E σ' a = sw_ce E σ a) : (sw_wl E σ).set i (E.1 i, e) = sw_wl E σ' := by
  apply List.ext_getElem?
  intro j
  rw [List.getElem?_set]
  by_cases hj : j < 84
  · rw [sw_wl_at E σ' hj, sw_wl_at E σ hj]
    by_cases hij : i = j
    · subst hij
      have : i < (sw_wl E σ).length := by simp [sw_wl, hj]
      simp [this, he]
    · simp only [if_neg hij]
      rw [ho j (fun h => hij h.symm)]
  · have h1 : (sw_wl E σ)[j]? = none := by simp [sw_wl]; omega
    have h2 : (sw_wl E σ')[j]? = none := by simp [sw_wl]; omega
    have hl : (sw_wl E σ).length = 84 := by simp [sw_wl]
    rw [h1, h2]
    by_cases hij : i = j
    · subst hij
      simp [hl]; omega
    · simp [hij]
theorem sw_wl_D {E : sw_E} {A : Nat → Prop} {σ : sw_M} (σ' : sw_M) (h : va_D A (sw_wl E σ)) : va_D A (sw_wl E σ') := by
  have key : ∀ (k : Nat) (q : Nat × va_E), (sw_wl E σ')[k]? = some q → ∃ q0, (sw_wl E σ)[k]? = some q0 ∧ q0.1 = q.1 := by
    intro k q hq
    by_cases hk : k < 84
    · rw [sw_wl_at E σ' hk] at hq
      cases hq
      exact ⟨_, sw_wl_at E σ hk, rfl⟩
    · have : (sw_wl E σ')[k]? = none := by simp [sw_wl]; omega
      rw [this] at hq; cases hq
  refine ⟨fun i j p q hi hj hpq => ?_, fun k q hk => ?_⟩
  · obtain ⟨p0, h1, e1⟩ := key i p hi
    obtain ⟨q0, h2, e2⟩ := key j q hj
    exact h.1 i j p0 q0 h1 h2 (e1.trans (hpq.trans e2.symm))
  · obtain ⟨q0, h1, e1⟩ := key k q hk
    rw [← e1]; exact h.2 k q0 h1
theorem sw_wl_A (E : sw_E) (σ σ' : sw_M) (sz : Nat) : va_A (sw_wl E σ) sz = va_A (sw_wl E σ') sz := by
  have key : ∀ (τ τ' : sw_M) (q : Nat), (∃ (k : Nat) (e : va_E), (sw_wl E τ)[k]? = some (q, e)) → (∃ (k : Nat) (e : va_E), (sw_wl E τ')[k]? = some (q, e)) := by
    intro τ τ' q ⟨k, e, hk⟩
    by_cases h : k < 84
    · rw [sw_wl_at E τ h] at hk
      cases hk
      exact ⟨k, _, sw_wl_at E τ' h⟩
    · have : (sw_wl E τ)[k]? = none := by simp [sw_wl]; omega
      rw [this] at hk; cases hk
  funext q
  apply propext
  constructor
  · rintro (h | h)
    · exact Or.inl (key σ σ' q h)
    · exact Or.inr h
  · rintro (h | h)
    · exact Or.inl (key σ' σ q h)
    · exact Or.inr h
theorem sw_fs_len (σ : sw_M) (i ci : Nat) : (sw_fs σ i ci).length = (sw_fk.getD ci []).length := by simp [sw_fs]
theorem sw_fs_at (σ : sw_M) (i ci j : Nat) : (sw_fs σ i ci)[j]? = ((sw_fk.getD ci [])[j]?).map (fun c => sw_fv σ i j c) := by
  simp [sw_fs, List.getElem?_zipIdx, Function.comp_def]
theorem sw_fs_w (σ : sw_M) (i ci k : Nat) (x : Int32) (hk : (sw_fk.getD ci [])[k]? = some 0) : sw_fs (sw_w σ i k x) i ci = (sw_fs σ i ci).set k (.int x) := by
  apply List.ext_getElem?
  intro j
  have hl : k < (sw_fs σ i ci).length := by rw [sw_fs_len]; exact (List.getElem?_eq_some_iff.mp hk).1
  rw [List.getElem?_set, sw_fs_at, sw_fs_at]
  by_cases hkj : k = j
  · subst hkj
    simp only [hl, if_true]
    rw [hk]
    simp [sw_fv, sw_w, sw_wA, upd]
  · rw [if_neg hkj]
    cases h : (sw_fk.getD ci [])[j]? with
    | none => simp
    | some c =>
      simp only [Option.map_some]
      congr 1
      have hjk : ¬ j = k := fun e => hkj e.symm
      match c with
      | 0 => simp [sw_fv, sw_w, sw_wA, upd, hjk]
      | 1 => simp [sw_fv, sw_w, sw_wA]
      | c + 2 => simp [sw_fv, sw_w, sw_wA]
theorem sw_fs_wL (σ : sw_M) (i ci k : Nat) (x : Int64) (hk : (sw_fk.getD ci [])[k]? = some 1) : sw_fs (sw_wL σ i k x) i ci = (sw_fs σ i ci).set k (.long x) := by
  apply List.ext_getElem?
  intro j
  have hl : k < (sw_fs σ i ci).length := by rw [sw_fs_len]; exact (List.getElem?_eq_some_iff.mp hk).1
  rw [List.getElem?_set, sw_fs_at, sw_fs_at]
  by_cases hkj : k = j
  · subst hkj
    simp only [hl, if_true]
    rw [hk]
    simp [sw_fv, sw_wL, vp_updL]
  · rw [if_neg hkj]
    cases h : (sw_fk.getD ci [])[j]? with
    | none => simp
    | some c =>
      simp only [Option.map_some]
      congr 1
      have hjk : ¬ j = k := fun e => hkj e.symm
      match c with
      | 0 => simp [sw_fv, sw_wL]
      | 1 => simp [sw_fv, sw_wL, vp_updL, hjk]
      | c + 2 => simp [sw_fv, sw_wL]
theorem sw_fv_loc (σ σ' : sw_M) (i k c : Nat) (h1 : σ'.1 i = σ.1 i) (h2 : σ'.2.1 i = σ.2.1 i) (h3 : σ'.2.2 = σ.2.2) : sw_fv σ' i k c = sw_fv σ i k c := by
  match c with
  | 0 => simp [sw_fv, h1]
  | 1 => simp [sw_fv, h2]
  | c + 2 => simp [sw_fv, h3]
theorem sw_ce_loc (E : sw_E) (σ σ' : sw_M) (i : Nat) (h1 : σ'.1 i = σ.1 i) (h2 : σ'.2.1 i = σ.2.1 i) (h3 : σ'.2.2 = σ.2.2) : sw_ce E σ' i = sw_ce E σ i := by
  have hf : ∀ ci, sw_fs σ' i ci = sw_fs σ i ci := by
    intro ci
    simp only [sw_fs]
    congr 1
    funext q
    exact sw_fv_loc σ σ' i q.2 q.1 h1 h2 h3
  simp only [sw_ce, hf, h1, h2]
theorem sw_ce_wA (E : sw_E) (σ : sw_M) (i : Nat) (f : Nat → Int32) : ∀ a, a ≠ i → sw_ce E (sw_wA σ i f) a = sw_ce E σ a :=
  fun a h => sw_ce_loc E σ _ a (by simp [sw_wA, h]) rfl rfl
theorem sw_ce_wL (E : sw_E) (σ : sw_M) (i k : Nat) (x : Int64) : ∀ a, a ≠ i → sw_ce E (sw_wL σ i k x) a = sw_ce E σ a :=
  fun a h => sw_ce_loc E σ _ a rfl (by simp [sw_wL, h]) rfl
theorem sw_ce_o {E : sw_E} {σ : sw_M} {i ci : Nat} (h : sw_s i = (0, ci)) : sw_ce E σ i = .inr (ci, (sw_fs σ i ci).map (sw_g E)) := by
  simp [sw_ce, h]
theorem sw_ce_i {E : sw_E} {σ : sw_M} {i t n : Nat} (h : sw_s i = (t, n)) (h0 : t ≠ 0) (h4 : t ≠ 4) : sw_ce E σ i = .inl (E.2.1 i, n, .inl (σ.1 i)) := by
  simp [sw_ce, h, h0, h4]
theorem sw_ce_l {E : sw_E} {σ : sw_M} {i n : Nat} (h : sw_s i = (4, n)) : sw_ce E σ i = .inl (E.2.1 i, n, .inr (.inl (σ.2.1 i))) := by
  simp [sw_ce, h]
theorem sw_wA_self (σ : sw_M) (i : Nat) (f : Nat → Int32) : (sw_wA σ i f).1 i = f := by simp [sw_wA]
theorem sw_wL_self (σ : sw_M) (i k : Nat) (x : Int64) : (sw_wL σ i k x).2.1 i = vp_updL (σ.2.1 i) k x := by simp [sw_wL]
theorem sw_g_cat (E : sw_E) (v : Value) : (sw_g E v).category = v.category := by cases v <;> rfl
/-! the tables' words that a callee may be handed -/
def sw_T : List Cond := lw_tbl.filter goodWord
theorem sw_T_of {w : Cond} {i : Nat} (h : lw_tbl[i]? = some w) (hg : goodWord w = true) : w ∈ sw_T := List.mem_filter.mpr ⟨List.mem_of_getElem? h, hg⟩
theorem sw_T_good : ∀ w ∈ sw_T, (w.onTables && w.keeps) = true ∨ ∃ ty, w = .arrayClass ty := fun _ h => good_of_word (List.mem_filter.mp h).2
theorem sw_in0 : ∀ w ∈ u_ws RX0 TX0 3, w ∈ sw_T := by decide +kernel
theorem sw_in1 : ∀ w ∈ u_ws RX1 TX1 2, w ∈ sw_T := by decide +kernel
theorem sw_in2 : ∀ w ∈ u_ws RX2 TX2 6, w ∈ sw_T := by decide +kernel
theorem sw_in3 : ∀ w ∈ u_ws RX3 TX3 3, w ∈ sw_T := by decide +kernel
theorem sw_in4 : ∀ w ∈ u_ws RX4 TX4 16, w ∈ sw_T := by decide +kernel
theorem sw_in5 : ∀ w ∈ u_ws RX5 TX5 5, w ∈ sw_T := by decide +kernel
theorem sw_in6 : ∀ w ∈ u_ws RX6 TX6 10, w ∈ sw_T := by decide +kernel
theorem sw_in7 : ∀ w ∈ u_ws RX7 TX7 10, w ∈ sw_T := by decide +kernel
theorem sw_in8 : ∀ w ∈ u_ws RX8 TX8 6, w ∈ sw_T := by decide +kernel
theorem sw_in9 : ∀ w ∈ u_ws RX9 TX9 10, w ∈ sw_T := by decide +kernel
theorem sw_in10 : ∀ w ∈ u_ws RX10 TX10 73, w ∈ sw_T := by decide +kernel
