/-! the acts: keeping a row, the reference's side, and the relation -/
def lp (L u : Nat → Int32) (i k : Nat) : Nat → Int32 := fun q => if 10 * i ≤ q ∧ q < 10 * i + k then u (q - 10 * i) else L q
theorem lp_0 {L u : Nat → Int32} {i : Nat} : lp L u i 0 = L := by
  funext q
  rw [lp, if_neg (by omega)]
theorem lp_s {L u : Nat → Int32} {i k : Nat} : upd (lp L u i k) (10 * i + k) (u k) = lp L u i (k + 1) := by
  funext q
  simp only [upd, lp]
  by_cases e : q = 10 * i + k
  · rw [if_pos e, if_pos (by omega)]
    congr 1
    omega
  · rw [if_neg e]
    by_cases h : 10 * i ≤ q ∧ q < 10 * i + k
    · rw [if_pos h, if_pos (by omega)]
    · rw [if_neg h, if_neg (by omega)]
def sh (L : Nat → Int32) (k : Nat) : Nat → Int32 := fun q => if q < k then L (q + 10) else L q
theorem sh_0 {L : Nat → Int32} : sh L 0 = L := by
  funext q
  rw [sh, if_neg (by omega)]
theorem sh_s {L : Nat → Int32} {k : Nat} : upd (sh L k) k (L (k + 10)) = sh L (k + 1) := by
  funext q
  simp only [upd, sh]
  by_cases e : q = k
  · rw [if_pos e, if_pos (by omega), e]
  · rw [if_neg e]
    by_cases h : q < k
    · rw [if_pos h, if_pos (by omega)]
    · rw [if_neg h, if_neg (by omega)]
theorem upd_uu {v : Nat → Int32} {i : Nat} {x y : Int32} : upd (upd v i x) i y = upd v i y := by
  funext j
  simp only [upd]
  by_cases e : j = i
  · rw [if_pos e, if_pos e]
  · rw [if_neg e, if_neg e, if_neg e]
theorem mul10' (i : Nat) : (10 : Int32) * nI i = nI (10 * i) := by rw [lit_I, pk_mul]
theorem e_51 {σ : sw_M} {h : Nat} (h52 : σ.1 49 52 = nI h) (hh : h < 40) : fX10_act_L49 σ = some (sw_wA (sw_wA (sw_wA σ 67 (ls (σ.1 67) (σ.1 65) h)) 49 (upd (upd (σ.1 49) 52 (nI (h + 1))) 53 0)) 66 (v_mix 10 (σ.1 65) (σ.1 66))) := by
  have n49 : 49 ≠ 67 := by decide
  have n65 : 65 ≠ 67 := by decide
  unfold fX10_act_L49
  refine wh_runs (fun k => (nI k, sw_wA σ 67 (lp (σ.1 67) (σ.1 65) h k))) 10 (Prod.ext rfl (by show sw_wA σ 67 (lp (σ.1 67) (σ.1 65) h 0) = σ; rw [lp_0, m_self])) (fun k hk => ?_) ?_ (by decide)
  · show fX10_act_L51 (sw_wA σ 67 _) (nI k) = _
    have h10 : ¬ (10 : Int32) ≤ nI k := le_f hk (by decide)
    unfold fX10_act_L51
    rw [if_neg h10, sw_gd_t (in_t hk (by decide)), m_ne n49, h52, mul10', nI_add, sw_gd_t (in_t (show 10 * h + k < 400 by omega) (by decide)), let_s, let_s, nI_clamp (by omega), nI_clamp (by omega), m_ne n65, m_ww, lp_s, nI_1]
  · show fX10_act_L51 (sw_wA σ 67 _) (nI 10) = _
    have h10 : (10 : Int32) ≤ nI 10 := le_t 10 (by decide)
    unfold fX10_act_L51
    rw [if_pos h10, let_s, let_s, m_ne n49, h52, nI_1, m_w (σ := sw_wA σ 67 (lp (σ.1 67) (σ.1 65) h 10)), m_ne n49, m_ww, e_fill, b1_s, m_ne (show 65 ≠ 49 by decide), m_ne n65, m_ne (show 66 ≠ 49 by decide), m_ne (show 66 ≠ 67 by decide)]
    rfl
theorem e_act {σ : sw_M} {h : Nat} (h52 : σ.1 49 52 = nI h) (hh : h ≤ 40) : fX10_act σ = some (sw_wA (sw_wA (sw_wA σ 67 (if h < 40 then ls (σ.1 67) (σ.1 65) h else ls (sh (σ.1 67) 390) (σ.1 65) 39)) 49 (upd (upd (σ.1 49) 52 (nI (if h < 40 then h + 1 else 40))) 53 0)) 66 (v_mix 10 (σ.1 65) (σ.1 66))) := by
  have n49 : 49 ≠ 67 := by decide
  unfold fX10_act
  by_cases h40 : h < 40
  · rw [h52, if_neg (fun e => by have := (nI_eq (b := 40) (by omega) (by decide)).mp e; omega), if_pos h40, if_pos h40]
    exact e_51 h52 h40
  · have e40 : h = 40 := by omega
    rw [h52, if_pos (by rw [e40]; rfl), if_neg h40, if_neg h40]
    refine wh_runs (fun k => (nI k, sw_wA σ 67 (sh (σ.1 67) k))) 390 (Prod.ext rfl (by show sw_wA σ 67 (sh (σ.1 67) 0) = σ; rw [sh_0, m_self])) (fun k hk => ?_) ?_ (by decide)
    · show fX10_act_L11 (sw_wA σ 67 _) (nI k) = _
      have h10 : ¬ (390 : Int32) ≤ nI k := le_f hk (by decide)
      have ea : (10 : Int32) + nI k = nI (k + 10) := by rw [lit_I, nI_add, Nat.add_comm]
      have er : sh (σ.1 67) k (k + 10) = σ.1 67 (k + 10) := by rw [sh, if_neg (by omega)]
      unfold fX10_act_L11
      rw [if_neg h10, ea, sw_gd_t (in_t (show k + 10 < 400 by omega) (by decide)), sw_gd_t (in_t (show k < 400 by omega) (by decide)), let_s, let_s, nI_clamp (by omega), nI_clamp (by omega), m_eq, er, m_ww, sh_s, nI_1]
    · show fX10_act_L11 (sw_wA σ 67 _) (nI 390) = _
      have h10 : (390 : Int32) ≤ nI 390 := le_t 390 (by decide)
      have em : nI h - 1 = nI 39 := by rw [e40]; exact nI_pred 39
      unfold fX10_act_L11
      rw [if_pos h10, let_s, m_ne n49, h52, em, m_w (σ := sw_wA σ 67 (sh (σ.1 67) 390)), m_ne n49]
      have key := e_51 (σ := sw_wA (sw_wA σ 67 (sh (σ.1 67) 390)) 49 (upd (σ.1 49) 52 (nI 39))) (h := 39) (by rw [m_eq, upd_e]) (by decide)
      rw [key, m_eq, upd_uu, m_ne (show 67 ≠ 49 by decide), m_eq, m_ne (show 65 ≠ 49 by decide), m_ne (show 65 ≠ 67 by decide), m_ne (show 66 ≠ 49 by decide), m_ne (show 66 ≠ 67 by decide), m_comm (show 49 ≠ 67 by decide), m_mm, m_mm]
      rfl
theorem ln_ls_e {L u : Nat → Int32} {i : Nat} : ln (ls L u i) i = ck u := by
  funext j
  simp only [ln, ls, ck]
  by_cases h : j < 10
  · rw [if_pos h, if_pos h, if_pos (by omega)]
    congr 1
    omega
  · rw [if_neg h, if_neg h]
theorem ln_ls_n {L u : Nat → Int32} {i k : Nat} (hk : k ≠ i) : ln (ls L u i) k = ln L k := by
  funext j
  simp only [ln, ls]
  by_cases h : j < 10
  · rw [if_pos h, if_pos h, if_neg (by omega)]
  · rw [if_neg h, if_neg h]
theorem ln_sh {L : Nat → Int32} {k : Nat} (hk : k < 39) : ln (sh L 390) k = ln L (k + 1) := by
  funext j
  simp only [ln, sh]
  by_cases h : j < 10
  · rw [if_pos h, if_pos h, if_pos (by omega)]
    congr 1
    omega
  · rw [if_neg h, if_neg h]
theorem ln_cpy {L : Nat → Int32} {k : Nat} (hk : k < 40) : ln (va_cpy L L 10 0 400) k = ln L (k + 1) := by
  funext j
  simp only [ln]
  by_cases h : j < 10
  · rw [if_pos h, if_pos h, pk_cpy_in (by omega) (by omega)]
    congr 1
    omega
  · rw [if_neg h, if_neg h]
theorem ck_pk {g f : Nat → Int32} : ck (pk g f) = pk g f := by
  funext j
  simp only [ck, pk]
  by_cases h : j < 10
  · rw [if_pos h]
  · rw [if_neg h, if_neg (by omega), if_neg h]
/-- the class's rows (30) and the reference's (67): h behind, l - h ahead -/
def acts (L M : Nat → Int32) (h l : Nat) : Prop := h ≤ l ∧ l ≤ 40 ∧ (∀ j, j < h → ln L j = ln M j) ∧ (∀ j, h ≤ j → j < l → ln L (j + 1) = ln M j)
theorem acts_keep {L M u w : Nat → Int32} {h l : Nat} (ha : acts L M h l) (hu : ck u = ck w) (hh : h < 40) : acts (ls L u h) (ls M w h) (h + 1) (h + 1) := by
  refine ⟨Nat.le_refl _, by omega, fun j hj => ?_, fun j h1 h2 => by omega⟩
  by_cases e : j = h
  · rw [e, ln_ls_e, ln_ls_e, hu]
  · rw [ln_ls_n e, ln_ls_n e]
    exact ha.2.2.1 j (by omega)
theorem acts_full {L M u w : Nat → Int32} {l : Nat} (ha : acts L M 40 l) (hu : ck u = ck w) : acts (ls (va_cpy L L 10 0 400) u 39) (ls (sh M 390) w 39) 40 40 := by
  refine ⟨Nat.le_refl _, Nat.le_refl _, fun j hj => ?_, fun j h1 h2 => by omega⟩
  by_cases e : j = 39
  · rw [e, ln_ls_e, ln_ls_e, hu]
  · rw [ln_ls_n e, ln_ls_n e, ln_cpy (by omega), ln_sh (by omega)]
    exact ha.2.2.1 (j + 1) (by omega)
