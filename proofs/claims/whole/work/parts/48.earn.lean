/-! a boiling in earnest -/
def pk (g f : Nat → Int32) : Nat → Int32 := fun j => if j < 5 then g j else if j < 10 then f (j - 4) else 0
def ck (f : Nat → Int32) : Nat → Int32 := fun j => if j < 10 then f j else 0
theorem pk_lo {g f : Nat → Int32} {j : Nat} (h : j < 5) : pk g f j = g j := by simp only [pk, h, if_true]
theorem pk_hi {g f : Nat → Int32} {i : Nat} (h : 1 ≤ i) (h2 : i ≤ 5) : pk g f (i + 4) = f i := by
  have a : ¬ i + 4 < 5 := by omega
  have b : i + 4 < 10 := by omega
  have c : i + 4 - 4 = i := by omega
  simp only [pk, a, b, c, if_true, if_false]
theorem ck_lo {f : Nat → Int32} {j : Nat} (h : j < 10) : ck f j = f j := by simp only [ck, h, if_true]
theorem pk_f {g f : Nat → Int32} {i : Nat} {x : Int32} (h : 1 ≤ i) (h2 : i ≤ 5) : pk g (upd f i x) = upd (pk g f) (i + 4) x := by
  funext j
  simp only [pk, upd]
  by_cases a : j < 5
  · have : ¬ j = i + 4 := by omega
    simp only [a, this, if_true, if_false]
  · by_cases b : j < 10
    · by_cases c : j = i + 4
      · have : j - 4 = i := by omega
        rw [if_neg a, if_pos b, if_pos this, if_pos c]
      · have : ¬ j - 4 = i := by omega
        simp only [a, b, c, this, if_true, if_false]
    · have : ¬ j = i + 4 := by omega
      simp only [a, b, this, if_false]
theorem ck_f {f : Nat → Int32} {i : Nat} {x : Int32} (h : i < 10) : ck (upd f i x) = upd (ck f) i x := by
  funext j
  simp only [ck, upd]
  by_cases b : j < 10
  · simp only [b, if_true]
  · have : ¬ j = i := by omega
    simp only [b, this, if_false]
theorem pk_mix {g f h : Nat → Int32} {K : Nat} (hK : K ≤ 5) : pk (v_mix K h g) f = v_mix K h (pk g f) := by
  funext j
  simp only [pk, v_mix]
  by_cases a : j < K
  · have : j < 5 := by omega
    simp only [a, this, if_true]
  · simp only [a, if_false]
theorem ck_mix {f h : Nat → Int32} {K : Nat} (hK : K ≤ 10) : ck (v_mix K h f) = v_mix K h (ck f) := by
  funext j
  simp only [ck, v_mix]
  by_cases a : j < K
  · have : j < 10 := by omega
    simp only [a, this, if_true]
  · simp only [a, if_false]
theorem pk_boil {ρ g f : Nat → Int32} {K R : Nat} (hρ : ok_ρ ρ K R) (hK : K ≤ 5) : pk (v_boil ρ R g) f = v_boil ρ R (pk g f) := by
  funext j
  by_cases a : j < 5
  · rw [pk_lo a]
    exact v_boil_cg hρ hK hK (fun _ _ _ _ => rfl) (fun i hi => (pk_lo hi).symm) (Nat.le_refl R) j a
  · rw [v_boil_hi hρ hK (by omega) (Nat.le_refl R)]
    simp only [pk, a, if_false]
theorem ck_boil {ρ f : Nat → Int32} {K R : Nat} (hρ : ok_ρ ρ K R) (hK : K ≤ 5) : ck (v_boil ρ R f) = v_boil ρ R (ck f) := by
  funext j
  by_cases a : j < 10
  · rw [ck_lo a]
    exact v_boil_cg hρ hK (by omega) (fun _ _ _ _ => rfl) (fun i hi => (ck_lo hi).symm) (Nat.le_refl R) j a
  · rw [v_boil_hi hρ hK (by omega) (Nat.le_refl R)]
    simp only [ck, a, if_false]
/-- a vat put into the memory -/
def vt (σ : sw_M) (V : Nat) (f g : Nat → Int32) : sw_M := sw_wA (sw_wA σ V f) (V + 1) g
section VT
variable {σ : sw_M} {V i k : Nat} {f g f' g' h : Nat → Int32} {x : Int32}
theorem m_comm {j : Nat} (hij : i ≠ j) : sw_wA (sw_wA σ i f) j g = sw_wA (sw_wA σ j g) i f := by
  simp only [sw_wA]
  refine Prod.ext ?_ rfl
  funext a
  by_cases h1 : a = j
  · have : ¬ a = i := fun e => hij (e.symm.trans h1)
    simp [h1, this]
    intro e
    exact absurd e.symm hij
  · simp [h1]
theorem vt_0 : (vt σ V f g).1 V = f := by rw [vt, m_ne (by omega), m_eq]
theorem vt_1 : (vt σ V f g).1 (V + 1) = g := by rw [vt, m_eq]
theorem vt_ne (h1 : i ≠ V) (h2 : i ≠ V + 1) : (vt σ V f g).1 i = σ.1 i := by rw [vt, m_ne h2, m_ne h1]
theorem vt_self : vt σ V (σ.1 V) (σ.1 (V + 1)) = σ := by
  have : (sw_wA σ V (σ.1 V)).1 (V + 1) = σ.1 (V + 1) := m_ne (by omega)
  rw [vt, ← this, m_self, m_self]
theorem vt_w0 : sw_w (vt σ V f g) V k x = vt σ V (upd f k x) g := by
  rw [m_w, vt_0, vt, m_comm (by omega), m_mm]
  rfl
theorem vt_a1 : sw_wA (vt σ V f g) (V + 1) g' = vt σ V f g' := by rw [vt, m_mm]; rfl
theorem vt_out (h1 : i ≠ V) (h2 : i ≠ V + 1) : sw_wA (vt σ V f g) i h = vt (sw_wA σ i h) V f g := by
  rw [vt, m_comm (Ne.symm h2), m_comm (Ne.symm h1)]
  rfl
end VT
def v_seed (u : Nat → Int32) : Int32 := (u 9 * 137 + 71) - (u 9 * 137 + 71) / 1000 * 1000
def v_skim (K : Nat) (scum : Int32) (u : Nat → Int32) : Nat → Int32 :=
  if (v_seed u - v_seed u / 100 * 100) < scum then v_mix K (fun j => fX10_greater 0 (u j - 1)) (upd u 9 (v_seed u)) else upd u 9 (v_seed u)
def v_day (u : Nat → Int32) : Nat → Int32 := upd u 8 (u 8 + 1)
def v_out (n : Nat) (r : Int32) (u : Nat → Int32) : Nat → Int32 := if r = 0 then u else upd (v_mix n (fun _ => 0) u) 7 (u 7 + 1)
theorem isV_s {V : Nat} (hV : sw_isV V) : (sw_s (V + 1)).2 = 5 := by rcases hV with rfl | rfl <;> rfl
theorem isPV {P V : Nat} (hP : sw_isP P) (hV : sw_isV V) : P + 10 < V := by rcases hP with rfl | rfl <;> rcases hV with rfl | rfl <;> decide
theorem c_skim {σ : sw_M} {P V K : Nat} {f g : Nat → Int32} (hP : sw_isP P) (hV : sw_isV V) (hKm : σ.1 P 0 = nI K) (hK : K ≤ 5) :
    ∃ f' g', fX4_drawScum P V (vt σ V f g) = some (vt σ V f' g') ∧ pk g' f' = v_skim K (σ.1 P 4) (pk g f) := by
  have hPV := isPV hP hV
  have n0 : P ≠ V := by omega
  have n1 : P ≠ V + 1 := by omega
  have e9 : pk g f 9 = f 5 := pk_hi (i := 5) (by decide) (by decide)
  have es : v_seed (pk g f) = (f 5 * 137 + 71) - (f 5 * 137 + 71) / 1000 * 1000 := by rw [v_seed, e9]
  unfold fX4_drawScum
  rw [vt_0, vt_w0, ← es]
  simp only [sw_let]
  rw [vt_0, vt_ne n0 n1]
  have eu : upd f 5 (v_seed (pk g f)) 5 = v_seed (pk g f) := by simp [upd]
  rw [eu]
  by_cases h : (v_seed (pk g f) - v_seed (pk g f) / 100 * 100) < σ.1 P 4
  · rw [if_pos h]
    refine ⟨upd f 5 (v_seed (pk g f)), v_mix K (fun j => fX10_greater 0 (g j - 1)) g, ?_, ?_⟩
    · refine wh_map (b := fun s : Int32 × sw_M => fX4_drawScum_L36 P V s.2 s.1) (vt σ V (upd f 5 (v_seed (pk g f))) g) (V + 1) (fun j => fX10_greater 0 (g j - 1)) K (fun k hk => ?_) ?_ (by omega)
      · rw [vt_1, vt_a1, vt_a1]
        have hk2 : k < 2 ^ 31 := by omega
        show fX4_drawScum_L36 P V (vt σ V _ _) (nI k) = _
        unfold fX4_drawScum_L36
        rw [vt_ne n0 n1, hKm, if_neg (le_f hk (by omega)), sw_gd_t (in_t (show k < 5 by omega) (by decide)), sw_gd_t (in_t (show k < 5 by omega) (by decide)), nI_clamp hk2, vt_1, v_mixk, max_greater, m_w, vt_1, vt_a1]
        simp only [sw_let, nI_1]
      · rw [vt_1, vt_a1]
        show fX4_drawScum_L36 P V (vt σ V _ _) (nI K) = _
        unfold fX4_drawScum_L36
        rw [vt_ne n0 n1, hKm, if_pos (le_t K (by omega))]
    · rw [v_skim, if_pos h, pk_mix hK, pk_f (by decide) (by decide)]
      funext j
      simp only [v_mix]
      by_cases hj : j < K
      · rw [if_pos hj, if_pos hj, pk_lo (by omega)]
      · rw [if_neg hj, if_neg hj]
  · rw [if_neg h]
    refine ⟨_, _, rfl, ?_⟩
    rw [v_skim, if_neg h, pk_f (by decide) (by decide)]
theorem c_zero {σ : sw_M} {V : Nat} {f g : Nat → Int32} (hV : sw_isV V) : fJ7_fill_53178 (V + 1) (vt σ V f g) 0 = some (vt σ V f (v_mix 5 (fun _ => 0) g)) := by
  unfold fJ7_fill_53178
  simp only [sw_let]
  refine wh_map (b := fun s : Int32 × sw_M => fJ7_fill_53178_L5 (V + 1) s.2 0 s.1 (Int32.ofNat (sw_s (V + 1)).2)) (vt σ V f g) (V + 1) (fun _ => 0) 5 (fun k hk => ?_) ?_ (by decide)
  · rw [vt_1, vt_a1, vt_a1, isV_s hV]
    have hk2 : k < 2 ^ 31 := by omega
    show fJ7_fill_53178_L5 (V + 1) (vt σ V _ _) 0 (nI k) (nI 5) = _
    unfold fJ7_fill_53178_L5
    rw [if_neg (le_f hk (by decide)), isV_s hV, sw_gd_t (in_t hk (by decide)), nI_clamp hk2, m_w, vt_1, vt_a1]
    simp only [sw_let, nI_1]
  · rw [vt_1, vt_a1, isV_s hV]
    show fJ7_fill_53178_L5 (V + 1) (vt σ V _ _) 0 (nI 5) (nI 5) = _
    unfold fJ7_fill_53178_L5
    rw [if_pos (le_t 5 (by decide))]
