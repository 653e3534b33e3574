/-! the reference takes over what it has read -/
section PU
variable {σ τ : sw_M}
theorem mul4 : ∀ R, R ≤ 6 → 4 * nI R = nI (4 * R) := by decide
theorem mul5 : ∀ N, N ≤ 7 → 5 * nI N = nI (5 * N) := by decide
theorem w280 : sw_wh sw_F (fun s : Int32 × sw_M => fX10_works_L280 s.2 s.1) (0, σ) = some (σ.1 49 41, sw_wA σ 82 (v_mix 3 (fun _ => 0) (σ.1 82))) := by
  refine wh_map (b := fun s : Int32 × sw_M => fX10_works_L280 s.2 s.1) σ 82 (fun _ => 0) 3 (fun k hk => ?_) ?_ (by decide)
  · show fX10_works_L280 (sw_wA σ 82 (v_mix k (fun _ => 0) (σ.1 82))) (nI k) = _
    rw [fX10_works_L280, show (3 : Int32) = nI 3 from rfl, if_neg (le_f hk (by decide)), sw_gd_t (in_t hk (by decide)), let_s, let_s, nI_1, nI_clamp (by omega), m_ww]
    rfl
  · show fX10_works_L280 (sw_wA σ 82 (v_mix 3 (fun _ => 0) (σ.1 82))) (nI 3) = _
    rw [fX10_works_L280, if_pos (by decide), m_ne (by decide)]
theorem w228 : ∃ υ, sw_wh sw_F (fun s : Int32 × sw_M => fX10_works_L228 s.2 s.1) (0, σ) = some (σ.1 49 41, υ) ∧ υ.2 = σ.2 ∧ (∀ a, a ≠ 49 → a ≠ 65 → a ≠ 82 → υ.1 a = σ.1 a) ∧ (∀ k, k < 9 → υ.1 65 k = 0) ∧ υ.1 65 9 = σ.1 49 39 ∧ (∀ i, i < 3 → υ.1 82 i = 0) ∧ (υ.1 49 52 = 0 ∧ υ.1 49 53 = 0 ∧ υ.1 49 66 = 0 ∧ υ.1 49 57 = 0) ∧ ∀ k, k ≠ 52 → k ≠ 53 → k ≠ 66 → k ≠ 57 → υ.1 49 k = σ.1 49 k := by
  obtain ⟨ma, hma⟩ : ∃ m, m = sw_wA σ 65 (v_mix 10 (fun _ => 0) (σ.1 65)) := ⟨_, rfl⟩
  obtain ⟨mb, hmb⟩ : ∃ m, m = sw_w (sw_w (sw_w (sw_w (sw_w ma 65 9 (ma.1 49 39)) 49 52 0) 49 53 0) 49 66 0) 49 57 0 := ⟨_, rfl⟩
  have a49 : ma.1 49 = σ.1 49 := by rw [hma, m_ne (by decide)]
  have G : mb.1 49 = upd (upd (upd (upd (σ.1 49) 52 0) 53 0) 66 0) 57 0 := by
    rw [hmb, w_at, w_at, w_at, w_at, m_wne (by decide), a49]
  have G65 : mb.1 65 = upd (v_mix 10 (fun _ => 0) (σ.1 65)) 9 (σ.1 49 39) := by
    rw [hmb, m_wne (by decide), m_wne (by decide), m_wne (by decide), m_wne (by decide), w_at, a49, hma, m_eq]
  have o : ∀ a, a ≠ 49 → a ≠ 65 → mb.1 a = σ.1 a := fun a x y => by rw [hmb, m_wne x, m_wne x, m_wne x, m_wne x, m_wne y, hma, m_ne y]
  have l : mb.2 = σ.2 := by rw [hmb, hma]; rfl
  refine ⟨sw_wA mb 82 (v_mix 3 (fun _ => 0) (mb.1 82)), ?_, l, fun a a1 a2 a3 => by rw [m_ne a3]; exact o a a1 a2, fun k hk => ?_, ?_, fun i hi => by rw [m_eq, vmx hi], ?_, fun k a1 a2 a3 a4 => ?_⟩
  · have e41 : mb.1 49 41 = σ.1 49 41 := by rw [G]; rfl
    rw [← e41]
    refine wh_map (b := fun s : Int32 × sw_M => fX10_works_L228 s.2 s.1) σ 65 (fun _ => 0) 10 (fun k hk => ?_) ?_ (by decide)
    · show fX10_works_L228 (sw_wA σ 65 (v_mix k (fun _ => 0) (σ.1 65))) (nI k) = _
      rw [fX10_works_L228, show (10 : Int32) = nI 10 from rfl, if_neg (le_f hk (by decide)), sw_gd_t (in_t hk (by decide)), let_s, let_s, nI_1, nI_clamp (by omega), m_ww]
    · show fX10_works_L228 (sw_wA σ 65 (v_mix 10 (fun _ => 0) (σ.1 65))) (nI 10) = _
      rw [← hma, fX10_works_L228, if_pos (by decide), let_s, let_s, let_s, let_s, let_s, ← hmb, w280]
      rfl
  · rw [m_ne (by decide), G65, upd_n (by omega), vmx (by omega)]
  · rw [m_ne (by decide), G65, upd_e]
  · rw [m_ne (by decide), G]
    exact ⟨rfl, rfl, rfl, rfl⟩
  · rw [m_ne (by decide), G, upd_n a4, upd_n a3, upd_n a2, upd_n a1]
theorem w198 {R : Nat} (hR : σ.1 49 43 = nI R) (h6 : R ≤ 6) : sw_wh sw_F (fun s : Int32 × sw_M => fX10_works_L198 s.2 s.1) (0, σ) = sw_wh sw_F (fun s : Int32 × sw_M => fX10_works_L228 s.2 s.1) (0, sw_wA σ 64 (v_mix (4 * R) (σ.1 61) (σ.1 64))) := by
  obtain ⟨υ, hυ, _⟩ := w228 (σ := sw_wA σ 64 (v_mix (4 * R) (σ.1 61) (σ.1 64)))
  rw [hυ]
  have e43 : ∀ f, (sw_wA σ 64 f).1 49 43 = nI R := fun f => by rw [m_ne (by decide)]; exact hR
  refine wh_map (b := fun s : Int32 × sw_M => fX10_works_L198 s.2 s.1) σ 64 (σ.1 61) (4 * R) (fun k hk => ?_) ?_ (by omega)
  · show fX10_works_L198 (sw_wA σ 64 (v_mix k (σ.1 61) (σ.1 64))) (nI k) = _
    rw [fX10_works_L198, e43, mul4 R h6, if_neg (le_f hk (by omega)), sw_gd_t (in_t (show k < 24 by omega) (by decide)), sw_gd_t (in_t (show k < 24 by omega) (by decide)), let_s, let_s, nI_1, nI_clamp (by omega), m_ne (by decide), m_ww]
  · show fX10_works_L198 (sw_wA σ 64 (v_mix (4 * R) (σ.1 61) (σ.1 64))) (nI (4 * R)) = _
    rw [fX10_works_L198, e43, mul4 R h6, if_pos (le_t _ (by omega)), hυ]
    rfl
theorem w168 {R Bn : Nat} (hR : σ.1 49 43 = nI R) (h6 : R ≤ 6) (hB : σ.1 49 42 = nI Bn) (h4 : Bn ≤ 4) : sw_wh sw_F (fun s : Int32 × sw_M => fX10_works_L168 s.2 s.1) (0, σ) = sw_wh sw_F (fun s : Int32 × sw_M => fX10_works_L198 s.2 s.1) (0, sw_wA σ 63 (v_mix (5 * Bn) (σ.1 60) (σ.1 63))) := by
  have hw := w198 (σ := sw_wA σ 63 (v_mix (5 * Bn) (σ.1 60) (σ.1 63))) (R := R) (by rw [m_ne (by decide)]; exact hR) h6
  obtain ⟨υ, hυ, _⟩ := w228 (σ := sw_wA (sw_wA σ 63 (v_mix (5 * Bn) (σ.1 60) (σ.1 63))) 64 (v_mix (4 * R) ((sw_wA σ 63 (v_mix (5 * Bn) (σ.1 60) (σ.1 63))).1 61) ((sw_wA σ 63 (v_mix (5 * Bn) (σ.1 60) (σ.1 63))).1 64)))
  rw [hυ] at hw
  rw [hw]
  have e42 : ∀ f, (sw_wA σ 63 f).1 49 42 = nI Bn := fun f => by rw [m_ne (by decide)]; exact hB
  refine wh_map (b := fun s : Int32 × sw_M => fX10_works_L168 s.2 s.1) σ 63 (σ.1 60) (5 * Bn) (fun k hk => ?_) ?_ (by omega)
  · show fX10_works_L168 (sw_wA σ 63 (v_mix k (σ.1 60) (σ.1 63))) (nI k) = _
    rw [fX10_works_L168, e42, mul5 Bn (by omega), if_neg (le_f hk (by omega)), sw_gd_t (in_t (show k < 20 by omega) (by decide)), sw_gd_t (in_t (show k < 20 by omega) (by decide)), let_s, let_s, nI_1, nI_clamp (by omega), m_ne (by decide), m_ww]
  · show fX10_works_L168 (sw_wA σ 63 (v_mix (5 * Bn) (σ.1 60) (σ.1 63))) (nI (5 * Bn)) = _
    rw [fX10_works_L168, e42, mul5 Bn (by omega), if_pos (le_t _ (by omega)), hw]
    rfl
/-- what is taken over, told by its cells -/
def tk5 (σ υ : sw_M) (N R Bn : Nat) : Prop := υ.2 = σ.2 ∧ (∀ a, a ≠ 49 → a ≠ 65 → a ≠ 82 → a ≠ 62 → a ≠ 63 → a ≠ 64 → υ.1 a = σ.1 a) ∧ (∀ k, k < 9 → υ.1 65 k = 0) ∧ υ.1 65 9 = σ.1 49 39 ∧ (∀ i, i < 3 → υ.1 82 i = 0) ∧ (υ.1 49 52 = 0 ∧ υ.1 49 53 = 0 ∧ υ.1 49 66 = 0 ∧ υ.1 49 57 = 0) ∧ (∀ k, k ≠ 52 → k ≠ 53 → k ≠ 66 → k ≠ 57 → υ.1 49 k = σ.1 49 k) ∧ (∀ q, q < 5 * N → υ.1 62 q = σ.1 59 q) ∧ (∀ q, q < 5 * Bn → υ.1 63 q = σ.1 60 q) ∧ (∀ q, q < 4 * R → υ.1 64 q = σ.1 61 q)
theorem w138 {N R Bn : Nat} (hN : σ.1 49 41 = nI N) (h7 : N ≤ 7) (hR : σ.1 49 43 = nI R) (h6 : R ≤ 6) (hB : σ.1 49 42 = nI Bn) (h4 : Bn ≤ 4) : ∃ υ, sw_wh sw_F (fun s : Int32 × sw_M => fX10_works_L138 s.2 s.1) (0, σ) = some (nI N, υ) ∧ tk5 σ υ N R Bn := by
  obtain ⟨ma, hma⟩ : ∃ m, m = sw_wA σ 62 (v_mix (5 * N) (σ.1 59) (σ.1 62)) := ⟨_, rfl⟩
  have oa : ∀ a, a ≠ 62 → ma.1 a = σ.1 a := fun a x => by rw [hma, m_ne x]
  obtain ⟨mb, hmb⟩ : ∃ m, m = sw_wA ma 63 (v_mix (5 * Bn) (ma.1 60) (ma.1 63)) := ⟨_, rfl⟩
  have ob : ∀ a, a ≠ 63 → mb.1 a = ma.1 a := fun a x => by rw [hmb, m_ne x]
  obtain ⟨mc, hmc⟩ : ∃ m, m = sw_wA mb 64 (v_mix (4 * R) (mb.1 61) (mb.1 64)) := ⟨_, rfl⟩
  have oc : ∀ a, a ≠ 64 → mc.1 a = mb.1 a := fun a x => by rw [hmc, m_ne x]
  have hw := w168 (σ := ma) (R := R) (Bn := Bn) (by rw [oa 49 (by decide)]; exact hR) h6 (by rw [oa 49 (by decide)]; exact hB) h4
  have hw2 := w198 (σ := mb) (R := R) (by rw [ob 49 (by decide), oa 49 (by decide)]; exact hR) h6
  rw [← hmb] at hw
  rw [← hmc] at hw2
  obtain ⟨υ, hυ, u2, u3, u4, u5, u6, u7, u8⟩ := w228 (σ := mc)
  have c49 : mc.1 49 = σ.1 49 := by rw [oc 49 (by decide), ob 49 (by decide), oa 49 (by decide)]
  rw [c49] at hυ u5 u8
  rw [hN] at hυ
  rw [hw2, hυ] at hw
  refine ⟨υ, ?_, ?_, fun a a1 a2 a3 a4 a5 a6 => by rw [u3 a a1 a2 a3, oc a a6, ob a a5, oa a a4], u4, u5, u6, u7, u8, fun q hq => ?_, fun q hq => ?_, fun q hq => ?_⟩
  · have e41 : ∀ f, (sw_wA σ 62 f).1 49 41 = nI N := fun f => by rw [m_ne (by decide)]; exact hN
    refine wh_map (b := fun s : Int32 × sw_M => fX10_works_L138 s.2 s.1) σ 62 (σ.1 59) (5 * N) (fun k hk => ?_) ?_ (by omega)
    · show fX10_works_L138 (sw_wA σ 62 (v_mix k (σ.1 59) (σ.1 62))) (nI k) = _
      rw [fX10_works_L138, e41, mul5 N h7, if_neg (le_f hk (by omega)), sw_gd_t (in_t (show k < 35 by omega) (by decide)), sw_gd_t (in_t (show k < 35 by omega) (by decide)), let_s, let_s, nI_1, nI_clamp (by omega), m_ne (by decide), m_ww]
    · show fX10_works_L138 (sw_wA σ 62 (v_mix (5 * N) (σ.1 59) (σ.1 62))) (nI (5 * N)) = _
      rw [fX10_works_L138, e41, mul5 N h7, if_pos (le_t _ (by omega)), ← hma, hw]
      rfl
  · rw [u2, hmc, hmb, hma]; rfl
  · rw [u3 62 (by decide) (by decide) (by decide), oc 62 (by decide), ob 62 (by decide), hma, m_eq, vmx hq]
  · rw [u3 63 (by decide) (by decide) (by decide), oc 63 (by decide), hmb, m_eq, vmx hq, oa 60 (by decide)]
  · rw [u3 64 (by decide) (by decide) (by decide), hmc, m_eq, vmx hq, ob 61 (by decide), oa 61 (by decide)]
theorem w98 {z N R Bn : Nat} (hz : σ.1 49 18 = nI z) (hz2 : z ≤ 320) (hN : σ.1 49 41 = nI N) (h7 : N ≤ 7) (hR : σ.1 49 43 = nI R) (h6 : R ≤ 6) (hB : σ.1 49 42 = nI Bn) (h4 : Bn ≤ 4) : ∃ υ m, sw_wh sw_F (fun s : Int32 × sw_M => fX10_works_L98 s.2 s.1) (0, σ) = some (nI N, υ) ∧ tk5 m υ N R Bn ∧ m.2 = σ.2 ∧ (∀ a, a ≠ 54 → a ≠ 55 → m.1 a = σ.1 a) ∧ ∀ k, k < z → m.1 54 k = σ.1 52 k ∧ m.1 55 k = σ.1 53 k := by
  obtain ⟨m, hm⟩ : ∃ m, m = sw_wA (sw_wA σ 54 (v_mix z (σ.1 52) (σ.1 54))) 55 (v_mix z (σ.1 53) (σ.1 55)) := ⟨_, rfl⟩
  have o : ∀ a, a ≠ 54 → a ≠ 55 → m.1 a = σ.1 a := fun a x y => by rw [hm, m_ne y, m_ne x]
  obtain ⟨υ, hυ, ht⟩ := w138 (σ := m) (N := N) (R := R) (Bn := Bn) (by rw [o 49 (by decide) (by decide)]; exact hN) h7 (by rw [o 49 (by decide) (by decide)]; exact hR) h6 (by rw [o 49 (by decide) (by decide)]; exact hB) h4
  refine ⟨υ, m, ?_, ht, by rw [hm]; rfl, o, fun k hk => ⟨by rw [hm, m_ne (by decide), m_eq, vmx hk], by rw [hm, m_eq, vmx hk]⟩⟩
  have e18 : ∀ f g, (sw_wA (sw_wA σ 54 f) 55 g).1 49 18 = nI z := fun f g => by rw [m_ne (by decide), m_ne (by decide)]; exact hz
  refine wh_runs (b := fun s : Int32 × sw_M => fX10_works_L98 s.2 s.1) (fun k => (nI k, sw_wA (sw_wA σ 54 (v_mix k (σ.1 52) (σ.1 54))) 55 (v_mix k (σ.1 53) (σ.1 55)))) z ?_ (fun k hk => ?_) ?_ (by omega)
  · show (nI 0, sw_wA (sw_wA σ 54 (v_mix 0 (σ.1 52) (σ.1 54))) 55 (v_mix 0 (σ.1 53) (σ.1 55))) = (0, σ)
    rw [v_mix0, v_mix0, m_self]
    have e55 : sw_wA σ 55 (σ.1 55) = σ := m_self
    rw [e55]
    rfl
  · show fX10_works_L98 (sw_wA (sw_wA σ 54 (v_mix k (σ.1 52) (σ.1 54))) 55 (v_mix k (σ.1 53) (σ.1 55))) (nI k) = _
    rw [fX10_works_L98, e18, if_neg (le_f hk (by omega)), sw_gd_t (in_t (show k < 320 by omega) (by decide)), sw_gd_t (in_t (show k < 320 by omega) (by decide)), let_s, sw_gd_t (in_t (show k < 320 by omega) (by decide)), sw_gd_t (in_t (show k < 320 by omega) (by decide)), let_s, let_s, nI_1, nI_clamp (by omega)]
    have x1 : ∀ f g x, sw_w (sw_wA (sw_wA σ 54 f) 55 g) 54 k x = sw_wA (sw_wA σ 54 (upd f k x)) 55 g := fun f g x => by rw [m_comm (i := 54) (j := 55) (by decide), m_ww, m_comm (i := 55) (j := 54) (by decide)]
    have v1 : ∀ f g, (sw_wA (sw_wA σ 54 f) 55 g).1 52 k = σ.1 52 k := fun f g => by rw [m_ne (by decide), m_ne (by decide)]
    have v2 : ∀ f g, (sw_wA (sw_wA σ 54 f) 55 g).1 53 k = σ.1 53 k := fun f g => by rw [m_ne (by decide), m_ne (by decide)]
    rw [v1, x1, v2, m_ww, v_mixS, v_mixS]
  · show fX10_works_L98 (sw_wA (sw_wA σ 54 (v_mix z (σ.1 52) (σ.1 54))) 55 (v_mix z (σ.1 53) (σ.1 55))) (nI z) = _
    rw [fX10_works_L98, e18, if_pos (le_t _ (by omega)), ← hm, hυ]
    rfl
theorem c_for {σ : sw_M} : fX1_forget σ = some (sw_wA σ 32 (v_mix 3 (fun _ => 0) (σ.1 32))) := by
  refine wh_map (b := fun s : Int32 × sw_M => fX1_forget_L2 s.2 s.1) σ 32 (fun _ => 0) 3 (fun k hk => ?_) ?_ (by decide)
  · show fX1_forget_L2 (sw_wA σ 32 (v_mix k (fun _ => 0) (σ.1 32))) (nI k) = _
    rw [fX1_forget_L2, show (3 : Int32) = nI 3 from rfl, if_neg (le_f hk (by decide)), sw_gd_t (in_t hk (by decide)), let_s, let_s, nI_1, nI_clamp (by omega), m_ww]
    rfl
  · show fX1_forget_L2 (sw_wA σ 32 (v_mix 3 (fun _ => 0) (σ.1 32))) (nI 3) = _
    rw [fX1_forget_L2, if_pos (by decide)]
/-- the class takes over what it has read -/
theorem c_46 {Q : Nat} (hP : sw_isP Q) (hQ : sw_pl (σ.2.2 1) = Q) : ∃ υ, fX9_works_L46 σ 1 = some (σ.1 Q 1, υ) ∧ υ.2.1 = σ.2.1 ∧ (sw_pl (υ.2.2 0) = Q ∧ sw_pl (υ.2.2 1) = sw_pl (σ.2.2 0)) ∧ (∀ a, a ≠ 0 → a ≠ 2 → a ≠ 27 → a ≠ 28 → a ≠ 29 → a ≠ 32 → a ≠ 39 → υ.1 a = σ.1 a) ∧ υ.1 2 1 = 0 ∧ (∀ k, k < 5 → υ.1 28 k = 0) ∧ (∀ k, 1 ≤ k → k ≤ 4 → υ.1 27 k = 0) ∧ υ.1 27 5 = σ.1 Q 5 ∧ (υ.1 29 1 = 0 ∧ υ.1 29 2 = 0) ∧ (∀ i, i < 3 → υ.1 32 i = 0) ∧ (υ.1 39 0 = 0 ∧ υ.1 39 9 = 0) ∧ υ.1 0 8 = 0 ∧ υ.1 0 9 = σ.1 0 9 := by
  obtain ⟨P, hPd⟩ : ∃ P, P = sw_pl (σ.2.2 0) := ⟨_, rfl⟩
  have hPP : sw_isP P := by rw [hPd]; exact sw_pl_P _
  obtain ⟨m6, h6⟩ : ∃ m, m = sw_wP (sw_wP (sw_w σ 2 1 0) 0 Q) 1 P := ⟨_, rfl⟩
  have o6 : ∀ a, a ≠ 2 → m6.1 a = σ.1 a := fun a x => by
    rw [h6]
    show (sw_w σ 2 1 0).1 a = σ.1 a
    exact m_wne x
  have e62 : m6.1 2 = upd (σ.1 2) 1 0 := by
    rw [h6]
    show (sw_w σ 2 1 0).1 2 = _
    rw [w_at]
  have r0 : m6.2.2 0 = Q := by rw [h6]; rfl
  have r1 : m6.2.2 1 = P := by rw [h6]; rfl
  have hQ2 : Q ≠ 2 ∧ Q ≠ 0 ∧ Q ≠ 27 ∧ Q ≠ 28 ∧ Q ≠ 29 ∧ Q ≠ 32 ∧ Q ≠ 39 := by rcases hP with rfl | rfl <;> decide
  obtain ⟨m7, h7⟩ : ∃ m, m = sw_wA m6 28 (v_mix 5 (fun _ => 0) (m6.1 28)) := ⟨_, rfl⟩
  have o7 : ∀ a, a ≠ 28 → m7.1 a = m6.1 a := fun a x => by rw [h7, m_ne x]
  obtain ⟨m8, h8⟩ : ∃ m, m = sw_w (sw_w (sw_w (sw_w (sw_w m7 27 1 0) 27 2 0) 27 3 0) 27 4 0) 27 5 (m6.1 Q 5) := ⟨_, rfl⟩
  have o8 : ∀ a, a ≠ 27 → m8.1 a = m7.1 a := fun a x => by rw [h8, m_wne x, m_wne x, m_wne x, m_wne x, m_wne x]
  have F8 : m8.1 27 = upd (upd (upd (upd (upd (m7.1 27) 1 0) 2 0) 3 0) 4 0) 5 (m6.1 Q 5) := by rw [h8]; simp only [w_at]
  obtain ⟨m10, h10⟩ : ∃ m, m = sw_w (sw_w m8 29 1 0) 29 2 0 := ⟨_, rfl⟩
  have o10 : ∀ a, a ≠ 29 → m10.1 a = m8.1 a := fun a x => by rw [h10, m_wne x, m_wne x]
  have F10 : m10.1 29 = upd (upd (m8.1 29) 1 0) 2 0 := by rw [h10]; simp only [w_at]
  obtain ⟨m12, h12⟩ : ∃ m, m = sw_wA m10 32 (v_mix 3 (fun _ => 0) (m10.1 32)) := ⟨_, rfl⟩
  have o12 : ∀ a, a ≠ 32 → m12.1 a = m10.1 a := fun a x => by rw [h12, m_ne x]
  obtain ⟨m14, h14⟩ : ∃ m, m = sw_w (sw_w m12 39 0 0) 39 9 0 := ⟨_, rfl⟩
  have o14 : ∀ a, a ≠ 39 → m14.1 a = m12.1 a := fun a x => by rw [h14, m_wne x, m_wne x]
  have F14 : m14.1 39 = upd (upd (m12.1 39) 0 0) 9 0 := by rw [h14]; simp only [w_at]
  obtain ⟨m16, h16⟩ : ∃ m, m = sw_w m14 0 8 0 := ⟨_, rfl⟩
  have o16 : ∀ a, a ≠ 0 → m16.1 a = m14.1 a := fun a x => by rw [h16, m_wne x]
  have l16 : m16.2 = m6.2 := by rw [h16, h14, h12, h10, h8, h7]; rfl
  have s28 : (sw_s (27 + 1)).2 = 5 := rfl
  have pq0 : sw_pl (m16.2.2 0) = Q := by rw [l16, r0]; exact sw_pl_id hP
  have aQ : m16.1 Q = σ.1 Q := by rw [o16 Q hQ2.2.1, o14 Q hQ2.2.2.2.2.2.2, o12 Q hQ2.2.2.2.2.2.1, o10 Q hQ2.2.2.2.2.1, o8 Q hQ2.2.2.1, o7 Q hQ2.2.2.2.1, o6 Q hQ2.1]
  refine ⟨m16, ?_, by rw [l16, h6]; rfl, ⟨pq0, by rw [l16, r1, ← hPd]; exact sw_pl_id hPP⟩, fun a a0 a2 a27 a28 a29 a32 a39 => by rw [o16 a a0, o14 a a39, o12 a a32, o10 a a29, o8 a a27, o7 a a28, o6 a a2], ?_, fun k hk => ?_, fun k k1 k4 => ?_, ?_, ⟨?_, ?_⟩, fun i hi => ?_, ⟨?_, ?_⟩, ?_, ?_⟩
  · have e0 : sw_pl (m6.2.2 0) = Q := by rw [r0]; exact sw_pl_id hP
    have hd1 : sw_pl ((sw_w σ 2 1 0).2.2 1) = Q := hQ
    have hd0 : sw_pl ((sw_w σ 2 1 0).2.2 0) = P := hPd.symm
    rw [fX9_works_L46, let_s, if_neg i10, let_s, let_s, hd1, hd0, ← h6, e0, fX8_begin, c_fill s28 (by decide), b1_s, ← h7, let_s, let_s, let_s, let_s, let_s, ← h8, b1_s, fX0_forget, let_s, let_s, ← h10, b1_s, c_for, b1_s, ← h12, fX6_forget, let_s, let_s, ← h14, b1_s, let_s, ← h16, pq0, aQ]
  · rw [o16 2 (by decide), o14 2 (by decide), o12 2 (by decide), o10 2 (by decide), o8 2 (by decide), o7 2 (by decide), e62, upd_e]
  · rw [o16 28 (by decide), o14 28 (by decide), o12 28 (by decide), o10 28 (by decide), o8 28 (by decide), h7, m_eq, vmx hk]
  · rw [o16 27 (by decide), o14 27 (by decide), o12 27 (by decide), o10 27 (by decide), F8]
    rcases (show k = 1 ∨ k = 2 ∨ k = 3 ∨ k = 4 by omega) with rfl | rfl | rfl | rfl <;> rfl
  · rw [o16 27 (by decide), o14 27 (by decide), o12 27 (by decide), o10 27 (by decide), F8, upd_e, o6 Q hQ2.1]
  · rw [o16 29 (by decide), o14 29 (by decide), o12 29 (by decide), F10]; rfl
  · rw [o16 29 (by decide), o14 29 (by decide), o12 29 (by decide), F10]; rfl
  · rw [o16 32 (by decide), o14 32 (by decide), h12, m_eq, vmx hi]
  · rw [o16 39 (by decide), F14]; rfl
  · rw [o16 39 (by decide), F14]; rfl
  · rw [h16, w_at, upd_e]
  · rw [h16, w_at, upd_n (by decide), o14 0 (by decide), o12 0 (by decide), o10 0 (by decide), o8 0 (by decide), o7 0 (by decide), o6 0 (by decide)]
end PU
