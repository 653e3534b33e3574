/-! feed -/
def cA (σ : sw_M) (n : Nat) (F : Nat → Int32) : sw_M := sw_wA (sw_wA σ 3 F) 2 (upd (σ.1 2) 1 (nI n))
def eA (σ : sw_M) (n : Nat) (F : Nat → Int32) : sw_M := sw_wA (sw_wA σ 50 F) 49 (upd (σ.1 49) 1 (nI n))
def rI (F G : Nat → Int32) (n : Nat) : Prop := ∀ j, j < n → ∃ b, b < 256 ∧ G j = nI b ∧ F j = vp_nar .byte (nI b)
theorem byte_n (y : Int32) : ∃ b, b < 256 ∧ y &&& 255 = nI b ∧ vp_nar .byte (y.toInt8.toInt32) = vp_nar .byte (nI b) := by
  have h255 : (y &&& 255).toBitVec.toNat < 256 := by
    rw [Int32.toBitVec_and, BitVec.toNat_and]
    exact Nat.lt_of_le_of_lt Nat.and_le_right (by decide)
  have e : y &&& 255 = nI (y &&& 255).toBitVec.toNat := by
    apply Int32.toBitVec_inj.mp
    show (y &&& 255).toBitVec = BitVec.ofNat 32 (y &&& 255).toBitVec.toNat
    rw [BitVec.ofNat_toNat, BitVec.setWidth_eq]
  refine ⟨_, h255, e, ?_⟩
  rw [← e]
  have h8 : (y &&& 255).toInt8 = y.toInt8 := by
    apply Int8.toBitVec_inj.mp
    rw [Int32.toBitVec_toInt8, Int32.toBitVec_toInt8, BitVec.signExtend_eq_setWidth_of_le _ (by decide), BitVec.signExtend_eq_setWidth_of_le _ (by decide), Int32.toBitVec_and]
    apply BitVec.eq_of_getLsbD_eq
    intro i hi
    have : ∀ i, i < 8 → (255 : Int32).toBitVec.getLsbD i = true := by decide
    rw [BitVec.getLsbD_setWidth, BitVec.getLsbD_setWidth, BitVec.getLsbD_and, this i hi, Bool.and_true]
  show (y.toInt8.toInt32).toInt8.toInt32 = (y &&& 255).toInt8.toInt32
  rw [h8]
  have : y.toInt8.toInt32.toInt8 = y.toInt8 := by simp
  rw [this]
theorem rI_s {F G : Nat → Int32} {n : Nat} (h : rI F G n) (y : Int32) : rI (upd F n (vp_nar .byte (y.toInt8.toInt32))) (upd G n (y &&& 255)) (n + 1) := by
  intro j hj
  by_cases e : j = n
  · subst e
    obtain ⟨b, b1, b2, b3⟩ := byte_n y
    exact ⟨b, b1, by rw [upd_e]; exact b2, by rw [upd_e]; exact b3⟩
  · rw [upd_n e, upd_n e]
    exact h j (by omega)
theorem cA_3 {σ : sw_M} {n : Nat} {F : Nat → Int32} : (cA σ n F).1 3 = F := by rw [cA, m_ne (by decide), m_eq]
theorem cA_2 {σ : sw_M} {n : Nat} {F : Nat → Int32} : (cA σ n F).1 2 1 = nI n := by rw [cA, m_eq, upd_e]
theorem cA_w3 {σ : sw_M} {n j : Nat} {F : Nat → Int32} {x : Int32} : sw_w (cA σ n F) 3 j x = cA σ n (upd F j x) := by
  rw [m_w, cA_3, cA, m_comm (show 2 ≠ 3 by decide), m_mm, cA]
theorem cA_w2 {σ : sw_M} {n m : Nat} {F : Nat → Int32} : sw_w (cA σ n F) 2 1 (nI m) = cA σ m F := by
  rw [cA, m_ww, upd_uu, cA]
theorem eA_50 {σ : sw_M} {n : Nat} {F : Nat → Int32} : (eA σ n F).1 50 = F := by rw [eA, m_ne (by decide), m_eq]
theorem eA_49 {σ : sw_M} {n : Nat} {F : Nat → Int32} : (eA σ n F).1 49 1 = nI n := by rw [eA, m_eq, upd_e]
theorem eA_w50 {σ : sw_M} {n j : Nat} {F : Nat → Int32} {x : Int32} : sw_w (eA σ n F) 50 j x = eA σ n (upd F j x) := by
  rw [m_w, eA_50, eA, m_comm (show 49 ≠ 50 by decide), m_mm, eA]
theorem eA_w49 {σ : sw_M} {n m : Nat} {F : Nat → Int32} : sw_w (eA σ n F) 49 1 (nI m) = eA σ m F := by
  rw [eA, m_ww, upd_uu, eA]
def sft : Nat → Int32
  | 0 => 24
  | 1 => 16
  | 2 => 8
  | 3 => 0
  | _ => -8
theorem sft_s : ∀ k, k < 4 → ¬ sft k < 0 ∧ sft k + (-8) = sft (k + 1) := by decide
def f_byt (F : Nat → Int32) (a : Int32) (n : Nat) : Nat → Nat → Int32
  | 0 => F
  | k + 1 => upd (f_byt F a n k) (n + k) (vp_nar .byte ((a >>> (sft k &&& 31)).toInt8.toInt32))
def g_byt (F : Nat → Int32) (a : Int32) (n : Nat) : Nat → Nat → Int32
  | 0 => F
  | k + 1 => upd (g_byt F a n k) (n + k) ((a >>> (sft k &&& 31)) &&& 255)
theorem rI_b {F G : Nat → Int32} {n : Nat} (h : rI F G n) (a : Int32) : ∀ k, rI (f_byt F a n k) (g_byt G a n k) (n + k)
  | 0 => h
  | k + 1 => rI_s (rI_b h a k) _
theorem c_app {σ : sw_M} {n : Nat} {F : Nat → Int32} {a : Int32} (hn : n + 4 ≤ 1600) : fX7_append (cA σ n F) a = some (cA σ (n + 4) (f_byt F a n 4)) := by
  unfold fX7_append
  refine wh_runs (b := fun s : Int32 × sw_M => fX7_append_L3 s.2 a s.1) (fun k => (sft k, cA σ (n + k) (f_byt F a n k))) 4 rfl (fun k hk => ?_) ?_ (by decide)
  · show fX7_append_L3 (cA σ (n + k) (f_byt F a n k)) a (sft k) = some (.inl (sft (k + 1), cA σ (n + k + 1) (f_byt F a n (k + 1))))
    have h1600 : ¬ (1600 : Int32) ≤ nI (n + k) := nI_ge (b := 1600) (by omega) (by decide)
    unfold fX7_append_L3
    rw [if_neg (sft_s k hk).1, cA_2, if_neg h1600, sw_gd_t (in_t (show n + k < 1600 by omega) (by decide)), nI_clamp (by omega), cA_w3, let_s, let_s, let_s, cA_2, nI_1, cA_w2, (sft_s k hk).2]
    rfl
  · show fX7_append_L3 (cA σ (n + 4) (f_byt F a n 4)) a (sft 4) = _
    unfold fX7_append_L3
    rw [if_pos (by decide)]
theorem e_app {σ : sw_M} {n : Nat} {F : Nat → Int32} {a : Int32} (hn : n + 4 ≤ 1600) : fX10_four (eA σ n F) a = some (eA σ (n + 4) (g_byt F a n 4)) := by
  unfold fX10_four
  refine wh_runs (b := fun s : Int32 × sw_M => fX10_four_L3 s.2 a s.1) (fun k => (sft k, eA σ (n + k) (g_byt F a n k))) 4 rfl (fun k hk => ?_) ?_ (by decide)
  · show fX10_four_L3 (eA σ (n + k) (g_byt F a n k)) a (sft k) = some (.inl (sft (k + 1), eA σ (n + k + 1) (g_byt F a n (k + 1))))
    unfold fX10_four_L3
    rw [if_neg (sft_s k hk).1, eA_49, sw_gd_t (in_t (show n + k < 1600 by omega) (by decide)), nI_clamp (by omega), eA_w50, let_s, let_s, let_s, eA_49, nI_1, eA_w49, (sft_s k hk).2]
    rfl
  · show fX10_four_L3 (eA σ (n + 4) (g_byt F a n 4)) a (sft 4) = _
    unfold fX10_four_L3
    rw [if_pos (by decide)]
theorem cA_self {σ : sw_M} {n : Nat} (h : σ.1 2 1 = nI n) : cA σ n (σ.1 3) = σ := by rw [cA, m_self, ← h, upd_id, m_self]
theorem eA_self {σ : sw_M} {n : Nat} (h : σ.1 49 1 = nI n) : eA σ n (σ.1 50) = σ := by rw [eA, m_self, ← h, upd_id, m_self]
theorem k_feed {σ : sw_M} (a b c d e : Int32) (h : rel σ) : k_mm (fX9_feed σ a b c d e) (fun τ => fX10_feed τ a b c d e) := by
  obtain ⟨P, K, N, R, Bn, z, mm, ww, hr⟩ := id h
  have hP := rl_isP hr.1
  obtain ⟨r1, r2, r3, r4, r5, r6, r7, r8, r9⟩ := hr
  obtain ⟨⟨n, hn, e1, e2, e3⟩, e4⟩ := id r9
  by_cases h1 : nI n + 20 ≤ 1600
  · have hn2 : n + 20 ≤ 1600 := by
      have h2 : nI (n + 20) ≤ 1600 := by rw [← nI_add]; exact h1
      exact (nI_leI (b := 1600) (by omega) (by decide)).mp h2
    have hc := cA_self e1
    have h0 : rI (σ.1 3) (σ.1 50) n := e3
    have i5 := rI_b (rI_b (rI_b (rI_b (rI_b h0 a 4) b 4) c 4) d 4) e 4
    obtain ⟨F, hF⟩ : ∃ F, F = f_byt (f_byt (f_byt (f_byt (f_byt (σ.1 3) a n 4) b (n + 4) 4) c (n + 4 + 4) 4) d (n + 4 + 4 + 4) 4) e (n + 4 + 4 + 4 + 4) 4 := ⟨_, rfl⟩
    obtain ⟨G, hG⟩ : ∃ G, G = g_byt (g_byt (g_byt (g_byt (g_byt (σ.1 50) a n 4) b (n + 4) 4) c (n + 4 + 4) 4) d (n + 4 + 4 + 4) 4) e (n + 4 + 4 + 4 + 4) 4 := ⟨_, rfl⟩
    rw [← hF, ← hG] at i5
    have hcl : fX9_feed σ a b c d e = some (nI (n + 20), cA σ (n + 20) F) := by
      rw [fX9_feed, e1, if_pos h1]
      rw [← hc, c_app (by omega), b1_s, c_app (by omega), b1_s, c_app (by omega), b1_s, c_app (by omega), b1_s, c_app (by omega), b1_s, cA_2, hc, ← hF]
    obtain ⟨τ, hτ⟩ : ∃ τ, τ = cA σ (n + 20) F := ⟨_, rfl⟩
    have t1 : τ.1 49 1 = nI n := by rw [hτ]; exact e2
    have t50 : τ.1 50 = σ.1 50 := by rw [hτ]; rfl
    have he := eA_self t1
    rw [t50] at he
    have hre : fX10_feed τ a b c d e = some (nI (n + 20), eA τ (n + 20) G) := by
      rw [fX10_feed, t1, if_pos h1]
      rw [← he, e_app (by omega), b1_s, e_app (by omega), b1_s, e_app (by omega), b1_s, e_app (by omega), b1_s, e_app (by omega), b1_s, eA_49, he, ← hG]
    rw [hτ] at hre
    refine k_mk (e := fun τ => fX10_feed τ a b c d e) hcl hre rfl ?_
    have q9 : rl_i (eA (cA σ (n + 20) F) (n + 20) G) := ⟨⟨n + 20, hn2, rfl, rfl, i5⟩, e4⟩
    rcases hP with rfl | rfl <;> exact ⟨_, _, _, _, _, _, _, _, rl_p_cg rfl rfl rfl rfl rfl rfl rfl rfl rfl rfl rfl rfl rfl rfl rfl rfl rfl rfl rfl rfl rfl r1, rl_v_cg rfl rfl rfl r2, rl_a_cg rfl rfl rfl rfl rfl rfl r3, rl_b_cg rfl rfl rfl rfl r4, rl_l_cg rfl rfl rfl rfl r5, rl_s_cg rfl rfl rfl rfl rfl rfl rfl rfl rfl rfl rfl rfl rfl rfl rfl rfl rfl rfl r6, rl_t_cg rfl rfl r7, rl_f_cg rfl rfl rfl rfl r8, q9⟩
  · exact ⟨-1, σ, σ, by rw [fX9_feed, e1, if_neg h1], by show fX10_feed σ a b c d e = _; rw [fX10_feed, e2, if_neg h1], h⟩
