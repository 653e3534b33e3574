/-! the reference reads a token -/
def eM (σ : sw_M) (f : Nat → Int32) (y : Int64) : sw_M := (fun a => if a = 49 then f else σ.1 a, fun a => if a = 49 then vp_updL (σ.2.1 49) 9 y else σ.2.1 a, σ.2.2)
section EM
variable {σ : sw_M} {f : Nat → Int32} {y x : Int64}
theorem eM_2 : (eM σ f y).1 49 = f := rfl
theorem eM_n {a : Nat} (h : a ≠ 49) : (eM σ f y).1 a = σ.1 a := if_neg h
theorem eM_l : (eM σ f y).2.1 49 9 = y := rfl
theorem eM_ln {a : Nat} (h : a ≠ 49) : (eM σ f y).2.1 a = σ.2.1 a := if_neg h
theorem eM_w {k : Nat} {v : Int32} : sw_w (eM σ f y) 49 k v = eM σ (upd f k v) y := by
  unfold sw_w sw_wA eM
  refine Prod.ext ?_ rfl
  funext a
  by_cases h : a = 49
  · subst h; rfl
  · show (if a = 49 then _ else (if a = 49 then f else σ.1 a)) = if a = 49 then _ else σ.1 a
    rw [if_neg h, if_neg h, if_neg h]
theorem eM_wL : sw_wL (eM σ f y) 49 9 x = eM σ f x := by
  unfold sw_wL eM
  refine Prod.ext rfl (Prod.ext ?_ rfl)
  funext a
  by_cases h : a = 49
  · subst h
    show vp_updL (vp_updL (σ.2.1 49) 9 y) 9 x = vp_updL (σ.2.1 49) 9 x
    funext j
    unfold vp_updL
    by_cases hj : j = 9
    · rw [if_pos hj, if_pos hj]
    · rw [if_neg hj, if_neg hj, if_neg hj]
  · show (if a = 49 then _ else (if a = 49 then vp_updL (σ.2.1 49) 9 y else σ.2.1 a)) = if a = 49 then _ else σ.2.1 a
    rw [if_neg h, if_neg h, if_neg h]
theorem eM_self : eM σ (σ.1 49) (σ.2.1 49 9) = σ := by
  unfold eM
  refine Prod.ext ?_ (Prod.ext ?_ rfl)
  · funext a
    by_cases h : a = 49
    · subst h; rfl
    · show (if a = 49 then σ.1 49 else σ.1 a) = σ.1 a
      rw [if_neg h]
  · funext a
    by_cases h : a = 49
    · subst h
      show vp_updL (σ.2.1 49) 9 (σ.2.1 49 9) = σ.2.1 49
      funext j
      unfold vp_updL
      by_cases hj : j = 9
      · rw [if_pos hj, hj]
      · rw [if_neg hj]
    · show (if a = 49 then _ else σ.2.1 a) = σ.2.1 a
      rw [if_neg h]
end EM
theorem ey_l : ∀ b, b < 256 → fX10_isLetter (nI b) = if isL b = true then 1 else 0 := by decide +kernel
theorem ey_d : ∀ b, b < 256 → fX10_isDigit (nI b) = if isD b = true then 1 else 0 := by decide +kernel
theorem ey_s : ∀ b, b < 256 → fX10_isSign (nI b) = if isS b = true then 1 else 0 := by decide +kernel
theorem ey_b : ∀ b, b < 256 → (isB b = true ↔ (nI b = 32 ∨ nI b = 10)) := by decide +kernel
theorem ey_3 : ∀ b, b < 256 → isS b = true → ¬ nI b = 3 := by decide +kernel
theorem shl_or {a b : Nat} (ha : a < 2 ^ 56) (hb : b < 256) : (lN a <<< ((8 : Int32).toInt64 &&& 63)) ||| (nI b).toInt64 = lN (a * 256 + b) := by
  rw [nI_l (by omega)]
  apply Int64.toBitVec_inj.mp
  have e8 : (((8 : Int32).toInt64 &&& 63).toBitVec.smod 64).toNat = 8 := by decide
  have hs : (lN a <<< ((8 : Int32).toInt64 &&& 63)).toBitVec = (lN a).toBitVec <<< 8 := by
    show (lN a).toBitVec <<< (((8 : Int32).toInt64 &&& 63).toBitVec.smod 64) = _
    apply BitVec.eq_of_toNat_eq
    rw [BitVec.toNat_shiftLeft]
    show ((lN a).toBitVec <<< (((8 : Int32).toInt64 &&& 63).toBitVec.smod 64).toNat).toNat = _
    rw [e8, BitVec.toNat_shiftLeft]
  have e1 : ∀ x, x < 2 ^ 64 → (lN x).toBitVec.toNat = x := by
    intro x hx
    show (BitVec.ofNat 64 x).toNat = x
    rw [BitVec.toNat_ofNat, Nat.mod_eq_of_lt hx]
  rw [Int64.toBitVec_or, hs]
  apply BitVec.eq_of_toNat_eq
  have h56 : (2 : Nat) ^ 56 * 256 = 2 ^ 64 := by decide
  rw [BitVec.toNat_or, BitVec.toNat_shiftLeft, e1 a (by omega), e1 b (by omega), e1 _ (by omega), Nat.shiftLeft_eq, Nat.mod_eq_of_lt (by omega)]
  have := Nat.two_pow_add_eq_or_of_lt (i := 8) (b := b) (by omega) a
  rw [Nat.mul_comm a (2 ^ 8), ← this]
section ET
variable {σ : sw_M} {B : Nat → Nat} {n : Nat}
def eB (σ : sw_M) (B : Nat → Nat) (n : Nat) : Prop := n ≤ 1600 ∧ ∀ j, j < n → B j < 256 ∧ σ.1 50 j = nI (B j)
theorem e_here {f : Nat → Int32} {y : Int64} {a k : Nat} (hB : eB σ B n) (f5 : f 5 = nI n) (f4 : f 4 = nI a) (hak : a + k ≤ 1600) : fX10_here (eM σ f y) (nI k) = some (if a + k < n then nI (B (a + k)) else -1) := by
  unfold fX10_here
  rw [eM_2, f5, f4, nI_add]
  by_cases h : a + k < n
  · rw [if_neg (le_f h (by have := hB.1; omega)), sw_gd_t (in_t (show a + k < 1600 by have := hB.1; omega) (by decide)), nI_clamp (by omega), eM_n (show (50 : Nat) ≠ 49 by decide), (hB.2 _ h).2, if_pos h]
  · rw [if_pos (nI_le (by omega) (by omega)), if_neg h]
theorem e_lets {a : Nat} (hB : eB σ B n) : fX10_isLetter (if a < n then nI (B a) else -1) = if a < n ∧ isL (B a) = true then 1 else 0 := by
  by_cases h : a < n
  · rw [if_pos h, ey_l _ (hB.2 a h).1]
    by_cases h2 : isL (B a) = true
    · rw [if_pos h2, if_pos ⟨h, h2⟩]
    · rw [if_neg h2, if_neg (fun x => h2 x.2)]
  · rw [if_neg h, if_neg (fun x => h x.1)]
    decide
theorem e_digs {a : Nat} (hB : eB σ B n) : fX10_isDigit (if a < n then nI (B a) else -1) = if a < n ∧ isD (B a) = true then 1 else 0 := by
  by_cases h : a < n
  · rw [if_pos h, ey_d _ (hB.2 a h).1]
    by_cases h2 : isD (B a) = true
    · rw [if_pos h2, if_pos ⟨h, h2⟩]
    · rw [if_neg h2, if_neg (fun x => h2 x.2)]
  · rw [if_neg h, if_neg (fun x => h x.1)]
    decide
theorem rwd_le {f : Nat → Nat} : ∀ {k : Nat}, (∀ i, i < k → f i < 256) → rwd f k < 256 ^ k
  | 0, _ => by show 0 < 1; decide
  | k + 1, h => by
    have h1 := h k (by omega)
    have h2 := rwd_le (f := f) (k := k) (fun i hi => h i (by omega))
    show rwd f k * 256 + f k < 256 ^ k * 256
    omega
/-- the end of a token -/
theorem e_232 {f : Nat → Int32} {y : Int64} {p k : Nat} {b0 : Int32} (f4 : f 4 = nI p) : (sw_let (sw_w (eM σ f y) 49 6 b0) fun m1 => fX10_token_L232 m1 (nI k)) = some (eM σ (if b0 = 3 then upd f 6 b0 else upd (upd f 6 b0) 4 (nI (p + k))) y) := by
  have g4 : upd f 6 b0 4 = nI p := by rw [upd_n (by decide)]; exact f4
  rw [let_s, eM_w, fX10_token_L232, eM_2, upd_e]
  by_cases h : b0 = 3
  · rw [if_pos h, if_pos h]
  · rw [if_neg h, if_neg h, g4, nI_add, eM_w, let_s]
theorem e_word {f : Nat → Int32} {p : Nat} (hB : eB σ B n) (hp : p < n) (f5 : f 5 = nI n) (f4 : f 4 = nI p) (hL : isL (B p) = true) :
    ∃ y, sw_wh sw_F (fun s : Int32 × sw_M => fX10_token_L78 s.2 s.1) (0, eM σ f 0) = some (eM σ (if tkL B n p - p ≤ 8 then upd (upd f 6 1) 4 (nI (tkL B n p)) else upd f 6 3) y) ∧ (tkL B n p - p ≤ 8 → y = lN (rwd (fun i => B (p + i)) (tkL B n p - p))) := by
  have hn := hB.1
  have sp := tend_spec (fun i => isL (B i)) n (n - p) p (by omega)
  obtain ⟨e, he⟩ : ∃ e, e = tkL B n p := ⟨_, rfl⟩
  have he' : t_end (fun i => isL (B i)) n (n - p) p = e := he.symm
  rw [he'] at sp
  obtain ⟨s1, s2, s3, s4⟩ := sp
  rw [← he]
  obtain ⟨F, hF⟩ : ∃ F : Nat → Nat, F = fun i => B (p + i) := ⟨_, rfl⟩
  rw [← hF]
  have hen := s4 (by omega)
  refine ⟨lN (rwd F (min (e - p) 8)), ?_, fun h => by rw [Nat.min_eq_left h]⟩
  refine wh_runs (b := fun s : Int32 × sw_M => fX10_token_L78 s.2 s.1) (fun k => (nI k, eM σ f (lN (rwd F (min k 8))))) (e - p) rfl (fun k hk' => ?_) ?_ (by omega)
  · show fX10_token_L78 (eM σ f (lN (rwd F (min k 8)))) (nI k) = some (.inl (nI (k + 1), eM σ f (lN (rwd F (min (k + 1) 8)))))
    obtain ⟨q1, q2⟩ := s2 (p + k) (by omega) (by omega)
    have q3 : 97 ≤ B (p + k) ∧ B (p + k) ≤ 122 := of_decide_eq_true q2
    unfold fX10_token_L78
    rw [e_here hB f5 f4 (by omega), b1_s, e_lets hB, if_pos (show p + k < n ∧ isL (B (p + k)) = true from ⟨q1, q2⟩), if_neg i10, b1_s]
    by_cases h8 : 8 ≤ k
    · have l8 : (8 : Int32) ≤ nI k := nI_le (a := 8) h8 (by omega)
      rw [if_pos l8, fX10_token_L113, let_s, nI_1, Nat.min_eq_right h8, Nat.min_eq_right (by omega)]
    · have l8 : ¬ (8 : Int32) ≤ nI k := nI_ge (b := 8) (by omega) (by decide)
      have hlt := rwd_le (f := F) (k := k) (fun i hi => by
        rw [hF]
        exact (hB.2 (p + i) (s2 (p + i) (by omega) (by omega)).1).1)
      have h56 : 256 ^ k ≤ 256 ^ 7 := Nat.pow_le_pow_right (by decide) (by omega)
      have h57 : (256 : Nat) ^ 7 = 2 ^ 56 := by decide
      rw [if_neg l8, if_pos q1, eM_l, Nat.min_eq_left (by omega), shl_or (by omega) (by omega), eM_wL, let_s, fX10_token_L113, let_s, nI_1, Nat.min_eq_left (by omega)]
      rw [hF]
      rfl
  · show fX10_token_L78 (eM σ f (lN (rwd F (min (e - p) 8)))) (nI (e - p)) = _
    have ee : p + (e - p) = e := by omega
    have e1 := e_232 (σ := σ) (f := f) (y := lN (rwd F (min (e - p) 8))) (p := p) (k := e - p) (b0 := 1) f4
    have e3 := e_232 (σ := σ) (f := f) (y := lN (rwd F (min (e - p) 8))) (p := p) (k := e - p) (b0 := 3) f4
    rw [ee] at e1
    unfold fX10_token_L78
    rw [e_here hB f5 f4 (by omega), b1_s, ee, e_lets hB, if_neg s3, if_pos rfl, fX10_token_L131, fX10_token_L131, e1, e3]
    by_cases h8 : e - p ≤ 8
    · have l8 : nI (e - p) ≤ 8 := nI_le (b := 8) h8 (by decide)
      rw [if_pos l8, if_pos h8, if_neg (by decide), sw_up_s]
    · have l8 : ¬ nI (e - p) ≤ 8 := nI_ge (a := 8) (by omega) (by omega)
      rw [if_neg l8, if_neg h8, if_pos rfl, sw_up_s]
theorem e_numb {f : Nat → Int32} {y : Int64} {p : Nat} (hB : eB σ B n) (hp : p < n) (f5 : f 5 = nI n) (f4 : f 4 = nI p) (f8 : f 8 = 0) (hD : isD (B p) = true) :
    ∃ v, sw_wh sw_F (fun s : Int32 × sw_M => fX10_token_L144 s.2 s.1) (0, eM σ f y) = some (eM σ (if (tkD B n p < n ∧ isL (B (tkD B n p)) = true) ∨ 4 < tkD B n p - p then upd (upd f 8 v) 6 3 else upd (upd (upd f 8 v) 6 2) 4 (nI (tkD B n p))) y) ∧ (tkD B n p - p ≤ 4 → v = nI (nmd (fun i => B (p + i)) (tkD B n p - p))) := by
  have hn := hB.1
  have sp := tend_spec (fun i => isD (B i)) n (n - p) p (by omega)
  obtain ⟨e, he⟩ : ∃ e, e = tkD B n p := ⟨_, rfl⟩
  have he' : t_end (fun i => isD (B i)) n (n - p) p = e := he.symm
  rw [he'] at sp
  obtain ⟨s1, s2, s3, s4⟩ := sp
  rw [← he]
  obtain ⟨F, hF⟩ : ∃ F : Nat → Nat, F = fun i => B (p + i) := ⟨_, rfl⟩
  rw [← hF]
  have hen := s4 (by omega)
  have g5 : ∀ v, upd f 8 v 5 = nI n := fun v => by rw [upd_n (by decide)]; exact f5
  have g4 : ∀ v, upd f 8 v 4 = nI p := fun v => by rw [upd_n (by decide)]; exact f4
  refine ⟨nI (nmd F (min (e - p) 4)), ?_, fun h => by rw [Nat.min_eq_left h]⟩
  refine wh_runs (b := fun s : Int32 × sw_M => fX10_token_L144 s.2 s.1) (fun k => (nI k, eM σ (upd f 8 (nI (nmd F (min k 4)))) y)) (e - p) ?_ (fun k hk' => ?_) ?_ (by omega)
  · show (nI 0, eM σ (upd f 8 (nI 0)) y) = (0, eM σ f y)
    rw [upd_idx (by rw [f8]; rfl)]
    rfl
  · show fX10_token_L144 (eM σ (upd f 8 (nI (nmd F (min k 4)))) y) (nI k) = some (.inl (nI (k + 1), eM σ (upd f 8 (nI (nmd F (min (k + 1) 4)))) y))
    obtain ⟨q1, q2⟩ := s2 (p + k) (by omega) (by omega)
    have q3 : 48 ≤ B (p + k) ∧ B (p + k) ≤ 57 := of_decide_eq_true q2
    unfold fX10_token_L144
    rw [e_here hB (g5 _) (g4 _) (by omega), b1_s, e_digs hB, if_pos (show p + k < n ∧ isD (B (p + k)) = true from ⟨q1, q2⟩), if_neg i10, b1_s]
    by_cases h4 : 4 ≤ k
    · have l4 : (4 : Int32) ≤ nI k := nI_le (a := 4) h4 (by omega)
      rw [if_pos l4, fX10_token_L180, let_s, nI_1, Nat.min_eq_right h4, Nat.min_eq_right (by omega)]
    · have l4 : ¬ (4 : Int32) ≤ nI k := nI_ge (b := 4) (by omega) (by decide)
      have ev : (10 : Int32) * nI (nmd F k) + nI (B (p + k)) - 48 = nI (nmd F (k + 1)) := by
        have e10 : (10 : Int32) = nI 10 := rfl
        have e48 : (48 : Int32) = nI 48 := rfl
        rw [e10, pk_mul, nI_add, e48, nI_sub (by omega), hF]
        congr 1
        show 10 * nmd _ k + B (p + k) - 48 = nmd _ k * 10 + (B (p + k) - 48)
        omega
      rw [if_neg l4, if_pos q1, eM_2, upd_e, Nat.min_eq_left (show k ≤ 4 by omega), ev, eM_w, let_s, upd_uu, fX10_token_L180, let_s, nI_1, Nat.min_eq_left (show k + 1 ≤ 4 by omega)]
  · show fX10_token_L144 (eM σ (upd f 8 (nI (nmd F (min (e - p) 4)))) y) (nI (e - p)) = _
    obtain ⟨V, hV⟩ : ∃ V, V = nI (nmd F (min (e - p) 4)) := ⟨_, rfl⟩
    rw [← hV]
    have ee : p + (e - p) = e := by omega
    have e1 := e_232 (σ := σ) (f := upd f 8 V) (y := y) (p := p) (k := e - p) (b0 := 2) (g4 V)
    have e3 := e_232 (σ := σ) (f := upd f 8 V) (y := y) (p := p) (k := e - p) (b0 := 3) (g4 V)
    rw [ee, if_neg (by decide)] at e1
    rw [if_pos rfl] at e3
    unfold fX10_token_L144
    rw [e_here hB (g5 _) (g4 _) (by omega), b1_s, ee, e_digs hB, if_neg s3, if_pos rfl, b1_s, e_lets hB, fX10_token_L203, fX10_token_L208, fX10_token_L208, e1, e3]
    by_cases h4 : 4 < e - p
    · have l4 : (4 : Int32) < nI (e - p) := nI_lt (a := 4) h4 (by omega)
      have hx : (e < n ∧ isL (B e) = true) ∨ 4 < e - p := .inr h4
      rw [if_pos l4, if_pos hx, sw_up_s]
    · have l4 : ¬ (4 : Int32) < nI (e - p) := nI_nlt (a := 4) (by omega) (by decide)
      rw [if_neg l4]
      by_cases hl : e < n ∧ isL (B e) = true
      · have hx : (e < n ∧ isL (B e) = true) ∨ 4 < e - p := .inl hl
        rw [if_pos hl, if_neg i10, if_pos hx, sw_up_s]
      · have hx : ¬ ((e < n ∧ isL (B e) = true) ∨ 4 < e - p) := by
          intro x
          rcases x with x | x
          · exact hl x
          · exact h4 x
        rw [if_neg hl, if_pos rfl, if_neg hx, sw_up_s]
def esort (B : Nat → Nat) (n p : Nat) : Int32 := if teT B n p = 0 then 0 else if teT B n p = 1 then 3 else if teT B n p = 2 then 1 else if teT B n p = 3 then 2 else nI (teX B n p)
/-- the reference's token, read from a place on -/
def etk (B : Nat → Nat) (n p : Nat) (f : Nat → Int32) (y : Int64) : Prop := f 5 = nI n ∧ (¬ teT B n p = 1 → f 4 = nI (teE B n p)) ∧ f 6 = esort B n p ∧ f 7 = nI p ∧ (teT B n p = 2 → y = lN (teY B n p)) ∧ (teT B n p = 3 → f 8 = nI (teX B n p))
theorem e_next {a : Nat} (hB : eB σ B n) (ha : a ≤ n) (h5 : σ.1 49 5 = nI n) (h4 : σ.1 49 4 = nI a) : ∃ f y, fX10_token σ = some (eM σ f y) ∧ etk B n (tkP B n a) f y ∧ ∀ k, k ≠ 4 → k ≠ 6 → k ≠ 7 → k ≠ 8 → f k = σ.1 49 k := by
  have hn := hB.1
  have sp := tend_spec (fun i => isB (B i)) n (n - a) a (by omega)
  obtain ⟨p, hp⟩ : ∃ p, p = tkP B n a := ⟨_, rfl⟩
  have hp' : t_end (fun i => isB (B i)) n (n - a) a = p := hp.symm
  rw [hp'] at sp
  obtain ⟨s1, s2, s3, s4⟩ := sp
  rw [← hp]
  have hpn := s4 ha
  obtain ⟨f0, hf0⟩ : ∃ f0, f0 = σ.1 49 := ⟨_, rfl⟩
  obtain ⟨y0, hy0⟩ : ∃ y0, y0 = σ.2.1 49 9 := ⟨_, rfl⟩
  have e0 : σ = eM σ f0 y0 := by rw [hf0, hy0]; exact eM_self.symm
  rw [← hf0] at h5 h4
  obtain ⟨f, hf⟩ : ∃ f, f = upd (upd (upd f0 4 (nI p)) 7 (nI p)) 8 0 := ⟨_, rfl⟩
  have k5 : f 5 = nI n := by rw [hf, upd_n (by decide), upd_n (by decide), upd_n (by decide)]; exact h5
  have k4 : f 4 = nI p := by rw [hf, upd_n (by decide), upd_n (by decide), upd_e]
  have k7 : f 7 = nI p := by rw [hf, upd_n (by decide), upd_e]
  have k8 : f 8 = 0 := by rw [hf, upd_e]
  have kk : ∀ k, k ≠ 4 → k ≠ 6 → k ≠ 7 → k ≠ 8 → f k = f0 k := fun k a1 a2 a3 a4 => by rw [hf, upd_n a4, upd_n a3, upd_n a1]
  have zI : (0 : Int32) = nI 0 := rfl
  have fin : ∃ F Y, fX10_token_L0 (eM σ (upd f0 4 (nI p)) y0) = some (.inr (eM σ F Y)) ∧ etk B n p F Y ∧ ∀ k, k ≠ 4 → k ≠ 6 → k ≠ 7 → k ≠ 8 → F k = f0 k := by
    have u5 : upd f0 4 (nI p) 5 = nI n := by rw [upd_n (by decide)]; exact h5
    have v5 : upd (upd f0 4 (nI p)) 7 (nI p) 5 = nI n := by rw [upd_n (by decide)]; exact u5
    have v4 : upd (upd f0 4 (nI p)) 7 (nI p) 4 = nI p := by rw [upd_n (by decide), upd_e]
    have hh : fX10_here (eM σ (upd f0 4 (nI p)) y0) 0 = some (if p < n then nI (B p) else -1) := e_here (k := 0) hB u5 upd_e (by omega)
    have hh2 : fX10_here (eM σ (upd (upd f0 4 (nI p)) 7 (nI p)) y0) 0 = some (if p < n then nI (B p) else -1) := e_here (k := 0) hB v5 v4 (by omega)
    have nb : ¬ (if p < n then nI (B p) else -1) = 32 ∧ ¬ (if p < n then nI (B p) else -1) = 10 := by
      by_cases hlt : p < n
      · rw [if_pos hlt]
        have hl0 : ¬ isB (B p) = true := fun x => s3 ⟨hlt, x⟩
        exact ⟨fun x => hl0 ((ey_b _ (hB.2 p hlt).1).mpr (.inl x)), fun x => hl0 ((ey_b _ (hB.2 p hlt).1).mpr (.inr x))⟩
      · rw [if_neg hlt]
        decide
    unfold fX10_token_L0
    rw [hh, b1_s, if_neg nb.1, b1_s, if_neg nb.2, eM_2, upd_e, eM_w, let_s, hh2, b1_s, eM_wL, let_s, eM_w, let_s, ← hf]
    by_cases hlt : p < n
    · have b1 := (hB.2 p hlt).1
      have np : ¬ n ≤ p := by omega
      rw [if_pos hlt, if_pos (nI_pos' (by omega)), ey_l _ b1, ey_d _ b1, ey_s _ b1]
      by_cases hl : isL (B p) = true
      · obtain ⟨y', w1, w2⟩ := e_word hB hlt k5 k4 hl
        rw [if_pos hl, if_neg i10, w1, sw_up_s]
        refine ⟨_, _, rfl, ?_, fun k a1 a2 a3 a4 => ?_⟩
        · have eE : teE B n p = tkL B n p := by rw [teE, if_neg np, if_pos hl]
          unfold etk esort
          rw [eE]
          by_cases h8 : tkL B n p - p ≤ 8
          · have eT : teT B n p = 2 := by rw [teT, if_neg np, if_pos hl, if_pos h8]
            rw [eT, if_pos h8]
            refine ⟨?_, fun _ => ?_, ?_, ?_, fun _ => w2 h8, fun h => absurd h (by decide)⟩
            · rw [upd_n (by decide), upd_n (by decide)]; exact k5
            · rw [upd_e]
            · rw [upd_n (by decide), upd_e]; rfl
            · rw [upd_n (by decide), upd_n (by decide)]; exact k7
          · have eT : teT B n p = 1 := by rw [teT, if_neg np, if_pos hl, if_neg h8]
            rw [eT, if_neg h8]
            refine ⟨?_, fun h => absurd rfl h, ?_, ?_, fun h => absurd h (by decide), fun h => absurd h (by decide)⟩
            · rw [upd_n (by decide)]; exact k5
            · rw [upd_e]; rfl
            · rw [upd_n (by decide)]; exact k7
        · split
          · rw [upd_n a1, upd_n a2]; exact kk k a1 a2 a3 a4
          · rw [upd_n a2]; exact kk k a1 a2 a3 a4
      · rw [if_neg hl, if_pos rfl]
        by_cases hd : isD (B p) = true
        · obtain ⟨v, w1, w2⟩ := e_numb (y := 0) hB hlt k5 k4 k8 hd
          rw [if_pos hd, if_neg i10, w1, sw_up_s]
          refine ⟨_, _, rfl, ?_, fun k a1 a2 a3 a4 => ?_⟩
          · have eE : teE B n p = tkD B n p := by rw [teE, if_neg np, if_neg hl, if_pos hd]
            have eX : teX B n p = nmd (fun i => B (p + i)) (tkD B n p - p) := by rw [teX, if_neg hl, if_pos hd]
            have eT : teT B n p = if (tkD B n p < n ∧ isL (B (tkD B n p)) = true) ∨ 4 < tkD B n p - p then 1 else 3 := by rw [teT, if_neg np, if_neg hl, if_pos hd]
            unfold etk esort
            rw [eE, eX, eT]
            by_cases hx : (tkD B n p < n ∧ isL (B (tkD B n p)) = true) ∨ 4 < tkD B n p - p
            · rw [if_pos hx, if_pos hx]
              refine ⟨?_, fun h => absurd rfl h, ?_, ?_, fun h => absurd h (by decide), fun h => absurd h (by decide)⟩
              · rw [upd_n (by decide), upd_n (by decide)]; exact k5
              · rw [upd_e]; rfl
              · rw [upd_n (by decide), upd_n (by decide)]; exact k7
            · rw [if_neg hx, if_neg hx]
              refine ⟨?_, fun _ => ?_, ?_, ?_, fun h => absurd h (by decide), fun _ => ?_⟩
              · rw [upd_n (by decide), upd_n (by decide), upd_n (by decide)]; exact k5
              · rw [upd_e]
              · rw [upd_n (by decide), upd_e]; rfl
              · rw [upd_n (by decide), upd_n (by decide), upd_n (by decide)]; exact k7
              · rw [upd_n (by decide), upd_n (by decide), upd_e]
                exact w2 (by
                  have : ¬ 4 < tkD B n p - p := fun x => hx (.inr x)
                  omega)
          · split
            · rw [upd_n a2, upd_n a4]; exact kk k a1 a2 a3 a4
            · rw [upd_n a1, upd_n a2, upd_n a4]; exact kk k a1 a2 a3 a4
        · have eE : teE B n p = p + 1 := by rw [teE, if_neg np, if_neg hl, if_neg hd]
          have eX : teX B n p = B p := by rw [teX, if_neg hl, if_neg hd]
          have e1 := e_232 (σ := σ) (f := f) (y := 0) (p := p) (k := 1) (b0 := nI (B p)) k4
          have e3 := e_232 (σ := σ) (f := f) (y := 0) (p := p) (k := 1) (b0 := 3) k4
          have oI : nI 1 = 1 := rfl
          rw [oI] at e1 e3
          rw [if_neg hd, if_pos rfl, fX10_token_L229, fX10_token_L229, e1, e3]
          by_cases hs : isS (B p) = true
          · have eT : teT B n p = 4 := by rw [teT, if_neg np, if_neg hl, if_neg hd, if_pos hs]
            rw [if_pos hs, if_neg i10, if_neg (ey_3 _ b1 hs), sw_up_s]
            refine ⟨_, _, rfl, ?_, fun k a1 a2 a3 a4 => by rw [upd_n a1, upd_n a2]; exact kk k a1 a2 a3 a4⟩
            unfold etk esort
            rw [eE, eX, eT]
            refine ⟨?_, fun _ => ?_, ?_, ?_, fun h => absurd h (by decide), fun h => absurd h (by decide)⟩
            · rw [upd_n (by decide), upd_n (by decide)]; exact k5
            · rw [upd_e]
            · rw [upd_n (by decide), upd_e]; rfl
            · rw [upd_n (by decide), upd_n (by decide)]; exact k7
          · have eT : teT B n p = 1 := by rw [teT, if_neg np, if_neg hl, if_neg hd, if_neg hs]
            rw [if_neg hs, if_pos rfl, if_pos rfl, sw_up_s]
            refine ⟨_, _, rfl, ?_, fun k a1 a2 a3 a4 => by rw [upd_n a2]; exact kk k a1 a2 a3 a4⟩
            unfold etk esort
            rw [eT]
            refine ⟨?_, fun h => absurd rfl h, ?_, ?_, fun h => absurd h (by decide), fun h => absurd h (by decide)⟩
            · rw [upd_n (by decide)]; exact k5
            · rw [upd_e]; rfl
            · rw [upd_n (by decide)]; exact k7
    · have np : n ≤ p := by omega
      have eE : teE B n p = p := by rw [teE, if_pos np]
      have eT : teT B n p = 0 := by rw [teT, if_pos np]
      have e1 := e_232 (σ := σ) (f := f) (y := 0) (p := p) (k := 0) (b0 := 0) k4
      have oI : nI 0 = 0 := rfl
      rw [oI, if_neg (by decide)] at e1
      have e1' : (sw_let (sw_w (eM σ f 0) 49 6 0) fun m23 => sw_up (fX10_token_L232 m23 0)) = (some (.inr (eM σ (upd (upd f 6 0) 4 (nI (p + 0))) 0)) : Option (sw_M ⊕ sw_M)) := by
        rw [let_s] at e1 ⊢
        rw [e1, sw_up_s]
      rw [if_neg hlt, if_neg (by decide), e1']
      refine ⟨_, _, rfl, ?_, fun k a1 a2 a3 a4 => by rw [upd_n a1, upd_n a2]; exact kk k a1 a2 a3 a4⟩
      unfold etk esort
      rw [eE, eT]
      refine ⟨?_, fun _ => ?_, ?_, ?_, fun h => absurd h (by decide), fun h => absurd h (by decide)⟩
      · rw [upd_n (by decide), upd_n (by decide)]; exact k5
      · rw [upd_e, Nat.add_zero]
      · rw [upd_n (by decide), upd_e]; rfl
      · rw [upd_n (by decide), upd_n (by decide)]; exact k7
  obtain ⟨F, Y, h0, het, hfr⟩ := fin
  refine ⟨F, Y, ?_, het, fun k a1 a2 a3 a4 => by rw [hfr k a1 a2 a3 a4, hf0]⟩
  unfold fX10_token
  refine wh_runs (b := fun s : sw_M => fX10_token_L0 s) (fun k => eM σ (upd f0 4 (nI (a + k))) y0) (p - a) ?_ (fun k hk' => ?_) ?_ (by omega)
  · show eM σ (upd f0 4 (nI (a + 0))) y0 = σ
    rw [upd_idx (by rw [Nat.add_zero, h4])]
    exact e0.symm
  · show fX10_token_L0 (eM σ (upd f0 4 (nI (a + k))) y0) = some (.inl (eM σ (upd f0 4 (nI (a + (k + 1)))) y0))
    obtain ⟨q1, q2⟩ := s2 (a + k) (by omega) (by omega)
    have b1 := (hB.2 (a + k) q1).1
    have u5 : upd f0 4 (nI (a + k)) 5 = nI n := by rw [upd_n (by decide)]; exact h5
    have hh : fX10_here (eM σ (upd f0 4 (nI (a + k))) y0) 0 = some (nI (B (a + k))) := by
      have := e_here (k := 0) (y := y0) hB u5 upd_e (by omega : a + k + 0 ≤ 1600)
      rw [Nat.add_zero, if_pos q1] at this
      exact this
    have hst : fX10_token_L20 (eM σ (upd f0 4 (nI (a + k))) y0) = some (.inl (eM σ (upd f0 4 (nI (a + (k + 1)))) y0)) := by
      rw [fX10_token_L20, eM_2, upd_e, nI_1, eM_w, let_s, upd_uu]
      rfl
    unfold fX10_token_L0
    rw [hh, b1_s, hst]
    rcases (ey_b _ b1).mp q2 with x | x
    · rw [if_pos x]
    · by_cases x32 : nI (B (a + k)) = 32
      · rw [if_pos x32]
      · rw [if_neg x32, b1_s, if_pos x]
  · show fX10_token_L0 (eM σ (upd f0 4 (nI (a + (p - a)))) y0) = _
    rw [show a + (p - a) = p by omega]
    exact h0
end ET
