/-! the class reads a token -/
def cM (σ : sw_M) (f : Nat → Int32) (y : Int64) : sw_M := (fun a => if a = 2 then f else σ.1 a, fun a => if a = 2 then vp_updL (σ.2.1 2) 6 y else σ.2.1 a, σ.2.2)
section CM
variable {σ : sw_M} {f : Nat → Int32} {y x : Int64}
theorem cM_2 : (cM σ f y).1 2 = f := rfl
theorem cM_n {a : Nat} (h : a ≠ 2) : (cM σ f y).1 a = σ.1 a := if_neg h
theorem cM_l : (cM σ f y).2.1 2 6 = y := rfl
theorem cM_ln {a : Nat} (h : a ≠ 2) : (cM σ f y).2.1 a = σ.2.1 a := if_neg h
theorem cM_w {k : Nat} {v : Int32} : sw_w (cM σ f y) 2 k v = cM σ (upd f k v) y := by
  unfold sw_w sw_wA cM
  refine Prod.ext ?_ rfl
  funext a
  by_cases h : a = 2
  · subst h; rfl
  · show (if a = 2 then _ else (if a = 2 then f else σ.1 a)) = if a = 2 then _ else σ.1 a
    rw [if_neg h, if_neg h, if_neg h]
theorem cM_wL : sw_wL (cM σ f y) 2 6 x = cM σ f x := by
  unfold sw_wL cM
  refine Prod.ext rfl (Prod.ext ?_ rfl)
  funext a
  by_cases h : a = 2
  · subst h
    show vp_updL (vp_updL (σ.2.1 2) 6 y) 6 x = vp_updL (σ.2.1 2) 6 x
    funext j
    unfold vp_updL
    by_cases hj : j = 6
    · rw [if_pos hj, if_pos hj]
    · rw [if_neg hj, if_neg hj, if_neg hj]
  · show (if a = 2 then _ else (if a = 2 then vp_updL (σ.2.1 2) 6 y else σ.2.1 a)) = if a = 2 then _ else σ.2.1 a
    rw [if_neg h, if_neg h, if_neg h]
theorem cM_self : cM σ (σ.1 2) (σ.2.1 2 6) = σ := by
  unfold cM
  refine Prod.ext ?_ (Prod.ext ?_ rfl)
  · funext a
    by_cases h : a = 2
    · subst h; rfl
    · show (if a = 2 then σ.1 2 else σ.1 a) = σ.1 a
      rw [if_neg h]
  · funext a
    by_cases h : a = 2
    · subst h
      show vp_updL (σ.2.1 2) 6 (σ.2.1 2 6) = σ.2.1 2
      funext j
      unfold vp_updL
      by_cases hj : j = 6
      · rw [if_pos hj, hj]
      · rw [if_neg hj]
    · show (if a = 2 then _ else σ.2.1 a) = σ.2.1 a
      rw [if_neg h]
end CM
theorem by_b : ∀ b, b < 256 → fX7_isBlank (vp_nar .byte (nI b)) = if isB b = true then 1 else 0 := by decide +kernel
theorem by_l : ∀ b, b < 256 → fX7_isLetter (vp_nar .byte (nI b)) = if isL b = true then 1 else 0 := by decide +kernel
theorem by_d : ∀ b, b < 256 → fX7_isDigit (vp_nar .byte (nI b)) = if isD b = true then 1 else 0 := by decide +kernel
theorem by_s : ∀ b, b < 256 → isS b = true → ¬ vp_nar .byte (nI b) ≤ 0 ∧ ¬ sw_sgn (((vp_nar .byte (nI b)).toUInt32 % 65536).toInt32) < 0 ∧ vp_nar .byte (nI b) = nI b := by decide +kernel
theorem by_n : ∀ b, b < 256 → isS b = false → vp_nar .byte (nI b) ≤ 0 ∨ sw_sgn (((vp_nar .byte (nI b)).toUInt32 % 65536).toInt32) < 0 := by decide +kernel
theorem by_v : ∀ b, b < 128 → vp_nar .byte (nI b) = nI b := by decide +kernel
theorem spell_n {c b : Nat} (h1 : 97 ≤ b) (h2 : b ≤ 122) : fX7_spelled (lN c) (nI b) = lN (c * 27 + (b - 96)) := by
  unfold fX7_spelled
  have e27 : (27 : Int64) = lN 27 := rfl
  have e97 : (97 : Int64) = lN 97 := rfl
  rw [nI_l (by omega), e27, lN_mul, lN_add, e97, lN_sub (by omega), lN_1]
  congr 1
  omega
section CT
variable {σ : sw_M} {B : Nat → Nat} {n : Nat}
/-- what the class's tape needs -/
def cB (σ : sw_M) (B : Nat → Nat) (n : Nat) : Prop := n ≤ 1600 ∧ (∀ j, j < n → B j < 256 ∧ σ.1 3 j = vp_nar .byte (nI (B j))) ∧ ∀ k, k < 19 → σ.2.1 4 k = sw_key k
theorem c_word {f : Nat → Int32} {y : Int64} {p : Nat} (hB : cB σ B n) (hp : p < n) (f1 : f 1 = nI n) (f3 : f 3 = nI p) (f5 : f 5 = nI p) (f7 : f 7 = -1) (hL : isL (B p) = true) :
    ∃ y', fX7_readWord (cM σ f y) = some (cM σ (if tkL B n p - p ≤ 8 then upd (upd (upd f 3 (nI (tkL B n p))) 4 2) 7 (kfind (cw (fun i => B (p + i)) (tkL B n p - p))) else upd (upd f 3 (nI (tkL B n p))) 4 1) y') ∧ y' = lN (cw (fun i => B (p + i)) (tkL B n p - p)) := by
  obtain ⟨hn, hb, hk⟩ := hB
  have sp := tend_spec (fun i => isL (B i)) n (n - p) p (by omega)
  obtain ⟨e, he⟩ : ∃ e, e = tkL B n p := ⟨_, rfl⟩
  have he' : t_end (fun i => isL (B i)) n (n - p) p = e := he.symm
  rw [he'] at sp
  obtain ⟨s1, s2, s3, s4⟩ := sp
  rw [← he]
  obtain ⟨F, hF⟩ : ∃ F : Nat → Nat, F = fun i => B (p + i) := ⟨_, rfl⟩
  rw [← hF]
  have hen := s4 (by omega)
  refine ⟨_, ?_, rfl⟩
  unfold fX7_readWord
  rw [cM_wL, let_s]
  refine wh_runs (b := fun s : sw_M => fX7_readWord_L5 s) (fun k => cM σ (upd f 3 (nI (p + k))) (lN (cw F k))) (e - p) ?_ (fun k hk' => ?_) ?_ (by omega)
  · show cM σ (upd f 3 (nI (p + 0))) (lN 0) = cM σ f 0
    have : upd f 3 (nI (p + 0)) = f := upd_idx (by rw [Nat.add_zero, f3])
    rw [this]
    rfl
  · show fX7_readWord_L5 (cM σ (upd f 3 (nI (p + k))) (lN (cw F k))) = some (.inl (cM σ (upd f 3 (nI (p + (k + 1)))) (lN (cw F (k + 1)))))
    obtain ⟨q1, q2⟩ := s2 (p + k) (by omega) (by omega)
    obtain ⟨b1, b2⟩ := hb (p + k) q1
    have q3 : 97 ≤ B (p + k) ∧ B (p + k) ≤ 122 := of_decide_eq_true q2
    have g1 : upd f 3 (nI (p + k)) 1 = nI n := by rw [upd_n (by decide)]; exact f1
    unfold fX7_readWord_L5
    rw [cM_2, g1, upd_e, if_neg (le_f q1 (by omega)), sw_gd_t (in_t (show p + k < 1600 by omega) (by decide)), nI_clamp (by omega), cM_n (show (3 : Nat) ≠ 2 by decide), b2, by_l _ b1, if_pos q2, if_neg i10, sw_gd_t (in_t (show p + k < 1600 by omega) (by decide)), cM_l, by_v _ (by omega), spell_n q3.1 q3.2, cM_wL, let_s, cM_2, upd_e, nI_1, cM_w, let_s, upd_uu]
    rw [hF]
    rfl
  · show fX7_readWord_L5 (cM σ (upd f 3 (nI (p + (e - p)))) (lN (cw F (e - p)))) = _
    have ee : p + (e - p) = e := by omega
    have hpe : p ≤ e := s1
    rw [ee]
    have stop : fX7_readWord_L5 (cM σ (upd f 3 (nI e)) (lN (cw F (e - p)))) = sw_up (fX7_readWord_L64 (cM σ (upd f 3 (nI e)) (lN (cw F (e - p))))) := by
      have g1 : upd f 3 (nI e) 1 = nI n := by rw [upd_n (by decide)]; exact f1
      unfold fX7_readWord_L5
      rw [cM_2, g1, upd_e]
      by_cases hlt : e < n
      · obtain ⟨b1, b2⟩ := hb e hlt
        have hl0 : ¬ isL (B e) = true := fun x => s3 ⟨hlt, x⟩
        rw [if_neg (le_f hlt (by omega)), sw_gd_t (in_t (show e < 1600 by omega) (by decide)), nI_clamp (by omega), cM_n (show (3 : Nat) ≠ 2 by decide), b2, by_l _ b1, if_neg hl0, if_pos rfl]
      · rw [if_pos (nI_le (by omega) (by omega))]
    have g5 : upd f 3 (nI e) 5 = nI p := by rw [upd_n (by decide)]; exact f5
    rw [stop, fX7_readWord_L64, cM_2, upd_e, g5, nI_sub hpe]
    by_cases h8 : e - p ≤ 8
    · have l8 : nI (e - p) ≤ 8 := nI_le (b := 8) h8 (by decide)
      have hf := c_ffind (σ := cM σ (upd (upd f 3 (nI e)) 4 2) (lN (cw F (e - p)))) (P0 := 4) (c := 19) (N := 19) (s := lN (cw F (e - p))) rfl (by decide) (by decide)
      have hkk : ffr ((cM σ (upd (upd f 3 (nI e)) 4 2) (lN (cw F (e - p)))).2.1 4) (lN (cw F (e - p))) 19 0 = kfind (cw F (e - p)) := by
        rw [cM_ln (show (4 : Nat) ≠ 2 by decide)]
        have cg : ∀ f i, i + f ≤ 19 → ffr (σ.2.1 4) (lN (cw F (e - p))) f i = ffr sw_key (lN (cw F (e - p))) f i := by
          intro f
          induction f with
          | zero => intro i _; rfl
          | succ f ih =>
            intro i hi
            rw [ffr, ffr, hk i (by omega), ih (i + 1) (by omega)]
        exact cg 19 0 (by decide)
      rw [hkk] at hf
      rw [if_pos l8, if_pos h8, fX7_readWord_L84, cM_w, let_s, cM_2, upd_e, if_pos rfl, cM_l]
      have hf' : fX7_find 4 (cM σ (upd (upd f 3 (nI e)) 4 2) (lN (cw F (e - p)))) 19 (lN (cw F (e - p))) = some (kfind (cw F (e - p))) := hf
      rw [hf', b1_s, cM_w, let_s, sw_up_s]
    · have l8 : ¬ nI (e - p) ≤ 8 := nI_ge (a := 8) (by omega) (by omega)
      rw [if_neg l8, if_neg h8, fX7_readWord_L84, cM_w, let_s, cM_2, upd_e, if_neg (by decide), sw_up_s]
theorem c_numb {f : Nat → Int32} {y : Int64} {p : Nat} (hB : cB σ B n) (hp : p < n) (f1 : f 1 = nI n) (f3 : f 3 = nI p) (f5 : f 5 = nI p) (hD : isD (B p) = true) :
    fX7_readNumber (cM σ f y) = some (cM σ (upd (upd (upd f 8 (nI (nmd (fun i => B (p + i)) (tkD B n p - p)))) 3 (nI (tkD B n p))) 4 (if (tkD B n p < n ∧ isL (B (tkD B n p)) = true) ∨ 4 < tkD B n p - p then 1 else 3)) y) := by
  obtain ⟨hn, hb, hk⟩ := hB
  have sp := tend_spec (fun i => isD (B i)) n (n - p) p (by omega)
  obtain ⟨e, he⟩ : ∃ e, e = tkD B n p := ⟨_, rfl⟩
  have he' : t_end (fun i => isD (B i)) n (n - p) p = e := he.symm
  rw [he'] at sp
  obtain ⟨s1, s2, s3, s4⟩ := sp
  rw [← he]
  obtain ⟨F, hF⟩ : ∃ F : Nat → Nat, F = fun i => B (p + i) := ⟨_, rfl⟩
  rw [← hF]
  have hen := s4 (by omega)
  unfold fX7_readNumber
  rw [cM_w, let_s]
  refine wh_runs (b := fun s : sw_M => fX7_readNumber_L5 s) (fun k => cM σ (upd (upd f 8 (nI (nmd F k))) 3 (nI (p + k))) y) (e - p) ?_ (fun k hk' => ?_) ?_ (by omega)
  · show cM σ (upd (upd f 8 (nI 0)) 3 (nI (p + 0))) y = cM σ (upd f 8 0) y
    have : upd (upd f 8 (nI 0)) 3 (nI (p + 0)) = upd f 8 (nI 0) := upd_idx (by rw [Nat.add_zero, upd_n (by decide), f3])
    rw [this]
    rfl
  · show fX7_readNumber_L5 (cM σ (upd (upd f 8 (nI (nmd F k))) 3 (nI (p + k))) y) = some (.inl (cM σ (upd (upd f 8 (nI (nmd F (k + 1)))) 3 (nI (p + (k + 1)))) y))
    obtain ⟨q1, q2⟩ := s2 (p + k) (by omega) (by omega)
    obtain ⟨b1, b2⟩ := hb (p + k) q1
    have q3 : 48 ≤ B (p + k) ∧ B (p + k) ≤ 57 := of_decide_eq_true q2
    have g1 : upd (upd f 8 (nI (nmd F k))) 3 (nI (p + k)) 1 = nI n := by rw [upd_n (by decide), upd_n (by decide)]; exact f1
    have g8 : upd (upd f 8 (nI (nmd F k))) 3 (nI (p + k)) 8 = nI (nmd F k) := by rw [upd_n (by decide), upd_e]
    have g3 : ∀ v, upd (upd (upd f 8 (nI (nmd F k))) 3 (nI (p + k))) 8 v 3 = nI (p + k) := fun v => by rw [upd_n (by decide), upd_e]
    have ev : nI (nmd F k) * 10 + nI (B (p + k)) - 48 = nI (nmd F (k + 1)) := by
      have e10 : (10 : Int32) = nI 10 := rfl
      have e48 : (48 : Int32) = nI 48 := rfl
      rw [e10, pk_mul, nI_add, e48, nI_sub (by omega), hF]
      congr 1
      show nmd _ k * 10 + B (p + k) - 48 = nmd _ k * 10 + (B (p + k) - 48)
      omega
    have com : upd (upd (upd (upd f 8 (nI (nmd F k))) 3 (nI (p + k))) 8 (nI (nmd F (k + 1)))) 3 (nI (p + k + 1)) = upd (upd f 8 (nI (nmd F (k + 1)))) 3 (nI (p + (k + 1))) := by
      funext j
      unfold upd
      by_cases j3 : j = 3
      · rw [if_pos j3, if_pos j3]
        rfl
      · simp only [if_neg j3]
        by_cases j8 : j = 8
        · simp only [if_pos j8]
        · simp only [if_neg j8]
    unfold fX7_readNumber_L5
    rw [cM_2, g1, upd_e, if_neg (le_f q1 (by omega)), sw_gd_t (in_t (show p + k < 1600 by omega) (by decide)), nI_clamp (by omega), cM_n (show (3 : Nat) ≠ 2 by decide), b2, by_d _ b1, if_pos q2, if_neg i10, sw_gd_t (in_t (show p + k < 1600 by omega) (by decide)), g8, by_v _ (by omega), ev, cM_w, let_s, cM_2, g3, nI_1, cM_w, let_s, com]
  · show fX7_readNumber_L5 (cM σ (upd (upd f 8 (nI (nmd F (e - p)))) 3 (nI (p + (e - p)))) y) = _
    have ee : p + (e - p) = e := by omega
    have hpe : p ≤ e := s1
    rw [ee]
    obtain ⟨G, hG⟩ : ∃ G, G = upd (upd f 8 (nI (nmd F (e - p)))) 3 (nI e) := ⟨_, rfl⟩
    have G1 : G 1 = nI n := by rw [hG, upd_n (by decide), upd_n (by decide)]; exact f1
    have G3 : G 3 = nI e := by rw [hG, upd_e]
    have G5 : G 5 = nI p := by rw [hG, upd_n (by decide), upd_n (by decide)]; exact f5
    rw [← hG]
    have stop : fX7_readNumber_L5 (cM σ G y) = sw_up (fX7_readNumber_L68 (cM σ G y)) := by
      unfold fX7_readNumber_L5
      rw [cM_2, G1, G3]
      by_cases hlt : e < n
      · obtain ⟨b1, b2⟩ := hb e hlt
        have hl0 : ¬ isD (B e) = true := fun x => s3 ⟨hlt, x⟩
        rw [if_neg (le_f hlt (by omega)), sw_gd_t (in_t (show e < 1600 by omega) (by decide)), nI_clamp (by omega), cM_n (show (3 : Nat) ≠ 2 by decide), b2, by_d _ b1, if_neg hl0, if_pos rfl]
      · rw [if_pos (nI_le (by omega) (by omega))]
    have L99 : ∀ b0 : Int32, fX7_readNumber_L99 (cM σ G y) b0 = some (cM σ (upd G 4 (if b0 = 0 then (if e - p ≤ 4 then 3 else 1) else 1)) y) := by
      intro b0
      rw [fX7_readNumber_L99, fX7_readNumber_L118, fX7_readNumber_L123, fX7_readNumber_L123, cM_2, G3, G5, nI_sub hpe, cM_w, cM_w, let_s, let_s]
      by_cases hb0 : b0 = 0
      · rw [if_pos hb0, if_pos hb0]
        by_cases h4 : e - p ≤ 4
        · have l4 : nI (e - p) ≤ 4 := nI_le (b := 4) h4 (by decide)
          rw [if_pos l4, if_pos h4]
        · have l4 : ¬ nI (e - p) ≤ 4 := nI_ge (a := 4) (by omega) (by omega)
          rw [if_neg l4, if_neg h4]
      · rw [if_neg hb0, if_neg hb0]
    rw [stop, fX7_readNumber_L68, fX7_readNumber_L98, L99, L99, cM_2, G1, G3]
    by_cases hlt : e < n
    · obtain ⟨b1, b2⟩ := hb e hlt
      rw [if_neg (le_f hlt (by omega)), sw_gd_t (in_t (show e < 1600 by omega) (by decide)), nI_clamp (by omega), cM_n (show (3 : Nat) ≠ 2 by decide), b2, by_l _ b1]
      by_cases hl : isL (B e) = true
      · rw [if_pos hl, if_neg i10, if_neg i10, if_pos (.inl ⟨hlt, hl⟩), sw_up_s]
      · rw [if_neg hl, if_pos rfl, if_pos rfl]
        by_cases h4 : e - p ≤ 4
        · rw [if_pos h4, if_neg (by intro x; rcases x with ⟨_, x⟩ | x; exact hl x; omega), sw_up_s]
        · rw [if_neg h4, if_pos (.inr (by omega)), sw_up_s]
    · rw [if_pos (nI_le (by omega) (by omega)), if_pos rfl]
      by_cases h4 : e - p ≤ 4
      · rw [if_pos h4, if_neg (by intro x; rcases x with ⟨x, _⟩ | x; exact hlt x; omega), sw_up_s]
      · rw [if_neg h4, if_pos (.inr (by omega)), sw_up_s]
theorem c_sign {f : Nat → Int32} {y : Int64} {p : Nat} (hB : cB σ B n) (hp : p < n) (f3 : f 3 = nI p) :
    fX7_readSign (cM σ f y) = some (cM σ (if isS (B p) = true then upd (upd (upd f 4 4) 9 (nI (B p))) 3 (nI (p + 1)) else upd (upd f 4 1) 3 (nI (p + 1))) y) := by
  obtain ⟨hn, hb, hk⟩ := hB
  obtain ⟨b1, b2⟩ := hb p hp
  unfold fX7_readSign
  rw [cM_2, f3, sw_gd_t (in_t (show p < 1600 by omega) (by decide)), nI_clamp (by omega), cM_n (show (3 : Nat) ≠ 2 by decide), b2, let_s]
  have g3 : upd f 4 1 3 = nI p := by rw [upd_n (by decide)]; exact f3
  have g3' : ∀ v, upd (upd f 4 4) 9 v 3 = nI p := fun v => by rw [upd_n (by decide), upd_n (by decide)]; exact f3
  by_cases hs : isS (B p) = true
  · obtain ⟨q1, q2, q3⟩ := by_s _ b1 hs
    rw [if_neg q1, if_neg q2, if_pos hs, q3, fX7_readSign_L30, cM_w, let_s, cM_2, upd_e, if_pos rfl, cM_w, let_s, fX7_readSign_L46, cM_2, g3', nI_1, cM_w, let_s]
  · have hs' : isS (B p) = false := by
      cases h : isS (B p)
      · rfl
      · exact absurd h hs
    have bad : fX7_readSign_L29 (cM σ f y) (vp_nar .byte (nI (B p))) = some (cM σ (upd (upd f 4 1) 3 (nI (p + 1))) y) := by
      rw [fX7_readSign_L29, fX7_readSign_L30, cM_w, let_s, cM_2, upd_e, if_neg (by decide), fX7_readSign_L46, cM_2, g3, nI_1, cM_w, let_s]
    rw [if_neg hs, bad]
    rcases by_n _ b1 hs' with q | q
    · rw [if_pos q]
    · rw [if_pos q]
      split <;> rfl
/-- the class's token, read from a place on -/
def ctk (B : Nat → Nat) (n p : Nat) (f : Nat → Int32) (y : Int64) : Prop := f 1 = nI n ∧ f 3 = nI (teE B n p) ∧ f 4 = nI (teT B n p) ∧ f 5 = nI p ∧ (teT B n p = 2 → y = lN (teX B n p)) ∧ f 7 = (if teT B n p = 2 then kfind (teX B n p) else -1) ∧ (teT B n p = 3 → f 8 = nI (teX B n p)) ∧ f 9 = (if teT B n p = 4 then nI (teX B n p) else 0)
theorem c_next {a : Nat} (hB : cB σ B n) (ha : a ≤ n) (h1 : σ.1 2 1 = nI n) (h3 : σ.1 2 3 = nI a) : ∃ f y, fX7_readNext σ = some (cM σ f y) ∧ ctk B n (tkP B n a) f y := by
  have hB' := hB
  obtain ⟨hn, hb, hk⟩ := hB
  have sp := tend_spec (fun i => isB (B i)) n (n - a) a (by omega)
  obtain ⟨p, hp⟩ : ∃ p, p = tkP B n a := ⟨_, rfl⟩
  have hp' : t_end (fun i => isB (B i)) n (n - a) a = p := hp.symm
  rw [hp'] at sp
  obtain ⟨s1, s2, s3, s4⟩ := sp
  rw [← hp]
  have hpn := s4 ha
  obtain ⟨f0, hf0⟩ : ∃ f0, f0 = upd (upd (σ.1 2) 7 (-1)) 9 0 := ⟨_, rfl⟩
  have g1 : f0 1 = nI n := by rw [hf0, upd_n (by decide), upd_n (by decide)]; exact h1
  have g3 : f0 3 = nI a := by rw [hf0, upd_n (by decide), upd_n (by decide)]; exact h3
  have g7 : f0 7 = -1 := by rw [hf0, upd_n (by decide), upd_e]
  have g9 : f0 9 = 0 := by rw [hf0, upd_e]
  obtain ⟨y0, hy0⟩ : ∃ y0, y0 = σ.2.1 2 6 := ⟨_, rfl⟩
  have e0 : sw_w (sw_w σ 2 7 (-1)) 2 9 0 = cM σ f0 y0 := by
    have : σ = cM σ (σ.1 2) (σ.2.1 2 6) := cM_self.symm
    rw [this, cM_w, cM_w, ← this, hf0, hy0]
  obtain ⟨f, hf⟩ : ∃ f, f = upd (upd f0 3 (nI p)) 5 (nI p) := ⟨_, rfl⟩
  have k1 : f 1 = nI n := by rw [hf, upd_n (by decide), upd_n (by decide)]; exact g1
  have k3 : f 3 = nI p := by rw [hf, upd_n (by decide), upd_e]
  have k5 : f 5 = nI p := by rw [hf, upd_e]
  have k7 : f 7 = -1 := by rw [hf, upd_n (by decide), upd_n (by decide)]; exact g7
  have k9 : f 9 = 0 := by rw [hf, upd_n (by decide), upd_n (by decide)]; exact g9
  have fin : ∃ F Y, fX7_readNext_L49 (cM σ (upd f0 3 (nI p)) y0) = some (cM σ F Y) ∧ ctk B n p F Y := by
    unfold fX7_readNext_L49
    rw [cM_2, upd_e, cM_w, let_s, ← hf, cM_2, k1, k3]
    by_cases hlt : p < n
    · obtain ⟨b1, b2⟩ := hb p hlt
      rw [if_pos (nI_lt hlt (by omega)), sw_gd_t (in_t (show p < 1600 by omega) (by decide)), sw_gd_t (in_t (show p < 1600 by omega) (by decide)), nI_clamp (by omega), cM_n (show (3 : Nat) ≠ 2 by decide), b2, by_l _ b1, by_d _ b1]
      have np : ¬ n ≤ p := by omega
      by_cases hl : isL (B p) = true
      · obtain ⟨y', w1, w2⟩ := c_word (y := y0) hB' hlt k1 k3 k5 k7 hl
        rw [if_pos hl, if_neg i10, w1, b1_s]
        refine ⟨_, _, rfl, ?_⟩
        have eE : teE B n p = tkL B n p := by rw [teE, if_neg np, if_pos hl]
        have eX : teX B n p = cw (fun i => B (p + i)) (tkL B n p - p) := by rw [teX, if_pos hl]
        unfold ctk
        rw [eE, eX]
        by_cases h8 : tkL B n p - p ≤ 8
        · have eT : teT B n p = 2 := by rw [teT, if_neg np, if_pos hl, if_pos h8]
          rw [eT, if_pos h8]
          refine ⟨?_, ?_, ?_, ?_, fun _ => w2, ?_, fun h => absurd h (by decide), ?_⟩
          · rw [upd_n (by decide), upd_n (by decide), upd_n (by decide)]; exact k1
          · rw [upd_n (by decide), upd_n (by decide), upd_e]
          · rw [upd_n (by decide), upd_e]; rfl
          · rw [upd_n (by decide), upd_n (by decide), upd_n (by decide)]; exact k5
          · rw [upd_e, if_pos rfl]
          · rw [upd_n (by decide), upd_n (by decide), upd_n (by decide), if_neg (by decide)]; exact k9
        · have eT : teT B n p = 1 := by rw [teT, if_neg np, if_pos hl, if_neg h8]
          rw [eT, if_neg h8]
          refine ⟨?_, ?_, ?_, ?_, fun h => absurd h (by decide), ?_, fun h => absurd h (by decide), ?_⟩
          · rw [upd_n (by decide), upd_n (by decide)]; exact k1
          · rw [upd_n (by decide), upd_e]
          · rw [upd_e]; rfl
          · rw [upd_n (by decide), upd_n (by decide)]; exact k5
          · rw [upd_n (by decide), upd_n (by decide), if_neg (by decide)]; exact k7
          · rw [upd_n (by decide), upd_n (by decide), if_neg (by decide)]; exact k9
      · rw [if_neg hl, if_pos rfl]
        by_cases hd : isD (B p) = true
        · rw [if_pos hd, if_neg i10, c_numb (y := y0) hB' hlt k1 k3 k5 hd, b1_s]
          refine ⟨_, _, rfl, ?_⟩
          have eE : teE B n p = tkD B n p := by rw [teE, if_neg np, if_neg hl, if_pos hd]
          have eX : teX B n p = nmd (fun i => B (p + i)) (tkD B n p - p) := by rw [teX, if_neg hl, if_pos hd]
          have eT : teT B n p = if (tkD B n p < n ∧ isL (B (tkD B n p)) = true) ∨ 4 < tkD B n p - p then 1 else 3 := by rw [teT, if_neg np, if_neg hl, if_pos hd]
          have n2 : ¬ teT B n p = 2 := by rw [eT]; split <;> decide
          have n4 : ¬ teT B n p = 4 := by rw [eT]; split <;> decide
          unfold ctk
          rw [eE, eX, if_neg n2, if_neg n4]
          refine ⟨?_, ?_, ?_, ?_, fun h => absurd h n2, ?_, fun _ => ?_, ?_⟩
          · rw [upd_n (by decide), upd_n (by decide), upd_n (by decide)]; exact k1
          · rw [upd_n (by decide), upd_e]
          · rw [upd_e, eT]
            split <;> rfl
          · rw [upd_n (by decide), upd_n (by decide), upd_n (by decide)]; exact k5
          · rw [upd_n (by decide), upd_n (by decide), upd_n (by decide)]; exact k7
          · rw [upd_n (by decide), upd_n (by decide), upd_e]
          · rw [upd_n (by decide), upd_n (by decide), upd_n (by decide)]; exact k9
        · rw [if_neg hd, if_pos rfl, c_sign (y := y0) hB' hlt k3, b1_s]
          refine ⟨_, _, rfl, ?_⟩
          have eE : teE B n p = p + 1 := by rw [teE, if_neg np, if_neg hl, if_neg hd]
          have eX : teX B n p = B p := by rw [teX, if_neg hl, if_neg hd]
          unfold ctk
          rw [eE, eX]
          by_cases hs : isS (B p) = true
          · have eT : teT B n p = 4 := by rw [teT, if_neg np, if_neg hl, if_neg hd, if_pos hs]
            rw [eT, if_pos hs]
            refine ⟨?_, ?_, ?_, ?_, fun h => absurd h (by decide), ?_, fun h => absurd h (by decide), ?_⟩
            · rw [upd_n (by decide), upd_n (by decide), upd_n (by decide)]; exact k1
            · rw [upd_e]
            · rw [upd_n (by decide), upd_n (by decide), upd_e]; rfl
            · rw [upd_n (by decide), upd_n (by decide), upd_n (by decide)]; exact k5
            · rw [upd_n (by decide), upd_n (by decide), upd_n (by decide), if_neg (by decide)]; exact k7
            · rw [upd_n (by decide), upd_e, if_pos rfl]
          · have eT : teT B n p = 1 := by rw [teT, if_neg np, if_neg hl, if_neg hd, if_neg hs]
            rw [eT, if_neg hs]
            refine ⟨?_, ?_, ?_, ?_, fun h => absurd h (by decide), ?_, fun h => absurd h (by decide), ?_⟩
            · rw [upd_n (by decide), upd_n (by decide)]; exact k1
            · rw [upd_e]
            · rw [upd_n (by decide), upd_e]; rfl
            · rw [upd_n (by decide), upd_n (by decide)]; exact k5
            · rw [upd_n (by decide), upd_n (by decide), if_neg (by decide)]; exact k7
            · rw [upd_n (by decide), upd_n (by decide), if_neg (by decide)]; exact k9
    · have np : n ≤ p := by omega
      have eE : teE B n p = p := by rw [teE, if_pos np]
      have eT : teT B n p = 0 := by rw [teT, if_pos np]
      rw [if_neg (nI_nlt np (by omega)), cM_w, let_s]
      refine ⟨_, _, rfl, ?_⟩
      unfold ctk
      rw [eE, eT]
      refine ⟨?_, ?_, ?_, ?_, fun h => absurd h (by decide), ?_, fun h => absurd h (by decide), ?_⟩
      · rw [upd_n (by decide)]; exact k1
      · rw [upd_n (by decide)]; exact k3
      · rw [upd_e]; rfl
      · rw [upd_n (by decide)]; exact k5
      · rw [upd_n (by decide), if_neg (by decide)]; exact k7
      · rw [upd_n (by decide), if_neg (by decide)]; exact k9
  obtain ⟨F, Y, h49, hct⟩ := fin
  refine ⟨F, Y, ?_, hct⟩
  unfold fX7_readNext
  rw [let_s, let_s, e0]
  refine wh_runs (b := fun s : sw_M => fX7_readNext_L10 s) (fun k => cM σ (upd f0 3 (nI (a + k))) y0) (p - a) ?_ (fun k hk' => ?_) ?_ (by omega)
  · show cM σ (upd f0 3 (nI (a + 0))) y0 = cM σ f0 y0
    rw [upd_idx (by rw [Nat.add_zero, g3])]
  · show fX7_readNext_L10 (cM σ (upd f0 3 (nI (a + k))) y0) = some (.inl (cM σ (upd f0 3 (nI (a + (k + 1)))) y0))
    obtain ⟨q1, q2⟩ := s2 (a + k) (by omega) (by omega)
    obtain ⟨b1, b2⟩ := hb (a + k) q1
    have u1 : upd f0 3 (nI (a + k)) 1 = nI n := by rw [upd_n (by decide)]; exact g1
    unfold fX7_readNext_L10
    rw [cM_2, u1, upd_e, if_neg (le_f q1 (by omega)), sw_gd_t (in_t (show a + k < 1600 by omega) (by decide)), nI_clamp (by omega), cM_n (show (3 : Nat) ≠ 2 by decide), b2, by_b _ b1, if_pos q2, if_neg i10, nI_1, cM_w, let_s, upd_uu]
    rfl
  · show fX7_readNext_L10 (cM σ (upd f0 3 (nI (a + (p - a)))) y0) = _
    rw [show a + (p - a) = p by omega]
    have u1 : upd f0 3 (nI p) 1 = nI n := by rw [upd_n (by decide)]; exact g1
    unfold fX7_readNext_L10
    rw [cM_2, u1, upd_e, h49, sw_up_s]
    by_cases hlt : p < n
    · obtain ⟨b1, b2⟩ := hb p hlt
      have hl0 : ¬ isB (B p) = true := fun x => s3 ⟨hlt, x⟩
      rw [if_neg (le_f hlt (by omega)), sw_gd_t (in_t (show p < 1600 by omega) (by decide)), nI_clamp (by omega), cM_n (show (3 : Nat) ≠ 2 by decide), b2, by_b _ b1, if_neg hl0, if_pos rfl]
    · rw [if_pos (nI_le (by omega) (by omega))]
end CT
