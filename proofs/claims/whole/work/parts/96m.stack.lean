/-! the reference's stack of signs -/
def tg (c : Nat) : Nat := if c = 21 then 3 else if c = 38 then 2 else if c = 43 then 5 else if c = 45 then 5 else if c = 60 then 4 else if c = 61 then 4 else if c = 62 then 4 else if c = 124 then 1 else 6
theorem tg_e : ∀ c, c < 128 → fX10_tight (nI c) = nI (tg c) ∧ tg c ≤ 6 := by decide +kernel
def fcode (c : Nat) : Int32 := if c = 21 then -33 else -(nI c)
def okc (c : Nat) : Prop := c = 20 ∨ c = 21 ∨ c = 124 ∨ c = 38 ∨ c = 60 ∨ c = 62 ∨ c = 61 ∨ c = 43 ∨ c = 45 ∨ c = 42 ∨ c = 47 ∨ c = 37
theorem okc_lt {c : Nat} (h : okc c) : c < 128 := by unfold okc at h; omega
theorem fc_enc : ∀ c, c < 128 → c = 124 ∨ c = 38 ∨ c = 60 ∨ c = 62 ∨ c = 61 ∨ c = 43 ∨ c = 45 ∨ c = 42 ∨ c = 47 ∨ c = 37 → -(nI c) < -6 ∧ -(nI c) ≠ -33 ∧ -(nI c) ≠ -6 := by decide +kernel
theorem n20 {c : Nat} (hc : c < 128) (h : ¬ c = 20) : ¬ nI c = 20 := fun w => h ((nI_eq (b := 20) (by omega) (by decide)).mp w)
theorem n21 {c : Nat} (hc : c < 128) (h : ¬ c = 21) : ¬ nI c = 21 := fun w => h ((nI_eq (b := 21) (by omega) (by decide)).mp w)
theorem n4 {c : Nat} (hc : c < 128) (h : ¬ c = 4) : ¬ nI c = 4 := fun w => h ((nI_eq (b := 4) (by omega) (by decide)).mp w)
/-- the stack, as both of its cells hold it -/
def stR (τ : sw_M) (sk : Nat → Nat) (l : Nat) : Prop := τ.1 49 19 = nI l ∧ l ≤ 60 ∧ ∀ i, i < l → τ.1 56 i = nI (sk i) ∧ okc (sk i)
def nots (sk : Nat → Nat) (l0 : Nat) : Nat → Nat
  | 0 => 0
  | j + 1 => nots sk l0 j + if sk (l0 + j) = 21 then 1 else 0
/-- formula's frame -/
def ffe (τ τ' : sw_M) : Prop := τ'.2.2 = τ.2.2 ∧ (∀ a, a ≠ 49 → a ≠ 52 → a ≠ 53 → a ≠ 56 → τ'.1 a = τ.1 a) ∧ (∀ a, a ≠ 49 → τ'.2.1 a = τ.2.1 a) ∧ ∀ k, 8 < k → k ≠ 17 → k ≠ 19 → k ≠ 20 → k ≠ 22 → k ≠ 23 → τ'.1 49 k = τ.1 49 k
def ffc (Q : Nat) (σ σ' : sw_M) : Prop := σ'.2.2 = σ.2.2 ∧ (∀ a, a ≠ 2 → a ≠ Q + 7 → a ≠ Q + 8 → σ'.1 a = σ.1 a) ∧ ∀ a, a ≠ 2 → σ'.2.1 a = σ.2.1 a
section PI
variable {σ τ σ0 τ0 σ' τ' : sw_M} {B : Nat → Nat} {n p Q : Nat}
theorem ffe.rf : ffe τ τ := ⟨rfl, fun _ _ _ _ _ => rfl, fun _ _ => rfl, fun _ _ _ _ _ _ _ => rfl⟩
theorem ffe.tr {υ : sw_M} (h : ffe σ τ) (h' : ffe τ υ) : ffe σ υ := ⟨h'.1.trans h.1, fun a a1 a2 a3 a4 => (h'.2.1 a a1 a2 a3 a4).trans (h.2.1 a a1 a2 a3 a4), fun a a1 => (h'.2.2.1 a a1).trans (h.2.2.1 a a1), fun k a1 a2 a3 a4 a5 a6 => (h'.2.2.2 k a1 a2 a3 a4 a5 a6).trans (h.2.2.2 k a1 a2 a3 a4 a5 a6)⟩
theorem ffc.rf : ffc Q σ σ := ⟨rfl, fun _ _ _ _ => rfl, fun _ _ => rfl⟩
theorem ffc.tr {υ : sw_M} (h : ffc Q σ τ) (h' : ffc Q τ υ) : ffc Q σ υ := ⟨h'.1.trans h.1, fun a a1 a2 a3 => (h'.2.1 a a1 a2 a3).trans (h.2.1 a a1 a2 a3), fun a a1 => (h'.2.2 a a1).trans (h.2.2 a a1)⟩
theorem ffc_c (h : cfr σ σ') : ffc Q σ σ' := ⟨h.1, fun a a1 _ _ => h.2.1 a a1, h.2.2⟩
theorem ffe_e (h : efr τ τ') : ffe τ τ' := ⟨h.1, fun a a1 _ _ _ => h.2.1 a a1, fun a a1 => h.2.2.1 a a1, fun k a1 _ _ _ _ _ => h.2.2.2 k (by omega) (by omega) (by omega) (by omega)⟩
theorem ffe_w {k : Nat} {x : Int32} (hk : k = 17 ∨ k = 19 ∨ k = 20 ∨ k = 22 ∨ k = 23) : ffe τ (sw_w τ 49 k x) := ⟨rfl, fun a a1 _ _ _ => m_wne a1, fun _ _ => rfl, fun j _ a2 a3 a4 a5 a6 => by rw [w_at, upd_n (by omega)]⟩
theorem ffe_t {a k : Nat} {x : Int32} (ha : a = 52 ∨ a = 53 ∨ a = 56) : ffe τ (sw_w τ a k x) := ⟨rfl, fun b _ b2 b3 b4 => m_wne (by omega), fun _ _ => rfl, fun j _ _ _ _ _ _ => by rw [m_wne (by omega)]⟩
/-- one step more -/
def e_ad (τ : sw_M) (z : Nat) (s a : Int32) : sw_M := sw_w (sw_w (sw_w τ 52 z s) 53 z a) 49 17 (nI (z + 1))
theorem e_add {z : Nat} {s a : Int32} (h : τ.1 49 17 = nI z) (hz : z < 320) : fX10_add τ s a = some (e_ad τ z s a) := by
  have h1 : ∀ x, (sw_w τ 52 z x).1 49 17 = nI z := fun x => by rw [m_wne (by decide)]; exact h
  have h2 : ∀ x y, (sw_w (sw_w τ 52 z x) 53 z y).1 49 17 = nI z := fun x y => by rw [m_wne (by decide)]; exact h1 x
  rw [fX10_add, h, sw_gd_t (in_t hz (by decide)), nI_clamp (by omega), let_s, h1, sw_gd_t (in_t hz (by decide)), nI_clamp (by omega), let_s, h2, nI_1, let_s]
  rfl
theorem ad_fr {z : Nat} {s a : Int32} : ffe τ (e_ad τ z s a) := (ffe_t (.inl rfl)).tr ((ffe_t (.inr (.inl rfl))).tr (ffe_w (.inl rfl)))
theorem ad_49 {z k : Nat} {s a : Int32} (hk : k ≠ 17) : (e_ad τ z s a).1 49 k = τ.1 49 k := by
  unfold e_ad
  rw [w_at, upd_n hk, m_wne (by decide), m_wne (by decide)]
theorem ad_17 {z : Nat} {s a : Int32} : (e_ad τ z s a).1 49 17 = nI (z + 1) := by
  unfold e_ad
  rw [w_at, upd_e]
theorem ad_52 {z : Nat} {s a : Int32} : (e_ad τ z s a).1 52 = upd (τ.1 52) z s := by
  unfold e_ad
  rw [m_wne (by decide), m_wne (by decide), w_at]
theorem ad_53 {z : Nat} {s a : Int32} : (e_ad τ z s a).1 53 = upd (τ.1 53) z a := by
  unfold e_ad
  rw [m_wne (by decide), w_at, m_wne (by decide)]
theorem ad_56 {z : Nat} {s a : Int32} : (e_ad τ z s a).1 56 = τ.1 56 := by
  unfold e_ad
  rw [m_wne (by decide), m_wne (by decide), m_wne (by decide)]
/-- signs that bind as tightly are done, down to where it stops -/
theorem e_clo {sk : Nat → Nat} {t l0 : Nat} (ht : t ≤ 6) (hstop : l0 = 0 ∨ sk (l0 - 1) = 20 ∨ tg (sk (l0 - 1)) < t) : ∀ (d : Nat) (τ : sw_M) (z dp fuel : Nat), stR τ sk (l0 + d) → (∀ i, l0 ≤ i → i < l0 + d → ¬ sk i = 20 ∧ t ≤ tg (sk i)) → τ.1 49 17 = nI z → z + d ≤ 320 → τ.1 49 23 = nI (dp + nots sk l0 d) → d < fuel →
    ∃ τ', sw_wh fuel (fun s => fX10_close_L0 s (nI t)) τ = some τ' ∧ ffe τ τ' ∧ stR τ' sk l0 ∧ τ'.1 49 17 = nI (z + d) ∧ τ'.1 49 23 = nI dp ∧ (∀ k, k ≠ 17 → k ≠ 19 → k ≠ 23 → τ'.1 49 k = τ.1 49 k) ∧ (∀ i, i < z → τ'.1 52 i = τ.1 52 i ∧ τ'.1 53 i = τ.1 53 i) ∧ (∀ j, j < d → q_enc (τ'.1 52 (z + j)) (τ'.1 53 (z + j)) (fcode (sk (l0 + d - 1 - j)))) ∧ τ'.1 56 = τ.1 56 := by
  intro d
  induction d with
  | zero =>
    intro τ z dp fuel hs _ hz _ hd hf
    obtain ⟨fuel, rfl⟩ : ∃ q, fuel = q + 1 := ⟨fuel - 1, by omega⟩
    obtain ⟨s1, s2, s3⟩ := hs
    rw [Nat.add_zero] at s1 s2 s3
    have hd' : τ.1 49 23 = nI dp := hd
    refine ⟨τ, wh_end ?_, ffe.rf, ⟨s1, s2, s3⟩, hz, hd', fun _ _ _ _ => rfl, fun _ _ => ⟨rfl, rfl⟩, fun j hj => absurd hj (Nat.not_lt_zero j), rfl⟩
    show fX10_close_L0 τ (nI t) = some (.inr τ)
    unfold fX10_close_L0
    rw [s1]
    by_cases h0 : l0 = 0
    · rw [if_pos (by rw [h0]; decide)]
    · obtain ⟨q, rfl⟩ : ∃ q, l0 = q + 1 := ⟨l0 - 1, by omega⟩
      obtain ⟨x1, x2⟩ := s3 q (by omega)
      have hx := okc_lt x2
      rw [if_neg (nI_nle (by omega) (by omega)), nI_pred, sw_gd_t (in_t (show q < 160 by omega) (by decide)), nI_clamp (by omega), x1, sw_gd_t (in_t (show q < 160 by omega) (by decide)), (tg_e _ hx).1]
      have hstop' : sk q = 20 ∨ tg (sk q) < t := by
        rcases hstop with h | h | h
        · omega
        · exact .inl h
        · exact .inr h
      rcases hstop' with h | h
      · rw [if_pos (by rw [h]; rfl)]
      · by_cases e : nI (sk q) = 20
        · rw [if_pos e]
        · rw [if_neg e, if_pos (nI_lt h (by omega))]
  | succ d ih =>
    intro τ z dp fuel hs hp hz hz2 hd hf
    obtain ⟨fuel, rfl⟩ : ∃ q, fuel = q + 1 := ⟨fuel - 1, by omega⟩
    obtain ⟨s1, s2, s3⟩ := hs
    obtain ⟨x1, x2⟩ := s3 (l0 + d) (by omega)
    obtain ⟨y1, y2⟩ := hp (l0 + d) (by omega) (by omega)
    have hx := okc_lt x2
    have e20 : ¬ nI (sk (l0 + d)) = 20 := fun e => y1 ((nI_eq (b := 20) (by omega) (by decide)).mp e)
    have elt : ¬ nI (tg (sk (l0 + d))) < nI t := nI_nlt y2 (by have := (tg_e _ hx).2; omega)
    have s1' : τ.1 49 19 = nI (l0 + d + 1) := s1
    obtain ⟨m6, hm6⟩ : ∃ m6, m6 = sw_w τ 49 19 (nI (l0 + d)) := ⟨_, rfl⟩
    have m19 : m6.1 49 19 = nI (l0 + d) := by rw [hm6, w_at, upd_e]
    have mk : ∀ k, k ≠ 19 → m6.1 49 k = τ.1 49 k := fun k hk => by rw [hm6, w_at, upd_n hk]
    have ma : ∀ a, a ≠ 49 → m6.1 a = τ.1 a := fun a ha => by rw [hm6, m_wne ha]
    have m17 : m6.1 49 17 = nI z := by rw [mk 17 (by decide)]; exact hz
    have m56 : m6.1 56 (l0 + d) = nI (sk (l0 + d)) := by rw [ma 56 (by decide)]; exact x1
    have mfr : ffe τ m6 := by rw [hm6]; exact ffe_w (.inr (.inl rfl))
    have body : ∀ X, (if nI (sk (l0 + d)) = 21 then sw_b1 (fX10_add m6 2 0) fun m13 => sw_let (sw_w m13 49 23 ((m13.1 49 23) - 1)) fun m15 => some (.inl m15) else sw_b1 (fX10_add m6 3 (nI (sk (l0 + d)))) fun m11 => some (.inl m11)) = X → fX10_close_L0 τ (nI t) = (X : Option (sw_M ⊕ sw_M)) := by
      intro X hX
      unfold fX10_close_L0
      rw [s1', if_neg (nI_nle (by omega) (by omega)), nI_pred, sw_gd_t (in_t (show l0 + d < 160 by omega) (by decide)), nI_clamp (by omega), x1, if_neg e20, sw_gd_t (in_t (show l0 + d < 160 by omega) (by decide)), (tg_e _ hx).1, if_neg elt, let_s, ← hm6, m19, sw_gd_t (in_t (show l0 + d < 160 by omega) (by decide)), sw_gd_t (in_t (show l0 + d < 160 by omega) (by decide)), nI_clamp (by omega), m56]
      exact hX
    -- what is left is one less
    have fin : ∀ (s a : Int32) (τ1 : sw_M), q_enc s a (fcode (sk (l0 + d))) → fX10_close_L0 τ (nI t) = some (.inl τ1) → ffe (e_ad m6 z s a) τ1 → (∀ k, k ≠ 23 → τ1.1 49 k = (e_ad m6 z s a).1 49 k) → (∀ a', a' ≠ 49 → τ1.1 a' = (e_ad m6 z s a).1 a') → τ1.1 49 23 = nI (dp + nots sk l0 d) → ∃ τ', sw_wh (fuel + 1) (fun s => fX10_close_L0 s (nI t)) τ = some τ' ∧ ffe τ τ' ∧ stR τ' sk l0 ∧ τ'.1 49 17 = nI (z + (d + 1)) ∧ τ'.1 49 23 = nI dp ∧ (∀ k, k ≠ 17 → k ≠ 19 → k ≠ 23 → τ'.1 49 k = τ.1 49 k) ∧ (∀ i, i < z → τ'.1 52 i = τ.1 52 i ∧ τ'.1 53 i = τ.1 53 i) ∧ (∀ j, j < d + 1 → q_enc (τ'.1 52 (z + j)) (τ'.1 53 (z + j)) (fcode (sk (l0 + (d + 1) - 1 - j)))) ∧ τ'.1 56 = τ.1 56 := by
      intro s a τ1 henc hst hfr hk ha h23
      have t17 : τ1.1 49 17 = nI (z + 1) := by rw [hk 17 (by decide), ad_17]
      have t19 : τ1.1 49 19 = nI (l0 + d) := by rw [hk 19 (by decide), ad_49 (by decide)]; exact m19
      have t56 : τ1.1 56 = τ.1 56 := by rw [ha 56 (by decide), ad_56, ma 56 (by decide)]
      have t52 : τ1.1 52 = upd (τ.1 52) z s := by rw [ha 52 (by decide), ad_52, ma 52 (by decide)]
      have t53 : τ1.1 53 = upd (τ.1 53) z a := by rw [ha 53 (by decide), ad_53, ma 53 (by decide)]
      obtain ⟨τ', g1, g2, g3, g4, g5, g6, g7, g8, g9⟩ := ih τ1 (z + 1) dp fuel ⟨t19, by omega, fun i hi => by rw [t56]; exact s3 i (by omega)⟩ (fun i h1 h2 => hp i h1 (by omega)) t17 (by omega) h23 (by omega)
      refine ⟨τ', by rw [wh_one hst]; exact g1, mfr.tr (ad_fr.tr (hfr.tr g2)), g3, by rw [g4]; congr 1; omega, g5, fun k k1 k2 k3 => ?_, fun i hi => ?_, fun j hj => ?_, by rw [g9, t56]⟩
      · rw [g6 k k1 k2 k3, hk k k3, ad_49 k1, mk k k2]
      · obtain ⟨w1, w2⟩ := g7 i (by omega)
        rw [w1, w2, t52, t53, upd_n (by omega), upd_n (by omega)]
        exact ⟨rfl, rfl⟩
      · by_cases e : j = 0
        · obtain ⟨w1, w2⟩ := g7 z (by omega)
          rw [e, Nat.add_zero, w1, w2, t52, t53, upd_e, upd_e, show l0 + (d + 1) - 1 - 0 = l0 + d by omega]
          exact henc
        · have := g8 (j - 1) (by omega)
          rw [show z + 1 + (j - 1) = z + j by omega, show l0 + d - 1 - (j - 1) = l0 + (d + 1) - 1 - j by omega] at this
          exact this
    have hn1 : nots sk l0 (d + 1) = nots sk l0 d + if sk (l0 + d) = 21 then 1 else 0 := rfl
    by_cases h21 : sk (l0 + d) = 21
    · have e21 : nI (sk (l0 + d)) = 21 := by rw [h21]; rfl
      have d23 : (e_ad m6 z 2 0).1 49 23 = nI (dp + nots sk l0 d + 1) := by
        rw [ad_49 (by decide), mk 23 (by decide), hd, hn1, if_pos h21]
        rfl
      refine fin 2 0 (sw_w (e_ad m6 z 2 0) 49 23 (nI (dp + nots sk l0 d))) (.inr (.inr (.inl ⟨rfl, by rw [fcode, if_pos h21]⟩))) (body _ ?_) (ffe_w (.inr (.inr (.inr (.inr rfl))))) (fun k hk => by rw [w_at, upd_n hk]) (fun a' ha' => m_wne ha') (by rw [w_at, upd_e])
      rw [if_pos e21, e_add m17 (by omega), b1_s, d23, nI_pred, let_s]
    · have e21 : ¬ nI (sk (l0 + d)) = 21 := fun e => h21 ((nI_eq (b := 21) (by omega) (by decide)).mp e)
      have d23 : (e_ad m6 z 3 (nI (sk (l0 + d)))).1 49 23 = nI (dp + nots sk l0 d) := by
        rw [ad_49 (by decide), mk 23 (by decide), hd, hn1, if_neg h21]
        rfl
      have hop : sk (l0 + d) = 124 ∨ sk (l0 + d) = 38 ∨ sk (l0 + d) = 60 ∨ sk (l0 + d) = 62 ∨ sk (l0 + d) = 61 ∨ sk (l0 + d) = 43 ∨ sk (l0 + d) = 45 ∨ sk (l0 + d) = 42 ∨ sk (l0 + d) = 47 ∨ sk (l0 + d) = 37 := by
        unfold okc at x2
        omega
      obtain ⟨v1, v2, _⟩ := fc_enc _ hx hop
      refine fin 3 (nI (sk (l0 + d))) (e_ad m6 z 3 (nI (sk (l0 + d)))) (.inr (.inr (.inr ⟨rfl, by rw [fcode, if_neg h21], by rw [fcode, if_neg h21]; exact v1, by rw [fcode, if_neg h21]; exact v2⟩))) (body _ ?_) ffe.rf (fun _ _ => rfl) (fun _ _ => rfl) d23
      rw [if_neg e21, e_add m17 (by omega), b1_s]
/-- whether a relation waits -/
def hrl (sk : Nat → Nat) : Nat → Bool
  | 0 => false
  | i + 1 => if sk i = 20 then false else if tg (sk i) ≤ 4 then decide (tg (sk i) = 4) else hrl sk i
theorem e_hrl {sk : Nat → Nat} {l : Nat} (h : stR τ sk l) : fX10_hasRelation τ = some (if hrl sk l = true then 1 else 0) := by
  obtain ⟨s1, s2, s3⟩ := h
  unfold fX10_hasRelation
  rw [s1, let_s]
  have L41 : ∀ i, i < l → fX10_hasRelation_L41 τ (nI i) = some (if sk i = 20 then 0 else if tg (sk i) = 4 then 1 else 0) := by
    intro i hi
    obtain ⟨x1, x2⟩ := s3 i hi
    have hx := okc_lt x2
    have ht := (tg_e _ hx).2
    rw [fX10_hasRelation_L41, if_neg (nI_pos (by omega)), sw_gd_t (in_t (show i < 160 by omega) (by decide)), nI_clamp (by omega), x1, sw_gd_t (in_t (show i < 160 by omega) (by decide)), (tg_e _ hx).1]
    by_cases e : sk i = 20
    · rw [if_pos (by rw [e]; rfl), if_pos e]
    · rw [if_neg (n20 hx e), if_neg e]
      by_cases e4 : tg (sk i) = 4
      · rw [if_pos (by rw [e4]; rfl), if_pos e4]
      · rw [if_neg (n4 (by omega) e4), if_neg e4]
  have key : ∀ (i fuel : Nat), i ≤ l → i < fuel → sw_wh fuel (fun s => fX10_hasRelation_L7 τ s) (nI i - 1) = some (if hrl sk i = true then 1 else 0) := by
    intro i
    induction i with
    | zero =>
      intro fuel _ hf
      obtain ⟨fuel, rfl⟩ : ∃ q, fuel = q + 1 := ⟨fuel - 1, by omega⟩
      have hm : (nI 0 - 1 : Int32) < 0 := by decide
      exact wh_end (by show fX10_hasRelation_L7 τ (nI 0 - 1) = _; rw [fX10_hasRelation_L7, if_pos hm, fX10_hasRelation_L41, if_pos hm, sw_up_s]; rfl)
    | succ i ih =>
      intro fuel hi hf
      obtain ⟨fuel, rfl⟩ : ∃ q, fuel = q + 1 := ⟨fuel - 1, by omega⟩
      obtain ⟨x1, x2⟩ := s3 i (by omega)
      have hx := okc_lt x2
      have ht := (tg_e _ hx).2
      rw [nI_pred]
      have hb : fX10_hasRelation_L7 τ (nI i) = if sk i = 20 then some (.inr 0) else if tg (sk i) ≤ 4 then some (.inr (if tg (sk i) = 4 then 1 else 0)) else some (.inl (nI i - 1)) := by
        have em : nI i + (-1) = nI i - 1 := by rw [Int32.sub_eq_add_neg]
        rw [fX10_hasRelation_L7, if_neg (nI_pos (by omega)), sw_gd_t (in_t (show i < 160 by omega) (by decide)), nI_clamp (by omega), x1, sw_gd_t (in_t (show i < 160 by omega) (by decide)), (tg_e _ hx).1, L41 i (by omega), sw_up_s, let_s, em]
        by_cases e : sk i = 20
        · rw [if_pos (by rw [e]; rfl), if_pos e, if_pos e]
        · rw [if_neg (n20 hx e), if_neg e, if_neg e]
          by_cases e4 : tg (sk i) ≤ 4
          · have l4 : nI (tg (sk i)) ≤ 4 := nI_le (b := 4) e4 (by decide)
            rw [if_pos l4, if_pos e4]
          · have l4 : ¬ nI (tg (sk i)) ≤ 4 := nI_ge (a := 4) (by omega) (by omega)
            rw [if_neg l4, if_neg e4]
      rw [hrl]
      by_cases e : sk i = 20
      · rw [if_pos e] at hb
        rw [if_pos e]
        exact wh_end hb
      · rw [if_neg e] at hb
        rw [if_neg e]
        by_cases e4 : tg (sk i) ≤ 4
        · rw [if_pos e4] at hb
          rw [if_pos e4, wh_end hb]
          by_cases e5 : tg (sk i) = 4
          · rw [if_pos e5, if_pos (decide_eq_true e5)]
          · rw [if_neg e5, if_neg (by simp [e5])]
        · rw [if_neg e4] at hb
          rw [if_neg e4, wh_one hb]
          exact ih fuel (by omega) (by omega)
  exact key l sw_F (Nat.le_refl l) (F_big (by omega))
/-- whether a bracket is open -/
def hbr (sk : Nat → Nat) : Nat → Bool
  | 0 => false
  | i + 1 => hbr sk i || decide (sk i = 20)
theorem e_hbr {sk : Nat → Nat} {l : Nat} (h : stR τ sk l) : fX10_hasBracket τ = some (if hbr sk l = true then 1 else 0) := by
  obtain ⟨s1, s2, s3⟩ := h
  unfold fX10_hasBracket
  refine wh_runs (b := fun s : Int32 × Int32 => fX10_hasBracket_L4 τ s.1 s.2) (fun i => ((if hbr sk i = true then 1 else 0), nI i)) l rfl (fun i hi => ?_) ?_ (by omega)
  · show fX10_hasBracket_L4 τ (if hbr sk i = true then 1 else 0) (nI i) = some (.inl ((if hbr sk (i + 1) = true then 1 else 0), nI (i + 1)))
    obtain ⟨x1, x2⟩ := s3 i hi
    have hx := okc_lt x2
    unfold fX10_hasBracket_L4
    rw [s1, if_neg (le_f hi (by omega)), sw_gd_t (in_t (show i < 160 by omega) (by decide)), nI_clamp (by omega), x1, fX10_hasBracket_L27, fX10_hasBracket_L32, fX10_hasBracket_L32, let_s, let_s, nI_1, hbr]
    by_cases hb : hbr sk i = true
    · rw [if_pos hb, if_neg i10, hb, Bool.true_or, if_pos rfl]
    · have hb' : hbr sk i = false := by
        cases hq : hbr sk i
        · rfl
        · exact absurd hq hb
      rw [if_neg hb, if_pos rfl, hb', Bool.false_or]
      by_cases e : sk i = 20
      · rw [if_pos (by rw [e]; rfl), if_pos (decide_eq_true e)]
      · rw [if_neg (n20 hx e), if_neg (by simp [e])]
  · show fX10_hasBracket_L4 τ (if hbr sk l = true then 1 else 0) (nI l) = _
    unfold fX10_hasBracket_L4
    rw [s1, if_pos (le_t l (by omega)), sw_gd_t]
    split
    · exact bo1
    · exact bo0
def topt (sk : Nat → Nat) (l : Nat) : Nat := if l = 0 then 0 else if sk (l - 1) = 20 then 0 else tg (sk (l - 1))
theorem e_may {sk : Nat → Nat} {l : Nat} (h : stR τ sk l) : fX10_mayNot τ = some (if 4 ≤ topt sk l then 0 else 1) := by
  obtain ⟨s1, s2, s3⟩ := h
  unfold fX10_mayNot topt
  rw [s1]
  by_cases h0 : l = 0
  · rw [if_pos (by rw [h0]; rfl), if_pos h0]
    rfl
  · obtain ⟨q, rfl⟩ : ∃ q, l = q + 1 := ⟨l - 1, by omega⟩
    obtain ⟨x1, x2⟩ := s3 q (by omega)
    have hx := okc_lt x2
    have ht := (tg_e _ hx).2
    rw [if_neg (nI_ne0 (by omega) (by omega)), if_neg h0, nI_pred, sw_gd_t (in_t (show q < 160 by omega) (by decide)), nI_clamp (by omega), x1, sw_gd_t (in_t (show q < 160 by omega) (by decide)), (tg_e _ hx).1, show q + 1 - 1 = q by omega]
    by_cases e : sk q = 20
    · rw [if_pos (by rw [e]; rfl), if_pos e]
      rfl
    · rw [if_neg (n20 hx e), if_neg e]
      by_cases e4 : 4 ≤ tg (sk q)
      · have l4 : (4 : Int32) ≤ nI (tg (sk q)) := nI_le (a := 4) e4 (by omega)
        rw [if_pos l4, if_pos e4]
      · have l4 : ¬ (4 : Int32) ≤ nI (tg (sk q)) := nI_ge (b := 4) (by omega) (by decide)
        rw [if_neg l4, if_neg e4]
end PI
