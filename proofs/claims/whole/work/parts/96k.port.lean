/-! portions: what one has, what a basin wants -/
theorem wh_one {S T : Type} {b : S → Option (S ⊕ T)} {s s' : S} {n : Nat} (h : b s = some (.inl s')) : sw_wh (n + 1) b s = sw_wh n b s' := by rw [sw_wh, h]
theorem wh_end {S T : Type} {b : S → Option (S ⊕ T)} {s : S} {t : T} {n : Nat} (h : b s = some (.inr t)) : sw_wh (n + 1) b s = some t := by rw [sw_wh, h]
def ind (m : Nat → Nat) : Nat → Nat := fun j => if m j = 0 then 0 else 1
section PG
variable {σ τ σ0 τ0 σ' τ' : sw_M} {B : Nat → Nat} {n p Q K N R Bn : Nat}
/-- what a portion may touch -/
def gfc (A : Nat) (σ σ' : sw_M) : Prop := σ'.2.2 = σ.2.2 ∧ (∀ a, a ≠ 1 → a ≠ 2 → a ≠ A → σ'.1 a = σ.1 a) ∧ ∀ a, a ≠ 2 → σ'.2.1 a = σ.2.1 a
def gfe (G : Nat) (τ τ' : sw_M) : Prop := (∀ a, a ≠ 49 → a ≠ G → τ'.1 a = τ.1 a) ∧ (∀ k, 8 < k → k ≠ 48 → τ'.1 49 k = τ.1 49 k) ∧ τ'.2.1 51 = τ.2.1 51
theorem gfc.tr {A : Nat} {υ : sw_M} (h : gfc A σ τ) (h' : gfc A τ υ) : gfc A σ υ := ⟨h'.1.trans h.1, fun a a1 a2 a3 => (h'.2.1 a a1 a2 a3).trans (h.2.1 a a1 a2 a3), fun a a1 => (h'.2.2 a a1).trans (h.2.2 a a1)⟩
theorem gfe.tr {G : Nat} {υ : sw_M} (h : gfe G σ τ) (h' : gfe G τ υ) : gfe G σ υ := ⟨fun a a1 a2 => (h'.1 a a1 a2).trans (h.1 a a1 a2), fun k a1 a2 => (h'.2.1 k a1 a2).trans (h.2.1 k a1 a2), h'.2.2.trans h.2.2⟩
theorem gfc_c {A : Nat} (h : cfr σ σ') : gfc A σ σ' := ⟨h.1, fun a _ a2 _ => h.2.1 a a2, h.2.2⟩
theorem gfe_e {G : Nat} (h : efr τ τ') : gfe G τ τ' := ⟨fun a a1 _ => h.2.1 a a1, fun k a1 _ => h.2.2.2 k (by omega) (by omega) (by omega) (by omega), h.2.2.1 51 (by decide)⟩
theorem f_some {G : Nat} {a : Int32} (h : ¬ τ.1 49 2 ≤ 0) : fX10_readSome G τ a = some τ := by
  rw [fX10_readSome, f_old h, b2_s, if_neg (f_nz h), fX10_readSome_L25, if_neg (f_nz h), fX10_readSome_L36, f_told h, b2_s, if_neg h]
theorem p_some {A G M r k : Nat} {mj : Nat → Nat} (hA : A = Q + 4 ∨ A = Q + 5) (hG : G = 59 ∨ G = 60) (hsA : (sw_s A).2 = M) (hsG : (sw_s G).2 = M) (hM : M ≤ 35) (hr : 5 * r + 5 ≤ M) (hK : K ≤ 5) (hP : sw_isP Q) (hQ : sw_pl (σ.2.2 1) = Q) (h1 : σ.1 Q 0 = nI K) (h2 : τ.1 49 33 = nI K) (hn : nmR σ τ (Q + 1) 0 K) (h : pz B n Q σ0 τ0 σ τ p)
    (hm : ∀ j, j < 5 → σ.1 A (5 * r + j) = nI (mj j) ∧ τ.1 G (5 * r + j) = nI (mj j) ∧ mj j ≤ 20) :
    (∃ kk v σ' τ' p', kk < K ∧ 1 ≤ v ∧ v ≤ 20 ∧ mj kk = 0 ∧ fX5_readPortions_L30 A σ (nI r) (nI k) = some (.inl (nI (k + 1), σ')) ∧ fX10_readSome G τ (nI (5 * r)) = some τ' ∧ pz B n Q σ0 τ0 σ' τ' p' ∧ p < p' ∧ gfc A σ σ' ∧ gfe G τ τ' ∧ σ'.1 A = upd (σ.1 A) (5 * r + kk) (nI v) ∧ τ'.1 G = upd (τ.1 G) (5 * r + kk) (nI v) ∧ σ'.1 1 4 = nI kk ∧ τ'.1 49 48 = nI kk) ∨
    (∃ σ' τ', fX5_readPortions_L30 A σ (nI r) (nI k) = some (.inr (0, σ')) ∧ fX10_readSome G τ (nI (5 * r)) = some τ' ∧ pq Q σ0 τ0 σ' τ') := by
  have h0 : τ.1 49 2 = 0 := h.2.1.2.2.2.1
  have z : (0 : Int32) ≤ 0 := by decide
  have hA2 : A ≠ 2 := by rcases hA with rfl | rfl <;> exact isP2 hP
  have hA1 : A ≠ 1 := by rcases hA with rfl | rfl <;> rcases hP with rfl | rfl <;> omega
  have hG2 : G ≠ 49 := by omega
  unfold fX5_readPortions_L30 fX10_readSome
  rcases p_kind hK hP hQ h1 h2 hn h with ⟨kk, k1, k2, k3, k4⟩ | ⟨σ', τ', k1, k2, k3⟩
  rotate_left
  · rw [k1, b2_s, if_pos rfl, k2, b2_s, if_neg (f_nz k3.2.2.1), fX10_readSome_L25, if_neg (f_nz k3.2.2.1), fX10_readSome_L36, f_told k3.2.2.1, b2_s, if_neg k3.2.2.1]
    exact .inr ⟨σ', τ', rfl, rfl, k3⟩
  obtain ⟨m1, m2, m3⟩ := hm kk (by omega)
  have lt : nI (5 * r + kk) < Int32.ofNat (sw_s A).2 := by rw [hsA]; exact nI_lt (b := M) (by omega) (by omega)
  rw [k2, b2_s, if_neg (nI_nm (by omega)), i54', let_s, if_pos lt, hsA, sw_gd_t (in_t (show 5 * r + kk < M by omega) (by omega)), nI_clamp (by omega), m1, k3, b2_s, h0, if_pos rfl, nI_add, hsG, sw_gd_t (in_t (show 5 * r + kk < M by omega) (by omega)), nI_clamp (by omega), m2]
  by_cases hz : mj kk = 0
  · have le0 : nI (mj kk) ≤ 0 := by rw [hz]; decide
    obtain ⟨σ1, τ1, s1, s2, s3, s4, s5⟩ := p_next h (by omega)
    have pp1 := (nx_pos (B := B) h.1.2.1).2.2 (by omega)
    rw [if_pos le0, if_pos le0, s1, b1_s, fX10_readSome_L25, h0, if_pos rfl, s2, b1_s, fX10_readSome_L36]
    rcases p_num (lo := 1) (hi := 20) (by decide) (by decide) s3 with ⟨v, σ2, τ2, v1, v2, e1, e2, e3, e4, e5⟩ | ⟨x, σ2, τ2, e1, e2, e3⟩
    · have e1' : fX5_readNumber σ1 1 20 = some (nI v, σ2) := e1
      have e2' : fX10_toldNumber τ1 1 20 = some (nI v, τ2) := e2
      have h02 : τ2.1 49 2 = 0 := e3.2.1.2.2.2.1
      have pp2 := (nx_pos (B := B) s3.1.2.1).1
      have cf := s4.tr e4
      have ef := s5.tr e5
      rw [e1', b2_s, if_neg (nI_nm (by omega)), sw_gd_t (in_t (show 5 * r + kk < M by omega) (by omega)), let_s, let_s, let_s, nI_1, e2', b2_s, h02, if_pos z, nI_add, hsG, sw_gd_t (in_t (show 5 * r + kk < M by omega) (by omega)), nI_clamp (by omega), let_s, let_s]
      refine .inl ⟨kk, v, _, _, nx B n (nx B n p), k1, v1, v2, hz, rfl, rfl, ?_, by omega, ?_, ?_, ?_, ?_, ?_, ?_⟩
      · refine pz_c1 (pz_cw hP (by rcases hA with rfl | rfl <;> omega) (pz_ew (by decide) (by decide) (pz_et (by omega) e3)))
      · refine ⟨cf.1, fun a a1 a2 a3 => ?_, cf.2.2⟩
        rw [m_wne a1, m_wne a3]; exact cf.2.1 a a2
      · refine ⟨fun a a1 a2 => ?_, fun q q1 q2 => ?_, ?_⟩
        · rw [m_wne a1, m_wne a2]; exact ef.2.1 a a1
        · rw [w_at, upd_n q2, m_wne hG2.symm]; exact ef.2.2.2 q (by omega) (by omega) (by omega) (by omega)
        · exact ef.2.2.1 51 (by decide)
      · rw [m_wne hA1, w_at, cf.2.1 A hA2]
      · rw [m_wne hG2, w_at, ef.2.1 G hG2]
      · rw [w_at, upd_e]
      · rw [w_at, upd_e]
    · have e1' : fX5_readNumber σ1 1 20 = some (-1, σ2) := e1
      have e2' : fX10_toldNumber τ1 1 20 = some (x, τ2) := e2
      rw [e1', b2_s, if_pos rfl, e2', b2_s, if_neg e3.2.2.1]
      exact .inr ⟨σ2, τ2, rfl, rfl, e3⟩
  · have le0 : ¬ nI (mj kk) ≤ 0 := nI_nle (by omega) (by omega)
    obtain ⟨σ1, τ1, e1, e2, e3⟩ := p_fail (w := 3) (by decide) h
    rw [if_neg le0, if_neg le0, e1, b2_s, sw_gd_t bo0, e2, b1_s, fX10_readSome_L25, if_neg (f_nz e3.2.2.1), fX10_readSome_L36, f_told e3.2.2.1, b2_s, if_neg e3.2.2.1]
    exact .inr ⟨σ1, τ1, rfl, rfl, e3⟩
/-- all portions of a line -/
theorem p_port {A G M r : Nat} (hA : A = Q + 4 ∨ A = Q + 5) (hG : G = 59 ∨ G = 60) (hsA : (sw_s A).2 = M) (hsG : (sw_s G).2 = M) (hM : M ≤ 35) (hr : 5 * r + 5 ≤ M) (hK : K ≤ 5) (hP : sw_isP Q) (hQ : sw_pl (σ.2.2 1) = Q) (h1 : σ.1 Q 0 = nI K) (h2 : τ.1 49 33 = nI K) (hn : nmR σ τ (Q + 1) 0 K) (h : pz B n Q σ0 τ0 σ τ p) (hz : ∀ j, j < 5 → σ.1 A (5 * r + j) = 0) :
    (∃ (σ2 τ2 : sw_M) (p' : Nat) (mj : Nat → Nat) (lk : Nat) (x : Int32 × sw_M), fX5_readPortions A σ (nI r) = some x ∧ fX5_readSign σ2 59 = some x ∧ fX10_readAllOf G τ (nI (5 * r)) = some τ2 ∧ pz B n Q σ0 τ0 σ2 τ2 p' ∧ p < p' ∧ gfc A σ σ2 ∧ gfe G τ τ2 ∧ (∀ j, j < 5 → σ2.1 A (5 * r + j) = nI (mj j) ∧ τ2.1 G (5 * r + j) = nI (mj j) ∧ mj j ≤ 20) ∧ (∀ q, ¬ (5 * r ≤ q ∧ q < 5 * r + 5) → σ2.1 A q = σ.1 A q ∧ τ2.1 G q = τ.1 G q) ∧ lk < K ∧ 1 ≤ mj lk ∧ σ2.1 1 4 = nI lk ∧ τ2.1 49 48 = nI lk) ∨
    (∃ σ' τ', fX5_readPortions A σ (nI r) = some (0, σ') ∧ fX10_readAllOf G τ (nI (5 * r)) = some τ' ∧ pq Q σ0 τ0 σ' τ') := by
  have hA2 : A ≠ 2 := by rcases hA with rfl | rfl <;> exact isP2 hP
  have hA1 : A ≠ 1 := by rcases hA with rfl | rfl <;> rcases hP with rfl | rfl <;> omega
  have hAQ : Q ≠ A := by rcases hA with rfl | rfl <;> omega
  have hQ1 : Q ≠ 1 := by rcases hP with rfl | rfl <;> decide
  have hG2 : G ≠ 49 := by omega
  -- the reference clears the row first
  obtain ⟨g0, hg0⟩ : ∃ g0 : Nat → Int32, g0 = fun q => if 5 * r ≤ q ∧ q < 5 * r + 5 then 0 else τ.1 G q := ⟨_, rfl⟩
  obtain ⟨τz, hτz⟩ : ∃ τz, τz = sw_wA τ G g0 := ⟨_, rfl⟩
  have zfr : gfe G τ τz := by
    rw [hτz]
    exact ⟨fun a _ a2 => m_ne a2, fun k _ _ => by rw [m_ne hG2.symm], rfl⟩
  have zpz : pz B n Q σ0 τ0 σ τz p := by
    obtain ⟨a1, ⟨b1, c2, c3, c3', c3''⟩, a5, a6, a7, a9⟩ := h
    have e49 : τz.1 49 = τ.1 49 := by rw [hτz]; exact m_ne hG2.symm
    have e50 : τz.1 50 = τ.1 50 := by rw [hτz]; exact m_ne (by omega)
    refine ⟨a1, ⟨⟨b1.1, fun j hj => by rw [e50]; exact b1.2 j hj⟩, c2, ?_, by rw [e49]; exact c3', by rw [e49]; exact c3''⟩, a5, a6, a7, a9.tr ⟨by rw [hτz]; rfl, fun a x1 x2 x3 x4 x5 x6 x7 => by rw [hτz]; exact m_ne (by omega), fun a x1 x2 => by rw [hτz]; rfl, fun k hk => by rw [e49]⟩⟩
    have e9 : τz.2.1 49 9 = τ.2.1 49 9 := by rw [hτz]; rfl
    rw [e49, e9]; exact c3
  have zrow : ∀ j, j < 5 → σ.1 A (5 * r + j) = nI ((fun _ => 0) j) ∧ τz.1 G (5 * r + j) = nI ((fun _ => 0) j) ∧ (fun _ : Nat => 0) j ≤ 20 := fun j hj => ⟨hz j hj, by
    rw [hτz, m_eq, hg0]
    show (if 5 * r ≤ 5 * r + j ∧ 5 * r + j < 5 * r + 5 then (0 : Int32) else _) = _
    rw [if_pos (by omega)]
    rfl, Nat.zero_le _⟩
  have zout : ∀ q, ¬ (5 * r ≤ q ∧ q < 5 * r + 5) → τz.1 G q = τ.1 G q := fun q hq => by
    rw [hτz, m_eq, hg0]
    show (if 5 * r ≤ q ∧ q < 5 * r + 5 then _ else τ.1 G q) = _
    rw [if_neg hq]
  have zn : nmR σ τz (Q + 1) 0 K := nmR_cg hn (fun j _ => ⟨rfl, by rw [zfr.2.2]⟩)
  have zlp : ∀ X, (sw_b1 (fX10_readSome G τz (nI (5 * r))) fun m2 => sw_wh sw_F (fun s => fX10_readAllOf_L25 G s (nI (5 * r))) m2) = some X → fX10_readAllOf G τ (nI (5 * r)) = some X := by
    intro X hX
    unfold fX10_readAllOf
    refine wh_runs (b := fun s : Int32 × sw_M => fX10_readAllOf_L2 G s.2 (nI (5 * r)) s.1) (fun k => (nI k, sw_wA τ G (fun q => if 5 * r ≤ q ∧ q < 5 * r + k then 0 else τ.1 G q))) 5 ?_ (fun k hk => ?_) ?_ (by decide)
    · show (nI 0, sw_wA τ G (fun q => if 5 * r ≤ q ∧ q < 5 * r + 0 then 0 else τ.1 G q)) = (0, τ)
      have : (fun q => if 5 * r ≤ q ∧ q < 5 * r + 0 then (0 : Int32) else τ.1 G q) = τ.1 G := by
        funext q
        rw [if_neg (by omega)]
      rw [this, m_self]
      rfl
    · show fX10_readAllOf_L2 G (sw_wA τ G (fun q => if 5 * r ≤ q ∧ q < 5 * r + k then 0 else τ.1 G q)) (nI (5 * r)) (nI k) = _
      have h5 : ¬ (5 : Int32) ≤ nI k := nI_ge (b := 5) hk (by decide)
      have eu : upd (fun q => if 5 * r ≤ q ∧ q < 5 * r + k then (0 : Int32) else τ.1 G q) (5 * r + k) 0 = fun q => if 5 * r ≤ q ∧ q < 5 * r + (k + 1) then (0 : Int32) else τ.1 G q := by
        funext q
        unfold upd
        by_cases e : q = 5 * r + k
        · rw [if_pos e, if_pos (by omega)]
        · rw [if_neg e]
          show (if 5 * r ≤ q ∧ q < 5 * r + k then (0 : Int32) else τ.1 G q) = _
          by_cases e2 : 5 * r ≤ q ∧ q < 5 * r + k
          · rw [if_pos e2, if_pos (by omega)]
          · rw [if_neg e2, if_neg (by omega)]
      unfold fX10_readAllOf_L2
      rw [if_neg h5, nI_add, hsG, sw_gd_t (in_t (show 5 * r + k < M by omega) (by omega)), let_s, let_s, nI_1, nI_clamp (by omega), m_ww, eu]
    · show fX10_readAllOf_L2 G (sw_wA τ G (fun q => if 5 * r ≤ q ∧ q < 5 * r + 5 then 0 else τ.1 G q)) (nI (5 * r)) (nI 5) = _
      rw [← hg0, ← hτz]
      obtain ⟨m2, y1, y2⟩ := sw_b1_e hX
      unfold fX10_readAllOf_L2
      rw [if_pos (by decide), y1, b1_s, y2, sw_up_s]
  -- the first
  have cl0 : fX5_readPortions A σ (nI r) = sw_wh (3999 + 1) (fun s : Int32 × sw_M => fX5_readPortions_L2 A s.2 (nI r) s.1) (0, σ) := rfl
  have b0 : fX5_readPortions_L2 A σ (nI r) (nI 0) = fX5_readPortions_L30 A σ (nI r) (nI 0) := by
    rw [fX5_readPortions_L2, if_neg (by decide), if_pos (by decide)]
  rcases p_some (k := 0) hA hG hsA hsG hM hr hK hP hQ h1 (by rw [zfr.2.1 33 (by decide) (by decide)]; exact h2) zn zpz zrow with ⟨kk, v, σ1, τ1, p1, a1, a2, a3, a4, a5, a6, a7, a8, a9, a10, a11, a12, a13, a14⟩ | ⟨σ1, τ1, a5, a6, a7⟩
  rotate_left
  · refine .inr ⟨σ1, τ1, ?_, zlp τ1 ?_, a7⟩
    · rw [cl0]
      exact wh_end (b := fun s : Int32 × sw_M => fX5_readPortions_L2 A s.2 (nI r) s.1) (s := (0, σ)) (by show fX5_readPortions_L2 A σ (nI r) (nI 0) = _; rw [b0, a5])
    · rw [a6, b1_s]
      exact wh_runs (b := fun s : sw_M => fX10_readAllOf_L25 G s (nI (5 * r))) (fun _ => τ1) 0 rfl (fun k hk => absurd hk (Nat.not_lt_zero k)) (by show fX10_readAllOf_L25 G τ1 (nI (5 * r)) = _; rw [fX10_readAllOf_L25, if_neg (f_nz a7.2.2.1)]) (by decide)
  have st0 : (fun s : Int32 × sw_M => fX5_readPortions_L2 A s.2 (nI r) s.1) (0, σ) = some (.inl (nI (0 + 1), σ1)) := by
    show fX5_readPortions_L2 A σ (nI r) (nI 0) = _
    rw [b0, a5]
  rw [cl0, wh_one st0]
  -- the others
  have main : ∀ (d k n1 n2 : Nat) (σ2 t : sw_M), k + d = 5 → d + 2 ≤ n1 → d + 2 ≤ n2 → (∃ (mj : Nat → Nat) (lk p2 : Nat), k + 1 ≤ 5 ∧ pz B n Q σ0 τ0 σ2 t p2 ∧ p < p2 ∧ gfc A σ σ2 ∧ gfe G τ t ∧ (∀ j, j < 5 → σ2.1 A (5 * r + j) = nI (mj j) ∧ t.1 G (5 * r + j) = nI (mj j) ∧ mj j ≤ 20) ∧ (∀ q, ¬ (5 * r ≤ q ∧ q < 5 * r + 5) → σ2.1 A q = σ.1 A q ∧ t.1 G q = τ.1 G q) ∧ lk < K ∧ 1 ≤ mj lk ∧ σ2.1 1 4 = nI lk ∧ t.1 49 48 = nI lk ∧ n_sum (ind mj) 5 = k + 1) → ∃ x y, sw_wh n1 (fun s : Int32 × sw_M => fX5_readPortions_L2 A s.2 (nI r) s.1) (nI (k + 1), σ2) = some x ∧ sw_wh n2 (fun s : sw_M => fX10_readAllOf_L25 G s (nI (5 * r))) t = some y ∧ ((∃ (σ2 : sw_M) (p' : Nat) (mj : Nat → Nat) (lk : Nat), fX5_readSign σ2 59 = some x ∧ pz B n Q σ0 τ0 σ2 y p' ∧ p < p' ∧ gfc A σ σ2 ∧ gfe G τ y ∧ (∀ j, j < 5 → σ2.1 A (5 * r + j) = nI (mj j) ∧ y.1 G (5 * r + j) = nI (mj j) ∧ mj j ≤ 20) ∧ (∀ q, ¬ (5 * r ≤ q ∧ q < 5 * r + 5) → σ2.1 A q = σ.1 A q ∧ y.1 G q = τ.1 G q) ∧ lk < K ∧ 1 ≤ mj lk ∧ σ2.1 1 4 = nI lk ∧ y.1 49 48 = nI lk) ∨ (∃ σ', x = (0, σ') ∧ pq Q σ0 τ0 σ' y)) := by
    intro d
    induction d with
    | zero =>
      intro k n1 n2 σ2 t hk _ _ hJ
      obtain ⟨_, _, _, i1, _⟩ := hJ
      omega
    | succ d ih =>
      intro k n1 n2 σ2 t hk hn1 hn2 hJ
      obtain ⟨n1, rfl⟩ : ∃ q, n1 = q + 2 := ⟨n1 - 2, by omega⟩
      obtain ⟨n2, rfl⟩ : ∃ q, n2 = q + 2 := ⟨n2 - 2, by omega⟩
      obtain ⟨mj, lk, p2, i1, i2, i3, i4, i5, i6, i7, i8, i9, i10', i11, i12⟩ := hJ
      have h0 : t.1 49 2 = 0 := i2.2.1.2.2.2.1
      have n5 : ¬ (5 : Int32) < nI (k + 1) := nI_nlt (a := 5) (by omega) (by decide)
      have n0 : ¬ nI (k + 1) ≤ 0 := nI_nle (by omega) (by omega)
      have q2 : sw_pl (σ2.2.2 1) = Q := by rw [i4.1]; exact hQ
      have q3 : σ2.1 Q 0 = nI K := by rw [i4.2.1 Q hQ1 (isP2' hP) hAQ]; exact h1
      have q4 : t.1 49 33 = nI K := by rw [i5.2.1 33 (by decide) (by decide)]; exact h2
      have q5 : nmR σ2 t (Q + 1) 0 K := nmR_cg hn (fun j _ => ⟨by rw [i4.2.2 _ (isP2 hP)], by rw [i5.2.2]⟩)
      have f9 := i2.1.2.2.2.2.2.2.2.2.2
      rcases p_name i2 with ⟨b1, b2, b3, _⟩ | ⟨b1, b2⟩
      · have ns : ¬ σ2.1 2 9 = 59 := by rw [f9, if_neg (by omega)]; decide
        have eC : fX5_readPortions_L2 A σ2 (nI r) (nI (k + 1)) = fX5_readPortions_L30 A σ2 (nI r) (nI (k + 1)) := by
          rw [fX5_readPortions_L2, if_neg n5, if_neg n0, if_neg ns]
        have eE : fX10_readAllOf_L25 G t (nI (5 * r)) = sw_b1 (fX10_readSome G t (nI (5 * r))) fun m3 => some (.inl m3) := by
          rw [fX10_readAllOf_L25, h0, if_pos rfl, b2, if_neg i10]
        rcases p_some (k := k + 1) hA hG hsA hsG hM hr hK hP q2 q3 q4 q5 i2 i6 with ⟨kk', v', σ3, τ3, p3, c1, c2, c3, c4, c5, c6, c7, c8, c9, c10, c11, c12, c13, c14⟩ | ⟨σ3, τ3, c5, c6, c7⟩
        · have hcnt := n_sum_u (n := ind mj) (i := kk') (x := 1) (K := 5) (by omega)
          have hind : ind mj kk' = 0 := by
            unfold ind
            rw [if_pos c4]
          have hnu' : nu (ind mj) kk' 1 = ind (nu mj kk' v') := by
            funext j
            unfold ind nu
            by_cases e : j = kk'
            · rw [if_pos e, if_pos e, if_neg (by omega)]
            · rw [if_neg e, if_neg e]
          have hb5 := n_sum_b (n := ind (nu mj kk' v')) (B := 1) (K := 5) (fun j _ => by unfold ind; split <;> omega)
          rw [hind, hnu'] at hcnt
          have w1 : sw_wh (n1 + 1 + 1) (fun s : Int32 × sw_M => fX5_readPortions_L2 A s.2 (nI r) s.1) (nI (k + 1), σ2) = sw_wh (n1 + 1) (fun s : Int32 × sw_M => fX5_readPortions_L2 A s.2 (nI r) s.1) (nI (k + 1 + 1), σ3) := wh_one (by show fX5_readPortions_L2 A σ2 (nI r) (nI (k + 1)) = _; rw [eC, c5])
          have w2 : sw_wh (n2 + 1 + 1) (fun s : sw_M => fX10_readAllOf_L25 G s (nI (5 * r))) t = sw_wh (n2 + 1) (fun s : sw_M => fX10_readAllOf_L25 G s (nI (5 * r))) τ3 := wh_one (by show fX10_readAllOf_L25 G t (nI (5 * r)) = _; rw [eE, c6, b1_s])
          show ∃ x y, sw_wh (n1 + 1 + 1) (fun s : Int32 × sw_M => fX5_readPortions_L2 A s.2 (nI r) s.1) (nI (k + 1), σ2) = some x ∧ sw_wh (n2 + 1 + 1) (fun s : sw_M => fX10_readAllOf_L25 G s (nI (5 * r))) t = some y ∧ _
          rw [w1, w2]
          refine ih (k + 1) (n1 + 1) (n2 + 1) σ3 τ3 (by omega) (by omega) (by omega) ⟨nu mj kk' v', kk', p3, by omega, c7, by omega, i4.tr c9, i5.tr c10, fun j hj => ?_, fun q hq => ?_, c1, ?_, c13, c14, by omega⟩
          · obtain ⟨w1, w2, w3⟩ := i6 j hj
            rw [c11, c12]
            by_cases e : j = kk'
            · rw [e, upd_e, upd_e, nu_e]
              exact ⟨rfl, rfl, c3⟩
            · rw [upd_n (by omega), upd_n (by omega), nu_n e]
              exact ⟨w1, w2, w3⟩
          · rw [c11, c12, upd_n (by omega), upd_n (by omega)]
            exact i7 q hq
          · rw [nu_e]
            exact c2
        · have w2 : sw_wh (n2 + 1 + 1) (fun s : sw_M => fX10_readAllOf_L25 G s (nI (5 * r))) t = sw_wh (n2 + 1) (fun s : sw_M => fX10_readAllOf_L25 G s (nI (5 * r))) τ3 := wh_one (by show fX10_readAllOf_L25 G t (nI (5 * r)) = _; rw [eE, c6, b1_s])
          refine ⟨(0, σ3), τ3, wh_end (by show fX5_readPortions_L2 A σ2 (nI r) (nI (k + 1)) = _; rw [eC, c5]), ?_, .inr ⟨σ3, rfl, c7⟩⟩
          show sw_wh (n2 + 1 + 1) (fun s : sw_M => fX10_readAllOf_L25 G s (nI (5 * r))) t = _
          rw [w2]
          exact wh_end (by show fX10_readAllOf_L25 G τ3 (nI (5 * r)) = _; rw [fX10_readAllOf_L25, if_neg (f_nz c7.2.2.1)])
      · have hx : ∃ x, fX5_readPortions_L2 A σ2 (nI r) (nI (k + 1)) = some (.inr x) ∧ fX5_readSign σ2 59 = some x := by
          rw [fX5_readPortions_L2, if_neg n5, if_neg n0]
          by_cases e : σ2.1 2 9 = 59
          · rw [if_pos e]
            rcases p_semi i2 with ⟨σ3, τ3, e1, _⟩ | ⟨σ3, τ3, e1, _⟩
            · exact ⟨(1, σ3), by rw [e1, b2_s, sw_gd_t bo1], e1⟩
            · exact ⟨(0, σ3), by rw [e1, b2_s, sw_gd_t bo0], e1⟩
          · rw [if_neg e]
            obtain ⟨σ3, τ3, e1, e2, e3⟩ := p_fail (w := 2) (by decide) i2
            refine ⟨(0, σ3), ?_, ?_⟩
            · rw [fX5_readPortions_L30, fX5_knownKind, b1, if_pos rfl, e1, b2_s, b2_s, if_pos rfl]
            · rw [fX5_readSign, if_neg e, e1, b2_s, sw_gd_t bo0]
        obtain ⟨x, x1, x2⟩ := hx
        refine ⟨x, t, wh_end x1, wh_end (by show fX10_readAllOf_L25 G t (nI (5 * r)) = _; rw [fX10_readAllOf_L25, h0, if_pos rfl, b2, if_pos rfl]), .inl ⟨σ2, p2, mj, lk, x2, i2, i3, i4, i5, i6, i7, i8, i9, i10', i11⟩⟩
  have main0 := main 5 0 3999 sw_F σ1 τ1 rfl (by decide) (by decide) ⟨nu (fun _ => 0) kk v, kk, p1, by decide, a7, a8, a9, zfr.tr a10, fun j hj => ?_, fun q hq => ?_, a1, ?_, a13, a14, ?_⟩
  · obtain ⟨x, y, y1, y2, y3⟩ := main0
    rcases y3 with ⟨σ2, p', mj, lk, q1, q2⟩ | ⟨σ', rfl, q2⟩
    · refine .inl ⟨σ2, y, p', mj, lk, x, y1, q1, zlp y (by rw [a6, b1_s]; exact y2), q2⟩
    · exact .inr ⟨σ', y, y1, zlp y (by rw [a6, b1_s]; exact y2), q2⟩
  · rw [a11, a12]
    by_cases e : j = kk
    · rw [e, upd_e, upd_e, nu_e]
      exact ⟨rfl, rfl, a3⟩
    · rw [upd_n (by omega), upd_n (by omega), nu_n e]
      exact ⟨hz j hj, (zrow j hj).2.1, by omega⟩
  · rw [a11, a12, upd_n (by omega), upd_n (by omega)]
    exact ⟨rfl, zout q hq⟩
  · rw [nu_e]
    exact a2
  · have hcnt := n_sum_u (n := ind (fun _ => 0)) (i := kk) (x := 1) (K := 5) (by omega)
    have hnu' : nu (ind (fun _ => 0)) kk 1 = ind (nu (fun _ => 0) kk v) := by
      funext j
      unfold ind nu
      by_cases e : j = kk
      · rw [if_pos e, if_pos e, if_neg (by omega)]
      · rw [if_neg e, if_neg e]
    have z5 : n_sum (ind (fun _ => 0)) 5 = 0 := by decide
    have z1 : ind (fun _ => 0) kk = 0 := rfl
    rw [hnu', z5, z1] at hcnt
    omega
end PG
