/-! tokens -/
def t_end (c : Nat → Bool) (n : Nat) : Nat → Nat → Nat
  | 0, a => a
  | f + 1, a => if a < n ∧ c a = true then t_end c n f (a + 1) else a
theorem tend_spec (c : Nat → Bool) (n : Nat) : ∀ f a, n ≤ a + f → a ≤ t_end c n f a ∧ (∀ i, a ≤ i → i < t_end c n f a → i < n ∧ c i = true) ∧ ¬ (t_end c n f a < n ∧ c (t_end c n f a) = true) ∧ (a ≤ n → t_end c n f a ≤ n)
  | 0, a, h => ⟨Nat.le_refl a, fun i h1 h2 => absurd h2 (Nat.not_lt.mpr h1), fun h2 => by have h3 : a < n := h2.1; omega, fun h2 => h2⟩
  | f + 1, a, h => by
    rw [t_end]
    by_cases e : a < n ∧ c a = true
    · rw [if_pos e]
      obtain ⟨h1, h2, h3, h4⟩ := tend_spec c n f (a + 1) (by omega)
      refine ⟨by omega, fun i i1 i2 => ?_, h3, fun _ => h4 (by omega)⟩
      by_cases ei : i = a
      · rw [ei]; exact e
      · exact h2 i (by omega) i2
    · rw [if_neg e]
      exact ⟨Nat.le_refl a, fun i h1 h2 => absurd h2 (Nat.not_lt.mpr h1), e, fun h2 => h2⟩
def isB (b : Nat) : Bool := decide (b = 32 ∨ b = 10)
def isL (b : Nat) : Bool := decide (97 ≤ b ∧ b ≤ 122)
def isD (b : Nat) : Bool := decide (48 ≤ b ∧ b ≤ 57)
def isS (b : Nat) : Bool := decide (b = 59 ∨ b = 40 ∨ b = 41 ∨ b = 60 ∨ b = 62 ∨ b = 61 ∨ b = 43 ∨ b = 45 ∨ b = 42 ∨ b = 47 ∨ b = 37)
def cw (f : Nat → Nat) : Nat → Nat
  | 0 => 0
  | k + 1 => cw f k * 27 + (f k - 96)
def rwd (f : Nat → Nat) : Nat → Nat
  | 0 => 0
  | k + 1 => rwd f k * 256 + f k
def nmd (f : Nat → Nat) : Nat → Nat
  | 0 => 0
  | k + 1 => nmd f k * 10 + (f k - 48)
def tkP (B : Nat → Nat) (n a : Nat) : Nat := t_end (fun i => isB (B i)) n (n - a) a
def tkL (B : Nat → Nat) (n p : Nat) : Nat := t_end (fun i => isL (B i)) n (n - p) p
def tkD (B : Nat → Nat) (n p : Nat) : Nat := t_end (fun i => isD (B i)) n (n - p) p
def teE (B : Nat → Nat) (n p : Nat) : Nat := if n ≤ p then p else if isL (B p) = true then tkL B n p else if isD (B p) = true then tkD B n p else p + 1
def teT (B : Nat → Nat) (n p : Nat) : Nat := if n ≤ p then 0 else if isL (B p) = true then (if tkL B n p - p ≤ 8 then 2 else 1) else if isD (B p) = true then (if (tkD B n p < n ∧ isL (B (tkD B n p)) = true) ∨ 4 < tkD B n p - p then 1 else 3) else if isS (B p) = true then 4 else 1
def teX (B : Nat → Nat) (n p : Nat) : Nat := if isL (B p) = true then cw (fun i => B (p + i)) (tkL B n p - p) else if isD (B p) = true then nmd (fun i => B (p + i)) (tkD B n p - p) else B p
def teY (B : Nat → Nat) (n p : Nat) : Nat := rwd (fun i => B (p + i)) (tkL B n p - p)
/-- a word in both spellings -/
def vw (c r : Nat) : Prop := ∃ (f : Nat → Nat) (k : Nat), k ≤ 8 ∧ (∀ i, i < k → 97 ≤ f i ∧ f i ≤ 122) ∧ c = cw f k ∧ r = rwd f k
theorem w_inj {f g : Nat → Nat} : ∀ {k l : Nat}, (∀ i, i < k → 97 ≤ f i ∧ f i ≤ 122) → (∀ i, i < l → 97 ≤ g i ∧ g i ≤ 122) → ((cw f k = cw g l → rwd f k = rwd g l) ∧ (rwd f k = rwd g l → cw f k = cw g l))
  | 0, 0, _, _ => ⟨fun _ => rfl, fun _ => rfl⟩
  | 0, l + 1, _, hg => by
    have := hg l (by omega)
    refine ⟨fun h => ?_, fun h => ?_⟩
    · have h' : 0 = cw g l * 27 + (g l - 96) := h
      omega
    · have h' : 0 = rwd g l * 256 + g l := h
      omega
  | k + 1, 0, hf, _ => by
    have := hf k (by omega)
    refine ⟨fun h => ?_, fun h => ?_⟩
    · have h' : cw f k * 27 + (f k - 96) = 0 := h
      omega
    · have h' : rwd f k * 256 + f k = 0 := h
      omega
  | k + 1, l + 1, hf, hg => by
    have h1 := hf k (by omega)
    have h2 := hg l (by omega)
    have ih := w_inj (f := f) (g := g) (k := k) (l := l) (fun i hi => hf i (by omega)) (fun i hi => hg i (by omega))
    refine ⟨fun h => ?_, fun h => ?_⟩
    · have h' : cw f k * 27 + (f k - 96) = cw g l * 27 + (g l - 96) := h
      have e1 : cw f k = cw g l := by omega
      have e2 : f k = g l := by omega
      show rwd f k * 256 + f k = rwd g l * 256 + g l
      rw [ih.1 e1, e2]
    · have h' : rwd f k * 256 + f k = rwd g l * 256 + g l := h
      have e1 : rwd f k = rwd g l := by omega
      have e2 : f k = g l := by omega
      show cw f k * 27 + (f k - 96) = cw g l * 27 + (g l - 96)
      rw [ih.2 e1, e2]
theorem vw_iff {c r c' r' : Nat} (h : vw c r) (h' : vw c' r') : c = c' ↔ r = r' := by
  obtain ⟨f, k, _, h2, rfl, rfl⟩ := h
  obtain ⟨g, l, _, g2, rfl, rfl⟩ := h'
  exact ⟨(w_inj h2 g2).1, (w_inj h2 g2).2⟩
theorem cw_lt {f : Nat → Nat} : ∀ {k : Nat}, (∀ i, i < k → 97 ≤ f i ∧ f i ≤ 122) → cw f k < 27 ^ k
  | 0, _ => by show 0 < 1; decide
  | k + 1, h => by
    have h1 := h k (by omega)
    have h2 := cw_lt (k := k) (fun i hi => h i (by omega))
    show cw f k * 27 + (f k - 96) < 27 ^ k * 27
    omega
theorem rwd_lt {f : Nat → Nat} : ∀ {k : Nat}, (∀ i, i < k + 1 → 97 ≤ f i ∧ f i ≤ 122) → rwd f (k + 1) < 128 * 256 ^ k
  | 0, h => by
    have h1 := h 0 (by omega)
    show 0 * 256 + f 0 < 128 * 1
    omega
  | k + 1, h => by
    have h1 := h (k + 1) (by omega)
    have h2 := rwd_lt (f := f) (k := k) (fun i hi => h i (by omega))
    show rwd f (k + 1) * 256 + f (k + 1) < 128 * (256 ^ k * 256)
    omega
theorem vw_lt {c r : Nat} (h : vw c r) : c < 2 ^ 63 ∧ r < 2 ^ 63 := by
  obtain ⟨f, k, h1, h2, rfl, rfl⟩ := h
  refine ⟨?_, ?_⟩
  · have := cw_lt h2
    have h3 : 27 ^ k ≤ 27 ^ 8 := Nat.pow_le_pow_right (by decide) h1
    have h4 : (27 : Nat) ^ 8 < 2 ^ 63 := by decide
    omega
  · cases k with
    | zero => show 0 < 2 ^ 63; decide
    | succ k =>
      have := rwd_lt h2
      have h3 : 256 ^ k ≤ 256 ^ 7 := Nat.pow_le_pow_right (by decide) (by omega)
      have h4 : (128 : Nat) * 256 ^ 7 = 2 ^ 63 := by decide
      omega
theorem lN_inj {a b : Nat} (ha : a < 2 ^ 63) (hb : b < 2 ^ 63) : lN a = lN b ↔ a = b := by
  refine ⟨fun h => ?_, fun h => by rw [h]⟩
  have h1 := congrArg (fun x : Int64 => x.toBitVec.toNat) h
  have e : ∀ x, x < 2 ^ 63 → (lN x).toBitVec.toNat = x := by
    intro x hx
    show (BitVec.ofNat 64 x).toNat = x
    rw [BitVec.toNat_ofNat, Nat.mod_eq_of_lt (by omega)]
  have h2 : (lN a).toBitVec.toNat = (lN b).toBitVec.toNat := h1
  rw [e a ha, e b hb] at h2
  exact h2
theorem cmp_0 (x y : Int64) : (lg_cmp x y = 0) ↔ x = y := by
  unfold lg_cmp
  by_cases h : x > y
  · rw [if_pos h]
    refine ⟨fun e => absurd e (by decide), fun e => ?_⟩
    rw [e] at h
    exact absurd h (Int64.lt_irrefl)
  · rw [if_neg h]
    by_cases e : x = y
    · rw [if_pos e]
      exact ⟨fun _ => e, fun _ => rfl⟩
    · rw [if_neg e]
      exact ⟨fun h => absurd h (by decide), fun h => absurd h e⟩
def kcL : List Nat := [223456, 232608281, 1365031, 1096673, 9757090, 376744, 91904, 5878, 187908, 12253591, 423, 1111, 10631, 1065, 6033331, 267347, 6476969, 7826771953, 2968]
def krL : List Nat := [1802071652, 123581014175598, 422775975027, 422541748590, 491395442035, 1935897965, 1685217655, 6840691, 1768846447, 512735736947, 28530, 6385252, 7237492, 6384748, 461330343027, 1836020596, 465557353332, 32762613647897203, 6578553]
def kcN (i : Nat) : Nat := kcL.getD i 0
def krN (i : Nat) : Nat := krL.getD i 0
theorem key_c : ∀ i, i < 19 → sw_key i = lN (kcN i) := by decide
def kwL : List (List Nat) := [[107, 105, 110, 100], [112, 101, 114, 115, 111, 110], [98, 111, 105, 108, 115], [98, 97, 115, 105, 110], [114, 105, 115, 101, 115], [115, 99, 117, 109], [100, 114, 97, 119], [104, 97, 115], [105, 110, 116, 111], [119, 97, 110, 116, 115], [111, 114], [97, 110, 100], [110, 111, 116], [97, 108, 108], [107, 105, 110, 100, 115], [109, 111, 115, 116], [108, 101, 97, 115, 116], [116, 101, 108, 108, 101, 114, 115], [100, 97, 121]]
def kwF (i j : Nat) : Nat := (kwL.getD i []).getD j 0
def kwK (i : Nat) : Nat := (kwL.getD i []).length
theorem key_w : ∀ i, i < 19 → kwK i ≤ 8 ∧ (∀ j, j < kwK i → 97 ≤ kwF i j ∧ kwF i j ≤ 122) ∧ kcN i = cw (kwF i) (kwK i) ∧ krN i = rwd (kwF i) (kwK i) := by decide
theorem key_vw {i : Nat} (hi : i < 19) : vw (kcN i) (krN i) := by
  obtain ⟨h1, h2, h3, h4⟩ := key_w i hi
  exact ⟨kwF i, kwK i, h1, h2, h3, h4⟩
theorem key_d : ∀ i, i < 19 → ∀ j, j < 19 → kcN i = kcN j → i = j := by decide
/-- the first place of a name -/
def ffr (g : Nat → Int64) (s : Int64) : Nat → Nat → Int32
  | 0, _ => -1
  | f + 1, i => if g i = s then nI i else ffr g s f (i + 1)
theorem ffr_spec (g : Nat → Int64) (s : Int64) : ∀ f i, (ffr g s f i = -1 ∧ ∀ j, i ≤ j → j < i + f → ¬ g j = s) ∨ (∃ j, i ≤ j ∧ j < i + f ∧ g j = s ∧ ffr g s f i = nI j ∧ ∀ q, i ≤ q → q < j → ¬ g q = s)
  | 0, i => .inl ⟨rfl, fun j h1 h2 => by omega⟩
  | f + 1, i => by
    rw [ffr]
    by_cases e : g i = s
    · rw [if_pos e]
      exact .inr ⟨i, Nat.le_refl i, by omega, e, rfl, fun q h1 h2 => by omega⟩
    · rw [if_neg e]
      rcases ffr_spec g s f (i + 1) with ⟨h1, h2⟩ | ⟨j, h1, h2, h3, h4, h5⟩
      · refine .inl ⟨h1, fun j j1 j2 => ?_⟩
        by_cases ej : j = i
        · rw [ej]; exact e
        · exact h2 j (by omega) (by omega)
      · refine .inr ⟨j, by omega, by omega, h3, h4, fun q q1 q2 => ?_⟩
        by_cases eq : q = i
        · rw [eq]; exact e
        · exact h5 q (by omega) q2
theorem c_ffind {σ : sw_M} {P0 c N : Nat} {s : Int64} (hs : (sw_s P0).2 = N) (hN : N < 4000) (hc : c ≤ N) : fX7_find P0 σ (nI c) s = some (ffr (σ.2.1 P0) s c 0) := by
  unfold fX7_find
  suffices main : ∃ t, sw_wh sw_F (fun q : Int32 => fX7_find_L3 P0 σ (nI c) s q) 0 = some t ∧ t = ffr (σ.2.1 P0) s c 0 by
    obtain ⟨t, h1, h2⟩ := main
    rw [h1, h2]
  refine wh_gen (b := fun q : Int32 => fX7_find_L3 P0 σ (nI c) s q) (fun i q => q = nI i ∧ ffr (σ.2.1 P0) s (c - i) i = ffr (σ.2.1 P0) s c 0) (fun t => t = ffr (σ.2.1 P0) s c 0) c (fun i q hk hI => ?_) ⟨rfl, rfl⟩ (F_big (by omega))
  obtain ⟨rfl, hI⟩ := hI
  show (∃ s', fX7_find_L3 P0 σ (nI c) s (nI i) = some (.inl s') ∧ (s' = nI (i + 1) ∧ ffr (σ.2.1 P0) s (c - (i + 1)) (i + 1) = ffr (σ.2.1 P0) s c 0) ∧ i < c) ∨ (∃ t, fX7_find_L3 P0 σ (nI c) s (nI i) = some (.inr t) ∧ t = ffr (σ.2.1 P0) s c 0)
  unfold fX7_find_L3
  by_cases hic : i < c
  · have e1 : ¬ Int32.ofNat (sw_s P0).2 ≤ nI i := by
      rw [hs]
      exact nI_ge (b := N) (by omega) (by omega)
    obtain ⟨d, hd⟩ : ∃ d, c - i = d + 1 := ⟨c - i - 1, by omega⟩
    rw [hd, ffr] at hI
    rw [if_neg (le_f hic (by omega)), if_neg e1, hs, sw_gd_t (in_t (show i < N by omega) (by omega)), nI_clamp (by omega), let_s, nI_1]
    by_cases e : σ.2.1 P0 i = s
    · rw [if_pos e] at hI
      rw [if_pos ((cmp_0 _ _).mpr e)]
      exact .inr ⟨_, rfl, hI⟩
    · rw [if_neg e] at hI
      rw [if_neg (fun x => e ((cmp_0 _ _).mp x))]
      refine .inl ⟨_, rfl, ⟨rfl, ?_⟩, hic⟩
      rw [show c - (i + 1) = d by omega]
      exact hI
  · have ei : i = c := by omega
    rw [ei, Nat.sub_self] at hI
    rw [ei, if_pos (le_t c (by omega))]
    exact .inr ⟨_, rfl, hI⟩
def kfind (x : Nat) : Int32 := ffr sw_key (lN x) 19 0
theorem kfind_iff {x y i : Nat} (h : vw x y) (hi : i < 19) : kfind x = nI i ↔ y = krN i := by
  have hx := (vw_lt h).1
  have hk := (vw_lt (key_vw hi)).1
  rw [← vw_iff h (key_vw hi)]
  unfold kfind
  rcases ffr_spec sw_key (lN x) 19 0 with ⟨h1, h2⟩ | ⟨j, h1, h2, h3, h4, h5⟩
  · rw [h1]
    refine ⟨fun e => ?_, fun e => ?_⟩
    · exact absurd e.symm (nI_nm (by omega))
    · refine absurd ?_ (h2 i (by omega) (by omega))
      rw [key_c i hi, e]
  · rw [h4]
    have hj : j < 19 := by omega
    have ej : x = kcN j := by
      rw [key_c j hj] at h3
      exact ((lN_inj (vw_lt (key_vw hj)).1 hx).mp h3).symm
    refine ⟨fun e => ?_, fun e => ?_⟩
    · rw [(nI_eq (by omega) (by omega)).mp e] at ej
      exact ej
    · rw [key_d i hi j hj (by rw [← e, ej])]
theorem kfind_no {x y : Nat} (h : vw x y) : kfind x = -1 ↔ ∀ i, i < 19 → ¬ y = krN i := by
  refine ⟨fun e i hi ey => ?_, fun hn => ?_⟩
  · have := (kfind_iff h hi).mpr ey
    rw [e] at this
    exact nI_nm (by omega) this.symm
  · unfold kfind
    rcases ffr_spec sw_key (lN x) 19 0 with ⟨h1, h2⟩ | ⟨j, h1, h2, h3, h4, h5⟩
    · exact h1
    · exact absurd ((kfind_iff h (show j < 19 by omega)).mp h4) (hn j (by omega))
theorem kfind_ex (x : Nat) : kfind x = -1 ∨ ∃ i, i < 19 ∧ kfind x = nI i := by
  unfold kfind
  rcases ffr_spec sw_key (lN x) 19 0 with ⟨h1, h2⟩ | ⟨j, h1, h2, h3, h4, h5⟩
  · exact .inl h1
  · exact .inr ⟨j, by omega, h4⟩
theorem te_vw {B : Nat → Nat} {n p : Nat} (h : teT B n p = 2) : vw (teX B n p) (teY B n p) := by
  unfold teT at h
  by_cases h1 : n ≤ p
  · rw [if_pos h1] at h
    exact absurd h (by decide)
  · rw [if_neg h1] at h
    by_cases h2 : isL (B p) = true
    · rw [if_pos h2] at h
      by_cases h3 : tkL B n p - p ≤ 8
      · have sp := tend_spec (fun i => isL (B i)) n (n - p) p (by omega)
        refine ⟨fun i => B (p + i), tkL B n p - p, h3, fun i hi => ?_, by rw [teX, if_pos h2], rfl⟩
        have := (sp.2.1 (p + i) (by omega) (by show p + i < tkL B n p; omega)).2
        exact of_decide_eq_true this
      · rw [if_neg h3] at h
        exact absurd h (by decide)
    · rw [if_neg h2] at h
      by_cases h3 : isD (B p) = true
      · rw [if_pos h3] at h
        split at h <;> exact absurd h (by decide)
      · rw [if_neg h3] at h
        split at h <;> exact absurd h (by decide)
