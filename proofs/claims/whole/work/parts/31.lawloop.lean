theorem dL33 : decode code 33 = .ok (.tableswitch 1451 0 49 #[215, 278, 301, 314, 337, 360, 393, 426, 459, 482, 495, 518, 541, 554, 567, 610, 623, 646, 679, 702, 725, 758, 781, 804, 817, 840, 863, 896, 929, 942, 965, 988, 1001, 1014, 1027, 1040, 1063, 1076, 1099, 1112, 1145, 1168, 1237, 1260, 1283, 1306, 1339, 1382, 1405, 1428], 215) := by decide +kernel
def fL_law_L1484 (xs : Nat → Int32) (L : Nat) (σ : sw_M) (a3 : Int32) : Option ((Int32 × sw_M) ⊕ (Int32)) :=
  sw_let (a3 + 6) fun v1 =>
  some (.inl (v1, σ))
def fL_law_L248 (xs : Nat → Int32) (L : Nat) (σ : sw_M) (a3 : Int32) : Option ((Int32 × sw_M) ⊕ (Int32)) :=
  sw_gd (sw_in (a3 + 1) L) <|
  sw_gd (sw_in (a3 + 2) L) <|
  sw_gd (sw_in (a3 + 3) L) <|
  sw_gd (sw_in (a3 + 4) L) <|
  sw_gd (sw_in (a3 + 5) L) <|
  sw_b2 (fX9_feed σ (xs (a3 + 1).toNatClampNeg) (xs (a3 + 2).toNatClampNeg) (xs (a3 + 3).toNatClampNeg) (xs (a3 + 4).toNatClampNeg) (xs (a3 + 5).toNatClampNeg)) fun r6 m7 =>
  sw_gd (sw_in (a3 + 1) L) <|
  sw_gd (sw_in (a3 + 2) L) <|
  sw_gd (sw_in (a3 + 3) L) <|
  sw_gd (sw_in (a3 + 4) L) <|
  sw_gd (sw_in (a3 + 5) L) <|
  sw_b2 (fX10_feed m7 (xs (a3 + 1).toNatClampNeg) (xs (a3 + 2).toNatClampNeg) (xs (a3 + 3).toNatClampNeg) (xs (a3 + 4).toNatClampNeg) (xs (a3 + 5).toNatClampNeg)) fun r14 m15 =>
  if r6 = r14 then
    fL_law_L1484 xs L m15 a3
  else
    some (.inr 0)
def fL_law_L311 (xs : Nat → Int32) (L : Nat) (σ : sw_M) (a3 : Int32) : Option ((Int32 × sw_M) ⊕ (Int32)) :=
  sw_gd (sw_in (a3 + 1) L) <|
  sw_b2 (fX9_end σ (xs (a3 + 1).toNatClampNeg)) fun r2 m3 =>
  sw_gd (sw_in (a3 + 1) L) <|
  sw_b2 (fX10_end m3 (xs (a3 + 1).toNatClampNeg)) fun r6 m7 =>
  if r2 = r6 then
    fL_law_L1484 xs L m7 a3
  else
    some (.inr 0)
def fL_law_L334 (xs : Nat → Int32) (L : Nat) (σ : sw_M) (a3 : Int32) : Option ((Int32 × sw_M) ⊕ (Int32)) :=
  sw_b2 (fX9_works σ) fun r1 m2 =>
  sw_b2 (fX10_works m2) fun r4 m5 =>
  if r1 = r4 then
    fL_law_L1484 xs L m5 a3
  else
    some (.inr 0)
def fL_law_L347 (xs : Nat → Int32) (L : Nat) (σ : sw_M) (a3 : Int32) : Option ((Int32 × sw_M) ⊕ (Int32)) :=
  sw_gd (sw_in (a3 + 1) L) <|
  sw_gd (sw_in (a3 + 1) L) <|
  if (fX9_fault σ (xs (a3 + 1).toNatClampNeg)) = (fX10_fault σ (xs (a3 + 1).toNatClampNeg)) then
    fL_law_L1484 xs L σ a3
  else
    some (.inr 0)
def fL_law_L370 (xs : Nat → Int32) (L : Nat) (σ : sw_M) (a3 : Int32) : Option ((Int32 × sw_M) ⊕ (Int32)) :=
  sw_gd (sw_in (a3 + 1) L) <|
  sw_b1 (fX9_vat σ (xs (a3 + 1).toNatClampNeg)) fun r2 =>
  sw_gd (sw_in (a3 + 1) L) <|
  sw_b1 (fX10_vat σ (xs (a3 + 1).toNatClampNeg)) fun r5 =>
  if r2 = r5 then
    fL_law_L1484 xs L σ a3
  else
    some (.inr 0)
def fL_law_L393 (xs : Nat → Int32) (L : Nat) (σ : sw_M) (a3 : Int32) : Option ((Int32 × sw_M) ⊕ (Int32)) :=
  sw_gd (sw_in (a3 + 1) L) <|
  sw_gd (sw_in (a3 + 2) L) <|
  sw_b1 (fX9_mind σ (xs (a3 + 1).toNatClampNeg) (xs (a3 + 2).toNatClampNeg)) fun r3 =>
  sw_gd (sw_in (a3 + 1) L) <|
  sw_gd (sw_in (a3 + 2) L) <|
  sw_b1 (fX10_mind σ (xs (a3 + 1).toNatClampNeg) (xs (a3 + 2).toNatClampNeg)) fun r7 =>
  if r3 = r7 then
    fL_law_L1484 xs L σ a3
  else
    some (.inr 0)
def fL_law_L426 (xs : Nat → Int32) (L : Nat) (σ : sw_M) (a3 : Int32) : Option ((Int32 × sw_M) ⊕ (Int32)) :=
  sw_gd (sw_in (a3 + 1) L) <|
  sw_gd (sw_in (a3 + 2) L) <|
  sw_b1 (fX9_wants σ (xs (a3 + 1).toNatClampNeg) (xs (a3 + 2).toNatClampNeg)) fun r3 =>
  sw_gd (sw_in (a3 + 1) L) <|
  sw_gd (sw_in (a3 + 2) L) <|
  sw_b1 (fX10_wants σ (xs (a3 + 1).toNatClampNeg) (xs (a3 + 2).toNatClampNeg)) fun r7 =>
  if r3 = r7 then
    fL_law_L1484 xs L σ a3
  else
    some (.inr 0)
def fL_law_L459 (xs : Nat → Int32) (L : Nat) (σ : sw_M) (a3 : Int32) : Option ((Int32 × sw_M) ⊕ (Int32)) :=
  sw_gd (sw_in (a3 + 1) L) <|
  sw_gd (sw_in (a3 + 2) L) <|
  sw_b1 (fX9_rule σ (xs (a3 + 1).toNatClampNeg) (xs (a3 + 2).toNatClampNeg)) fun r3 =>
  sw_gd (sw_in (a3 + 1) L) <|
  sw_gd (sw_in (a3 + 2) L) <|
  sw_b1 (fX10_rule σ (xs (a3 + 1).toNatClampNeg) (xs (a3 + 2).toNatClampNeg)) fun r7 =>
  if r3 = r7 then
    fL_law_L1484 xs L σ a3
  else
    some (.inr 0)
def fL_law_L492 (xs : Nat → Int32) (L : Nat) (σ : sw_M) (a3 : Int32) : Option ((Int32 × sw_M) ⊕ (Int32)) :=
  sw_gd (sw_in (a3 + 1) L) <|
  sw_b2 (fX9_confess σ (xs (a3 + 1).toNatClampNeg)) fun r2 m3 =>
  sw_gd (sw_in (a3 + 1) L) <|
  sw_b2 (fX10_confess m3 (xs (a3 + 1).toNatClampNeg)) fun r6 m7 =>
  if r2 = r6 then
    fL_law_L1484 xs L m7 a3
  else
    some (.inr 0)
def fL_law_L515 (xs : Nat → Int32) (L : Nat) (σ : sw_M) (a3 : Int32) : Option ((Int32 × sw_M) ⊕ (Int32)) :=
  sw_b2 (fX9_boil σ) fun r1 m2 =>
  sw_b2 (fX10_boil m2) fun r4 m5 =>
  if r1 = r4 then
    fL_law_L1484 xs L m5 a3
  else
    some (.inr 0)
def fL_law_L528 (xs : Nat → Int32) (L : Nat) (σ : sw_M) (a3 : Int32) : Option ((Int32 × sw_M) ⊕ (Int32)) :=
  sw_gd (sw_in (a3 + 1) L) <|
  sw_b2 (fX9_wash σ (xs (a3 + 1).toNatClampNeg)) fun r2 m3 =>
  sw_gd (sw_in (a3 + 1) L) <|
  sw_b2 (fX10_wash m3 (xs (a3 + 1).toNatClampNeg)) fun r6 m7 =>
  if r2 = r6 then
    fL_law_L1484 xs L m7 a3
  else
    some (.inr 0)
def fL_law_L551 (xs : Nat → Int32) (L : Nat) (σ : sw_M) (a3 : Int32) : Option ((Int32 × sw_M) ⊕ (Int32)) :=
  sw_gd (sw_in (a3 + 1) L) <|
  sw_b2 (fX9_sweep σ (xs (a3 + 1).toNatClampNeg)) fun r2 m3 =>
  sw_gd (sw_in (a3 + 1) L) <|
  sw_b2 (fX10_sweep m3 (xs (a3 + 1).toNatClampNeg)) fun r6 m7 =>
  if r2 = r6 then
    fL_law_L1484 xs L m7 a3
  else
    some (.inr 0)
def fL_law_L574 (xs : Nat → Int32) (L : Nat) (σ : sw_M) (a3 : Int32) : Option ((Int32 × sw_M) ⊕ (Int32)) :=
  sw_b2 (fX9_undo σ) fun r1 m2 =>
  sw_b2 (fX10_undo m2) fun r4 m5 =>
  if r1 = r4 then
    fL_law_L1484 xs L m5 a3
  else
    some (.inr 0)
def fL_law_L587 (xs : Nat → Int32) (L : Nat) (σ : sw_M) (a3 : Int32) : Option ((Int32 × sw_M) ⊕ (Int32)) :=
  sw_b2 (fX9_redo σ) fun r1 m2 =>
  sw_b2 (fX10_redo m2) fun r4 m5 =>
  if r1 = r4 then
    fL_law_L1484 xs L m5 a3
  else
    some (.inr 0)
def fL_law_L600 (xs : Nat → Int32) (L : Nat) (σ : sw_M) (a3 : Int32) : Option ((Int32 × sw_M) ⊕ (Int32)) :=
  sw_gd (sw_in (a3 + 1) L) <|
  sw_gd (sw_in (a3 + 2) L) <|
  sw_gd (sw_in (a3 + 3) L) <|
  sw_b2 (fX9_will σ (xs (a3 + 1).toNatClampNeg) (xs (a3 + 2).toNatClampNeg) (xs (a3 + 3).toNatClampNeg)) fun r4 m5 =>
  sw_gd (sw_in (a3 + 1) L) <|
  sw_gd (sw_in (a3 + 2) L) <|
  sw_gd (sw_in (a3 + 3) L) <|
  sw_b2 (fX10_will m5 (xs (a3 + 1).toNatClampNeg) (xs (a3 + 2).toNatClampNeg) (xs (a3 + 3).toNatClampNeg)) fun r10 m11 =>
  if r4 = r10 then
    fL_law_L1484 xs L m11 a3
  else
    some (.inr 0)
def fL_law_L643 (xs : Nat → Int32) (L : Nat) (σ : sw_M) (a3 : Int32) : Option ((Int32 × sw_M) ⊕ (Int32)) :=
  sw_b2 (fX9_rise σ) fun r1 m2 =>
  sw_b2 (fX10_rise m2) fun r4 m5 =>
  if r1 = r4 then
    fL_law_L1484 xs L m5 a3
  else
    some (.inr 0)
def fL_law_L656 (xs : Nat → Int32) (L : Nat) (σ : sw_M) (a3 : Int32) : Option ((Int32 × sw_M) ⊕ (Int32)) :=
  sw_gd (sw_in (a3 + 1) L) <|
  sw_b2 (fX9_rouser σ (xs (a3 + 1).toNatClampNeg)) fun r2 m3 =>
  sw_gd (sw_in (a3 + 1) L) <|
  sw_b2 (fX10_rouser m3 (xs (a3 + 1).toNatClampNeg)) fun r6 m7 =>
  if r2 = r6 then
    fL_law_L1484 xs L m7 a3
  else
    some (.inr 0)
def fL_law_L679 (xs : Nat → Int32) (L : Nat) (σ : sw_M) (a3 : Int32) : Option ((Int32 × sw_M) ⊕ (Int32)) :=
  sw_gd (sw_in (a3 + 1) L) <|
  sw_gd (sw_in (a3 + 2) L) <|
  sw_b2 (fX9_choir σ (xs (a3 + 1).toNatClampNeg) (xs (a3 + 2).toNatClampNeg)) fun r3 m4 =>
  sw_gd (sw_in (a3 + 1) L) <|
  sw_gd (sw_in (a3 + 2) L) <|
  sw_b2 (fX10_choir m4 (xs (a3 + 1).toNatClampNeg) (xs (a3 + 2).toNatClampNeg)) fun r8 m9 =>
  if r3 = r8 then
    fL_law_L1484 xs L m9 a3
  else
    some (.inr 0)
def fL_law_L712 (xs : Nat → Int32) (L : Nat) (σ : sw_M) (a3 : Int32) : Option ((Int32 × sw_M) ⊕ (Int32)) :=
  sw_gd (sw_in (a3 + 1) L) <|
  sw_b2 (fX9_power σ (xs (a3 + 1).toNatClampNeg)) fun r2 m3 =>
  sw_gd (sw_in (a3 + 1) L) <|
  sw_b2 (fX10_power m3 (xs (a3 + 1).toNatClampNeg)) fun r6 m7 =>
  if r2 = r6 then
    fL_law_L1484 xs L m7 a3
  else
    some (.inr 0)
def fL_law_L735 (xs : Nat → Int32) (L : Nat) (σ : sw_M) (a3 : Int32) : Option ((Int32 × sw_M) ⊕ (Int32)) :=
  sw_gd (sw_in (a3 + 1) L) <|
  sw_b1 (fX9_serve σ (xs (a3 + 1).toNatClampNeg)) fun r2 =>
  sw_gd (sw_in (a3 + 1) L) <|
  sw_b1 (fX10_serve σ (xs (a3 + 1).toNatClampNeg)) fun r5 =>
  if r2 = r5 then
    fL_law_L1484 xs L σ a3
  else
    some (.inr 0)
def fL_law_L758 (xs : Nat → Int32) (L : Nat) (σ : sw_M) (a3 : Int32) : Option ((Int32 × sw_M) ⊕ (Int32)) :=
  sw_gd (sw_in (a3 + 1) L) <|
  sw_gd (sw_in (a3 + 2) L) <|
  sw_b2 (fX9_balm σ (xs (a3 + 1).toNatClampNeg) (xs (a3 + 2).toNatClampNeg)) fun r3 m4 =>
  sw_gd (sw_in (a3 + 1) L) <|
  sw_gd (sw_in (a3 + 2) L) <|
  sw_b2 (fX10_balm m4 (xs (a3 + 1).toNatClampNeg) (xs (a3 + 2).toNatClampNeg)) fun r8 m9 =>
  if r3 = r8 then
    fL_law_L1484 xs L m9 a3
  else
    some (.inr 0)
def fL_law_L791 (xs : Nat → Int32) (L : Nat) (σ : sw_M) (a3 : Int32) : Option ((Int32 × sw_M) ⊕ (Int32)) :=
  sw_gd (sw_in (a3 + 1) L) <|
  sw_b2 (fX9_cook σ (xs (a3 + 1).toNatClampNeg)) fun r2 m3 =>
  sw_gd (sw_in (a3 + 1) L) <|
  sw_b2 (fX10_cook m3 (xs (a3 + 1).toNatClampNeg)) fun r6 m7 =>
  if r2 = r6 then
    fL_law_L1484 xs L m7 a3
  else
    some (.inr 0)
def fL_law_L814 (xs : Nat → Int32) (L : Nat) (σ : sw_M) (a3 : Int32) : Option ((Int32 × sw_M) ⊕ (Int32)) :=
  sw_gd (sw_in (a3 + 1) L) <|
  sw_b1 (fX9_lacks σ (xs (a3 + 1).toNatClampNeg)) fun r2 =>
  sw_gd (sw_in (a3 + 1) L) <|
  sw_b1 (fX10_lacks σ (xs (a3 + 1).toNatClampNeg)) fun r5 =>
  if r2 = r5 then
    fL_law_L1484 xs L σ a3
  else
    some (.inr 0)
def fL_law_L837 (xs : Nat → Int32) (L : Nat) (σ : sw_M) (a3 : Int32) : Option ((Int32 × sw_M) ⊕ (Int32)) :=
  sw_b2 (fX9_rest σ) fun r1 m2 =>
  sw_b2 (fX10_rest m2) fun r4 m5 =>
  if r1 = r4 then
    fL_law_L1484 xs L m5 a3
  else
    some (.inr 0)
def fL_law_L850 (xs : Nat → Int32) (L : Nat) (σ : sw_M) (a3 : Int32) : Option ((Int32 × sw_M) ⊕ (Int32)) :=
  sw_gd (sw_in (a3 + 1) L) <|
  sw_b2 (fX9_order σ (xs (a3 + 1).toNatClampNeg)) fun r2 m3 =>
  sw_gd (sw_in (a3 + 1) L) <|
  sw_b2 (fX10_order m3 (xs (a3 + 1).toNatClampNeg)) fun r6 m7 =>
  if r2 = r6 then
    fL_law_L1484 xs L m7 a3
  else
    some (.inr 0)
def fL_law_L873 (xs : Nat → Int32) (L : Nat) (σ : sw_M) (a3 : Int32) : Option ((Int32 × sw_M) ⊕ (Int32)) :=
  sw_gd (sw_in (a3 + 1) L) <|
  sw_b1 (fX9_comes σ (xs (a3 + 1).toNatClampNeg)) fun r2 =>
  sw_gd (sw_in (a3 + 1) L) <|
  sw_b1 (fX10_comes σ (xs (a3 + 1).toNatClampNeg)) fun r5 =>
  if r2 = r5 then
    fL_law_L1484 xs L σ a3
  else
    some (.inr 0)
def fL_law_L896 (xs : Nat → Int32) (L : Nat) (σ : sw_M) (a3 : Int32) : Option ((Int32 × sw_M) ⊕ (Int32)) :=
  sw_gd (sw_in (a3 + 1) L) <|
  sw_gd (sw_in (a3 + 2) L) <|
  sw_b1 (fX9_steps σ (xs (a3 + 1).toNatClampNeg) (xs (a3 + 2).toNatClampNeg)) fun r3 =>
  sw_gd (sw_in (a3 + 1) L) <|
  sw_gd (sw_in (a3 + 2) L) <|
  sw_b1 (fX10_steps σ (xs (a3 + 1).toNatClampNeg) (xs (a3 + 2).toNatClampNeg)) fun r7 =>
  if r3 = r7 then
    fL_law_L1484 xs L σ a3
  else
    some (.inr 0)
def fL_law_L929 (xs : Nat → Int32) (L : Nat) (σ : sw_M) (a3 : Int32) : Option ((Int32 × sw_M) ⊕ (Int32)) :=
  sw_gd (sw_in (a3 + 1) L) <|
  sw_gd (sw_in (a3 + 2) L) <|
  sw_b2 (fX9_duel σ (xs (a3 + 1).toNatClampNeg) (xs (a3 + 2).toNatClampNeg)) fun r3 m4 =>
  sw_gd (sw_in (a3 + 1) L) <|
  sw_gd (sw_in (a3 + 2) L) <|
  sw_b2 (fX10_duel m4 (xs (a3 + 1).toNatClampNeg) (xs (a3 + 2).toNatClampNeg)) fun r8 m9 =>
  if r3 = r8 then
    fL_law_L1484 xs L m9 a3
  else
    some (.inr 0)
def fL_law_L962 (xs : Nat → Int32) (L : Nat) (σ : sw_M) (a3 : Int32) : Option ((Int32 × sw_M) ⊕ (Int32)) :=
  sw_b1 (fX9_nearest σ) fun r1 =>
  sw_b1 (fX10_nearest σ) fun r3 =>
  if r1 = r3 then
    fL_law_L1484 xs L σ a3
  else
    some (.inr 0)
def fL_law_L975 (xs : Nat → Int32) (L : Nat) (σ : sw_M) (a3 : Int32) : Option ((Int32 × sw_M) ⊕ (Int32)) :=
  sw_gd (sw_in (a3 + 1) L) <|
  sw_b1 (fX9_wanted σ (xs (a3 + 1).toNatClampNeg)) fun r2 =>
  sw_gd (sw_in (a3 + 1) L) <|
  sw_b1 (fX10_wanted σ (xs (a3 + 1).toNatClampNeg)) fun r5 =>
  if r2 = r5 then
    fL_law_L1484 xs L σ a3
  else
    some (.inr 0)
def fL_law_L998 (xs : Nat → Int32) (L : Nat) (σ : sw_M) (a3 : Int32) : Option ((Int32 × sw_M) ⊕ (Int32)) :=
  sw_gd (sw_in (a3 + 1) L) <|
  sw_b1 (fX9_sinners σ (xs (a3 + 1).toNatClampNeg)) fun r2 =>
  sw_gd (sw_in (a3 + 1) L) <|
  sw_b1 (fX10_sinners σ (xs (a3 + 1).toNatClampNeg)) fun r5 =>
  if r2 = r5 then
    fL_law_L1484 xs L σ a3
  else
    some (.inr 0)
def fL_law_L1021 (xs : Nat → Int32) (L : Nat) (σ : sw_M) (a3 : Int32) : Option ((Int32 × sw_M) ⊕ (Int32)) :=
  sw_b1 (fX9_inert σ) fun r1 =>
  sw_b1 (fX10_inert σ) fun r3 =>
  if r1 = r3 then
    fL_law_L1484 xs L σ a3
  else
    some (.inr 0)
def fL_law_L1034 (xs : Nat → Int32) (L : Nat) (σ : sw_M) (a3 : Int32) : Option ((Int32 × sw_M) ⊕ (Int32)) :=
  sw_b1 (fX9_alive σ) fun r1 =>
  sw_b2 (fX10_alive σ) fun r3 m4 =>
  if r1 = r3 then
    fL_law_L1484 xs L m4 a3
  else
    some (.inr 0)
def fL_law_L1047 (xs : Nat → Int32) (L : Nat) (σ : sw_M) (a3 : Int32) : Option ((Int32 × sw_M) ⊕ (Int32)) :=
  sw_b1 (fX9_thickest σ) fun r1 =>
  sw_b1 (fX10_thickest σ) fun r3 =>
  if r1 = r3 then
    fL_law_L1484 xs L σ a3
  else
    some (.inr 0)
def fL_law_L1060 (xs : Nat → Int32) (L : Nat) (σ : sw_M) (a3 : Int32) : Option ((Int32 × sw_M) ⊕ (Int32)) :=
  sw_b1 (fX9_thinnest σ) fun r1 =>
  sw_b1 (fX10_thinnest σ) fun r3 =>
  if r1 = r3 then
    fL_law_L1484 xs L σ a3
  else
    some (.inr 0)
def fL_law_L1073 (xs : Nat → Int32) (L : Nat) (σ : sw_M) (a3 : Int32) : Option ((Int32 × sw_M) ⊕ (Int32)) :=
  sw_gd (sw_in (a3 + 1) L) <|
  sw_b1 (fX9_makers σ (xs (a3 + 1).toNatClampNeg)) fun r2 =>
  sw_gd (sw_in (a3 + 1) L) <|
  sw_b1 (fX10_makers σ (xs (a3 + 1).toNatClampNeg)) fun r5 =>
  if r2 = r5 then
    fL_law_L1484 xs L σ a3
  else
    some (.inr 0)
def fL_law_L1096 (xs : Nat → Int32) (L : Nat) (σ : sw_M) (a3 : Int32) : Option ((Int32 × sw_M) ⊕ (Int32)) :=
  sw_b1 (fX9_heaviest σ) fun r1 =>
  sw_b1 (fX10_heaviest σ) fun r3 =>
  if r1 = r3 then
    fL_law_L1484 xs L σ a3
  else
    some (.inr 0)
def fL_law_L1109 (xs : Nat → Int32) (L : Nat) (σ : sw_M) (a3 : Int32) : Option ((Int32 × sw_M) ⊕ (Int32)) :=
  sw_gd (sw_in (a3 + 1) L) <|
  sw_b2 (fX9_law σ (xs (a3 + 1).toNatClampNeg)) fun r2 m3 =>
  sw_gd (sw_in (a3 + 1) L) <|
  sw_b2 (fX10_law m3 (xs (a3 + 1).toNatClampNeg)) fun r6 m7 =>
  if r2 = r6 then
    fL_law_L1484 xs L m7 a3
  else
    some (.inr 0)
def fL_law_L1132 (xs : Nat → Int32) (L : Nat) (σ : sw_M) (a3 : Int32) : Option ((Int32 × sw_M) ⊕ (Int32)) :=
  sw_b1 (fX9_mission σ) fun r1 =>
  sw_b2 (fX10_mission σ) fun r3 m4 =>
  if r1 = r3 then
    fL_law_L1484 xs L m4 a3
  else
    some (.inr 0)
def fL_law_L1145 (xs : Nat → Int32) (L : Nat) (σ : sw_M) (a3 : Int32) : Option ((Int32 × sw_M) ⊕ (Int32)) :=
  sw_gd (sw_in (a3 + 1) L) <|
  sw_gd (sw_in (a3 + 2) L) <|
  sw_b1 (fX9_odds σ (xs (a3 + 1).toNatClampNeg) (xs (a3 + 2).toNatClampNeg)) fun r3 =>
  sw_gd (sw_in (a3 + 1) L) <|
  sw_gd (sw_in (a3 + 2) L) <|
  sw_b1 (fX10_odds σ (xs (a3 + 1).toNatClampNeg) (xs (a3 + 2).toNatClampNeg)) fun r7 =>
  if r3 = r7 then
    fL_law_L1484 xs L σ a3
  else
    some (.inr 0)
def fL_law_L1178 (xs : Nat → Int32) (L : Nat) (σ : sw_M) (a3 : Int32) : Option ((Int32 × sw_M) ⊕ (Int32)) :=
  sw_gd (sw_in (a3 + 1) L) <|
  sw_b1 (fX9_lies σ (xs (a3 + 1).toNatClampNeg)) fun r2 =>
  sw_gd (sw_in (a3 + 1) L) <|
  sw_b1 (fX10_lies σ (xs (a3 + 1).toNatClampNeg)) fun r5 =>
  if r2 = r5 then
    fL_law_L1484 xs L σ a3
  else
    some (.inr 0)
def fL_law_L1262 (xs : Nat → Int32) (L : Nat) (σ : sw_M) (a3 : Int32) (b0 : Int32) (b1 : Int32) (b2 : Int32) (b3 : Int32) (b5 : Int32) : Option ((Int32 × sw_M) ⊕ (Int32)) :=
  sw_b2 (fX10_seen σ b3 b2 b1 b0) fun r1 m2 =>
  if b5 = r1 then
    fL_law_L1484 xs L m2 a3
  else
    some (.inr 0)
def fL_law_L1230 (xs : Nat → Int32) (L : Nat) (σ : sw_M) (a3 : Int32) (b0 : Int32) (b1 : Int32) (b2 : Int32) (b3 : Int32) : Option ((Int32 × sw_M) ⊕ (Int32)) :=
  sw_b2 (fX9_seen σ b3 b2 b1 b0) fun r1 m2 =>
  sw_gd (sw_in (a3 + 1) L) <|
  sw_gd (sw_in (a3 + 2) L) <|
  sw_gd (sw_in (a3 + 3) L) <|
  sw_gd (sw_in (a3 + 4) L) <|
  if (xs (a3 + 4).toNatClampNeg) = 0 then
    fL_law_L1262 xs L m2 a3 0 (xs (a3 + 3).toNatClampNeg) (xs (a3 + 2).toNatClampNeg) (xs (a3 + 1).toNatClampNeg) r1
  else
    fL_law_L1262 xs L m2 a3 1 (xs (a3 + 3).toNatClampNeg) (xs (a3 + 2).toNatClampNeg) (xs (a3 + 1).toNatClampNeg) r1
def fL_law_L1201 (xs : Nat → Int32) (L : Nat) (σ : sw_M) (a3 : Int32) : Option ((Int32 × sw_M) ⊕ (Int32)) :=
  sw_gd (sw_in (a3 + 1) L) <|
  sw_gd (sw_in (a3 + 2) L) <|
  sw_gd (sw_in (a3 + 3) L) <|
  sw_gd (sw_in (a3 + 4) L) <|
  if (xs (a3 + 4).toNatClampNeg) = 0 then
    fL_law_L1230 xs L σ a3 0 (xs (a3 + 3).toNatClampNeg) (xs (a3 + 2).toNatClampNeg) (xs (a3 + 1).toNatClampNeg)
  else
    fL_law_L1230 xs L σ a3 1 (xs (a3 + 3).toNatClampNeg) (xs (a3 + 2).toNatClampNeg) (xs (a3 + 1).toNatClampNeg)
def fL_law_L1270 (xs : Nat → Int32) (L : Nat) (σ : sw_M) (a3 : Int32) : Option ((Int32 × sw_M) ⊕ (Int32)) :=
  sw_gd (sw_in (a3 + 1) L) <|
  sw_b2 (fX9_untell σ (xs (a3 + 1).toNatClampNeg)) fun r2 m3 =>
  sw_gd (sw_in (a3 + 1) L) <|
  sw_b2 (fX10_untell m3 (xs (a3 + 1).toNatClampNeg)) fun r6 m7 =>
  if r2 = r6 then
    fL_law_L1484 xs L m7 a3
  else
    some (.inr 0)
def fL_law_L1293 (xs : Nat → Int32) (L : Nat) (σ : sw_M) (a3 : Int32) : Option ((Int32 × sw_M) ⊕ (Int32)) :=
  sw_gd (sw_in (a3 + 1) L) <|
  sw_b2 (fX9_later σ (xs (a3 + 1).toNatClampNeg)) fun r2 m3 =>
  sw_gd (sw_in (a3 + 1) L) <|
  sw_b2 (fX10_later m3 (xs (a3 + 1).toNatClampNeg)) fun r6 m7 =>
  if r2 = r6 then
    fL_law_L1484 xs L m7 a3
  else
    some (.inr 0)
def fL_law_L1316 (xs : Nat → Int32) (L : Nat) (σ : sw_M) (a3 : Int32) : Option ((Int32 × sw_M) ⊕ (Int32)) :=
  sw_gd (sw_in (a3 + 1) L) <|
  sw_b2 (fX9_fits σ (xs (a3 + 1).toNatClampNeg)) fun r2 m3 =>
  sw_gd (sw_in (a3 + 1) L) <|
  sw_b2 (fX10_fits m3 (xs (a3 + 1).toNatClampNeg)) fun r6 m7 =>
  if r2 = r6 then
    fL_law_L1484 xs L m7 a3
  else
    some (.inr 0)
def fL_law_L1339 (xs : Nat → Int32) (L : Nat) (σ : sw_M) (a3 : Int32) : Option ((Int32 × sw_M) ⊕ (Int32)) :=
  sw_gd (sw_in (a3 + 1) L) <|
  sw_gd (sw_in (a3 + 2) L) <|
  sw_b2 (fX9_sure σ (xs (a3 + 1).toNatClampNeg) (xs (a3 + 2).toNatClampNeg)) fun r3 m4 =>
  sw_gd (sw_in (a3 + 1) L) <|
  sw_gd (sw_in (a3 + 2) L) <|
  sw_b2 (fX10_sure m4 (xs (a3 + 1).toNatClampNeg) (xs (a3 + 2).toNatClampNeg)) fun r8 m9 =>
  if r3 = r8 then
    fL_law_L1484 xs L m9 a3
  else
    some (.inr 0)
def fL_law_L1372 (xs : Nat → Int32) (L : Nat) (σ : sw_M) (a3 : Int32) : Option ((Int32 × sw_M) ⊕ (Int32)) :=
  sw_gd (sw_in (a3 + 1) L) <|
  sw_gd (sw_in (a3 + 2) L) <|
  sw_gd (sw_in (a3 + 3) L) <|
  sw_b2 (fX9_ask σ (xs (a3 + 1).toNatClampNeg) (xs (a3 + 2).toNatClampNeg) (xs (a3 + 3).toNatClampNeg)) fun r4 m5 =>
  sw_gd (sw_in (a3 + 1) L) <|
  sw_gd (sw_in (a3 + 2) L) <|
  sw_gd (sw_in (a3 + 3) L) <|
  sw_b2 (fX10_ask m5 (xs (a3 + 1).toNatClampNeg) (xs (a3 + 2).toNatClampNeg) (xs (a3 + 3).toNatClampNeg)) fun r10 m11 =>
  if r4 = r10 then
    fL_law_L1484 xs L m11 a3
  else
    some (.inr 0)
def fL_law_L1415 (xs : Nat → Int32) (L : Nat) (σ : sw_M) (a3 : Int32) : Option ((Int32 × sw_M) ⊕ (Int32)) :=
  sw_gd (sw_in (a3 + 1) L) <|
  sw_b2 (fX9_image σ (xs (a3 + 1).toNatClampNeg)) fun r2 m3 =>
  sw_gd (sw_in (a3 + 1) L) <|
  sw_b2 (fX10_image m3 (xs (a3 + 1).toNatClampNeg)) fun r6 m7 =>
  if r2 = r6 then
    fL_law_L1484 xs L m7 a3
  else
    some (.inr 0)
def fL_law_L1438 (xs : Nat → Int32) (L : Nat) (σ : sw_M) (a3 : Int32) : Option ((Int32 × sw_M) ⊕ (Int32)) :=
  sw_gd (sw_in (a3 + 1) L) <|
  sw_b2 (fX9_back σ (xs (a3 + 1).toNatClampNeg)) fun r2 m3 =>
  sw_gd (sw_in (a3 + 1) L) <|
  sw_b2 (fX10_back m3 (xs (a3 + 1).toNatClampNeg)) fun r6 m7 =>
  if r2 = r6 then
    fL_law_L1484 xs L m7 a3
  else
    some (.inr 0)
def fL_law_L1461 (xs : Nat → Int32) (L : Nat) (σ : sw_M) (a3 : Int32) : Option ((Int32 × sw_M) ⊕ (Int32)) :=
  sw_gd (sw_in (a3 + 1) L) <|
  sw_gd (sw_in (a3 + 1) L) <|
  if (fX9_about σ (xs (a3 + 1).toNatClampNeg)) = (fX10_about σ (xs (a3 + 1).toNatClampNeg)) then
    fL_law_L1484 xs L σ a3
  else
    some (.inr 0)
def fL_law_L18 (xs : Nat → Int32) (L : Nat) (σ : sw_M) (a3 : Int32) : Option ((Int32 × sw_M) ⊕ (Int32)) :=
  if ((Int32.ofNat L) - 6) < a3 then
    some (.inr 1)
  else
    sw_gd (sw_in a3 L) <|
    sw_let ((xs a3.toNatClampNeg) &&& 63) fun v3 =>
    if v3 = 0 then
      fL_law_L248 xs L σ a3
    else
      if v3 = 1 then
        fL_law_L311 xs L σ a3
      else
        if v3 = 2 then
          fL_law_L334 xs L σ a3
        else
          if v3 = 3 then
            fL_law_L347 xs L σ a3
          else
            if v3 = 4 then
              fL_law_L370 xs L σ a3
            else
              if v3 = 5 then
                fL_law_L393 xs L σ a3
              else
                if v3 = 6 then
                  fL_law_L426 xs L σ a3
                else
                  if v3 = 7 then
                    fL_law_L459 xs L σ a3
                  else
                    if v3 = 8 then
                      fL_law_L492 xs L σ a3
                    else
                      if v3 = 9 then
                        fL_law_L515 xs L σ a3
                      else
                        if v3 = 10 then
                          fL_law_L528 xs L σ a3
                        else
                          if v3 = 11 then
                            fL_law_L551 xs L σ a3
                          else
                            if v3 = 12 then
                              fL_law_L574 xs L σ a3
                            else
                              if v3 = 13 then
                                fL_law_L587 xs L σ a3
                              else
                                if v3 = 14 then
                                  fL_law_L600 xs L σ a3
                                else
                                  if v3 = 15 then
                                    fL_law_L643 xs L σ a3
                                  else
                                    if v3 = 16 then
                                      fL_law_L656 xs L σ a3
                                    else
                                      if v3 = 17 then
                                        fL_law_L679 xs L σ a3
                                      else
                                        if v3 = 18 then
                                          fL_law_L712 xs L σ a3
                                        else
                                          if v3 = 19 then
                                            fL_law_L735 xs L σ a3
                                          else
                                            if v3 = 20 then
                                              fL_law_L758 xs L σ a3
                                            else
                                              if v3 = 21 then
                                                fL_law_L791 xs L σ a3
                                              else
                                                if v3 = 22 then
                                                  fL_law_L814 xs L σ a3
                                                else
                                                  if v3 = 23 then
                                                    fL_law_L837 xs L σ a3
                                                  else
                                                    if v3 = 24 then
                                                      fL_law_L850 xs L σ a3
                                                    else
                                                      if v3 = 25 then
                                                        fL_law_L873 xs L σ a3
                                                      else
                                                        if v3 = 26 then
                                                          fL_law_L896 xs L σ a3
                                                        else
                                                          if v3 = 27 then
                                                            fL_law_L929 xs L σ a3
                                                          else
                                                            if v3 = 28 then
                                                              fL_law_L962 xs L σ a3
                                                            else
                                                              if v3 = 29 then
                                                                fL_law_L975 xs L σ a3
                                                              else
                                                                if v3 = 30 then
                                                                  fL_law_L998 xs L σ a3
                                                                else
                                                                  if v3 = 31 then
                                                                    fL_law_L1021 xs L σ a3
                                                                  else
                                                                    if v3 = 32 then
                                                                      fL_law_L1034 xs L σ a3
                                                                    else
                                                                      if v3 = 33 then
                                                                        fL_law_L1047 xs L σ a3
                                                                      else
                                                                        if v3 = 34 then
                                                                          fL_law_L1060 xs L σ a3
                                                                        else
                                                                          if v3 = 35 then
                                                                            fL_law_L1073 xs L σ a3
                                                                          else
                                                                            if v3 = 36 then
                                                                              fL_law_L1096 xs L σ a3
                                                                            else
                                                                              if v3 = 37 then
                                                                                fL_law_L1109 xs L σ a3
                                                                              else
                                                                                if v3 = 38 then
                                                                                  fL_law_L1132 xs L σ a3
                                                                                else
                                                                                  if v3 = 39 then
                                                                                    fL_law_L1145 xs L σ a3
                                                                                  else
                                                                                    if v3 = 40 then
                                                                                      fL_law_L1178 xs L σ a3
                                                                                    else
                                                                                      if v3 = 41 then
                                                                                        fL_law_L1201 xs L σ a3
                                                                                      else
                                                                                        if v3 = 42 then
                                                                                          fL_law_L1270 xs L σ a3
                                                                                        else
                                                                                          if v3 = 43 then
                                                                                            fL_law_L1293 xs L σ a3
                                                                                          else
                                                                                            if v3 = 44 then
                                                                                              fL_law_L1316 xs L σ a3
                                                                                            else
                                                                                              if v3 = 45 then
                                                                                                fL_law_L1339 xs L σ a3
                                                                                              else
                                                                                                if v3 = 46 then
                                                                                                  fL_law_L1372 xs L σ a3
                                                                                                else
                                                                                                  if v3 = 47 then
                                                                                                    fL_law_L1415 xs L σ a3
                                                                                                  else
                                                                                                    if v3 = 48 then
                                                                                                      fL_law_L1438 xs L σ a3
                                                                                                    else
                                                                                                      if v3 = 49 then
                                                                                                        fL_law_L1461 xs L σ a3
                                                                                                      else
                                                                                                        fL_law_L1484 xs L σ a3
set_option maxRecDepth 20000 in
theorem sL_law_L1484 {l : Launch} {E : sw_E} {b L : Nat} {xs : Nat → Int32} (hE : sw_RS l E) (σ : sw_M) (a3 : Int32) {t : (Int32 × sw_M) ⊕ (Int32)} (h : fL_law_L1484 xs L σ a3 = some t) (hk : (Sum.elim (fun s : Int32 × sw_M => sw_Gl l E b L xs 18 [(0, .ref 90), (1, .ref 0), (2, .ref 49), (3, .int s.1)] [] s.2) (fun q => q = 1)) t) : sw_Gl l E b L xs 1484 [(0, .ref 90), (1, .ref 0), (2, .ref 49), (3, .int a3)] [] σ := by
  unfold fL_law_L1484 at h
  obtain ⟨v1, e2, h⟩ := sw_let_e h
  refine gl_iincv (i := 3) (n := 6) (lv' := [(3, .int v1), (0, .ref 90), (1, .ref 0), (2, .ref 49)]) 3 rfl e2 (by decide +kernel) (by decide) (by decide) rfl ?_
  refine gl_goto (off := (-1469)) 18 (by decide +kernel) (by decide) ?_
  cases h
  refine gl_lv [1, 2, 3, 0] rfl ?_
  exact hk
set_option maxRecDepth 20000 in
theorem sL_law_L248 {l : Launch} {E : sw_E} {b L : Nat} {xs : Nat → Int32} (hE : sw_RS l E) (σ : sw_M) (a3 : Int32) {t : (Int32 × sw_M) ⊕ (Int32)} (h : fL_law_L248 xs L σ a3 = some t) (hk : (Sum.elim (fun s : Int32 × sw_M => sw_Gl l E b L xs 18 [(0, .ref 90), (1, .ref 0), (2, .ref 49), (3, .int s.1)] [] s.2) (fun q => q = 1)) t) : sw_Gl l E b L xs 248 [(0, .ref 90), (1, .ref 0), (2, .ref 49), (3, .int a3)] [] σ := by
  unfold fL_law_L248 at h
  refine gl_aload_n (k0 := 1) 1 rfl (by decide +kernel) rfl ?_
  refine gl_aload_n (k0 := 0) 0 rfl (by decide +kernel) rfl ?_
  refine gl_iload_n (k0 := 3) 3 rfl (by decide +kernel) rfl ?_
  refine gl_iconst (n := 1) (v := 1) (by decide +kernel) (by decide) ?_
  refine gl_iadd (by decide +kernel) ?_
  obtain ⟨g1, h⟩ := sw_gd_e h
  refine gl_iaload (sw_in_e g1) (by decide +kernel) ?_
  refine gl_aload_n (k0 := 0) 0 rfl (by decide +kernel) rfl ?_
  refine gl_iload_n (k0 := 3) 3 rfl (by decide +kernel) rfl ?_
  refine gl_iconst (n := 2) (v := 2) (by decide +kernel) (by decide) ?_
  refine gl_iadd (by decide +kernel) ?_
  obtain ⟨g2, h⟩ := sw_gd_e h
  refine gl_iaload (sw_in_e g2) (by decide +kernel) ?_
  refine gl_aload_n (k0 := 0) 0 rfl (by decide +kernel) rfl ?_
  refine gl_iload_n (k0 := 3) 3 rfl (by decide +kernel) rfl ?_
  refine gl_iconst (n := 3) (v := 3) (by decide +kernel) (by decide) ?_
  refine gl_iadd (by decide +kernel) ?_
  obtain ⟨g3, h⟩ := sw_gd_e h
  refine gl_iaload (sw_in_e g3) (by decide +kernel) ?_
  refine gl_aload_n (k0 := 0) 0 rfl (by decide +kernel) rfl ?_
  refine gl_iload_n (k0 := 3) 3 rfl (by decide +kernel) rfl ?_
  refine gl_iconst (n := 4) (v := 4) (by decide +kernel) (by decide) ?_
  refine gl_iadd (by decide +kernel) ?_
  obtain ⟨g4, h⟩ := sw_gd_e h
  refine gl_iaload (sw_in_e g4) (by decide +kernel) ?_
  refine gl_aload_n (k0 := 0) 0 rfl (by decide +kernel) rfl ?_
  refine gl_iload_n (k0 := 3) 3 rfl (by decide +kernel) rfl ?_
  refine gl_iconst (n := 5) (v := 5) (by decide +kernel) (by decide) ?_
  refine gl_iadd (by decide +kernel) ?_
  obtain ⟨g5, h⟩ := sw_gd_e h
  refine gl_iaload (sw_in_e g5) (by decide +kernel) ?_
  obtain ⟨r6, m7, w8, h⟩ := sw_b2_e h
  refine gl_callVi (ci := 9) (i := 0) [.int (xs (a3 + 1).toNatClampNeg), .int (xs (a3 + 2).toNatClampNeg), .int (xs (a3 + 3).toNatClampNeg), .int (xs (a3 + 4).toNatClampNeg), .int (xs (a3 + 5).toNatClampNeg)] (sX9_feed (K := 200) (by omega) σ (xs (a3 + 1).toNatClampNeg) (xs (a3 + 2).toNatClampNeg) (xs (a3 + 3).toNatClampNeg) (xs (a3 + 4).toNatClampNeg) (xs (a3 + 5).toNatClampNeg) w8) rfl (by omega) rfl gs_L_13 hy_X9_feed (by decide) (by decide) rfl rfl (Nat.le_of_ble_eq_true rfl) (by decide +kernel) ?_
  refine gl_aload_n (k0 := 2) 2 rfl (by decide +kernel) rfl ?_
  refine gl_aload_n (k0 := 0) 0 rfl (by decide +kernel) rfl ?_
  refine gl_iload_n (k0 := 3) 3 rfl (by decide +kernel) rfl ?_
  refine gl_iconst (n := 1) (v := 1) (by decide +kernel) (by decide) ?_
  refine gl_iadd (by decide +kernel) ?_
  obtain ⟨g9, h⟩ := sw_gd_e h
  refine gl_iaload (sw_in_e g9) (by decide +kernel) ?_
  refine gl_aload_n (k0 := 0) 0 rfl (by decide +kernel) rfl ?_
  refine gl_iload_n (k0 := 3) 3 rfl (by decide +kernel) rfl ?_
  refine gl_iconst (n := 2) (v := 2) (by decide +kernel) (by decide) ?_
  refine gl_iadd (by decide +kernel) ?_
  obtain ⟨g10, h⟩ := sw_gd_e h
  refine gl_iaload (sw_in_e g10) (by decide +kernel) ?_
  refine gl_aload_n (k0 := 0) 0 rfl (by decide +kernel) rfl ?_
  refine gl_iload_n (k0 := 3) 3 rfl (by decide +kernel) rfl ?_
  refine gl_iconst (n := 3) (v := 3) (by decide +kernel) (by decide) ?_
  refine gl_iadd (by decide +kernel) ?_
  obtain ⟨g11, h⟩ := sw_gd_e h
  refine gl_iaload (sw_in_e g11) (by decide +kernel) ?_
  refine gl_aload_n (k0 := 0) 0 rfl (by decide +kernel) rfl ?_
  refine gl_iload_n (k0 := 3) 3 rfl (by decide +kernel) rfl ?_
  refine gl_iconst (n := 4) (v := 4) (by decide +kernel) (by decide) ?_
  refine gl_iadd (by decide +kernel) ?_
  obtain ⟨g12, h⟩ := sw_gd_e h
  refine gl_iaload (sw_in_e g12) (by decide +kernel) ?_
  refine gl_aload_n (k0 := 0) 0 rfl (by decide +kernel) rfl ?_
  refine gl_iload_n (k0 := 3) 3 rfl (by decide +kernel) rfl ?_
  refine gl_iconst (n := 5) (v := 5) (by decide +kernel) (by decide) ?_
  refine gl_iadd (by decide +kernel) ?_
  obtain ⟨g13, h⟩ := sw_gd_e h
  refine gl_iaload (sw_in_e g13) (by decide +kernel) ?_
  obtain ⟨r14, m15, w16, h⟩ := sw_b2_e h
  refine gl_callVi (ci := 10) (i := 49) [.int (xs (a3 + 1).toNatClampNeg), .int (xs (a3 + 2).toNatClampNeg), .int (xs (a3 + 3).toNatClampNeg), .int (xs (a3 + 4).toNatClampNeg), .int (xs (a3 + 5).toNatClampNeg)] (sX10_feed (K := 200) (by omega) m7 (xs (a3 + 1).toNatClampNeg) (xs (a3 + 2).toNatClampNeg) (xs (a3 + 3).toNatClampNeg) (xs (a3 + 4).toNatClampNeg) (xs (a3 + 5).toNatClampNeg) w16) rfl (by omega) rfl gs_L_17 hy_X10_feed (by decide) (by decide) rfl rfl (Nat.le_of_ble_eq_true rfl) (by decide +kernel) ?_
  refine gl_icmp_eq (off := 1178) 1484 (by decide +kernel) (by decide) (fun c17 => ?_) (fun c17 => ?_)
  · rw [if_pos c17] at h
    exact sL_law_L1484 hE m15 a3 h hk
  · rw [if_neg c17] at h
    refine gl_iconst (n := 0) (v := 0) (by decide +kernel) (by decide) ?_
    cases h
    first | exact absurd (show (0 : Int32) = 1 from hk) (by decide) | skip
    all_goals exact gl_zret (by decide +kernel)
set_option maxRecDepth 20000 in
theorem sL_law_L311 {l : Launch} {E : sw_E} {b L : Nat} {xs : Nat → Int32} (hE : sw_RS l E) (σ : sw_M) (a3 : Int32) {t : (Int32 × sw_M) ⊕ (Int32)} (h : fL_law_L311 xs L σ a3 = some t) (hk : (Sum.elim (fun s : Int32 × sw_M => sw_Gl l E b L xs 18 [(0, .ref 90), (1, .ref 0), (2, .ref 49), (3, .int s.1)] [] s.2) (fun q => q = 1)) t) : sw_Gl l E b L xs 311 [(0, .ref 90), (1, .ref 0), (2, .ref 49), (3, .int a3)] [] σ := by
  unfold fL_law_L311 at h
  refine gl_aload_n (k0 := 1) 1 rfl (by decide +kernel) rfl ?_
  refine gl_aload_n (k0 := 0) 0 rfl (by decide +kernel) rfl ?_
  refine gl_iload_n (k0 := 3) 3 rfl (by decide +kernel) rfl ?_
  refine gl_iconst (n := 1) (v := 1) (by decide +kernel) (by decide) ?_
  refine gl_iadd (by decide +kernel) ?_
  obtain ⟨g1, h⟩ := sw_gd_e h
  refine gl_iaload (sw_in_e g1) (by decide +kernel) ?_
  obtain ⟨r2, m3, w4, h⟩ := sw_b2_e h
  refine gl_callVi (ci := 9) (i := 0) [.int (xs (a3 + 1).toNatClampNeg)] (sX9_end (K := 200) (by omega) σ (xs (a3 + 1).toNatClampNeg) w4) rfl (by omega) rfl gs_L_18 hy_X9_end (by decide) (by decide) rfl rfl (Nat.le_of_ble_eq_true rfl) (by decide +kernel) ?_
  refine gl_aload_n (k0 := 2) 2 rfl (by decide +kernel) rfl ?_
  refine gl_aload_n (k0 := 0) 0 rfl (by decide +kernel) rfl ?_
  refine gl_iload_n (k0 := 3) 3 rfl (by decide +kernel) rfl ?_
  refine gl_iconst (n := 1) (v := 1) (by decide +kernel) (by decide) ?_
  refine gl_iadd (by decide +kernel) ?_
  obtain ⟨g5, h⟩ := sw_gd_e h
  refine gl_iaload (sw_in_e g5) (by decide +kernel) ?_
  obtain ⟨r6, m7, w8, h⟩ := sw_b2_e h
  refine gl_callVi (ci := 10) (i := 49) [.int (xs (a3 + 1).toNatClampNeg)] (sX10_end (K := 200) (by omega) m3 (xs (a3 + 1).toNatClampNeg) w8) rfl (by omega) rfl gs_L_22 hy_X10_end (by decide) (by decide) rfl rfl (Nat.le_of_ble_eq_true rfl) (by decide +kernel) ?_
  refine gl_icmp_eq (off := 1155) 1484 (by decide +kernel) (by decide) (fun c9 => ?_) (fun c9 => ?_)
  · rw [if_pos c9] at h
    exact sL_law_L1484 hE m7 a3 h hk
  · rw [if_neg c9] at h
    refine gl_iconst (n := 0) (v := 0) (by decide +kernel) (by decide) ?_
    cases h
    first | exact absurd (show (0 : Int32) = 1 from hk) (by decide) | skip
    all_goals exact gl_zret (by decide +kernel)
set_option maxRecDepth 20000 in
theorem sL_law_L334 {l : Launch} {E : sw_E} {b L : Nat} {xs : Nat → Int32} (hE : sw_RS l E) (σ : sw_M) (a3 : Int32) {t : (Int32 × sw_M) ⊕ (Int32)} (h : fL_law_L334 xs L σ a3 = some t) (hk : (Sum.elim (fun s : Int32 × sw_M => sw_Gl l E b L xs 18 [(0, .ref 90), (1, .ref 0), (2, .ref 49), (3, .int s.1)] [] s.2) (fun q => q = 1)) t) : sw_Gl l E b L xs 334 [(0, .ref 90), (1, .ref 0), (2, .ref 49), (3, .int a3)] [] σ := by
  unfold fL_law_L334 at h
  refine gl_aload_n (k0 := 1) 1 rfl (by decide +kernel) rfl ?_
  obtain ⟨r1, m2, w3, h⟩ := sw_b2_e h
  refine gl_callVi (ci := 9) (i := 0) [] (sX9_works (K := 200) hE (by omega) σ w3) rfl (by omega) rfl gs_L_23 hy_X9_works (by decide) (by decide) rfl rfl (Nat.le_of_ble_eq_true rfl) (by decide +kernel) ?_
  refine gl_aload_n (k0 := 2) 2 rfl (by decide +kernel) rfl ?_
  obtain ⟨r4, m5, w6, h⟩ := sw_b2_e h
  refine gl_callVi (ci := 10) (i := 49) [] (sX10_works (K := 200) (by omega) m2 w6) rfl (by omega) rfl gs_L_27 hy_X10_works (by decide) (by decide) rfl rfl (Nat.le_of_ble_eq_true rfl) (by decide +kernel) ?_
  refine gl_icmp_eq (off := 1142) 1484 (by decide +kernel) (by decide) (fun c7 => ?_) (fun c7 => ?_)
  · rw [if_pos c7] at h
    exact sL_law_L1484 hE m5 a3 h hk
  · rw [if_neg c7] at h
    refine gl_iconst (n := 0) (v := 0) (by decide +kernel) (by decide) ?_
    cases h
    first | exact absurd (show (0 : Int32) = 1 from hk) (by decide) | skip
    all_goals exact gl_zret (by decide +kernel)
set_option maxRecDepth 20000 in
theorem sL_law_L347 {l : Launch} {E : sw_E} {b L : Nat} {xs : Nat → Int32} (hE : sw_RS l E) (σ : sw_M) (a3 : Int32) {t : (Int32 × sw_M) ⊕ (Int32)} (h : fL_law_L347 xs L σ a3 = some t) (hk : (Sum.elim (fun s : Int32 × sw_M => sw_Gl l E b L xs 18 [(0, .ref 90), (1, .ref 0), (2, .ref 49), (3, .int s.1)] [] s.2) (fun q => q = 1)) t) : sw_Gl l E b L xs 347 [(0, .ref 90), (1, .ref 0), (2, .ref 49), (3, .int a3)] [] σ := by
  unfold fL_law_L347 at h
  refine gl_aload_n (k0 := 1) 1 rfl (by decide +kernel) rfl ?_
  refine gl_aload_n (k0 := 0) 0 rfl (by decide +kernel) rfl ?_
  refine gl_iload_n (k0 := 3) 3 rfl (by decide +kernel) rfl ?_
  refine gl_iconst (n := 1) (v := 1) (by decide +kernel) (by decide) ?_
  refine gl_iadd (by decide +kernel) ?_
  obtain ⟨g1, h⟩ := sw_gd_e h
  refine gl_iaload (sw_in_e g1) (by decide +kernel) ?_
  refine gl_callVi (ci := 9) (i := 0) [.int (xs (a3 + 1).toNatClampNeg)] (sX9_fault (K := 200) (by omega) σ (xs (a3 + 1).toNatClampNeg) rfl) rfl (by omega) rfl gs_L_28 hy_X9_fault (by decide) (by decide) rfl rfl (Nat.le_of_ble_eq_true rfl) (by decide +kernel) ?_
  refine gl_aload_n (k0 := 2) 2 rfl (by decide +kernel) rfl ?_
  refine gl_aload_n (k0 := 0) 0 rfl (by decide +kernel) rfl ?_
  refine gl_iload_n (k0 := 3) 3 rfl (by decide +kernel) rfl ?_
  refine gl_iconst (n := 1) (v := 1) (by decide +kernel) (by decide) ?_
  refine gl_iadd (by decide +kernel) ?_
  obtain ⟨g2, h⟩ := sw_gd_e h
  refine gl_iaload (sw_in_e g2) (by decide +kernel) ?_
  refine gl_callVi (ci := 10) (i := 49) [.int (xs (a3 + 1).toNatClampNeg)] (sX10_fault (K := 200) (by omega) σ (xs (a3 + 1).toNatClampNeg) rfl) rfl (by omega) rfl gs_L_31 hy_X10_fault (by decide) (by decide) rfl rfl (Nat.le_of_ble_eq_true rfl) (by decide +kernel) ?_
  refine gl_icmp_eq (off := 1119) 1484 (by decide +kernel) (by decide) (fun c3 => ?_) (fun c3 => ?_)
  · rw [if_pos c3] at h
    exact sL_law_L1484 hE σ a3 h hk
  · rw [if_neg c3] at h
    refine gl_iconst (n := 0) (v := 0) (by decide +kernel) (by decide) ?_
    cases h
    first | exact absurd (show (0 : Int32) = 1 from hk) (by decide) | skip
    all_goals exact gl_zret (by decide +kernel)
set_option maxRecDepth 20000 in
theorem sL_law_L370 {l : Launch} {E : sw_E} {b L : Nat} {xs : Nat → Int32} (hE : sw_RS l E) (σ : sw_M) (a3 : Int32) {t : (Int32 × sw_M) ⊕ (Int32)} (h : fL_law_L370 xs L σ a3 = some t) (hk : (Sum.elim (fun s : Int32 × sw_M => sw_Gl l E b L xs 18 [(0, .ref 90), (1, .ref 0), (2, .ref 49), (3, .int s.1)] [] s.2) (fun q => q = 1)) t) : sw_Gl l E b L xs 370 [(0, .ref 90), (1, .ref 0), (2, .ref 49), (3, .int a3)] [] σ := by
  unfold fL_law_L370 at h
  refine gl_aload_n (k0 := 1) 1 rfl (by decide +kernel) rfl ?_
  refine gl_aload_n (k0 := 0) 0 rfl (by decide +kernel) rfl ?_
  refine gl_iload_n (k0 := 3) 3 rfl (by decide +kernel) rfl ?_
  refine gl_iconst (n := 1) (v := 1) (by decide +kernel) (by decide) ?_
  refine gl_iadd (by decide +kernel) ?_
  obtain ⟨g1, h⟩ := sw_gd_e h
  refine gl_iaload (sw_in_e g1) (by decide +kernel) ?_
  obtain ⟨r2, w3, h⟩ := sw_b1_e h
  refine gl_callVi (ci := 9) (i := 0) [.int (xs (a3 + 1).toNatClampNeg)] (sX9_vat (K := 200) (by omega) σ (xs (a3 + 1).toNatClampNeg) w3) rfl (by omega) rfl gs_L_32 hy_X9_vat (by decide) (by decide) rfl rfl (Nat.le_of_ble_eq_true rfl) (by decide +kernel) ?_
  refine gl_aload_n (k0 := 2) 2 rfl (by decide +kernel) rfl ?_
  refine gl_aload_n (k0 := 0) 0 rfl (by decide +kernel) rfl ?_
  refine gl_iload_n (k0 := 3) 3 rfl (by decide +kernel) rfl ?_
  refine gl_iconst (n := 1) (v := 1) (by decide +kernel) (by decide) ?_
  refine gl_iadd (by decide +kernel) ?_
  obtain ⟨g4, h⟩ := sw_gd_e h
  refine gl_iaload (sw_in_e g4) (by decide +kernel) ?_
  obtain ⟨r5, w6, h⟩ := sw_b1_e h
  refine gl_callVi (ci := 10) (i := 49) [.int (xs (a3 + 1).toNatClampNeg)] (sX10_vat (K := 200) (by omega) σ (xs (a3 + 1).toNatClampNeg) w6) rfl (by omega) rfl gs_L_35 hy_X10_vat (by decide) (by decide) rfl rfl (Nat.le_of_ble_eq_true rfl) (by decide +kernel) ?_
  refine gl_icmp_eq (off := 1096) 1484 (by decide +kernel) (by decide) (fun c7 => ?_) (fun c7 => ?_)
  · rw [if_pos c7] at h
    exact sL_law_L1484 hE σ a3 h hk
  · rw [if_neg c7] at h
    refine gl_iconst (n := 0) (v := 0) (by decide +kernel) (by decide) ?_
    cases h
    first | exact absurd (show (0 : Int32) = 1 from hk) (by decide) | skip
    all_goals exact gl_zret (by decide +kernel)
set_option maxRecDepth 20000 in
theorem sL_law_L393 {l : Launch} {E : sw_E} {b L : Nat} {xs : Nat → Int32} (hE : sw_RS l E) (σ : sw_M) (a3 : Int32) {t : (Int32 × sw_M) ⊕ (Int32)} (h : fL_law_L393 xs L σ a3 = some t) (hk : (Sum.elim (fun s : Int32 × sw_M => sw_Gl l E b L xs 18 [(0, .ref 90), (1, .ref 0), (2, .ref 49), (3, .int s.1)] [] s.2) (fun q => q = 1)) t) : sw_Gl l E b L xs 393 [(0, .ref 90), (1, .ref 0), (2, .ref 49), (3, .int a3)] [] σ := by
  unfold fL_law_L393 at h
  refine gl_aload_n (k0 := 1) 1 rfl (by decide +kernel) rfl ?_
  refine gl_aload_n (k0 := 0) 0 rfl (by decide +kernel) rfl ?_
  refine gl_iload_n (k0 := 3) 3 rfl (by decide +kernel) rfl ?_
  refine gl_iconst (n := 1) (v := 1) (by decide +kernel) (by decide) ?_
  refine gl_iadd (by decide +kernel) ?_
  obtain ⟨g1, h⟩ := sw_gd_e h
  refine gl_iaload (sw_in_e g1) (by decide +kernel) ?_
  refine gl_aload_n (k0 := 0) 0 rfl (by decide +kernel) rfl ?_
  refine gl_iload_n (k0 := 3) 3 rfl (by decide +kernel) rfl ?_
  refine gl_iconst (n := 2) (v := 2) (by decide +kernel) (by decide) ?_
  refine gl_iadd (by decide +kernel) ?_
  obtain ⟨g2, h⟩ := sw_gd_e h
  refine gl_iaload (sw_in_e g2) (by decide +kernel) ?_
  obtain ⟨r3, w4, h⟩ := sw_b1_e h
  refine gl_callVi (ci := 9) (i := 0) [.int (xs (a3 + 1).toNatClampNeg), .int (xs (a3 + 2).toNatClampNeg)] (sX9_mind (K := 200) (by omega) σ (xs (a3 + 1).toNatClampNeg) (xs (a3 + 2).toNatClampNeg) w4) rfl (by omega) rfl gs_L_36 hy_X9_mind (by decide) (by decide) rfl rfl (Nat.le_of_ble_eq_true rfl) (by decide +kernel) ?_
  refine gl_aload_n (k0 := 2) 2 rfl (by decide +kernel) rfl ?_
  refine gl_aload_n (k0 := 0) 0 rfl (by decide +kernel) rfl ?_
  refine gl_iload_n (k0 := 3) 3 rfl (by decide +kernel) rfl ?_
  refine gl_iconst (n := 1) (v := 1) (by decide +kernel) (by decide) ?_
  refine gl_iadd (by decide +kernel) ?_
  obtain ⟨g5, h⟩ := sw_gd_e h
  refine gl_iaload (sw_in_e g5) (by decide +kernel) ?_
  refine gl_aload_n (k0 := 0) 0 rfl (by decide +kernel) rfl ?_
  refine gl_iload_n (k0 := 3) 3 rfl (by decide +kernel) rfl ?_
  refine gl_iconst (n := 2) (v := 2) (by decide +kernel) (by decide) ?_
  refine gl_iadd (by decide +kernel) ?_
  obtain ⟨g6, h⟩ := sw_gd_e h
  refine gl_iaload (sw_in_e g6) (by decide +kernel) ?_
  obtain ⟨r7, w8, h⟩ := sw_b1_e h
  refine gl_callVi (ci := 10) (i := 49) [.int (xs (a3 + 1).toNatClampNeg), .int (xs (a3 + 2).toNatClampNeg)] (sX10_mind (K := 200) (by omega) σ (xs (a3 + 1).toNatClampNeg) (xs (a3 + 2).toNatClampNeg) w8) rfl (by omega) rfl gs_L_40 hy_X10_mind (by decide) (by decide) rfl rfl (Nat.le_of_ble_eq_true rfl) (by decide +kernel) ?_
  refine gl_icmp_eq (off := 1063) 1484 (by decide +kernel) (by decide) (fun c9 => ?_) (fun c9 => ?_)
  · rw [if_pos c9] at h
    exact sL_law_L1484 hE σ a3 h hk
  · rw [if_neg c9] at h
    refine gl_iconst (n := 0) (v := 0) (by decide +kernel) (by decide) ?_
    cases h
    first | exact absurd (show (0 : Int32) = 1 from hk) (by decide) | skip
    all_goals exact gl_zret (by decide +kernel)
set_option maxRecDepth 20000 in
theorem sL_law_L426 {l : Launch} {E : sw_E} {b L : Nat} {xs : Nat → Int32} (hE : sw_RS l E) (σ : sw_M) (a3 : Int32) {t : (Int32 × sw_M) ⊕ (Int32)} (h : fL_law_L426 xs L σ a3 = some t) (hk : (Sum.elim (fun s : Int32 × sw_M => sw_Gl l E b L xs 18 [(0, .ref 90), (1, .ref 0), (2, .ref 49), (3, .int s.1)] [] s.2) (fun q => q = 1)) t) : sw_Gl l E b L xs 426 [(0, .ref 90), (1, .ref 0), (2, .ref 49), (3, .int a3)] [] σ := by
  unfold fL_law_L426 at h
  refine gl_aload_n (k0 := 1) 1 rfl (by decide +kernel) rfl ?_
  refine gl_aload_n (k0 := 0) 0 rfl (by decide +kernel) rfl ?_
  refine gl_iload_n (k0 := 3) 3 rfl (by decide +kernel) rfl ?_
  refine gl_iconst (n := 1) (v := 1) (by decide +kernel) (by decide) ?_
  refine gl_iadd (by decide +kernel) ?_
  obtain ⟨g1, h⟩ := sw_gd_e h
  refine gl_iaload (sw_in_e g1) (by decide +kernel) ?_
  refine gl_aload_n (k0 := 0) 0 rfl (by decide +kernel) rfl ?_
  refine gl_iload_n (k0 := 3) 3 rfl (by decide +kernel) rfl ?_
  refine gl_iconst (n := 2) (v := 2) (by decide +kernel) (by decide) ?_
  refine gl_iadd (by decide +kernel) ?_
  obtain ⟨g2, h⟩ := sw_gd_e h
  refine gl_iaload (sw_in_e g2) (by decide +kernel) ?_
  obtain ⟨r3, w4, h⟩ := sw_b1_e h
  refine gl_callVi (ci := 9) (i := 0) [.int (xs (a3 + 1).toNatClampNeg), .int (xs (a3 + 2).toNatClampNeg)] (sX9_wants (K := 200) (by omega) σ (xs (a3 + 1).toNatClampNeg) (xs (a3 + 2).toNatClampNeg) w4) rfl (by omega) rfl gs_L_41 hy_X9_wants (by decide) (by decide) rfl rfl (Nat.le_of_ble_eq_true rfl) (by decide +kernel) ?_
  refine gl_aload_n (k0 := 2) 2 rfl (by decide +kernel) rfl ?_
  refine gl_aload_n (k0 := 0) 0 rfl (by decide +kernel) rfl ?_
  refine gl_iload_n (k0 := 3) 3 rfl (by decide +kernel) rfl ?_
  refine gl_iconst (n := 1) (v := 1) (by decide +kernel) (by decide) ?_
  refine gl_iadd (by decide +kernel) ?_
  obtain ⟨g5, h⟩ := sw_gd_e h
  refine gl_iaload (sw_in_e g5) (by decide +kernel) ?_
  refine gl_aload_n (k0 := 0) 0 rfl (by decide +kernel) rfl ?_
  refine gl_iload_n (k0 := 3) 3 rfl (by decide +kernel) rfl ?_
  refine gl_iconst (n := 2) (v := 2) (by decide +kernel) (by decide) ?_
  refine gl_iadd (by decide +kernel) ?_
  obtain ⟨g6, h⟩ := sw_gd_e h
  refine gl_iaload (sw_in_e g6) (by decide +kernel) ?_
  obtain ⟨r7, w8, h⟩ := sw_b1_e h
  refine gl_callVi (ci := 10) (i := 49) [.int (xs (a3 + 1).toNatClampNeg), .int (xs (a3 + 2).toNatClampNeg)] (sX10_wants (K := 200) (by omega) σ (xs (a3 + 1).toNatClampNeg) (xs (a3 + 2).toNatClampNeg) w8) rfl (by omega) rfl gs_L_44 hy_X10_wants (by decide) (by decide) rfl rfl (Nat.le_of_ble_eq_true rfl) (by decide +kernel) ?_
  refine gl_icmp_eq (off := 1030) 1484 (by decide +kernel) (by decide) (fun c9 => ?_) (fun c9 => ?_)
  · rw [if_pos c9] at h
    exact sL_law_L1484 hE σ a3 h hk
  · rw [if_neg c9] at h
    refine gl_iconst (n := 0) (v := 0) (by decide +kernel) (by decide) ?_
    cases h
    first | exact absurd (show (0 : Int32) = 1 from hk) (by decide) | skip
    all_goals exact gl_zret (by decide +kernel)
set_option maxRecDepth 20000 in
theorem sL_law_L459 {l : Launch} {E : sw_E} {b L : Nat} {xs : Nat → Int32} (hE : sw_RS l E) (σ : sw_M) (a3 : Int32) {t : (Int32 × sw_M) ⊕ (Int32)} (h : fL_law_L459 xs L σ a3 = some t) (hk : (Sum.elim (fun s : Int32 × sw_M => sw_Gl l E b L xs 18 [(0, .ref 90), (1, .ref 0), (2, .ref 49), (3, .int s.1)] [] s.2) (fun q => q = 1)) t) : sw_Gl l E b L xs 459 [(0, .ref 90), (1, .ref 0), (2, .ref 49), (3, .int a3)] [] σ := by
  unfold fL_law_L459 at h
  refine gl_aload_n (k0 := 1) 1 rfl (by decide +kernel) rfl ?_
  refine gl_aload_n (k0 := 0) 0 rfl (by decide +kernel) rfl ?_
  refine gl_iload_n (k0 := 3) 3 rfl (by decide +kernel) rfl ?_
  refine gl_iconst (n := 1) (v := 1) (by decide +kernel) (by decide) ?_
  refine gl_iadd (by decide +kernel) ?_
  obtain ⟨g1, h⟩ := sw_gd_e h
  refine gl_iaload (sw_in_e g1) (by decide +kernel) ?_
  refine gl_aload_n (k0 := 0) 0 rfl (by decide +kernel) rfl ?_
  refine gl_iload_n (k0 := 3) 3 rfl (by decide +kernel) rfl ?_
  refine gl_iconst (n := 2) (v := 2) (by decide +kernel) (by decide) ?_
  refine gl_iadd (by decide +kernel) ?_
  obtain ⟨g2, h⟩ := sw_gd_e h
  refine gl_iaload (sw_in_e g2) (by decide +kernel) ?_
  obtain ⟨r3, w4, h⟩ := sw_b1_e h
  refine gl_callVi (ci := 9) (i := 0) [.int (xs (a3 + 1).toNatClampNeg), .int (xs (a3 + 2).toNatClampNeg)] (sX9_rule (K := 200) (by omega) σ (xs (a3 + 1).toNatClampNeg) (xs (a3 + 2).toNatClampNeg) w4) rfl (by omega) rfl gs_L_45 hy_X9_rule (by decide) (by decide) rfl rfl (Nat.le_of_ble_eq_true rfl) (by decide +kernel) ?_
  refine gl_aload_n (k0 := 2) 2 rfl (by decide +kernel) rfl ?_
  refine gl_aload_n (k0 := 0) 0 rfl (by decide +kernel) rfl ?_
  refine gl_iload_n (k0 := 3) 3 rfl (by decide +kernel) rfl ?_
  refine gl_iconst (n := 1) (v := 1) (by decide +kernel) (by decide) ?_
  refine gl_iadd (by decide +kernel) ?_
  obtain ⟨g5, h⟩ := sw_gd_e h
  refine gl_iaload (sw_in_e g5) (by decide +kernel) ?_
  refine gl_aload_n (k0 := 0) 0 rfl (by decide +kernel) rfl ?_
  refine gl_iload_n (k0 := 3) 3 rfl (by decide +kernel) rfl ?_
  refine gl_iconst (n := 2) (v := 2) (by decide +kernel) (by decide) ?_
  refine gl_iadd (by decide +kernel) ?_
  obtain ⟨g6, h⟩ := sw_gd_e h
  refine gl_iaload (sw_in_e g6) (by decide +kernel) ?_
  obtain ⟨r7, w8, h⟩ := sw_b1_e h
  refine gl_callVi (ci := 10) (i := 49) [.int (xs (a3 + 1).toNatClampNeg), .int (xs (a3 + 2).toNatClampNeg)] (sX10_rule (K := 200) (by omega) σ (xs (a3 + 1).toNatClampNeg) (xs (a3 + 2).toNatClampNeg) w8) rfl (by omega) rfl gs_L_48 hy_X10_rule (by decide) (by decide) rfl rfl (Nat.le_of_ble_eq_true rfl) (by decide +kernel) ?_
  refine gl_icmp_eq (off := 997) 1484 (by decide +kernel) (by decide) (fun c9 => ?_) (fun c9 => ?_)
  · rw [if_pos c9] at h
    exact sL_law_L1484 hE σ a3 h hk
  · rw [if_neg c9] at h
    refine gl_iconst (n := 0) (v := 0) (by decide +kernel) (by decide) ?_
    cases h
    first | exact absurd (show (0 : Int32) = 1 from hk) (by decide) | skip
    all_goals exact gl_zret (by decide +kernel)
set_option maxRecDepth 20000 in
theorem sL_law_L492 {l : Launch} {E : sw_E} {b L : Nat} {xs : Nat → Int32} (hE : sw_RS l E) (σ : sw_M) (a3 : Int32) {t : (Int32 × sw_M) ⊕ (Int32)} (h : fL_law_L492 xs L σ a3 = some t) (hk : (Sum.elim (fun s : Int32 × sw_M => sw_Gl l E b L xs 18 [(0, .ref 90), (1, .ref 0), (2, .ref 49), (3, .int s.1)] [] s.2) (fun q => q = 1)) t) : sw_Gl l E b L xs 492 [(0, .ref 90), (1, .ref 0), (2, .ref 49), (3, .int a3)] [] σ := by
  unfold fL_law_L492 at h
  refine gl_aload_n (k0 := 1) 1 rfl (by decide +kernel) rfl ?_
  refine gl_aload_n (k0 := 0) 0 rfl (by decide +kernel) rfl ?_
  refine gl_iload_n (k0 := 3) 3 rfl (by decide +kernel) rfl ?_
  refine gl_iconst (n := 1) (v := 1) (by decide +kernel) (by decide) ?_
  refine gl_iadd (by decide +kernel) ?_
  obtain ⟨g1, h⟩ := sw_gd_e h
  refine gl_iaload (sw_in_e g1) (by decide +kernel) ?_
  obtain ⟨r2, m3, w4, h⟩ := sw_b2_e h
  refine gl_callVi (ci := 9) (i := 0) [.int (xs (a3 + 1).toNatClampNeg)] (sX9_confess (K := 200) (by omega) σ (xs (a3 + 1).toNatClampNeg) w4) rfl (by omega) rfl gs_L_49 hy_X9_confess (by decide) (by decide) rfl rfl (Nat.le_of_ble_eq_true rfl) (by decide +kernel) ?_
  refine gl_aload_n (k0 := 2) 2 rfl (by decide +kernel) rfl ?_
  refine gl_aload_n (k0 := 0) 0 rfl (by decide +kernel) rfl ?_
  refine gl_iload_n (k0 := 3) 3 rfl (by decide +kernel) rfl ?_
  refine gl_iconst (n := 1) (v := 1) (by decide +kernel) (by decide) ?_
  refine gl_iadd (by decide +kernel) ?_
  obtain ⟨g5, h⟩ := sw_gd_e h
  refine gl_iaload (sw_in_e g5) (by decide +kernel) ?_
  obtain ⟨r6, m7, w8, h⟩ := sw_b2_e h
  refine gl_callVi (ci := 10) (i := 49) [.int (xs (a3 + 1).toNatClampNeg)] (sX10_confess (K := 200) (by omega) m3 (xs (a3 + 1).toNatClampNeg) w8) rfl (by omega) rfl gs_L_52 hy_X10_confess (by decide) (by decide) rfl rfl (Nat.le_of_ble_eq_true rfl) (by decide +kernel) ?_
  refine gl_icmp_eq (off := 974) 1484 (by decide +kernel) (by decide) (fun c9 => ?_) (fun c9 => ?_)
  · rw [if_pos c9] at h
    exact sL_law_L1484 hE m7 a3 h hk
  · rw [if_neg c9] at h
    refine gl_iconst (n := 0) (v := 0) (by decide +kernel) (by decide) ?_
    cases h
    first | exact absurd (show (0 : Int32) = 1 from hk) (by decide) | skip
    all_goals exact gl_zret (by decide +kernel)
set_option maxRecDepth 20000 in
theorem sL_law_L515 {l : Launch} {E : sw_E} {b L : Nat} {xs : Nat → Int32} (hE : sw_RS l E) (σ : sw_M) (a3 : Int32) {t : (Int32 × sw_M) ⊕ (Int32)} (h : fL_law_L515 xs L σ a3 = some t) (hk : (Sum.elim (fun s : Int32 × sw_M => sw_Gl l E b L xs 18 [(0, .ref 90), (1, .ref 0), (2, .ref 49), (3, .int s.1)] [] s.2) (fun q => q = 1)) t) : sw_Gl l E b L xs 515 [(0, .ref 90), (1, .ref 0), (2, .ref 49), (3, .int a3)] [] σ := by
  unfold fL_law_L515 at h
  refine gl_aload_n (k0 := 1) 1 rfl (by decide +kernel) rfl ?_
  obtain ⟨r1, m2, w3, h⟩ := sw_b2_e h
  refine gl_callVi (ci := 9) (i := 0) [] (sX9_boil (K := 200) (by omega) σ w3) rfl (by omega) rfl gs_L_53 hy_X9_boil (by decide) (by decide) rfl rfl (Nat.le_of_ble_eq_true rfl) (by decide +kernel) ?_
  refine gl_aload_n (k0 := 2) 2 rfl (by decide +kernel) rfl ?_
  obtain ⟨r4, m5, w6, h⟩ := sw_b2_e h
  refine gl_callVi (ci := 10) (i := 49) [] (sX10_boil (K := 200) (by omega) m2 w6) rfl (by omega) rfl gs_L_56 hy_X10_boil (by decide) (by decide) rfl rfl (Nat.le_of_ble_eq_true rfl) (by decide +kernel) ?_
  refine gl_icmp_eq (off := 961) 1484 (by decide +kernel) (by decide) (fun c7 => ?_) (fun c7 => ?_)
  · rw [if_pos c7] at h
    exact sL_law_L1484 hE m5 a3 h hk
  · rw [if_neg c7] at h
    refine gl_iconst (n := 0) (v := 0) (by decide +kernel) (by decide) ?_
    cases h
    first | exact absurd (show (0 : Int32) = 1 from hk) (by decide) | skip
    all_goals exact gl_zret (by decide +kernel)
set_option maxRecDepth 20000 in
theorem sL_law_L528 {l : Launch} {E : sw_E} {b L : Nat} {xs : Nat → Int32} (hE : sw_RS l E) (σ : sw_M) (a3 : Int32) {t : (Int32 × sw_M) ⊕ (Int32)} (h : fL_law_L528 xs L σ a3 = some t) (hk : (Sum.elim (fun s : Int32 × sw_M => sw_Gl l E b L xs 18 [(0, .ref 90), (1, .ref 0), (2, .ref 49), (3, .int s.1)] [] s.2) (fun q => q = 1)) t) : sw_Gl l E b L xs 528 [(0, .ref 90), (1, .ref 0), (2, .ref 49), (3, .int a3)] [] σ := by
  unfold fL_law_L528 at h
  refine gl_aload_n (k0 := 1) 1 rfl (by decide +kernel) rfl ?_
  refine gl_aload_n (k0 := 0) 0 rfl (by decide +kernel) rfl ?_
  refine gl_iload_n (k0 := 3) 3 rfl (by decide +kernel) rfl ?_
  refine gl_iconst (n := 1) (v := 1) (by decide +kernel) (by decide) ?_
  refine gl_iadd (by decide +kernel) ?_
  obtain ⟨g1, h⟩ := sw_gd_e h
  refine gl_iaload (sw_in_e g1) (by decide +kernel) ?_
  obtain ⟨r2, m3, w4, h⟩ := sw_b2_e h
  refine gl_callVi (ci := 9) (i := 0) [.int (xs (a3 + 1).toNatClampNeg)] (sX9_wash (K := 200) (by omega) σ (xs (a3 + 1).toNatClampNeg) w4) rfl (by omega) rfl gs_L_57 hy_X9_wash (by decide) (by decide) rfl rfl (Nat.le_of_ble_eq_true rfl) (by decide +kernel) ?_
  refine gl_aload_n (k0 := 2) 2 rfl (by decide +kernel) rfl ?_
  refine gl_aload_n (k0 := 0) 0 rfl (by decide +kernel) rfl ?_
  refine gl_iload_n (k0 := 3) 3 rfl (by decide +kernel) rfl ?_
  refine gl_iconst (n := 1) (v := 1) (by decide +kernel) (by decide) ?_
  refine gl_iadd (by decide +kernel) ?_
  obtain ⟨g5, h⟩ := sw_gd_e h
  refine gl_iaload (sw_in_e g5) (by decide +kernel) ?_
  obtain ⟨r6, m7, w8, h⟩ := sw_b2_e h
  refine gl_callVi (ci := 10) (i := 49) [.int (xs (a3 + 1).toNatClampNeg)] (sX10_wash (K := 200) (by omega) m3 (xs (a3 + 1).toNatClampNeg) w8) rfl (by omega) rfl gs_L_60 hy_X10_wash (by decide) (by decide) rfl rfl (Nat.le_of_ble_eq_true rfl) (by decide +kernel) ?_
  refine gl_icmp_eq (off := 938) 1484 (by decide +kernel) (by decide) (fun c9 => ?_) (fun c9 => ?_)
  · rw [if_pos c9] at h
    exact sL_law_L1484 hE m7 a3 h hk
  · rw [if_neg c9] at h
    refine gl_iconst (n := 0) (v := 0) (by decide +kernel) (by decide) ?_
    cases h
    first | exact absurd (show (0 : Int32) = 1 from hk) (by decide) | skip
    all_goals exact gl_zret (by decide +kernel)
set_option maxRecDepth 20000 in
theorem sL_law_L551 {l : Launch} {E : sw_E} {b L : Nat} {xs : Nat → Int32} (hE : sw_RS l E) (σ : sw_M) (a3 : Int32) {t : (Int32 × sw_M) ⊕ (Int32)} (h : fL_law_L551 xs L σ a3 = some t) (hk : (Sum.elim (fun s : Int32 × sw_M => sw_Gl l E b L xs 18 [(0, .ref 90), (1, .ref 0), (2, .ref 49), (3, .int s.1)] [] s.2) (fun q => q = 1)) t) : sw_Gl l E b L xs 551 [(0, .ref 90), (1, .ref 0), (2, .ref 49), (3, .int a3)] [] σ := by
  unfold fL_law_L551 at h
  refine gl_aload_n (k0 := 1) 1 rfl (by decide +kernel) rfl ?_
  refine gl_aload_n (k0 := 0) 0 rfl (by decide +kernel) rfl ?_
  refine gl_iload_n (k0 := 3) 3 rfl (by decide +kernel) rfl ?_
  refine gl_iconst (n := 1) (v := 1) (by decide +kernel) (by decide) ?_
  refine gl_iadd (by decide +kernel) ?_
  obtain ⟨g1, h⟩ := sw_gd_e h
  refine gl_iaload (sw_in_e g1) (by decide +kernel) ?_
  obtain ⟨r2, m3, w4, h⟩ := sw_b2_e h
  refine gl_callVi (ci := 9) (i := 0) [.int (xs (a3 + 1).toNatClampNeg)] (sX9_sweep (K := 200) (by omega) σ (xs (a3 + 1).toNatClampNeg) w4) rfl (by omega) rfl gs_L_61 hy_X9_sweep (by decide) (by decide) rfl rfl (Nat.le_of_ble_eq_true rfl) (by decide +kernel) ?_
  refine gl_aload_n (k0 := 2) 2 rfl (by decide +kernel) rfl ?_
  refine gl_aload_n (k0 := 0) 0 rfl (by decide +kernel) rfl ?_
  refine gl_iload_n (k0 := 3) 3 rfl (by decide +kernel) rfl ?_
  refine gl_iconst (n := 1) (v := 1) (by decide +kernel) (by decide) ?_
  refine gl_iadd (by decide +kernel) ?_
  obtain ⟨g5, h⟩ := sw_gd_e h
  refine gl_iaload (sw_in_e g5) (by decide +kernel) ?_
  obtain ⟨r6, m7, w8, h⟩ := sw_b2_e h
  refine gl_callVi (ci := 10) (i := 49) [.int (xs (a3 + 1).toNatClampNeg)] (sX10_sweep (K := 200) (by omega) m3 (xs (a3 + 1).toNatClampNeg) w8) rfl (by omega) rfl gs_L_64 hy_X10_sweep (by decide) (by decide) rfl rfl (Nat.le_of_ble_eq_true rfl) (by decide +kernel) ?_
  refine gl_icmp_eq (off := 915) 1484 (by decide +kernel) (by decide) (fun c9 => ?_) (fun c9 => ?_)
  · rw [if_pos c9] at h
    exact sL_law_L1484 hE m7 a3 h hk
  · rw [if_neg c9] at h
    refine gl_iconst (n := 0) (v := 0) (by decide +kernel) (by decide) ?_
    cases h
    first | exact absurd (show (0 : Int32) = 1 from hk) (by decide) | skip
    all_goals exact gl_zret (by decide +kernel)
set_option maxRecDepth 20000 in
theorem sL_law_L574 {l : Launch} {E : sw_E} {b L : Nat} {xs : Nat → Int32} (hE : sw_RS l E) (σ : sw_M) (a3 : Int32) {t : (Int32 × sw_M) ⊕ (Int32)} (h : fL_law_L574 xs L σ a3 = some t) (hk : (Sum.elim (fun s : Int32 × sw_M => sw_Gl l E b L xs 18 [(0, .ref 90), (1, .ref 0), (2, .ref 49), (3, .int s.1)] [] s.2) (fun q => q = 1)) t) : sw_Gl l E b L xs 574 [(0, .ref 90), (1, .ref 0), (2, .ref 49), (3, .int a3)] [] σ := by
  unfold fL_law_L574 at h
  refine gl_aload_n (k0 := 1) 1 rfl (by decide +kernel) rfl ?_
  obtain ⟨r1, m2, w3, h⟩ := sw_b2_e h
  refine gl_callVi (ci := 9) (i := 0) [] (sX9_undo (K := 200) (by omega) σ w3) rfl (by omega) rfl gs_L_65 hy_X9_undo (by decide) (by decide) rfl rfl (Nat.le_of_ble_eq_true rfl) (by decide +kernel) ?_
  refine gl_aload_n (k0 := 2) 2 rfl (by decide +kernel) rfl ?_
  obtain ⟨r4, m5, w6, h⟩ := sw_b2_e h
  refine gl_callVi (ci := 10) (i := 49) [] (sX10_undo (K := 200) (by omega) m2 w6) rfl (by omega) rfl gs_L_69 hy_X10_undo (by decide) (by decide) rfl rfl (Nat.le_of_ble_eq_true rfl) (by decide +kernel) ?_
  refine gl_icmp_eq (off := 902) 1484 (by decide +kernel) (by decide) (fun c7 => ?_) (fun c7 => ?_)
  · rw [if_pos c7] at h
    exact sL_law_L1484 hE m5 a3 h hk
  · rw [if_neg c7] at h
    refine gl_iconst (n := 0) (v := 0) (by decide +kernel) (by decide) ?_
    cases h
    first | exact absurd (show (0 : Int32) = 1 from hk) (by decide) | skip
    all_goals exact gl_zret (by decide +kernel)
set_option maxRecDepth 20000 in
theorem sL_law_L587 {l : Launch} {E : sw_E} {b L : Nat} {xs : Nat → Int32} (hE : sw_RS l E) (σ : sw_M) (a3 : Int32) {t : (Int32 × sw_M) ⊕ (Int32)} (h : fL_law_L587 xs L σ a3 = some t) (hk : (Sum.elim (fun s : Int32 × sw_M => sw_Gl l E b L xs 18 [(0, .ref 90), (1, .ref 0), (2, .ref 49), (3, .int s.1)] [] s.2) (fun q => q = 1)) t) : sw_Gl l E b L xs 587 [(0, .ref 90), (1, .ref 0), (2, .ref 49), (3, .int a3)] [] σ := by
  unfold fL_law_L587 at h
  refine gl_aload_n (k0 := 1) 1 rfl (by decide +kernel) rfl ?_
  obtain ⟨r1, m2, w3, h⟩ := sw_b2_e h
  refine gl_callVi (ci := 9) (i := 0) [] (sX9_redo (K := 200) (by omega) σ w3) rfl (by omega) rfl gs_L_70 hy_X9_redo (by decide) (by decide) rfl rfl (Nat.le_of_ble_eq_true rfl) (by decide +kernel) ?_
  refine gl_aload_n (k0 := 2) 2 rfl (by decide +kernel) rfl ?_
  obtain ⟨r4, m5, w6, h⟩ := sw_b2_e h
  refine gl_callVi (ci := 10) (i := 49) [] (sX10_redo (K := 200) (by omega) m2 w6) rfl (by omega) rfl gs_L_73 hy_X10_redo (by decide) (by decide) rfl rfl (Nat.le_of_ble_eq_true rfl) (by decide +kernel) ?_
  refine gl_icmp_eq (off := 889) 1484 (by decide +kernel) (by decide) (fun c7 => ?_) (fun c7 => ?_)
  · rw [if_pos c7] at h
    exact sL_law_L1484 hE m5 a3 h hk
  · rw [if_neg c7] at h
    refine gl_iconst (n := 0) (v := 0) (by decide +kernel) (by decide) ?_
    cases h
    first | exact absurd (show (0 : Int32) = 1 from hk) (by decide) | skip
    all_goals exact gl_zret (by decide +kernel)
set_option maxRecDepth 20000 in
theorem sL_law_L600 {l : Launch} {E : sw_E} {b L : Nat} {xs : Nat → Int32} (hE : sw_RS l E) (σ : sw_M) (a3 : Int32) {t : (Int32 × sw_M) ⊕ (Int32)} (h : fL_law_L600 xs L σ a3 = some t) (hk : (Sum.elim (fun s : Int32 × sw_M => sw_Gl l E b L xs 18 [(0, .ref 90), (1, .ref 0), (2, .ref 49), (3, .int s.1)] [] s.2) (fun q => q = 1)) t) : sw_Gl l E b L xs 600 [(0, .ref 90), (1, .ref 0), (2, .ref 49), (3, .int a3)] [] σ := by
  unfold fL_law_L600 at h
  refine gl_aload_n (k0 := 1) 1 rfl (by decide +kernel) rfl ?_
  refine gl_aload_n (k0 := 0) 0 rfl (by decide +kernel) rfl ?_
  refine gl_iload_n (k0 := 3) 3 rfl (by decide +kernel) rfl ?_
  refine gl_iconst (n := 1) (v := 1) (by decide +kernel) (by decide) ?_
  refine gl_iadd (by decide +kernel) ?_
  obtain ⟨g1, h⟩ := sw_gd_e h
  refine gl_iaload (sw_in_e g1) (by decide +kernel) ?_
  refine gl_aload_n (k0 := 0) 0 rfl (by decide +kernel) rfl ?_
  refine gl_iload_n (k0 := 3) 3 rfl (by decide +kernel) rfl ?_
  refine gl_iconst (n := 2) (v := 2) (by decide +kernel) (by decide) ?_
  refine gl_iadd (by decide +kernel) ?_
  obtain ⟨g2, h⟩ := sw_gd_e h
  refine gl_iaload (sw_in_e g2) (by decide +kernel) ?_
  refine gl_aload_n (k0 := 0) 0 rfl (by decide +kernel) rfl ?_
  refine gl_iload_n (k0 := 3) 3 rfl (by decide +kernel) rfl ?_
  refine gl_iconst (n := 3) (v := 3) (by decide +kernel) (by decide) ?_
  refine gl_iadd (by decide +kernel) ?_
  obtain ⟨g3, h⟩ := sw_gd_e h
  refine gl_iaload (sw_in_e g3) (by decide +kernel) ?_
  obtain ⟨r4, m5, w6, h⟩ := sw_b2_e h
  refine gl_callVi (ci := 9) (i := 0) [.int (xs (a3 + 1).toNatClampNeg), .int (xs (a3 + 2).toNatClampNeg), .int (xs (a3 + 3).toNatClampNeg)] (sX9_will (K := 200) (by omega) σ (xs (a3 + 1).toNatClampNeg) (xs (a3 + 2).toNatClampNeg) (xs (a3 + 3).toNatClampNeg) w6) rfl (by omega) rfl gs_L_74 hy_X9_will (by decide) (by decide) rfl rfl (Nat.le_of_ble_eq_true rfl) (by decide +kernel) ?_
  refine gl_aload_n (k0 := 2) 2 rfl (by decide +kernel) rfl ?_
  refine gl_aload_n (k0 := 0) 0 rfl (by decide +kernel) rfl ?_
  refine gl_iload_n (k0 := 3) 3 rfl (by decide +kernel) rfl ?_
  refine gl_iconst (n := 1) (v := 1) (by decide +kernel) (by decide) ?_
  refine gl_iadd (by decide +kernel) ?_
  obtain ⟨g7, h⟩ := sw_gd_e h
  refine gl_iaload (sw_in_e g7) (by decide +kernel) ?_
  refine gl_aload_n (k0 := 0) 0 rfl (by decide +kernel) rfl ?_
  refine gl_iload_n (k0 := 3) 3 rfl (by decide +kernel) rfl ?_
  refine gl_iconst (n := 2) (v := 2) (by decide +kernel) (by decide) ?_
  refine gl_iadd (by decide +kernel) ?_
  obtain ⟨g8, h⟩ := sw_gd_e h
  refine gl_iaload (sw_in_e g8) (by decide +kernel) ?_
  refine gl_aload_n (k0 := 0) 0 rfl (by decide +kernel) rfl ?_
  refine gl_iload_n (k0 := 3) 3 rfl (by decide +kernel) rfl ?_
  refine gl_iconst (n := 3) (v := 3) (by decide +kernel) (by decide) ?_
  refine gl_iadd (by decide +kernel) ?_
  obtain ⟨g9, h⟩ := sw_gd_e h
  refine gl_iaload (sw_in_e g9) (by decide +kernel) ?_
  obtain ⟨r10, m11, w12, h⟩ := sw_b2_e h
  refine gl_callVi (ci := 10) (i := 49) [.int (xs (a3 + 1).toNatClampNeg), .int (xs (a3 + 2).toNatClampNeg), .int (xs (a3 + 3).toNatClampNeg)] (sX10_will (K := 200) (by omega) m5 (xs (a3 + 1).toNatClampNeg) (xs (a3 + 2).toNatClampNeg) (xs (a3 + 3).toNatClampNeg) w12) rfl (by omega) rfl gs_L_78 hy_X10_will (by decide) (by decide) rfl rfl (Nat.le_of_ble_eq_true rfl) (by decide +kernel) ?_
  refine gl_icmp_eq (off := 846) 1484 (by decide +kernel) (by decide) (fun c13 => ?_) (fun c13 => ?_)
  · rw [if_pos c13] at h
    exact sL_law_L1484 hE m11 a3 h hk
  · rw [if_neg c13] at h
    refine gl_iconst (n := 0) (v := 0) (by decide +kernel) (by decide) ?_
    cases h
    first | exact absurd (show (0 : Int32) = 1 from hk) (by decide) | skip
    all_goals exact gl_zret (by decide +kernel)
set_option maxRecDepth 20000 in
theorem sL_law_L643 {l : Launch} {E : sw_E} {b L : Nat} {xs : Nat → Int32} (hE : sw_RS l E) (σ : sw_M) (a3 : Int32) {t : (Int32 × sw_M) ⊕ (Int32)} (h : fL_law_L643 xs L σ a3 = some t) (hk : (Sum.elim (fun s : Int32 × sw_M => sw_Gl l E b L xs 18 [(0, .ref 90), (1, .ref 0), (2, .ref 49), (3, .int s.1)] [] s.2) (fun q => q = 1)) t) : sw_Gl l E b L xs 643 [(0, .ref 90), (1, .ref 0), (2, .ref 49), (3, .int a3)] [] σ := by
  unfold fL_law_L643 at h
  refine gl_aload_n (k0 := 1) 1 rfl (by decide +kernel) rfl ?_
  obtain ⟨r1, m2, w3, h⟩ := sw_b2_e h
  refine gl_callVi (ci := 9) (i := 0) [] (sX9_rise (K := 200) (by omega) σ w3) rfl (by omega) rfl gs_L_79 hy_X9_rise (by decide) (by decide) rfl rfl (Nat.le_of_ble_eq_true rfl) (by decide +kernel) ?_
  refine gl_aload_n (k0 := 2) 2 rfl (by decide +kernel) rfl ?_
  obtain ⟨r4, m5, w6, h⟩ := sw_b2_e h
  refine gl_callVi (ci := 10) (i := 49) [] (sX10_rise (K := 200) (by omega) m2 w6) rfl (by omega) rfl gs_L_82 hy_X10_rise (by decide) (by decide) rfl rfl (Nat.le_of_ble_eq_true rfl) (by decide +kernel) ?_
  refine gl_icmp_eq (off := 833) 1484 (by decide +kernel) (by decide) (fun c7 => ?_) (fun c7 => ?_)
  · rw [if_pos c7] at h
    exact sL_law_L1484 hE m5 a3 h hk
  · rw [if_neg c7] at h
    refine gl_iconst (n := 0) (v := 0) (by decide +kernel) (by decide) ?_
    cases h
    first | exact absurd (show (0 : Int32) = 1 from hk) (by decide) | skip
    all_goals exact gl_zret (by decide +kernel)
set_option maxRecDepth 20000 in
theorem sL_law_L656 {l : Launch} {E : sw_E} {b L : Nat} {xs : Nat → Int32} (hE : sw_RS l E) (σ : sw_M) (a3 : Int32) {t : (Int32 × sw_M) ⊕ (Int32)} (h : fL_law_L656 xs L σ a3 = some t) (hk : (Sum.elim (fun s : Int32 × sw_M => sw_Gl l E b L xs 18 [(0, .ref 90), (1, .ref 0), (2, .ref 49), (3, .int s.1)] [] s.2) (fun q => q = 1)) t) : sw_Gl l E b L xs 656 [(0, .ref 90), (1, .ref 0), (2, .ref 49), (3, .int a3)] [] σ := by
  unfold fL_law_L656 at h
  refine gl_aload_n (k0 := 1) 1 rfl (by decide +kernel) rfl ?_
  refine gl_aload_n (k0 := 0) 0 rfl (by decide +kernel) rfl ?_
  refine gl_iload_n (k0 := 3) 3 rfl (by decide +kernel) rfl ?_
  refine gl_iconst (n := 1) (v := 1) (by decide +kernel) (by decide) ?_
  refine gl_iadd (by decide +kernel) ?_
  obtain ⟨g1, h⟩ := sw_gd_e h
  refine gl_iaload (sw_in_e g1) (by decide +kernel) ?_
  obtain ⟨r2, m3, w4, h⟩ := sw_b2_e h
  refine gl_callVi (ci := 9) (i := 0) [.int (xs (a3 + 1).toNatClampNeg)] (sX9_rouser (K := 200) (by omega) σ (xs (a3 + 1).toNatClampNeg) w4) rfl (by omega) rfl gs_L_83 hy_X9_rouser (by decide) (by decide) rfl rfl (Nat.le_of_ble_eq_true rfl) (by decide +kernel) ?_
  refine gl_aload_n (k0 := 2) 2 rfl (by decide +kernel) rfl ?_
  refine gl_aload_n (k0 := 0) 0 rfl (by decide +kernel) rfl ?_
  refine gl_iload_n (k0 := 3) 3 rfl (by decide +kernel) rfl ?_
  refine gl_iconst (n := 1) (v := 1) (by decide +kernel) (by decide) ?_
  refine gl_iadd (by decide +kernel) ?_
  obtain ⟨g5, h⟩ := sw_gd_e h
  refine gl_iaload (sw_in_e g5) (by decide +kernel) ?_
  obtain ⟨r6, m7, w8, h⟩ := sw_b2_e h
  refine gl_callVi (ci := 10) (i := 49) [.int (xs (a3 + 1).toNatClampNeg)] (sX10_rouser (K := 200) (by omega) m3 (xs (a3 + 1).toNatClampNeg) w8) rfl (by omega) rfl gs_L_86 hy_X10_rouser (by decide) (by decide) rfl rfl (Nat.le_of_ble_eq_true rfl) (by decide +kernel) ?_
  refine gl_icmp_eq (off := 810) 1484 (by decide +kernel) (by decide) (fun c9 => ?_) (fun c9 => ?_)
  · rw [if_pos c9] at h
    exact sL_law_L1484 hE m7 a3 h hk
  · rw [if_neg c9] at h
    refine gl_iconst (n := 0) (v := 0) (by decide +kernel) (by decide) ?_
    cases h
    first | exact absurd (show (0 : Int32) = 1 from hk) (by decide) | skip
    all_goals exact gl_zret (by decide +kernel)
set_option maxRecDepth 20000 in
theorem sL_law_L679 {l : Launch} {E : sw_E} {b L : Nat} {xs : Nat → Int32} (hE : sw_RS l E) (σ : sw_M) (a3 : Int32) {t : (Int32 × sw_M) ⊕ (Int32)} (h : fL_law_L679 xs L σ a3 = some t) (hk : (Sum.elim (fun s : Int32 × sw_M => sw_Gl l E b L xs 18 [(0, .ref 90), (1, .ref 0), (2, .ref 49), (3, .int s.1)] [] s.2) (fun q => q = 1)) t) : sw_Gl l E b L xs 679 [(0, .ref 90), (1, .ref 0), (2, .ref 49), (3, .int a3)] [] σ := by
  unfold fL_law_L679 at h
  refine gl_aload_n (k0 := 1) 1 rfl (by decide +kernel) rfl ?_
  refine gl_aload_n (k0 := 0) 0 rfl (by decide +kernel) rfl ?_
  refine gl_iload_n (k0 := 3) 3 rfl (by decide +kernel) rfl ?_
  refine gl_iconst (n := 1) (v := 1) (by decide +kernel) (by decide) ?_
  refine gl_iadd (by decide +kernel) ?_
  obtain ⟨g1, h⟩ := sw_gd_e h
  refine gl_iaload (sw_in_e g1) (by decide +kernel) ?_
  refine gl_aload_n (k0 := 0) 0 rfl (by decide +kernel) rfl ?_
  refine gl_iload_n (k0 := 3) 3 rfl (by decide +kernel) rfl ?_
  refine gl_iconst (n := 2) (v := 2) (by decide +kernel) (by decide) ?_
  refine gl_iadd (by decide +kernel) ?_
  obtain ⟨g2, h⟩ := sw_gd_e h
  refine gl_iaload (sw_in_e g2) (by decide +kernel) ?_
  obtain ⟨r3, m4, w5, h⟩ := sw_b2_e h
  refine gl_callVi (ci := 9) (i := 0) [.int (xs (a3 + 1).toNatClampNeg), .int (xs (a3 + 2).toNatClampNeg)] (sX9_choir (K := 200) (by omega) σ (xs (a3 + 1).toNatClampNeg) (xs (a3 + 2).toNatClampNeg) w5) rfl (by omega) rfl gs_L_87 hy_X9_choir (by decide) (by decide) rfl rfl (Nat.le_of_ble_eq_true rfl) (by decide +kernel) ?_
  refine gl_aload_n (k0 := 2) 2 rfl (by decide +kernel) rfl ?_
  refine gl_aload_n (k0 := 0) 0 rfl (by decide +kernel) rfl ?_
  refine gl_iload_n (k0 := 3) 3 rfl (by decide +kernel) rfl ?_
  refine gl_iconst (n := 1) (v := 1) (by decide +kernel) (by decide) ?_
  refine gl_iadd (by decide +kernel) ?_
  obtain ⟨g6, h⟩ := sw_gd_e h
  refine gl_iaload (sw_in_e g6) (by decide +kernel) ?_
  refine gl_aload_n (k0 := 0) 0 rfl (by decide +kernel) rfl ?_
  refine gl_iload_n (k0 := 3) 3 rfl (by decide +kernel) rfl ?_
  refine gl_iconst (n := 2) (v := 2) (by decide +kernel) (by decide) ?_
  refine gl_iadd (by decide +kernel) ?_
  obtain ⟨g7, h⟩ := sw_gd_e h
  refine gl_iaload (sw_in_e g7) (by decide +kernel) ?_
  obtain ⟨r8, m9, w10, h⟩ := sw_b2_e h
  refine gl_callVi (ci := 10) (i := 49) [.int (xs (a3 + 1).toNatClampNeg), .int (xs (a3 + 2).toNatClampNeg)] (sX10_choir (K := 200) (by omega) m4 (xs (a3 + 1).toNatClampNeg) (xs (a3 + 2).toNatClampNeg) w10) rfl (by omega) rfl gs_L_90 hy_X10_choir (by decide) (by decide) rfl rfl (Nat.le_of_ble_eq_true rfl) (by decide +kernel) ?_
  refine gl_icmp_eq (off := 777) 1484 (by decide +kernel) (by decide) (fun c11 => ?_) (fun c11 => ?_)
  · rw [if_pos c11] at h
    exact sL_law_L1484 hE m9 a3 h hk
  · rw [if_neg c11] at h
    refine gl_iconst (n := 0) (v := 0) (by decide +kernel) (by decide) ?_
    cases h
    first | exact absurd (show (0 : Int32) = 1 from hk) (by decide) | skip
    all_goals exact gl_zret (by decide +kernel)
set_option maxRecDepth 20000 in
theorem sL_law_L712 {l : Launch} {E : sw_E} {b L : Nat} {xs : Nat → Int32} (hE : sw_RS l E) (σ : sw_M) (a3 : Int32) {t : (Int32 × sw_M) ⊕ (Int32)} (h : fL_law_L712 xs L σ a3 = some t) (hk : (Sum.elim (fun s : Int32 × sw_M => sw_Gl l E b L xs 18 [(0, .ref 90), (1, .ref 0), (2, .ref 49), (3, .int s.1)] [] s.2) (fun q => q = 1)) t) : sw_Gl l E b L xs 712 [(0, .ref 90), (1, .ref 0), (2, .ref 49), (3, .int a3)] [] σ := by
  unfold fL_law_L712 at h
  refine gl_aload_n (k0 := 1) 1 rfl (by decide +kernel) rfl ?_
  refine gl_aload_n (k0 := 0) 0 rfl (by decide +kernel) rfl ?_
  refine gl_iload_n (k0 := 3) 3 rfl (by decide +kernel) rfl ?_
  refine gl_iconst (n := 1) (v := 1) (by decide +kernel) (by decide) ?_
  refine gl_iadd (by decide +kernel) ?_
  obtain ⟨g1, h⟩ := sw_gd_e h
  refine gl_iaload (sw_in_e g1) (by decide +kernel) ?_
  obtain ⟨r2, m3, w4, h⟩ := sw_b2_e h
  refine gl_callVi (ci := 9) (i := 0) [.int (xs (a3 + 1).toNatClampNeg)] (sX9_power (K := 200) (by omega) σ (xs (a3 + 1).toNatClampNeg) w4) rfl (by omega) rfl gs_L_91 hy_X9_power (by decide) (by decide) rfl rfl (Nat.le_of_ble_eq_true rfl) (by decide +kernel) ?_
  refine gl_aload_n (k0 := 2) 2 rfl (by decide +kernel) rfl ?_
  refine gl_aload_n (k0 := 0) 0 rfl (by decide +kernel) rfl ?_
  refine gl_iload_n (k0 := 3) 3 rfl (by decide +kernel) rfl ?_
  refine gl_iconst (n := 1) (v := 1) (by decide +kernel) (by decide) ?_
  refine gl_iadd (by decide +kernel) ?_
  obtain ⟨g5, h⟩ := sw_gd_e h
  refine gl_iaload (sw_in_e g5) (by decide +kernel) ?_
  obtain ⟨r6, m7, w8, h⟩ := sw_b2_e h
  refine gl_callVi (ci := 10) (i := 49) [.int (xs (a3 + 1).toNatClampNeg)] (sX10_power (K := 200) (by omega) m3 (xs (a3 + 1).toNatClampNeg) w8) rfl (by omega) rfl gs_L_94 hy_X10_power (by decide) (by decide) rfl rfl (Nat.le_of_ble_eq_true rfl) (by decide +kernel) ?_
  refine gl_icmp_eq (off := 754) 1484 (by decide +kernel) (by decide) (fun c9 => ?_) (fun c9 => ?_)
  · rw [if_pos c9] at h
    exact sL_law_L1484 hE m7 a3 h hk
  · rw [if_neg c9] at h
    refine gl_iconst (n := 0) (v := 0) (by decide +kernel) (by decide) ?_
    cases h
    first | exact absurd (show (0 : Int32) = 1 from hk) (by decide) | skip
    all_goals exact gl_zret (by decide +kernel)
set_option maxRecDepth 20000 in
theorem sL_law_L735 {l : Launch} {E : sw_E} {b L : Nat} {xs : Nat → Int32} (hE : sw_RS l E) (σ : sw_M) (a3 : Int32) {t : (Int32 × sw_M) ⊕ (Int32)} (h : fL_law_L735 xs L σ a3 = some t) (hk : (Sum.elim (fun s : Int32 × sw_M => sw_Gl l E b L xs 18 [(0, .ref 90), (1, .ref 0), (2, .ref 49), (3, .int s.1)] [] s.2) (fun q => q = 1)) t) : sw_Gl l E b L xs 735 [(0, .ref 90), (1, .ref 0), (2, .ref 49), (3, .int a3)] [] σ := by
  unfold fL_law_L735 at h
  refine gl_aload_n (k0 := 1) 1 rfl (by decide +kernel) rfl ?_
  refine gl_aload_n (k0 := 0) 0 rfl (by decide +kernel) rfl ?_
  refine gl_iload_n (k0 := 3) 3 rfl (by decide +kernel) rfl ?_
  refine gl_iconst (n := 1) (v := 1) (by decide +kernel) (by decide) ?_
  refine gl_iadd (by decide +kernel) ?_
  obtain ⟨g1, h⟩ := sw_gd_e h
  refine gl_iaload (sw_in_e g1) (by decide +kernel) ?_
  obtain ⟨r2, w3, h⟩ := sw_b1_e h
  refine gl_callVi (ci := 9) (i := 0) [.int (xs (a3 + 1).toNatClampNeg)] (sX9_serve (K := 200) (by omega) σ (xs (a3 + 1).toNatClampNeg) w3) rfl (by omega) rfl gs_L_95 hy_X9_serve (by decide) (by decide) rfl rfl (Nat.le_of_ble_eq_true rfl) (by decide +kernel) ?_
  refine gl_aload_n (k0 := 2) 2 rfl (by decide +kernel) rfl ?_
  refine gl_aload_n (k0 := 0) 0 rfl (by decide +kernel) rfl ?_
  refine gl_iload_n (k0 := 3) 3 rfl (by decide +kernel) rfl ?_
  refine gl_iconst (n := 1) (v := 1) (by decide +kernel) (by decide) ?_
  refine gl_iadd (by decide +kernel) ?_
  obtain ⟨g4, h⟩ := sw_gd_e h
  refine gl_iaload (sw_in_e g4) (by decide +kernel) ?_
  obtain ⟨r5, w6, h⟩ := sw_b1_e h
  refine gl_callVi (ci := 10) (i := 49) [.int (xs (a3 + 1).toNatClampNeg)] (sX10_serve (K := 200) (by omega) σ (xs (a3 + 1).toNatClampNeg) w6) rfl (by omega) rfl gs_L_98 hy_X10_serve (by decide) (by decide) rfl rfl (Nat.le_of_ble_eq_true rfl) (by decide +kernel) ?_
  refine gl_icmp_eq (off := 731) 1484 (by decide +kernel) (by decide) (fun c7 => ?_) (fun c7 => ?_)
  · rw [if_pos c7] at h
    exact sL_law_L1484 hE σ a3 h hk
  · rw [if_neg c7] at h
    refine gl_iconst (n := 0) (v := 0) (by decide +kernel) (by decide) ?_
    cases h
    first | exact absurd (show (0 : Int32) = 1 from hk) (by decide) | skip
    all_goals exact gl_zret (by decide +kernel)
set_option maxRecDepth 20000 in
theorem sL_law_L758 {l : Launch} {E : sw_E} {b L : Nat} {xs : Nat → Int32} (hE : sw_RS l E) (σ : sw_M) (a3 : Int32) {t : (Int32 × sw_M) ⊕ (Int32)} (h : fL_law_L758 xs L σ a3 = some t) (hk : (Sum.elim (fun s : Int32 × sw_M => sw_Gl l E b L xs 18 [(0, .ref 90), (1, .ref 0), (2, .ref 49), (3, .int s.1)] [] s.2) (fun q => q = 1)) t) : sw_Gl l E b L xs 758 [(0, .ref 90), (1, .ref 0), (2, .ref 49), (3, .int a3)] [] σ := by
  unfold fL_law_L758 at h
  refine gl_aload_n (k0 := 1) 1 rfl (by decide +kernel) rfl ?_
  refine gl_aload_n (k0 := 0) 0 rfl (by decide +kernel) rfl ?_
  refine gl_iload_n (k0 := 3) 3 rfl (by decide +kernel) rfl ?_
  refine gl_iconst (n := 1) (v := 1) (by decide +kernel) (by decide) ?_
  refine gl_iadd (by decide +kernel) ?_
  obtain ⟨g1, h⟩ := sw_gd_e h
  refine gl_iaload (sw_in_e g1) (by decide +kernel) ?_
  refine gl_aload_n (k0 := 0) 0 rfl (by decide +kernel) rfl ?_
  refine gl_iload_n (k0 := 3) 3 rfl (by decide +kernel) rfl ?_
  refine gl_iconst (n := 2) (v := 2) (by decide +kernel) (by decide) ?_
  refine gl_iadd (by decide +kernel) ?_
  obtain ⟨g2, h⟩ := sw_gd_e h
  refine gl_iaload (sw_in_e g2) (by decide +kernel) ?_
  obtain ⟨r3, m4, w5, h⟩ := sw_b2_e h
  refine gl_callVi (ci := 9) (i := 0) [.int (xs (a3 + 1).toNatClampNeg), .int (xs (a3 + 2).toNatClampNeg)] (sX9_balm (K := 200) (by omega) σ (xs (a3 + 1).toNatClampNeg) (xs (a3 + 2).toNatClampNeg) w5) rfl (by omega) rfl gs_L_99 hy_X9_balm (by decide) (by decide) rfl rfl (Nat.le_of_ble_eq_true rfl) (by decide +kernel) ?_
  refine gl_aload_n (k0 := 2) 2 rfl (by decide +kernel) rfl ?_
  refine gl_aload_n (k0 := 0) 0 rfl (by decide +kernel) rfl ?_
  refine gl_iload_n (k0 := 3) 3 rfl (by decide +kernel) rfl ?_
  refine gl_iconst (n := 1) (v := 1) (by decide +kernel) (by decide) ?_
  refine gl_iadd (by decide +kernel) ?_
  obtain ⟨g6, h⟩ := sw_gd_e h
  refine gl_iaload (sw_in_e g6) (by decide +kernel) ?_
  refine gl_aload_n (k0 := 0) 0 rfl (by decide +kernel) rfl ?_
  refine gl_iload_n (k0 := 3) 3 rfl (by decide +kernel) rfl ?_
  refine gl_iconst (n := 2) (v := 2) (by decide +kernel) (by decide) ?_
  refine gl_iadd (by decide +kernel) ?_
  obtain ⟨g7, h⟩ := sw_gd_e h
  refine gl_iaload (sw_in_e g7) (by decide +kernel) ?_
  obtain ⟨r8, m9, w10, h⟩ := sw_b2_e h
  refine gl_callVi (ci := 10) (i := 49) [.int (xs (a3 + 1).toNatClampNeg), .int (xs (a3 + 2).toNatClampNeg)] (sX10_balm (K := 200) (by omega) m4 (xs (a3 + 1).toNatClampNeg) (xs (a3 + 2).toNatClampNeg) w10) rfl (by omega) rfl gs_L_102 hy_X10_balm (by decide) (by decide) rfl rfl (Nat.le_of_ble_eq_true rfl) (by decide +kernel) ?_
  refine gl_icmp_eq (off := 698) 1484 (by decide +kernel) (by decide) (fun c11 => ?_) (fun c11 => ?_)
  · rw [if_pos c11] at h
    exact sL_law_L1484 hE m9 a3 h hk
  · rw [if_neg c11] at h
    refine gl_iconst (n := 0) (v := 0) (by decide +kernel) (by decide) ?_
    cases h
    first | exact absurd (show (0 : Int32) = 1 from hk) (by decide) | skip
    all_goals exact gl_zret (by decide +kernel)
set_option maxRecDepth 20000 in
theorem sL_law_L791 {l : Launch} {E : sw_E} {b L : Nat} {xs : Nat → Int32} (hE : sw_RS l E) (σ : sw_M) (a3 : Int32) {t : (Int32 × sw_M) ⊕ (Int32)} (h : fL_law_L791 xs L σ a3 = some t) (hk : (Sum.elim (fun s : Int32 × sw_M => sw_Gl l E b L xs 18 [(0, .ref 90), (1, .ref 0), (2, .ref 49), (3, .int s.1)] [] s.2) (fun q => q = 1)) t) : sw_Gl l E b L xs 791 [(0, .ref 90), (1, .ref 0), (2, .ref 49), (3, .int a3)] [] σ := by
  unfold fL_law_L791 at h
  refine gl_aload_n (k0 := 1) 1 rfl (by decide +kernel) rfl ?_
  refine gl_aload_n (k0 := 0) 0 rfl (by decide +kernel) rfl ?_
  refine gl_iload_n (k0 := 3) 3 rfl (by decide +kernel) rfl ?_
  refine gl_iconst (n := 1) (v := 1) (by decide +kernel) (by decide) ?_
  refine gl_iadd (by decide +kernel) ?_
  obtain ⟨g1, h⟩ := sw_gd_e h
  refine gl_iaload (sw_in_e g1) (by decide +kernel) ?_
  obtain ⟨r2, m3, w4, h⟩ := sw_b2_e h
  refine gl_callVi (ci := 9) (i := 0) [.int (xs (a3 + 1).toNatClampNeg)] (sX9_cook (K := 200) (by omega) σ (xs (a3 + 1).toNatClampNeg) w4) rfl (by omega) rfl gs_L_103 hy_X9_cook (by decide) (by decide) rfl rfl (Nat.le_of_ble_eq_true rfl) (by decide +kernel) ?_
  refine gl_aload_n (k0 := 2) 2 rfl (by decide +kernel) rfl ?_
  refine gl_aload_n (k0 := 0) 0 rfl (by decide +kernel) rfl ?_
  refine gl_iload_n (k0 := 3) 3 rfl (by decide +kernel) rfl ?_
  refine gl_iconst (n := 1) (v := 1) (by decide +kernel) (by decide) ?_
  refine gl_iadd (by decide +kernel) ?_
  obtain ⟨g5, h⟩ := sw_gd_e h
  refine gl_iaload (sw_in_e g5) (by decide +kernel) ?_
  obtain ⟨r6, m7, w8, h⟩ := sw_b2_e h
  refine gl_callVi (ci := 10) (i := 49) [.int (xs (a3 + 1).toNatClampNeg)] (sX10_cook (K := 200) (by omega) m3 (xs (a3 + 1).toNatClampNeg) w8) rfl (by omega) rfl gs_L_106 hy_X10_cook (by decide) (by decide) rfl rfl (Nat.le_of_ble_eq_true rfl) (by decide +kernel) ?_
  refine gl_icmp_eq (off := 675) 1484 (by decide +kernel) (by decide) (fun c9 => ?_) (fun c9 => ?_)
  · rw [if_pos c9] at h
    exact sL_law_L1484 hE m7 a3 h hk
  · rw [if_neg c9] at h
    refine gl_iconst (n := 0) (v := 0) (by decide +kernel) (by decide) ?_
    cases h
    first | exact absurd (show (0 : Int32) = 1 from hk) (by decide) | skip
    all_goals exact gl_zret (by decide +kernel)
set_option maxRecDepth 20000 in
theorem sL_law_L814 {l : Launch} {E : sw_E} {b L : Nat} {xs : Nat → Int32} (hE : sw_RS l E) (σ : sw_M) (a3 : Int32) {t : (Int32 × sw_M) ⊕ (Int32)} (h : fL_law_L814 xs L σ a3 = some t) (hk : (Sum.elim (fun s : Int32 × sw_M => sw_Gl l E b L xs 18 [(0, .ref 90), (1, .ref 0), (2, .ref 49), (3, .int s.1)] [] s.2) (fun q => q = 1)) t) : sw_Gl l E b L xs 814 [(0, .ref 90), (1, .ref 0), (2, .ref 49), (3, .int a3)] [] σ := by
  unfold fL_law_L814 at h
  refine gl_aload_n (k0 := 1) 1 rfl (by decide +kernel) rfl ?_
  refine gl_aload_n (k0 := 0) 0 rfl (by decide +kernel) rfl ?_
  refine gl_iload_n (k0 := 3) 3 rfl (by decide +kernel) rfl ?_
  refine gl_iconst (n := 1) (v := 1) (by decide +kernel) (by decide) ?_
  refine gl_iadd (by decide +kernel) ?_
  obtain ⟨g1, h⟩ := sw_gd_e h
  refine gl_iaload (sw_in_e g1) (by decide +kernel) ?_
  obtain ⟨r2, w3, h⟩ := sw_b1_e h
  refine gl_callVi (ci := 9) (i := 0) [.int (xs (a3 + 1).toNatClampNeg)] (sX9_lacks (K := 200) (by omega) σ (xs (a3 + 1).toNatClampNeg) w3) rfl (by omega) rfl gs_L_107 hy_X9_lacks (by decide) (by decide) rfl rfl (Nat.le_of_ble_eq_true rfl) (by decide +kernel) ?_
  refine gl_aload_n (k0 := 2) 2 rfl (by decide +kernel) rfl ?_
  refine gl_aload_n (k0 := 0) 0 rfl (by decide +kernel) rfl ?_
  refine gl_iload_n (k0 := 3) 3 rfl (by decide +kernel) rfl ?_
  refine gl_iconst (n := 1) (v := 1) (by decide +kernel) (by decide) ?_
  refine gl_iadd (by decide +kernel) ?_
  obtain ⟨g4, h⟩ := sw_gd_e h
  refine gl_iaload (sw_in_e g4) (by decide +kernel) ?_
  obtain ⟨r5, w6, h⟩ := sw_b1_e h
  refine gl_callVi (ci := 10) (i := 49) [.int (xs (a3 + 1).toNatClampNeg)] (sX10_lacks (K := 200) (by omega) σ (xs (a3 + 1).toNatClampNeg) w6) rfl (by omega) rfl gs_L_110 hy_X10_lacks (by decide) (by decide) rfl rfl (Nat.le_of_ble_eq_true rfl) (by decide +kernel) ?_
  refine gl_icmp_eq (off := 652) 1484 (by decide +kernel) (by decide) (fun c7 => ?_) (fun c7 => ?_)
  · rw [if_pos c7] at h
    exact sL_law_L1484 hE σ a3 h hk
  · rw [if_neg c7] at h
    refine gl_iconst (n := 0) (v := 0) (by decide +kernel) (by decide) ?_
    cases h
    first | exact absurd (show (0 : Int32) = 1 from hk) (by decide) | skip
    all_goals exact gl_zret (by decide +kernel)
set_option maxRecDepth 20000 in
theorem sL_law_L837 {l : Launch} {E : sw_E} {b L : Nat} {xs : Nat → Int32} (hE : sw_RS l E) (σ : sw_M) (a3 : Int32) {t : (Int32 × sw_M) ⊕ (Int32)} (h : fL_law_L837 xs L σ a3 = some t) (hk : (Sum.elim (fun s : Int32 × sw_M => sw_Gl l E b L xs 18 [(0, .ref 90), (1, .ref 0), (2, .ref 49), (3, .int s.1)] [] s.2) (fun q => q = 1)) t) : sw_Gl l E b L xs 837 [(0, .ref 90), (1, .ref 0), (2, .ref 49), (3, .int a3)] [] σ := by
  unfold fL_law_L837 at h
  refine gl_aload_n (k0 := 1) 1 rfl (by decide +kernel) rfl ?_
  obtain ⟨r1, m2, w3, h⟩ := sw_b2_e h
  refine gl_callVi (ci := 9) (i := 0) [] (sX9_rest (K := 200) (by omega) σ w3) rfl (by omega) rfl gs_L_111 hy_X9_rest (by decide) (by decide) rfl rfl (Nat.le_of_ble_eq_true rfl) (by decide +kernel) ?_
  refine gl_aload_n (k0 := 2) 2 rfl (by decide +kernel) rfl ?_
  obtain ⟨r4, m5, w6, h⟩ := sw_b2_e h
  refine gl_callVi (ci := 10) (i := 49) [] (sX10_rest (K := 200) (by omega) m2 w6) rfl (by omega) rfl gs_L_114 hy_X10_rest (by decide) (by decide) rfl rfl (Nat.le_of_ble_eq_true rfl) (by decide +kernel) ?_
  refine gl_icmp_eq (off := 639) 1484 (by decide +kernel) (by decide) (fun c7 => ?_) (fun c7 => ?_)
  · rw [if_pos c7] at h
    exact sL_law_L1484 hE m5 a3 h hk
  · rw [if_neg c7] at h
    refine gl_iconst (n := 0) (v := 0) (by decide +kernel) (by decide) ?_
    cases h
    first | exact absurd (show (0 : Int32) = 1 from hk) (by decide) | skip
    all_goals exact gl_zret (by decide +kernel)
set_option maxRecDepth 20000 in
theorem sL_law_L850 {l : Launch} {E : sw_E} {b L : Nat} {xs : Nat → Int32} (hE : sw_RS l E) (σ : sw_M) (a3 : Int32) {t : (Int32 × sw_M) ⊕ (Int32)} (h : fL_law_L850 xs L σ a3 = some t) (hk : (Sum.elim (fun s : Int32 × sw_M => sw_Gl l E b L xs 18 [(0, .ref 90), (1, .ref 0), (2, .ref 49), (3, .int s.1)] [] s.2) (fun q => q = 1)) t) : sw_Gl l E b L xs 850 [(0, .ref 90), (1, .ref 0), (2, .ref 49), (3, .int a3)] [] σ := by
  unfold fL_law_L850 at h
  refine gl_aload_n (k0 := 1) 1 rfl (by decide +kernel) rfl ?_
  refine gl_aload_n (k0 := 0) 0 rfl (by decide +kernel) rfl ?_
  refine gl_iload_n (k0 := 3) 3 rfl (by decide +kernel) rfl ?_
  refine gl_iconst (n := 1) (v := 1) (by decide +kernel) (by decide) ?_
  refine gl_iadd (by decide +kernel) ?_
  obtain ⟨g1, h⟩ := sw_gd_e h
  refine gl_iaload (sw_in_e g1) (by decide +kernel) ?_
  obtain ⟨r2, m3, w4, h⟩ := sw_b2_e h
  refine gl_callVi (ci := 9) (i := 0) [.int (xs (a3 + 1).toNatClampNeg)] (sX9_order (K := 200) (by omega) σ (xs (a3 + 1).toNatClampNeg) w4) rfl (by omega) rfl gs_L_115 hy_X9_order (by decide) (by decide) rfl rfl (Nat.le_of_ble_eq_true rfl) (by decide +kernel) ?_
  refine gl_aload_n (k0 := 2) 2 rfl (by decide +kernel) rfl ?_
  refine gl_aload_n (k0 := 0) 0 rfl (by decide +kernel) rfl ?_
  refine gl_iload_n (k0 := 3) 3 rfl (by decide +kernel) rfl ?_
  refine gl_iconst (n := 1) (v := 1) (by decide +kernel) (by decide) ?_
  refine gl_iadd (by decide +kernel) ?_
  obtain ⟨g5, h⟩ := sw_gd_e h
  refine gl_iaload (sw_in_e g5) (by decide +kernel) ?_
  obtain ⟨r6, m7, w8, h⟩ := sw_b2_e h
  refine gl_callVi (ci := 10) (i := 49) [.int (xs (a3 + 1).toNatClampNeg)] (sX10_order (K := 200) (by omega) m3 (xs (a3 + 1).toNatClampNeg) w8) rfl (by omega) rfl gs_L_118 hy_X10_order (by decide) (by decide) rfl rfl (Nat.le_of_ble_eq_true rfl) (by decide +kernel) ?_
  refine gl_icmp_eq (off := 616) 1484 (by decide +kernel) (by decide) (fun c9 => ?_) (fun c9 => ?_)
  · rw [if_pos c9] at h
    exact sL_law_L1484 hE m7 a3 h hk
  · rw [if_neg c9] at h
    refine gl_iconst (n := 0) (v := 0) (by decide +kernel) (by decide) ?_
    cases h
    first | exact absurd (show (0 : Int32) = 1 from hk) (by decide) | skip
    all_goals exact gl_zret (by decide +kernel)
set_option maxRecDepth 20000 in
theorem sL_law_L873 {l : Launch} {E : sw_E} {b L : Nat} {xs : Nat → Int32} (hE : sw_RS l E) (σ : sw_M) (a3 : Int32) {t : (Int32 × sw_M) ⊕ (Int32)} (h : fL_law_L873 xs L σ a3 = some t) (hk : (Sum.elim (fun s : Int32 × sw_M => sw_Gl l E b L xs 18 [(0, .ref 90), (1, .ref 0), (2, .ref 49), (3, .int s.1)] [] s.2) (fun q => q = 1)) t) : sw_Gl l E b L xs 873 [(0, .ref 90), (1, .ref 0), (2, .ref 49), (3, .int a3)] [] σ := by
  unfold fL_law_L873 at h
  refine gl_aload_n (k0 := 1) 1 rfl (by decide +kernel) rfl ?_
  refine gl_aload_n (k0 := 0) 0 rfl (by decide +kernel) rfl ?_
  refine gl_iload_n (k0 := 3) 3 rfl (by decide +kernel) rfl ?_
  refine gl_iconst (n := 1) (v := 1) (by decide +kernel) (by decide) ?_
  refine gl_iadd (by decide +kernel) ?_
  obtain ⟨g1, h⟩ := sw_gd_e h
  refine gl_iaload (sw_in_e g1) (by decide +kernel) ?_
  obtain ⟨r2, w3, h⟩ := sw_b1_e h
  refine gl_callVi (ci := 9) (i := 0) [.int (xs (a3 + 1).toNatClampNeg)] (sX9_comes (K := 200) (by omega) σ (xs (a3 + 1).toNatClampNeg) w3) rfl (by omega) rfl gs_L_119 hy_X9_comes (by decide) (by decide) rfl rfl (Nat.le_of_ble_eq_true rfl) (by decide +kernel) ?_
  refine gl_aload_n (k0 := 2) 2 rfl (by decide +kernel) rfl ?_
  refine gl_aload_n (k0 := 0) 0 rfl (by decide +kernel) rfl ?_
  refine gl_iload_n (k0 := 3) 3 rfl (by decide +kernel) rfl ?_
  refine gl_iconst (n := 1) (v := 1) (by decide +kernel) (by decide) ?_
  refine gl_iadd (by decide +kernel) ?_
  obtain ⟨g4, h⟩ := sw_gd_e h
  refine gl_iaload (sw_in_e g4) (by decide +kernel) ?_
  obtain ⟨r5, w6, h⟩ := sw_b1_e h
  refine gl_callVi (ci := 10) (i := 49) [.int (xs (a3 + 1).toNatClampNeg)] (sX10_comes (K := 200) (by omega) σ (xs (a3 + 1).toNatClampNeg) w6) rfl (by omega) rfl gs_L_122 hy_X10_comes (by decide) (by decide) rfl rfl (Nat.le_of_ble_eq_true rfl) (by decide +kernel) ?_
  refine gl_icmp_eq (off := 593) 1484 (by decide +kernel) (by decide) (fun c7 => ?_) (fun c7 => ?_)
  · rw [if_pos c7] at h
    exact sL_law_L1484 hE σ a3 h hk
  · rw [if_neg c7] at h
    refine gl_iconst (n := 0) (v := 0) (by decide +kernel) (by decide) ?_
    cases h
    first | exact absurd (show (0 : Int32) = 1 from hk) (by decide) | skip
    all_goals exact gl_zret (by decide +kernel)
set_option maxRecDepth 20000 in
theorem sL_law_L896 {l : Launch} {E : sw_E} {b L : Nat} {xs : Nat → Int32} (hE : sw_RS l E) (σ : sw_M) (a3 : Int32) {t : (Int32 × sw_M) ⊕ (Int32)} (h : fL_law_L896 xs L σ a3 = some t) (hk : (Sum.elim (fun s : Int32 × sw_M => sw_Gl l E b L xs 18 [(0, .ref 90), (1, .ref 0), (2, .ref 49), (3, .int s.1)] [] s.2) (fun q => q = 1)) t) : sw_Gl l E b L xs 896 [(0, .ref 90), (1, .ref 0), (2, .ref 49), (3, .int a3)] [] σ := by
  unfold fL_law_L896 at h
  refine gl_aload_n (k0 := 1) 1 rfl (by decide +kernel) rfl ?_
  refine gl_aload_n (k0 := 0) 0 rfl (by decide +kernel) rfl ?_
  refine gl_iload_n (k0 := 3) 3 rfl (by decide +kernel) rfl ?_
  refine gl_iconst (n := 1) (v := 1) (by decide +kernel) (by decide) ?_
  refine gl_iadd (by decide +kernel) ?_
  obtain ⟨g1, h⟩ := sw_gd_e h
  refine gl_iaload (sw_in_e g1) (by decide +kernel) ?_
  refine gl_aload_n (k0 := 0) 0 rfl (by decide +kernel) rfl ?_
  refine gl_iload_n (k0 := 3) 3 rfl (by decide +kernel) rfl ?_
  refine gl_iconst (n := 2) (v := 2) (by decide +kernel) (by decide) ?_
  refine gl_iadd (by decide +kernel) ?_
  obtain ⟨g2, h⟩ := sw_gd_e h
  refine gl_iaload (sw_in_e g2) (by decide +kernel) ?_
  obtain ⟨r3, w4, h⟩ := sw_b1_e h
  refine gl_callVi (ci := 9) (i := 0) [.int (xs (a3 + 1).toNatClampNeg), .int (xs (a3 + 2).toNatClampNeg)] (sX9_steps (K := 200) (by omega) σ (xs (a3 + 1).toNatClampNeg) (xs (a3 + 2).toNatClampNeg) w4) rfl (by omega) rfl gs_L_123 hy_X9_steps (by decide) (by decide) rfl rfl (Nat.le_of_ble_eq_true rfl) (by decide +kernel) ?_
  refine gl_aload_n (k0 := 2) 2 rfl (by decide +kernel) rfl ?_
  refine gl_aload_n (k0 := 0) 0 rfl (by decide +kernel) rfl ?_
  refine gl_iload_n (k0 := 3) 3 rfl (by decide +kernel) rfl ?_
  refine gl_iconst (n := 1) (v := 1) (by decide +kernel) (by decide) ?_
  refine gl_iadd (by decide +kernel) ?_
  obtain ⟨g5, h⟩ := sw_gd_e h
  refine gl_iaload (sw_in_e g5) (by decide +kernel) ?_
  refine gl_aload_n (k0 := 0) 0 rfl (by decide +kernel) rfl ?_
  refine gl_iload_n (k0 := 3) 3 rfl (by decide +kernel) rfl ?_
  refine gl_iconst (n := 2) (v := 2) (by decide +kernel) (by decide) ?_
  refine gl_iadd (by decide +kernel) ?_
  obtain ⟨g6, h⟩ := sw_gd_e h
  refine gl_iaload (sw_in_e g6) (by decide +kernel) ?_
  obtain ⟨r7, w8, h⟩ := sw_b1_e h
  refine gl_callVi (ci := 10) (i := 49) [.int (xs (a3 + 1).toNatClampNeg), .int (xs (a3 + 2).toNatClampNeg)] (sX10_steps (K := 200) (by omega) σ (xs (a3 + 1).toNatClampNeg) (xs (a3 + 2).toNatClampNeg) w8) rfl (by omega) rfl gs_L_126 hy_X10_steps (by decide) (by decide) rfl rfl (Nat.le_of_ble_eq_true rfl) (by decide +kernel) ?_
  refine gl_icmp_eq (off := 560) 1484 (by decide +kernel) (by decide) (fun c9 => ?_) (fun c9 => ?_)
  · rw [if_pos c9] at h
    exact sL_law_L1484 hE σ a3 h hk
  · rw [if_neg c9] at h
    refine gl_iconst (n := 0) (v := 0) (by decide +kernel) (by decide) ?_
    cases h
    first | exact absurd (show (0 : Int32) = 1 from hk) (by decide) | skip
    all_goals exact gl_zret (by decide +kernel)
set_option maxRecDepth 20000 in
theorem sL_law_L929 {l : Launch} {E : sw_E} {b L : Nat} {xs : Nat → Int32} (hE : sw_RS l E) (σ : sw_M) (a3 : Int32) {t : (Int32 × sw_M) ⊕ (Int32)} (h : fL_law_L929 xs L σ a3 = some t) (hk : (Sum.elim (fun s : Int32 × sw_M => sw_Gl l E b L xs 18 [(0, .ref 90), (1, .ref 0), (2, .ref 49), (3, .int s.1)] [] s.2) (fun q => q = 1)) t) : sw_Gl l E b L xs 929 [(0, .ref 90), (1, .ref 0), (2, .ref 49), (3, .int a3)] [] σ := by
  unfold fL_law_L929 at h
  refine gl_aload_n (k0 := 1) 1 rfl (by decide +kernel) rfl ?_
  refine gl_aload_n (k0 := 0) 0 rfl (by decide +kernel) rfl ?_
  refine gl_iload_n (k0 := 3) 3 rfl (by decide +kernel) rfl ?_
  refine gl_iconst (n := 1) (v := 1) (by decide +kernel) (by decide) ?_
  refine gl_iadd (by decide +kernel) ?_
  obtain ⟨g1, h⟩ := sw_gd_e h
  refine gl_iaload (sw_in_e g1) (by decide +kernel) ?_
  refine gl_aload_n (k0 := 0) 0 rfl (by decide +kernel) rfl ?_
  refine gl_iload_n (k0 := 3) 3 rfl (by decide +kernel) rfl ?_
  refine gl_iconst (n := 2) (v := 2) (by decide +kernel) (by decide) ?_
  refine gl_iadd (by decide +kernel) ?_
  obtain ⟨g2, h⟩ := sw_gd_e h
  refine gl_iaload (sw_in_e g2) (by decide +kernel) ?_
  obtain ⟨r3, m4, w5, h⟩ := sw_b2_e h
  refine gl_callVi (ci := 9) (i := 0) [.int (xs (a3 + 1).toNatClampNeg), .int (xs (a3 + 2).toNatClampNeg)] (sX9_duel (K := 200) (by omega) σ (xs (a3 + 1).toNatClampNeg) (xs (a3 + 2).toNatClampNeg) w5) rfl (by omega) rfl gs_L_127 hy_X9_duel (by decide) (by decide) rfl rfl (Nat.le_of_ble_eq_true rfl) (by decide +kernel) ?_
  refine gl_aload_n (k0 := 2) 2 rfl (by decide +kernel) rfl ?_
  refine gl_aload_n (k0 := 0) 0 rfl (by decide +kernel) rfl ?_
  refine gl_iload_n (k0 := 3) 3 rfl (by decide +kernel) rfl ?_
  refine gl_iconst (n := 1) (v := 1) (by decide +kernel) (by decide) ?_
  refine gl_iadd (by decide +kernel) ?_
  obtain ⟨g6, h⟩ := sw_gd_e h
  refine gl_iaload (sw_in_e g6) (by decide +kernel) ?_
  refine gl_aload_n (k0 := 0) 0 rfl (by decide +kernel) rfl ?_
  refine gl_iload_n (k0 := 3) 3 rfl (by decide +kernel) rfl ?_
  refine gl_iconst (n := 2) (v := 2) (by decide +kernel) (by decide) ?_
  refine gl_iadd (by decide +kernel) ?_
  obtain ⟨g7, h⟩ := sw_gd_e h
  refine gl_iaload (sw_in_e g7) (by decide +kernel) ?_
  obtain ⟨r8, m9, w10, h⟩ := sw_b2_e h
  refine gl_callVi (ci := 10) (i := 49) [.int (xs (a3 + 1).toNatClampNeg), .int (xs (a3 + 2).toNatClampNeg)] (sX10_duel (K := 200) (by omega) m4 (xs (a3 + 1).toNatClampNeg) (xs (a3 + 2).toNatClampNeg) w10) rfl (by omega) rfl gs_L_130 hy_X10_duel (by decide) (by decide) rfl rfl (Nat.le_of_ble_eq_true rfl) (by decide +kernel) ?_
  refine gl_icmp_eq (off := 527) 1484 (by decide +kernel) (by decide) (fun c11 => ?_) (fun c11 => ?_)
  · rw [if_pos c11] at h
    exact sL_law_L1484 hE m9 a3 h hk
  · rw [if_neg c11] at h
    refine gl_iconst (n := 0) (v := 0) (by decide +kernel) (by decide) ?_
    cases h
    first | exact absurd (show (0 : Int32) = 1 from hk) (by decide) | skip
    all_goals exact gl_zret (by decide +kernel)
set_option maxRecDepth 20000 in
theorem sL_law_L962 {l : Launch} {E : sw_E} {b L : Nat} {xs : Nat → Int32} (hE : sw_RS l E) (σ : sw_M) (a3 : Int32) {t : (Int32 × sw_M) ⊕ (Int32)} (h : fL_law_L962 xs L σ a3 = some t) (hk : (Sum.elim (fun s : Int32 × sw_M => sw_Gl l E b L xs 18 [(0, .ref 90), (1, .ref 0), (2, .ref 49), (3, .int s.1)] [] s.2) (fun q => q = 1)) t) : sw_Gl l E b L xs 962 [(0, .ref 90), (1, .ref 0), (2, .ref 49), (3, .int a3)] [] σ := by
  unfold fL_law_L962 at h
  refine gl_aload_n (k0 := 1) 1 rfl (by decide +kernel) rfl ?_
  obtain ⟨r1, w2, h⟩ := sw_b1_e h
  refine gl_callVi (ci := 9) (i := 0) [] (sX9_nearest (K := 200) (by omega) σ w2) rfl (by omega) rfl gs_L_131 hy_X9_nearest (by decide) (by decide) rfl rfl (Nat.le_of_ble_eq_true rfl) (by decide +kernel) ?_
  refine gl_aload_n (k0 := 2) 2 rfl (by decide +kernel) rfl ?_
  obtain ⟨r3, w4, h⟩ := sw_b1_e h
  refine gl_callVi (ci := 10) (i := 49) [] (sX10_nearest (K := 200) (by omega) σ w4) rfl (by omega) rfl gs_L_134 hy_X10_nearest (by decide) (by decide) rfl rfl (Nat.le_of_ble_eq_true rfl) (by decide +kernel) ?_
  refine gl_icmp_eq (off := 514) 1484 (by decide +kernel) (by decide) (fun c5 => ?_) (fun c5 => ?_)
  · rw [if_pos c5] at h
    exact sL_law_L1484 hE σ a3 h hk
  · rw [if_neg c5] at h
    refine gl_iconst (n := 0) (v := 0) (by decide +kernel) (by decide) ?_
    cases h
    first | exact absurd (show (0 : Int32) = 1 from hk) (by decide) | skip
    all_goals exact gl_zret (by decide +kernel)
set_option maxRecDepth 20000 in
theorem sL_law_L975 {l : Launch} {E : sw_E} {b L : Nat} {xs : Nat → Int32} (hE : sw_RS l E) (σ : sw_M) (a3 : Int32) {t : (Int32 × sw_M) ⊕ (Int32)} (h : fL_law_L975 xs L σ a3 = some t) (hk : (Sum.elim (fun s : Int32 × sw_M => sw_Gl l E b L xs 18 [(0, .ref 90), (1, .ref 0), (2, .ref 49), (3, .int s.1)] [] s.2) (fun q => q = 1)) t) : sw_Gl l E b L xs 975 [(0, .ref 90), (1, .ref 0), (2, .ref 49), (3, .int a3)] [] σ := by
  unfold fL_law_L975 at h
  refine gl_aload_n (k0 := 1) 1 rfl (by decide +kernel) rfl ?_
  refine gl_aload_n (k0 := 0) 0 rfl (by decide +kernel) rfl ?_
  refine gl_iload_n (k0 := 3) 3 rfl (by decide +kernel) rfl ?_
  refine gl_iconst (n := 1) (v := 1) (by decide +kernel) (by decide) ?_
  refine gl_iadd (by decide +kernel) ?_
  obtain ⟨g1, h⟩ := sw_gd_e h
  refine gl_iaload (sw_in_e g1) (by decide +kernel) ?_
  obtain ⟨r2, w3, h⟩ := sw_b1_e h
  refine gl_callVi (ci := 9) (i := 0) [.int (xs (a3 + 1).toNatClampNeg)] (sX9_wanted (K := 200) (by omega) σ (xs (a3 + 1).toNatClampNeg) w3) rfl (by omega) rfl gs_L_135 hy_X9_wanted (by decide) (by decide) rfl rfl (Nat.le_of_ble_eq_true rfl) (by decide +kernel) ?_
  refine gl_aload_n (k0 := 2) 2 rfl (by decide +kernel) rfl ?_
  refine gl_aload_n (k0 := 0) 0 rfl (by decide +kernel) rfl ?_
  refine gl_iload_n (k0 := 3) 3 rfl (by decide +kernel) rfl ?_
  refine gl_iconst (n := 1) (v := 1) (by decide +kernel) (by decide) ?_
  refine gl_iadd (by decide +kernel) ?_
  obtain ⟨g4, h⟩ := sw_gd_e h
  refine gl_iaload (sw_in_e g4) (by decide +kernel) ?_
  obtain ⟨r5, w6, h⟩ := sw_b1_e h
  refine gl_callVi (ci := 10) (i := 49) [.int (xs (a3 + 1).toNatClampNeg)] (sX10_wanted (K := 200) (by omega) σ (xs (a3 + 1).toNatClampNeg) w6) rfl (by omega) rfl gs_L_138 hy_X10_wanted (by decide) (by decide) rfl rfl (Nat.le_of_ble_eq_true rfl) (by decide +kernel) ?_
  refine gl_icmp_eq (off := 491) 1484 (by decide +kernel) (by decide) (fun c7 => ?_) (fun c7 => ?_)
  · rw [if_pos c7] at h
    exact sL_law_L1484 hE σ a3 h hk
  · rw [if_neg c7] at h
    refine gl_iconst (n := 0) (v := 0) (by decide +kernel) (by decide) ?_
    cases h
    first | exact absurd (show (0 : Int32) = 1 from hk) (by decide) | skip
    all_goals exact gl_zret (by decide +kernel)
set_option maxRecDepth 20000 in
theorem sL_law_L998 {l : Launch} {E : sw_E} {b L : Nat} {xs : Nat → Int32} (hE : sw_RS l E) (σ : sw_M) (a3 : Int32) {t : (Int32 × sw_M) ⊕ (Int32)} (h : fL_law_L998 xs L σ a3 = some t) (hk : (Sum.elim (fun s : Int32 × sw_M => sw_Gl l E b L xs 18 [(0, .ref 90), (1, .ref 0), (2, .ref 49), (3, .int s.1)] [] s.2) (fun q => q = 1)) t) : sw_Gl l E b L xs 998 [(0, .ref 90), (1, .ref 0), (2, .ref 49), (3, .int a3)] [] σ := by
  unfold fL_law_L998 at h
  refine gl_aload_n (k0 := 1) 1 rfl (by decide +kernel) rfl ?_
  refine gl_aload_n (k0 := 0) 0 rfl (by decide +kernel) rfl ?_
  refine gl_iload_n (k0 := 3) 3 rfl (by decide +kernel) rfl ?_
  refine gl_iconst (n := 1) (v := 1) (by decide +kernel) (by decide) ?_
  refine gl_iadd (by decide +kernel) ?_
  obtain ⟨g1, h⟩ := sw_gd_e h
  refine gl_iaload (sw_in_e g1) (by decide +kernel) ?_
  obtain ⟨r2, w3, h⟩ := sw_b1_e h
  refine gl_callVi (ci := 9) (i := 0) [.int (xs (a3 + 1).toNatClampNeg)] (sX9_sinners (K := 200) (by omega) σ (xs (a3 + 1).toNatClampNeg) w3) rfl (by omega) rfl gs_L_139 hy_X9_sinners (by decide) (by decide) rfl rfl (Nat.le_of_ble_eq_true rfl) (by decide +kernel) ?_
  refine gl_aload_n (k0 := 2) 2 rfl (by decide +kernel) rfl ?_
  refine gl_aload_n (k0 := 0) 0 rfl (by decide +kernel) rfl ?_
  refine gl_iload_n (k0 := 3) 3 rfl (by decide +kernel) rfl ?_
  refine gl_iconst (n := 1) (v := 1) (by decide +kernel) (by decide) ?_
  refine gl_iadd (by decide +kernel) ?_
  obtain ⟨g4, h⟩ := sw_gd_e h
  refine gl_iaload (sw_in_e g4) (by decide +kernel) ?_
  obtain ⟨r5, w6, h⟩ := sw_b1_e h
  refine gl_callVi (ci := 10) (i := 49) [.int (xs (a3 + 1).toNatClampNeg)] (sX10_sinners (K := 200) (by omega) σ (xs (a3 + 1).toNatClampNeg) w6) rfl (by omega) rfl gs_L_142 hy_X10_sinners (by decide) (by decide) rfl rfl (Nat.le_of_ble_eq_true rfl) (by decide +kernel) ?_
  refine gl_icmp_eq (off := 468) 1484 (by decide +kernel) (by decide) (fun c7 => ?_) (fun c7 => ?_)
  · rw [if_pos c7] at h
    exact sL_law_L1484 hE σ a3 h hk
  · rw [if_neg c7] at h
    refine gl_iconst (n := 0) (v := 0) (by decide +kernel) (by decide) ?_
    cases h
    first | exact absurd (show (0 : Int32) = 1 from hk) (by decide) | skip
    all_goals exact gl_zret (by decide +kernel)
set_option maxRecDepth 20000 in
theorem sL_law_L1021 {l : Launch} {E : sw_E} {b L : Nat} {xs : Nat → Int32} (hE : sw_RS l E) (σ : sw_M) (a3 : Int32) {t : (Int32 × sw_M) ⊕ (Int32)} (h : fL_law_L1021 xs L σ a3 = some t) (hk : (Sum.elim (fun s : Int32 × sw_M => sw_Gl l E b L xs 18 [(0, .ref 90), (1, .ref 0), (2, .ref 49), (3, .int s.1)] [] s.2) (fun q => q = 1)) t) : sw_Gl l E b L xs 1021 [(0, .ref 90), (1, .ref 0), (2, .ref 49), (3, .int a3)] [] σ := by
  unfold fL_law_L1021 at h
  refine gl_aload_n (k0 := 1) 1 rfl (by decide +kernel) rfl ?_
  obtain ⟨r1, w2, h⟩ := sw_b1_e h
  refine gl_callVi (ci := 9) (i := 0) [] (sX9_inert (K := 200) (by omega) σ w2) rfl (by omega) rfl gs_L_143 hy_X9_inert (by decide) (by decide) rfl rfl (Nat.le_of_ble_eq_true rfl) (by decide +kernel) ?_
  refine gl_aload_n (k0 := 2) 2 rfl (by decide +kernel) rfl ?_
  obtain ⟨r3, w4, h⟩ := sw_b1_e h
  refine gl_callVi (ci := 10) (i := 49) [] (sX10_inert (K := 200) (by omega) σ w4) rfl (by omega) rfl gs_L_146 hy_X10_inert (by decide) (by decide) rfl rfl (Nat.le_of_ble_eq_true rfl) (by decide +kernel) ?_
  refine gl_icmp_eq (off := 455) 1484 (by decide +kernel) (by decide) (fun c5 => ?_) (fun c5 => ?_)
  · rw [if_pos c5] at h
    exact sL_law_L1484 hE σ a3 h hk
  · rw [if_neg c5] at h
    refine gl_iconst (n := 0) (v := 0) (by decide +kernel) (by decide) ?_
    cases h
    first | exact absurd (show (0 : Int32) = 1 from hk) (by decide) | skip
    all_goals exact gl_zret (by decide +kernel)
set_option maxRecDepth 20000 in
theorem sL_law_L1034 {l : Launch} {E : sw_E} {b L : Nat} {xs : Nat → Int32} (hE : sw_RS l E) (σ : sw_M) (a3 : Int32) {t : (Int32 × sw_M) ⊕ (Int32)} (h : fL_law_L1034 xs L σ a3 = some t) (hk : (Sum.elim (fun s : Int32 × sw_M => sw_Gl l E b L xs 18 [(0, .ref 90), (1, .ref 0), (2, .ref 49), (3, .int s.1)] [] s.2) (fun q => q = 1)) t) : sw_Gl l E b L xs 1034 [(0, .ref 90), (1, .ref 0), (2, .ref 49), (3, .int a3)] [] σ := by
  unfold fL_law_L1034 at h
  refine gl_aload_n (k0 := 1) 1 rfl (by decide +kernel) rfl ?_
  obtain ⟨r1, w2, h⟩ := sw_b1_e h
  refine gl_callVi (ci := 9) (i := 0) [] (sX9_alive (K := 200) (by omega) σ w2) rfl (by omega) rfl gs_L_147 hy_X9_alive (by decide) (by decide) rfl rfl (Nat.le_of_ble_eq_true rfl) (by decide +kernel) ?_
  refine gl_aload_n (k0 := 2) 2 rfl (by decide +kernel) rfl ?_
  obtain ⟨r3, m4, w5, h⟩ := sw_b2_e h
  refine gl_callVi (ci := 10) (i := 49) [] (sX10_alive (K := 200) (by omega) σ w5) rfl (by omega) rfl gs_L_150 hy_X10_alive (by decide) (by decide) rfl rfl (Nat.le_of_ble_eq_true rfl) (by decide +kernel) ?_
  refine gl_icmp_eq (off := 442) 1484 (by decide +kernel) (by decide) (fun c6 => ?_) (fun c6 => ?_)
  · rw [if_pos c6] at h
    exact sL_law_L1484 hE m4 a3 h hk
  · rw [if_neg c6] at h
    refine gl_iconst (n := 0) (v := 0) (by decide +kernel) (by decide) ?_
    cases h
    first | exact absurd (show (0 : Int32) = 1 from hk) (by decide) | skip
    all_goals exact gl_zret (by decide +kernel)
set_option maxRecDepth 20000 in
theorem sL_law_L1047 {l : Launch} {E : sw_E} {b L : Nat} {xs : Nat → Int32} (hE : sw_RS l E) (σ : sw_M) (a3 : Int32) {t : (Int32 × sw_M) ⊕ (Int32)} (h : fL_law_L1047 xs L σ a3 = some t) (hk : (Sum.elim (fun s : Int32 × sw_M => sw_Gl l E b L xs 18 [(0, .ref 90), (1, .ref 0), (2, .ref 49), (3, .int s.1)] [] s.2) (fun q => q = 1)) t) : sw_Gl l E b L xs 1047 [(0, .ref 90), (1, .ref 0), (2, .ref 49), (3, .int a3)] [] σ := by
  unfold fL_law_L1047 at h
  refine gl_aload_n (k0 := 1) 1 rfl (by decide +kernel) rfl ?_
  obtain ⟨r1, w2, h⟩ := sw_b1_e h
  refine gl_callVi (ci := 9) (i := 0) [] (sX9_thickest (K := 200) (by omega) σ w2) rfl (by omega) rfl gs_L_151 hy_X9_thickest (by decide) (by decide) rfl rfl (Nat.le_of_ble_eq_true rfl) (by decide +kernel) ?_
  refine gl_aload_n (k0 := 2) 2 rfl (by decide +kernel) rfl ?_
  obtain ⟨r3, w4, h⟩ := sw_b1_e h
  refine gl_callVi (ci := 10) (i := 49) [] (sX10_thickest (K := 200) (by omega) σ w4) rfl (by omega) rfl gs_L_154 hy_X10_thickest (by decide) (by decide) rfl rfl (Nat.le_of_ble_eq_true rfl) (by decide +kernel) ?_
  refine gl_icmp_eq (off := 429) 1484 (by decide +kernel) (by decide) (fun c5 => ?_) (fun c5 => ?_)
  · rw [if_pos c5] at h
    exact sL_law_L1484 hE σ a3 h hk
  · rw [if_neg c5] at h
    refine gl_iconst (n := 0) (v := 0) (by decide +kernel) (by decide) ?_
    cases h
    first | exact absurd (show (0 : Int32) = 1 from hk) (by decide) | skip
    all_goals exact gl_zret (by decide +kernel)
set_option maxRecDepth 20000 in
theorem sL_law_L1060 {l : Launch} {E : sw_E} {b L : Nat} {xs : Nat → Int32} (hE : sw_RS l E) (σ : sw_M) (a3 : Int32) {t : (Int32 × sw_M) ⊕ (Int32)} (h : fL_law_L1060 xs L σ a3 = some t) (hk : (Sum.elim (fun s : Int32 × sw_M => sw_Gl l E b L xs 18 [(0, .ref 90), (1, .ref 0), (2, .ref 49), (3, .int s.1)] [] s.2) (fun q => q = 1)) t) : sw_Gl l E b L xs 1060 [(0, .ref 90), (1, .ref 0), (2, .ref 49), (3, .int a3)] [] σ := by
  unfold fL_law_L1060 at h
  refine gl_aload_n (k0 := 1) 1 rfl (by decide +kernel) rfl ?_
  obtain ⟨r1, w2, h⟩ := sw_b1_e h
  refine gl_callVi (ci := 9) (i := 0) [] (sX9_thinnest (K := 200) (by omega) σ w2) rfl (by omega) rfl gs_L_155 hy_X9_thinnest (by decide) (by decide) rfl rfl (Nat.le_of_ble_eq_true rfl) (by decide +kernel) ?_
  refine gl_aload_n (k0 := 2) 2 rfl (by decide +kernel) rfl ?_
  obtain ⟨r3, w4, h⟩ := sw_b1_e h
  refine gl_callVi (ci := 10) (i := 49) [] (sX10_thinnest (K := 200) (by omega) σ w4) rfl (by omega) rfl gs_L_158 hy_X10_thinnest (by decide) (by decide) rfl rfl (Nat.le_of_ble_eq_true rfl) (by decide +kernel) ?_
  refine gl_icmp_eq (off := 416) 1484 (by decide +kernel) (by decide) (fun c5 => ?_) (fun c5 => ?_)
  · rw [if_pos c5] at h
    exact sL_law_L1484 hE σ a3 h hk
  · rw [if_neg c5] at h
    refine gl_iconst (n := 0) (v := 0) (by decide +kernel) (by decide) ?_
    cases h
    first | exact absurd (show (0 : Int32) = 1 from hk) (by decide) | skip
    all_goals exact gl_zret (by decide +kernel)
set_option maxRecDepth 20000 in
theorem sL_law_L1073 {l : Launch} {E : sw_E} {b L : Nat} {xs : Nat → Int32} (hE : sw_RS l E) (σ : sw_M) (a3 : Int32) {t : (Int32 × sw_M) ⊕ (Int32)} (h : fL_law_L1073 xs L σ a3 = some t) (hk : (Sum.elim (fun s : Int32 × sw_M => sw_Gl l E b L xs 18 [(0, .ref 90), (1, .ref 0), (2, .ref 49), (3, .int s.1)] [] s.2) (fun q => q = 1)) t) : sw_Gl l E b L xs 1073 [(0, .ref 90), (1, .ref 0), (2, .ref 49), (3, .int a3)] [] σ := by
  unfold fL_law_L1073 at h
  refine gl_aload_n (k0 := 1) 1 rfl (by decide +kernel) rfl ?_
  refine gl_aload_n (k0 := 0) 0 rfl (by decide +kernel) rfl ?_
  refine gl_iload_n (k0 := 3) 3 rfl (by decide +kernel) rfl ?_
  refine gl_iconst (n := 1) (v := 1) (by decide +kernel) (by decide) ?_
  refine gl_iadd (by decide +kernel) ?_
  obtain ⟨g1, h⟩ := sw_gd_e h
  refine gl_iaload (sw_in_e g1) (by decide +kernel) ?_
  obtain ⟨r2, w3, h⟩ := sw_b1_e h
  refine gl_callVi (ci := 9) (i := 0) [.int (xs (a3 + 1).toNatClampNeg)] (sX9_makers (K := 200) (by omega) σ (xs (a3 + 1).toNatClampNeg) w3) rfl (by omega) rfl gs_L_159 hy_X9_makers (by decide) (by decide) rfl rfl (Nat.le_of_ble_eq_true rfl) (by decide +kernel) ?_
  refine gl_aload_n (k0 := 2) 2 rfl (by decide +kernel) rfl ?_
  refine gl_aload_n (k0 := 0) 0 rfl (by decide +kernel) rfl ?_
  refine gl_iload_n (k0 := 3) 3 rfl (by decide +kernel) rfl ?_
  refine gl_iconst (n := 1) (v := 1) (by decide +kernel) (by decide) ?_
  refine gl_iadd (by decide +kernel) ?_
  obtain ⟨g4, h⟩ := sw_gd_e h
  refine gl_iaload (sw_in_e g4) (by decide +kernel) ?_
  obtain ⟨r5, w6, h⟩ := sw_b1_e h
  refine gl_callVi (ci := 10) (i := 49) [.int (xs (a3 + 1).toNatClampNeg)] (sX10_makers (K := 200) (by omega) σ (xs (a3 + 1).toNatClampNeg) w6) rfl (by omega) rfl gs_L_162 hy_X10_makers (by decide) (by decide) rfl rfl (Nat.le_of_ble_eq_true rfl) (by decide +kernel) ?_
  refine gl_icmp_eq (off := 393) 1484 (by decide +kernel) (by decide) (fun c7 => ?_) (fun c7 => ?_)
  · rw [if_pos c7] at h
    exact sL_law_L1484 hE σ a3 h hk
  · rw [if_neg c7] at h
    refine gl_iconst (n := 0) (v := 0) (by decide +kernel) (by decide) ?_
    cases h
    first | exact absurd (show (0 : Int32) = 1 from hk) (by decide) | skip
    all_goals exact gl_zret (by decide +kernel)
set_option maxRecDepth 20000 in
theorem sL_law_L1096 {l : Launch} {E : sw_E} {b L : Nat} {xs : Nat → Int32} (hE : sw_RS l E) (σ : sw_M) (a3 : Int32) {t : (Int32 × sw_M) ⊕ (Int32)} (h : fL_law_L1096 xs L σ a3 = some t) (hk : (Sum.elim (fun s : Int32 × sw_M => sw_Gl l E b L xs 18 [(0, .ref 90), (1, .ref 0), (2, .ref 49), (3, .int s.1)] [] s.2) (fun q => q = 1)) t) : sw_Gl l E b L xs 1096 [(0, .ref 90), (1, .ref 0), (2, .ref 49), (3, .int a3)] [] σ := by
  unfold fL_law_L1096 at h
  refine gl_aload_n (k0 := 1) 1 rfl (by decide +kernel) rfl ?_
  obtain ⟨r1, w2, h⟩ := sw_b1_e h
  refine gl_callVi (ci := 9) (i := 0) [] (sX9_heaviest (K := 200) (by omega) σ w2) rfl (by omega) rfl gs_L_163 hy_X9_heaviest (by decide) (by decide) rfl rfl (Nat.le_of_ble_eq_true rfl) (by decide +kernel) ?_
  refine gl_aload_n (k0 := 2) 2 rfl (by decide +kernel) rfl ?_
  obtain ⟨r3, w4, h⟩ := sw_b1_e h
  refine gl_callVi (ci := 10) (i := 49) [] (sX10_heaviest (K := 200) (by omega) σ w4) rfl (by omega) rfl gs_L_166 hy_X10_heaviest (by decide) (by decide) rfl rfl (Nat.le_of_ble_eq_true rfl) (by decide +kernel) ?_
  refine gl_icmp_eq (off := 380) 1484 (by decide +kernel) (by decide) (fun c5 => ?_) (fun c5 => ?_)
  · rw [if_pos c5] at h
    exact sL_law_L1484 hE σ a3 h hk
  · rw [if_neg c5] at h
    refine gl_iconst (n := 0) (v := 0) (by decide +kernel) (by decide) ?_
    cases h
    first | exact absurd (show (0 : Int32) = 1 from hk) (by decide) | skip
    all_goals exact gl_zret (by decide +kernel)
set_option maxRecDepth 20000 in
theorem sL_law_L1109 {l : Launch} {E : sw_E} {b L : Nat} {xs : Nat → Int32} (hE : sw_RS l E) (σ : sw_M) (a3 : Int32) {t : (Int32 × sw_M) ⊕ (Int32)} (h : fL_law_L1109 xs L σ a3 = some t) (hk : (Sum.elim (fun s : Int32 × sw_M => sw_Gl l E b L xs 18 [(0, .ref 90), (1, .ref 0), (2, .ref 49), (3, .int s.1)] [] s.2) (fun q => q = 1)) t) : sw_Gl l E b L xs 1109 [(0, .ref 90), (1, .ref 0), (2, .ref 49), (3, .int a3)] [] σ := by
  unfold fL_law_L1109 at h
  refine gl_aload_n (k0 := 1) 1 rfl (by decide +kernel) rfl ?_
  refine gl_aload_n (k0 := 0) 0 rfl (by decide +kernel) rfl ?_
  refine gl_iload_n (k0 := 3) 3 rfl (by decide +kernel) rfl ?_
  refine gl_iconst (n := 1) (v := 1) (by decide +kernel) (by decide) ?_
  refine gl_iadd (by decide +kernel) ?_
  obtain ⟨g1, h⟩ := sw_gd_e h
  refine gl_iaload (sw_in_e g1) (by decide +kernel) ?_
  obtain ⟨r2, m3, w4, h⟩ := sw_b2_e h
  refine gl_callVi (ci := 9) (i := 0) [.int (xs (a3 + 1).toNatClampNeg)] (sX9_law (K := 200) (by omega) σ (xs (a3 + 1).toNatClampNeg) w4) rfl (by omega) rfl gs_L_167 hy_X9_law (by decide) (by decide) rfl rfl (Nat.le_of_ble_eq_true rfl) (by decide +kernel) ?_
  refine gl_aload_n (k0 := 2) 2 rfl (by decide +kernel) rfl ?_
  refine gl_aload_n (k0 := 0) 0 rfl (by decide +kernel) rfl ?_
  refine gl_iload_n (k0 := 3) 3 rfl (by decide +kernel) rfl ?_
  refine gl_iconst (n := 1) (v := 1) (by decide +kernel) (by decide) ?_
  refine gl_iadd (by decide +kernel) ?_
  obtain ⟨g5, h⟩ := sw_gd_e h
  refine gl_iaload (sw_in_e g5) (by decide +kernel) ?_
  obtain ⟨r6, m7, w8, h⟩ := sw_b2_e h
  refine gl_callVi (ci := 10) (i := 49) [.int (xs (a3 + 1).toNatClampNeg)] (sX10_law (K := 200) (by omega) m3 (xs (a3 + 1).toNatClampNeg) w8) rfl (by omega) rfl gs_L_170 hy_X10_law (by decide) (by decide) rfl rfl (Nat.le_of_ble_eq_true rfl) (by decide +kernel) ?_
  refine gl_icmp_eq (off := 357) 1484 (by decide +kernel) (by decide) (fun c9 => ?_) (fun c9 => ?_)
  · rw [if_pos c9] at h
    exact sL_law_L1484 hE m7 a3 h hk
  · rw [if_neg c9] at h
    refine gl_iconst (n := 0) (v := 0) (by decide +kernel) (by decide) ?_
    cases h
    first | exact absurd (show (0 : Int32) = 1 from hk) (by decide) | skip
    all_goals exact gl_zret (by decide +kernel)
set_option maxRecDepth 20000 in
theorem sL_law_L1132 {l : Launch} {E : sw_E} {b L : Nat} {xs : Nat → Int32} (hE : sw_RS l E) (σ : sw_M) (a3 : Int32) {t : (Int32 × sw_M) ⊕ (Int32)} (h : fL_law_L1132 xs L σ a3 = some t) (hk : (Sum.elim (fun s : Int32 × sw_M => sw_Gl l E b L xs 18 [(0, .ref 90), (1, .ref 0), (2, .ref 49), (3, .int s.1)] [] s.2) (fun q => q = 1)) t) : sw_Gl l E b L xs 1132 [(0, .ref 90), (1, .ref 0), (2, .ref 49), (3, .int a3)] [] σ := by
  unfold fL_law_L1132 at h
  refine gl_aload_n (k0 := 1) 1 rfl (by decide +kernel) rfl ?_
  obtain ⟨r1, w2, h⟩ := sw_b1_e h
  refine gl_callVi (ci := 9) (i := 0) [] (sX9_mission (K := 200) (by omega) σ w2) rfl (by omega) rfl gs_L_171 hy_X9_mission (by decide) (by decide) rfl rfl (Nat.le_of_ble_eq_true rfl) (by decide +kernel) ?_
  refine gl_aload_n (k0 := 2) 2 rfl (by decide +kernel) rfl ?_
  obtain ⟨r3, m4, w5, h⟩ := sw_b2_e h
  refine gl_callVi (ci := 10) (i := 49) [] (sX10_mission (K := 200) (by omega) σ w5) rfl (by omega) rfl gs_L_174 hy_X10_mission (by decide) (by decide) rfl rfl (Nat.le_of_ble_eq_true rfl) (by decide +kernel) ?_
  refine gl_icmp_eq (off := 344) 1484 (by decide +kernel) (by decide) (fun c6 => ?_) (fun c6 => ?_)
  · rw [if_pos c6] at h
    exact sL_law_L1484 hE m4 a3 h hk
  · rw [if_neg c6] at h
    refine gl_iconst (n := 0) (v := 0) (by decide +kernel) (by decide) ?_
    cases h
    first | exact absurd (show (0 : Int32) = 1 from hk) (by decide) | skip
    all_goals exact gl_zret (by decide +kernel)
set_option maxRecDepth 20000 in
theorem sL_law_L1145 {l : Launch} {E : sw_E} {b L : Nat} {xs : Nat → Int32} (hE : sw_RS l E) (σ : sw_M) (a3 : Int32) {t : (Int32 × sw_M) ⊕ (Int32)} (h : fL_law_L1145 xs L σ a3 = some t) (hk : (Sum.elim (fun s : Int32 × sw_M => sw_Gl l E b L xs 18 [(0, .ref 90), (1, .ref 0), (2, .ref 49), (3, .int s.1)] [] s.2) (fun q => q = 1)) t) : sw_Gl l E b L xs 1145 [(0, .ref 90), (1, .ref 0), (2, .ref 49), (3, .int a3)] [] σ := by
  unfold fL_law_L1145 at h
  refine gl_aload_n (k0 := 1) 1 rfl (by decide +kernel) rfl ?_
  refine gl_aload_n (k0 := 0) 0 rfl (by decide +kernel) rfl ?_
  refine gl_iload_n (k0 := 3) 3 rfl (by decide +kernel) rfl ?_
  refine gl_iconst (n := 1) (v := 1) (by decide +kernel) (by decide) ?_
  refine gl_iadd (by decide +kernel) ?_
  obtain ⟨g1, h⟩ := sw_gd_e h
  refine gl_iaload (sw_in_e g1) (by decide +kernel) ?_
  refine gl_aload_n (k0 := 0) 0 rfl (by decide +kernel) rfl ?_
  refine gl_iload_n (k0 := 3) 3 rfl (by decide +kernel) rfl ?_
  refine gl_iconst (n := 2) (v := 2) (by decide +kernel) (by decide) ?_
  refine gl_iadd (by decide +kernel) ?_
  obtain ⟨g2, h⟩ := sw_gd_e h
  refine gl_iaload (sw_in_e g2) (by decide +kernel) ?_
  obtain ⟨r3, w4, h⟩ := sw_b1_e h
  refine gl_callVi (ci := 9) (i := 0) [.int (xs (a3 + 1).toNatClampNeg), .int (xs (a3 + 2).toNatClampNeg)] (sX9_odds (K := 200) (by omega) σ (xs (a3 + 1).toNatClampNeg) (xs (a3 + 2).toNatClampNeg) w4) rfl (by omega) rfl gs_L_175 hy_X9_odds (by decide) (by decide) rfl rfl (Nat.le_of_ble_eq_true rfl) (by decide +kernel) ?_
  refine gl_aload_n (k0 := 2) 2 rfl (by decide +kernel) rfl ?_
  refine gl_aload_n (k0 := 0) 0 rfl (by decide +kernel) rfl ?_
  refine gl_iload_n (k0 := 3) 3 rfl (by decide +kernel) rfl ?_
  refine gl_iconst (n := 1) (v := 1) (by decide +kernel) (by decide) ?_
  refine gl_iadd (by decide +kernel) ?_
  obtain ⟨g5, h⟩ := sw_gd_e h
  refine gl_iaload (sw_in_e g5) (by decide +kernel) ?_
  refine gl_aload_n (k0 := 0) 0 rfl (by decide +kernel) rfl ?_
  refine gl_iload_n (k0 := 3) 3 rfl (by decide +kernel) rfl ?_
  refine gl_iconst (n := 2) (v := 2) (by decide +kernel) (by decide) ?_
  refine gl_iadd (by decide +kernel) ?_
  obtain ⟨g6, h⟩ := sw_gd_e h
  refine gl_iaload (sw_in_e g6) (by decide +kernel) ?_
  obtain ⟨r7, w8, h⟩ := sw_b1_e h
  refine gl_callVi (ci := 10) (i := 49) [.int (xs (a3 + 1).toNatClampNeg), .int (xs (a3 + 2).toNatClampNeg)] (sX10_odds (K := 200) (by omega) σ (xs (a3 + 1).toNatClampNeg) (xs (a3 + 2).toNatClampNeg) w8) rfl (by omega) rfl gs_L_178 hy_X10_odds (by decide) (by decide) rfl rfl (Nat.le_of_ble_eq_true rfl) (by decide +kernel) ?_
  refine gl_icmp_eq (off := 311) 1484 (by decide +kernel) (by decide) (fun c9 => ?_) (fun c9 => ?_)
  · rw [if_pos c9] at h
    exact sL_law_L1484 hE σ a3 h hk
  · rw [if_neg c9] at h
    refine gl_iconst (n := 0) (v := 0) (by decide +kernel) (by decide) ?_
    cases h
    first | exact absurd (show (0 : Int32) = 1 from hk) (by decide) | skip
    all_goals exact gl_zret (by decide +kernel)
set_option maxRecDepth 20000 in
theorem sL_law_L1178 {l : Launch} {E : sw_E} {b L : Nat} {xs : Nat → Int32} (hE : sw_RS l E) (σ : sw_M) (a3 : Int32) {t : (Int32 × sw_M) ⊕ (Int32)} (h : fL_law_L1178 xs L σ a3 = some t) (hk : (Sum.elim (fun s : Int32 × sw_M => sw_Gl l E b L xs 18 [(0, .ref 90), (1, .ref 0), (2, .ref 49), (3, .int s.1)] [] s.2) (fun q => q = 1)) t) : sw_Gl l E b L xs 1178 [(0, .ref 90), (1, .ref 0), (2, .ref 49), (3, .int a3)] [] σ := by
  unfold fL_law_L1178 at h
  refine gl_aload_n (k0 := 1) 1 rfl (by decide +kernel) rfl ?_
  refine gl_aload_n (k0 := 0) 0 rfl (by decide +kernel) rfl ?_
  refine gl_iload_n (k0 := 3) 3 rfl (by decide +kernel) rfl ?_
  refine gl_iconst (n := 1) (v := 1) (by decide +kernel) (by decide) ?_
  refine gl_iadd (by decide +kernel) ?_
  obtain ⟨g1, h⟩ := sw_gd_e h
  refine gl_iaload (sw_in_e g1) (by decide +kernel) ?_
  obtain ⟨r2, w3, h⟩ := sw_b1_e h
  refine gl_callVi (ci := 9) (i := 0) [.int (xs (a3 + 1).toNatClampNeg)] (sX9_lies (K := 200) (by omega) σ (xs (a3 + 1).toNatClampNeg) w3) rfl (by omega) rfl gs_L_179 hy_X9_lies (by decide) (by decide) rfl rfl (Nat.le_of_ble_eq_true rfl) (by decide +kernel) ?_
  refine gl_aload_n (k0 := 2) 2 rfl (by decide +kernel) rfl ?_
  refine gl_aload_n (k0 := 0) 0 rfl (by decide +kernel) rfl ?_
  refine gl_iload_n (k0 := 3) 3 rfl (by decide +kernel) rfl ?_
  refine gl_iconst (n := 1) (v := 1) (by decide +kernel) (by decide) ?_
  refine gl_iadd (by decide +kernel) ?_
  obtain ⟨g4, h⟩ := sw_gd_e h
  refine gl_iaload (sw_in_e g4) (by decide +kernel) ?_
  obtain ⟨r5, w6, h⟩ := sw_b1_e h
  refine gl_callVi (ci := 10) (i := 49) [.int (xs (a3 + 1).toNatClampNeg)] (sX10_lies (K := 200) (by omega) σ (xs (a3 + 1).toNatClampNeg) w6) rfl (by omega) rfl gs_L_182 hy_X10_lies (by decide) (by decide) rfl rfl (Nat.le_of_ble_eq_true rfl) (by decide +kernel) ?_
  refine gl_icmp_eq (off := 288) 1484 (by decide +kernel) (by decide) (fun c7 => ?_) (fun c7 => ?_)
  · rw [if_pos c7] at h
    exact sL_law_L1484 hE σ a3 h hk
  · rw [if_neg c7] at h
    refine gl_iconst (n := 0) (v := 0) (by decide +kernel) (by decide) ?_
    cases h
    first | exact absurd (show (0 : Int32) = 1 from hk) (by decide) | skip
    all_goals exact gl_zret (by decide +kernel)
set_option maxRecDepth 20000 in
theorem sL_law_L1262 {l : Launch} {E : sw_E} {b L : Nat} {xs : Nat → Int32} (hE : sw_RS l E) (σ : sw_M) (a3 : Int32) (b0 : Int32) (b1 : Int32) (b2 : Int32) (b3 : Int32) (b5 : Int32) {t : (Int32 × sw_M) ⊕ (Int32)} (h : fL_law_L1262 xs L σ a3 b0 b1 b2 b3 b5 = some t) (hk : (Sum.elim (fun s : Int32 × sw_M => sw_Gl l E b L xs 18 [(0, .ref 90), (1, .ref 0), (2, .ref 49), (3, .int s.1)] [] s.2) (fun q => q = 1)) t) : sw_Gl l E b L xs 1262 [(0, .ref 90), (1, .ref 0), (2, .ref 49), (3, .int a3)] [.int b0, .int b1, .int b2, .int b3, .ref 49, .int b5] σ := by
  unfold fL_law_L1262 at h
  obtain ⟨r1, m2, w3, h⟩ := sw_b2_e h
  refine gl_callVi (ci := 10) (i := 49) [.int b3, .int b2, .int b1, .int b0] (sX10_seen (K := 200) (by omega) σ b3 b2 b1 b0 w3) rfl (by omega) rfl gs_L_187 hy_X10_seen (by decide) (by decide) rfl rfl (Nat.le_of_ble_eq_true rfl) (by decide +kernel) ?_
  refine gl_icmp_eq (off := 219) 1484 (by decide +kernel) (by decide) (fun c4 => ?_) (fun c4 => ?_)
  · rw [if_pos c4] at h
    exact sL_law_L1484 hE m2 a3 h hk
  · rw [if_neg c4] at h
    refine gl_iconst (n := 0) (v := 0) (by decide +kernel) (by decide) ?_
    cases h
    first | exact absurd (show (0 : Int32) = 1 from hk) (by decide) | skip
    all_goals exact gl_zret (by decide +kernel)
set_option maxRecDepth 20000 in
theorem sL_law_L1230 {l : Launch} {E : sw_E} {b L : Nat} {xs : Nat → Int32} (hE : sw_RS l E) (σ : sw_M) (a3 : Int32) (b0 : Int32) (b1 : Int32) (b2 : Int32) (b3 : Int32) {t : (Int32 × sw_M) ⊕ (Int32)} (h : fL_law_L1230 xs L σ a3 b0 b1 b2 b3 = some t) (hk : (Sum.elim (fun s : Int32 × sw_M => sw_Gl l E b L xs 18 [(0, .ref 90), (1, .ref 0), (2, .ref 49), (3, .int s.1)] [] s.2) (fun q => q = 1)) t) : sw_Gl l E b L xs 1230 [(0, .ref 90), (1, .ref 0), (2, .ref 49), (3, .int a3)] [.int b0, .int b1, .int b2, .int b3, .ref 0] σ := by
  unfold fL_law_L1230 at h
  obtain ⟨r1, m2, w3, h⟩ := sw_b2_e h
  refine gl_callVi (ci := 9) (i := 0) [.int b3, .int b2, .int b1, .int b0] (sX9_seen (K := 200) (by omega) σ b3 b2 b1 b0 w3) rfl (by omega) rfl gs_L_183 hy_X9_seen (by decide) (by decide) rfl rfl (Nat.le_of_ble_eq_true rfl) (by decide +kernel) ?_
  refine gl_aload_n (k0 := 2) 2 rfl (by decide +kernel) rfl ?_
  refine gl_aload_n (k0 := 0) 0 rfl (by decide +kernel) rfl ?_
  refine gl_iload_n (k0 := 3) 3 rfl (by decide +kernel) rfl ?_
  refine gl_iconst (n := 1) (v := 1) (by decide +kernel) (by decide) ?_
  refine gl_iadd (by decide +kernel) ?_
  obtain ⟨g4, h⟩ := sw_gd_e h
  refine gl_iaload (sw_in_e g4) (by decide +kernel) ?_
  refine gl_aload_n (k0 := 0) 0 rfl (by decide +kernel) rfl ?_
  refine gl_iload_n (k0 := 3) 3 rfl (by decide +kernel) rfl ?_
  refine gl_iconst (n := 2) (v := 2) (by decide +kernel) (by decide) ?_
  refine gl_iadd (by decide +kernel) ?_
  obtain ⟨g5, h⟩ := sw_gd_e h
  refine gl_iaload (sw_in_e g5) (by decide +kernel) ?_
  refine gl_aload_n (k0 := 0) 0 rfl (by decide +kernel) rfl ?_
  refine gl_iload_n (k0 := 3) 3 rfl (by decide +kernel) rfl ?_
  refine gl_iconst (n := 3) (v := 3) (by decide +kernel) (by decide) ?_
  refine gl_iadd (by decide +kernel) ?_
  obtain ⟨g6, h⟩ := sw_gd_e h
  refine gl_iaload (sw_in_e g6) (by decide +kernel) ?_
  refine gl_aload_n (k0 := 0) 0 rfl (by decide +kernel) rfl ?_
  refine gl_iload_n (k0 := 3) 3 rfl (by decide +kernel) rfl ?_
  refine gl_iconst (n := 4) (v := 4) (by decide +kernel) (by decide) ?_
  refine gl_iadd (by decide +kernel) ?_
  obtain ⟨g7, h⟩ := sw_gd_e h
  refine gl_iaload (sw_in_e g7) (by decide +kernel) ?_
  refine gl_if_eq (off := 7) 1261 (by decide +kernel) (by decide) (fun c8 => ?_) (fun c8 => ?_)
  · rw [if_pos c8] at h
    refine gl_iconst (n := 0) (v := 0) (by decide +kernel) (by decide) ?_
    exact sL_law_L1262 hE m2 a3 0 (xs (a3 + 3).toNatClampNeg) (xs (a3 + 2).toNatClampNeg) (xs (a3 + 1).toNatClampNeg) r1 h hk
  · rw [if_neg c8] at h
    refine gl_iconst (n := 1) (v := 1) (by decide +kernel) (by decide) ?_
    refine gl_goto (off := 4) 1262 (by decide +kernel) (by decide) ?_
    exact sL_law_L1262 hE m2 a3 1 (xs (a3 + 3).toNatClampNeg) (xs (a3 + 2).toNatClampNeg) (xs (a3 + 1).toNatClampNeg) r1 h hk
set_option maxRecDepth 20000 in
theorem sL_law_L1201 {l : Launch} {E : sw_E} {b L : Nat} {xs : Nat → Int32} (hE : sw_RS l E) (σ : sw_M) (a3 : Int32) {t : (Int32 × sw_M) ⊕ (Int32)} (h : fL_law_L1201 xs L σ a3 = some t) (hk : (Sum.elim (fun s : Int32 × sw_M => sw_Gl l E b L xs 18 [(0, .ref 90), (1, .ref 0), (2, .ref 49), (3, .int s.1)] [] s.2) (fun q => q = 1)) t) : sw_Gl l E b L xs 1201 [(0, .ref 90), (1, .ref 0), (2, .ref 49), (3, .int a3)] [] σ := by
  unfold fL_law_L1201 at h
  refine gl_aload_n (k0 := 1) 1 rfl (by decide +kernel) rfl ?_
  refine gl_aload_n (k0 := 0) 0 rfl (by decide +kernel) rfl ?_
  refine gl_iload_n (k0 := 3) 3 rfl (by decide +kernel) rfl ?_
  refine gl_iconst (n := 1) (v := 1) (by decide +kernel) (by decide) ?_
  refine gl_iadd (by decide +kernel) ?_
  obtain ⟨g1, h⟩ := sw_gd_e h
  refine gl_iaload (sw_in_e g1) (by decide +kernel) ?_
  refine gl_aload_n (k0 := 0) 0 rfl (by decide +kernel) rfl ?_
  refine gl_iload_n (k0 := 3) 3 rfl (by decide +kernel) rfl ?_
  refine gl_iconst (n := 2) (v := 2) (by decide +kernel) (by decide) ?_
  refine gl_iadd (by decide +kernel) ?_
  obtain ⟨g2, h⟩ := sw_gd_e h
  refine gl_iaload (sw_in_e g2) (by decide +kernel) ?_
  refine gl_aload_n (k0 := 0) 0 rfl (by decide +kernel) rfl ?_
  refine gl_iload_n (k0 := 3) 3 rfl (by decide +kernel) rfl ?_
  refine gl_iconst (n := 3) (v := 3) (by decide +kernel) (by decide) ?_
  refine gl_iadd (by decide +kernel) ?_
  obtain ⟨g3, h⟩ := sw_gd_e h
  refine gl_iaload (sw_in_e g3) (by decide +kernel) ?_
  refine gl_aload_n (k0 := 0) 0 rfl (by decide +kernel) rfl ?_
  refine gl_iload_n (k0 := 3) 3 rfl (by decide +kernel) rfl ?_
  refine gl_iconst (n := 4) (v := 4) (by decide +kernel) (by decide) ?_
  refine gl_iadd (by decide +kernel) ?_
  obtain ⟨g4, h⟩ := sw_gd_e h
  refine gl_iaload (sw_in_e g4) (by decide +kernel) ?_
  refine gl_if_eq (off := 7) 1229 (by decide +kernel) (by decide) (fun c5 => ?_) (fun c5 => ?_)
  · rw [if_pos c5] at h
    refine gl_iconst (n := 0) (v := 0) (by decide +kernel) (by decide) ?_
    exact sL_law_L1230 hE σ a3 0 (xs (a3 + 3).toNatClampNeg) (xs (a3 + 2).toNatClampNeg) (xs (a3 + 1).toNatClampNeg) h hk
  · rw [if_neg c5] at h
    refine gl_iconst (n := 1) (v := 1) (by decide +kernel) (by decide) ?_
    refine gl_goto (off := 4) 1230 (by decide +kernel) (by decide) ?_
    exact sL_law_L1230 hE σ a3 1 (xs (a3 + 3).toNatClampNeg) (xs (a3 + 2).toNatClampNeg) (xs (a3 + 1).toNatClampNeg) h hk
set_option maxRecDepth 20000 in
theorem sL_law_L1270 {l : Launch} {E : sw_E} {b L : Nat} {xs : Nat → Int32} (hE : sw_RS l E) (σ : sw_M) (a3 : Int32) {t : (Int32 × sw_M) ⊕ (Int32)} (h : fL_law_L1270 xs L σ a3 = some t) (hk : (Sum.elim (fun s : Int32 × sw_M => sw_Gl l E b L xs 18 [(0, .ref 90), (1, .ref 0), (2, .ref 49), (3, .int s.1)] [] s.2) (fun q => q = 1)) t) : sw_Gl l E b L xs 1270 [(0, .ref 90), (1, .ref 0), (2, .ref 49), (3, .int a3)] [] σ := by
  unfold fL_law_L1270 at h
  refine gl_aload_n (k0 := 1) 1 rfl (by decide +kernel) rfl ?_
  refine gl_aload_n (k0 := 0) 0 rfl (by decide +kernel) rfl ?_
  refine gl_iload_n (k0 := 3) 3 rfl (by decide +kernel) rfl ?_
  refine gl_iconst (n := 1) (v := 1) (by decide +kernel) (by decide) ?_
  refine gl_iadd (by decide +kernel) ?_
  obtain ⟨g1, h⟩ := sw_gd_e h
  refine gl_iaload (sw_in_e g1) (by decide +kernel) ?_
  obtain ⟨r2, m3, w4, h⟩ := sw_b2_e h
  refine gl_callVi (ci := 9) (i := 0) [.int (xs (a3 + 1).toNatClampNeg)] (sX9_untell (K := 200) (by omega) σ (xs (a3 + 1).toNatClampNeg) w4) rfl (by omega) rfl gs_L_188 hy_X9_untell (by decide) (by decide) rfl rfl (Nat.le_of_ble_eq_true rfl) (by decide +kernel) ?_
  refine gl_aload_n (k0 := 2) 2 rfl (by decide +kernel) rfl ?_
  refine gl_aload_n (k0 := 0) 0 rfl (by decide +kernel) rfl ?_
  refine gl_iload_n (k0 := 3) 3 rfl (by decide +kernel) rfl ?_
  refine gl_iconst (n := 1) (v := 1) (by decide +kernel) (by decide) ?_
  refine gl_iadd (by decide +kernel) ?_
  obtain ⟨g5, h⟩ := sw_gd_e h
  refine gl_iaload (sw_in_e g5) (by decide +kernel) ?_
  obtain ⟨r6, m7, w8, h⟩ := sw_b2_e h
  refine gl_callVi (ci := 10) (i := 49) [.int (xs (a3 + 1).toNatClampNeg)] (sX10_untell (K := 200) (by omega) m3 (xs (a3 + 1).toNatClampNeg) w8) rfl (by omega) rfl gs_L_192 hy_X10_untell (by decide) (by decide) rfl rfl (Nat.le_of_ble_eq_true rfl) (by decide +kernel) ?_
  refine gl_icmp_eq (off := 196) 1484 (by decide +kernel) (by decide) (fun c9 => ?_) (fun c9 => ?_)
  · rw [if_pos c9] at h
    exact sL_law_L1484 hE m7 a3 h hk
  · rw [if_neg c9] at h
    refine gl_iconst (n := 0) (v := 0) (by decide +kernel) (by decide) ?_
    cases h
    first | exact absurd (show (0 : Int32) = 1 from hk) (by decide) | skip
    all_goals exact gl_zret (by decide +kernel)
set_option maxRecDepth 20000 in
theorem sL_law_L1293 {l : Launch} {E : sw_E} {b L : Nat} {xs : Nat → Int32} (hE : sw_RS l E) (σ : sw_M) (a3 : Int32) {t : (Int32 × sw_M) ⊕ (Int32)} (h : fL_law_L1293 xs L σ a3 = some t) (hk : (Sum.elim (fun s : Int32 × sw_M => sw_Gl l E b L xs 18 [(0, .ref 90), (1, .ref 0), (2, .ref 49), (3, .int s.1)] [] s.2) (fun q => q = 1)) t) : sw_Gl l E b L xs 1293 [(0, .ref 90), (1, .ref 0), (2, .ref 49), (3, .int a3)] [] σ := by
  unfold fL_law_L1293 at h
  refine gl_aload_n (k0 := 1) 1 rfl (by decide +kernel) rfl ?_
  refine gl_aload_n (k0 := 0) 0 rfl (by decide +kernel) rfl ?_
  refine gl_iload_n (k0 := 3) 3 rfl (by decide +kernel) rfl ?_
  refine gl_iconst (n := 1) (v := 1) (by decide +kernel) (by decide) ?_
  refine gl_iadd (by decide +kernel) ?_
  obtain ⟨g1, h⟩ := sw_gd_e h
  refine gl_iaload (sw_in_e g1) (by decide +kernel) ?_
  obtain ⟨r2, m3, w4, h⟩ := sw_b2_e h
  refine gl_callVi (ci := 9) (i := 0) [.int (xs (a3 + 1).toNatClampNeg)] (sX9_later (K := 200) (by omega) σ (xs (a3 + 1).toNatClampNeg) w4) rfl (by omega) rfl gs_L_193 hy_X9_later (by decide) (by decide) rfl rfl (Nat.le_of_ble_eq_true rfl) (by decide +kernel) ?_
  refine gl_aload_n (k0 := 2) 2 rfl (by decide +kernel) rfl ?_
  refine gl_aload_n (k0 := 0) 0 rfl (by decide +kernel) rfl ?_
  refine gl_iload_n (k0 := 3) 3 rfl (by decide +kernel) rfl ?_
  refine gl_iconst (n := 1) (v := 1) (by decide +kernel) (by decide) ?_
  refine gl_iadd (by decide +kernel) ?_
  obtain ⟨g5, h⟩ := sw_gd_e h
  refine gl_iaload (sw_in_e g5) (by decide +kernel) ?_
  obtain ⟨r6, m7, w8, h⟩ := sw_b2_e h
  refine gl_callVi (ci := 10) (i := 49) [.int (xs (a3 + 1).toNatClampNeg)] (sX10_later (K := 200) (by omega) m3 (xs (a3 + 1).toNatClampNeg) w8) rfl (by omega) rfl gs_L_196 hy_X10_later (by decide) (by decide) rfl rfl (Nat.le_of_ble_eq_true rfl) (by decide +kernel) ?_
  refine gl_icmp_eq (off := 173) 1484 (by decide +kernel) (by decide) (fun c9 => ?_) (fun c9 => ?_)
  · rw [if_pos c9] at h
    exact sL_law_L1484 hE m7 a3 h hk
  · rw [if_neg c9] at h
    refine gl_iconst (n := 0) (v := 0) (by decide +kernel) (by decide) ?_
    cases h
    first | exact absurd (show (0 : Int32) = 1 from hk) (by decide) | skip
    all_goals exact gl_zret (by decide +kernel)
set_option maxRecDepth 20000 in
theorem sL_law_L1316 {l : Launch} {E : sw_E} {b L : Nat} {xs : Nat → Int32} (hE : sw_RS l E) (σ : sw_M) (a3 : Int32) {t : (Int32 × sw_M) ⊕ (Int32)} (h : fL_law_L1316 xs L σ a3 = some t) (hk : (Sum.elim (fun s : Int32 × sw_M => sw_Gl l E b L xs 18 [(0, .ref 90), (1, .ref 0), (2, .ref 49), (3, .int s.1)] [] s.2) (fun q => q = 1)) t) : sw_Gl l E b L xs 1316 [(0, .ref 90), (1, .ref 0), (2, .ref 49), (3, .int a3)] [] σ := by
  unfold fL_law_L1316 at h
  refine gl_aload_n (k0 := 1) 1 rfl (by decide +kernel) rfl ?_
  refine gl_aload_n (k0 := 0) 0 rfl (by decide +kernel) rfl ?_
  refine gl_iload_n (k0 := 3) 3 rfl (by decide +kernel) rfl ?_
  refine gl_iconst (n := 1) (v := 1) (by decide +kernel) (by decide) ?_
  refine gl_iadd (by decide +kernel) ?_
  obtain ⟨g1, h⟩ := sw_gd_e h
  refine gl_iaload (sw_in_e g1) (by decide +kernel) ?_
  obtain ⟨r2, m3, w4, h⟩ := sw_b2_e h
  refine gl_callVi (ci := 9) (i := 0) [.int (xs (a3 + 1).toNatClampNeg)] (sX9_fits (K := 200) (by omega) σ (xs (a3 + 1).toNatClampNeg) w4) rfl (by omega) rfl gs_L_197 hy_X9_fits (by decide) (by decide) rfl rfl (Nat.le_of_ble_eq_true rfl) (by decide +kernel) ?_
  refine gl_aload_n (k0 := 2) 2 rfl (by decide +kernel) rfl ?_
  refine gl_aload_n (k0 := 0) 0 rfl (by decide +kernel) rfl ?_
  refine gl_iload_n (k0 := 3) 3 rfl (by decide +kernel) rfl ?_
  refine gl_iconst (n := 1) (v := 1) (by decide +kernel) (by decide) ?_
  refine gl_iadd (by decide +kernel) ?_
  obtain ⟨g5, h⟩ := sw_gd_e h
  refine gl_iaload (sw_in_e g5) (by decide +kernel) ?_
  obtain ⟨r6, m7, w8, h⟩ := sw_b2_e h
  refine gl_callVi (ci := 10) (i := 49) [.int (xs (a3 + 1).toNatClampNeg)] (sX10_fits (K := 200) (by omega) m3 (xs (a3 + 1).toNatClampNeg) w8) rfl (by omega) rfl gs_L_200 hy_X10_fits (by decide) (by decide) rfl rfl (Nat.le_of_ble_eq_true rfl) (by decide +kernel) ?_
  refine gl_icmp_eq (off := 150) 1484 (by decide +kernel) (by decide) (fun c9 => ?_) (fun c9 => ?_)
  · rw [if_pos c9] at h
    exact sL_law_L1484 hE m7 a3 h hk
  · rw [if_neg c9] at h
    refine gl_iconst (n := 0) (v := 0) (by decide +kernel) (by decide) ?_
    cases h
    first | exact absurd (show (0 : Int32) = 1 from hk) (by decide) | skip
    all_goals exact gl_zret (by decide +kernel)
set_option maxRecDepth 20000 in
theorem sL_law_L1339 {l : Launch} {E : sw_E} {b L : Nat} {xs : Nat → Int32} (hE : sw_RS l E) (σ : sw_M) (a3 : Int32) {t : (Int32 × sw_M) ⊕ (Int32)} (h : fL_law_L1339 xs L σ a3 = some t) (hk : (Sum.elim (fun s : Int32 × sw_M => sw_Gl l E b L xs 18 [(0, .ref 90), (1, .ref 0), (2, .ref 49), (3, .int s.1)] [] s.2) (fun q => q = 1)) t) : sw_Gl l E b L xs 1339 [(0, .ref 90), (1, .ref 0), (2, .ref 49), (3, .int a3)] [] σ := by
  unfold fL_law_L1339 at h
  refine gl_aload_n (k0 := 1) 1 rfl (by decide +kernel) rfl ?_
  refine gl_aload_n (k0 := 0) 0 rfl (by decide +kernel) rfl ?_
  refine gl_iload_n (k0 := 3) 3 rfl (by decide +kernel) rfl ?_
  refine gl_iconst (n := 1) (v := 1) (by decide +kernel) (by decide) ?_
  refine gl_iadd (by decide +kernel) ?_
  obtain ⟨g1, h⟩ := sw_gd_e h
  refine gl_iaload (sw_in_e g1) (by decide +kernel) ?_
  refine gl_aload_n (k0 := 0) 0 rfl (by decide +kernel) rfl ?_
  refine gl_iload_n (k0 := 3) 3 rfl (by decide +kernel) rfl ?_
  refine gl_iconst (n := 2) (v := 2) (by decide +kernel) (by decide) ?_
  refine gl_iadd (by decide +kernel) ?_
  obtain ⟨g2, h⟩ := sw_gd_e h
  refine gl_iaload (sw_in_e g2) (by decide +kernel) ?_
  obtain ⟨r3, m4, w5, h⟩ := sw_b2_e h
  refine gl_callVi (ci := 9) (i := 0) [.int (xs (a3 + 1).toNatClampNeg), .int (xs (a3 + 2).toNatClampNeg)] (sX9_sure (K := 200) (by omega) σ (xs (a3 + 1).toNatClampNeg) (xs (a3 + 2).toNatClampNeg) w5) rfl (by omega) rfl gs_L_201 hy_X9_sure (by decide) (by decide) rfl rfl (Nat.le_of_ble_eq_true rfl) (by decide +kernel) ?_
  refine gl_aload_n (k0 := 2) 2 rfl (by decide +kernel) rfl ?_
  refine gl_aload_n (k0 := 0) 0 rfl (by decide +kernel) rfl ?_
  refine gl_iload_n (k0 := 3) 3 rfl (by decide +kernel) rfl ?_
  refine gl_iconst (n := 1) (v := 1) (by decide +kernel) (by decide) ?_
  refine gl_iadd (by decide +kernel) ?_
  obtain ⟨g6, h⟩ := sw_gd_e h
  refine gl_iaload (sw_in_e g6) (by decide +kernel) ?_
  refine gl_aload_n (k0 := 0) 0 rfl (by decide +kernel) rfl ?_
  refine gl_iload_n (k0 := 3) 3 rfl (by decide +kernel) rfl ?_
  refine gl_iconst (n := 2) (v := 2) (by decide +kernel) (by decide) ?_
  refine gl_iadd (by decide +kernel) ?_
  obtain ⟨g7, h⟩ := sw_gd_e h
  refine gl_iaload (sw_in_e g7) (by decide +kernel) ?_
  obtain ⟨r8, m9, w10, h⟩ := sw_b2_e h
  refine gl_callVi (ci := 10) (i := 49) [.int (xs (a3 + 1).toNatClampNeg), .int (xs (a3 + 2).toNatClampNeg)] (sX10_sure (K := 200) (by omega) m4 (xs (a3 + 1).toNatClampNeg) (xs (a3 + 2).toNatClampNeg) w10) rfl (by omega) rfl gs_L_204 hy_X10_sure (by decide) (by decide) rfl rfl (Nat.le_of_ble_eq_true rfl) (by decide +kernel) ?_
  refine gl_icmp_eq (off := 117) 1484 (by decide +kernel) (by decide) (fun c11 => ?_) (fun c11 => ?_)
  · rw [if_pos c11] at h
    exact sL_law_L1484 hE m9 a3 h hk
  · rw [if_neg c11] at h
    refine gl_iconst (n := 0) (v := 0) (by decide +kernel) (by decide) ?_
    cases h
    first | exact absurd (show (0 : Int32) = 1 from hk) (by decide) | skip
    all_goals exact gl_zret (by decide +kernel)
set_option maxRecDepth 20000 in
theorem sL_law_L1372 {l : Launch} {E : sw_E} {b L : Nat} {xs : Nat → Int32} (hE : sw_RS l E) (σ : sw_M) (a3 : Int32) {t : (Int32 × sw_M) ⊕ (Int32)} (h : fL_law_L1372 xs L σ a3 = some t) (hk : (Sum.elim (fun s : Int32 × sw_M => sw_Gl l E b L xs 18 [(0, .ref 90), (1, .ref 0), (2, .ref 49), (3, .int s.1)] [] s.2) (fun q => q = 1)) t) : sw_Gl l E b L xs 1372 [(0, .ref 90), (1, .ref 0), (2, .ref 49), (3, .int a3)] [] σ := by
  unfold fL_law_L1372 at h
  refine gl_aload_n (k0 := 1) 1 rfl (by decide +kernel) rfl ?_
  refine gl_aload_n (k0 := 0) 0 rfl (by decide +kernel) rfl ?_
  refine gl_iload_n (k0 := 3) 3 rfl (by decide +kernel) rfl ?_
  refine gl_iconst (n := 1) (v := 1) (by decide +kernel) (by decide) ?_
  refine gl_iadd (by decide +kernel) ?_
  obtain ⟨g1, h⟩ := sw_gd_e h
  refine gl_iaload (sw_in_e g1) (by decide +kernel) ?_
  refine gl_aload_n (k0 := 0) 0 rfl (by decide +kernel) rfl ?_
  refine gl_iload_n (k0 := 3) 3 rfl (by decide +kernel) rfl ?_
  refine gl_iconst (n := 2) (v := 2) (by decide +kernel) (by decide) ?_
  refine gl_iadd (by decide +kernel) ?_
  obtain ⟨g2, h⟩ := sw_gd_e h
  refine gl_iaload (sw_in_e g2) (by decide +kernel) ?_
  refine gl_aload_n (k0 := 0) 0 rfl (by decide +kernel) rfl ?_
  refine gl_iload_n (k0 := 3) 3 rfl (by decide +kernel) rfl ?_
  refine gl_iconst (n := 3) (v := 3) (by decide +kernel) (by decide) ?_
  refine gl_iadd (by decide +kernel) ?_
  obtain ⟨g3, h⟩ := sw_gd_e h
  refine gl_iaload (sw_in_e g3) (by decide +kernel) ?_
  obtain ⟨r4, m5, w6, h⟩ := sw_b2_e h
  refine gl_callVi (ci := 9) (i := 0) [.int (xs (a3 + 1).toNatClampNeg), .int (xs (a3 + 2).toNatClampNeg), .int (xs (a3 + 3).toNatClampNeg)] (sX9_ask (K := 200) (by omega) σ (xs (a3 + 1).toNatClampNeg) (xs (a3 + 2).toNatClampNeg) (xs (a3 + 3).toNatClampNeg) w6) rfl (by omega) rfl gs_L_205 hy_X9_ask (by decide) (by decide) rfl rfl (Nat.le_of_ble_eq_true rfl) (by decide +kernel) ?_
  refine gl_aload_n (k0 := 2) 2 rfl (by decide +kernel) rfl ?_
  refine gl_aload_n (k0 := 0) 0 rfl (by decide +kernel) rfl ?_
  refine gl_iload_n (k0 := 3) 3 rfl (by decide +kernel) rfl ?_
  refine gl_iconst (n := 1) (v := 1) (by decide +kernel) (by decide) ?_
  refine gl_iadd (by decide +kernel) ?_
  obtain ⟨g7, h⟩ := sw_gd_e h
  refine gl_iaload (sw_in_e g7) (by decide +kernel) ?_
  refine gl_aload_n (k0 := 0) 0 rfl (by decide +kernel) rfl ?_
  refine gl_iload_n (k0 := 3) 3 rfl (by decide +kernel) rfl ?_
  refine gl_iconst (n := 2) (v := 2) (by decide +kernel) (by decide) ?_
  refine gl_iadd (by decide +kernel) ?_
  obtain ⟨g8, h⟩ := sw_gd_e h
  refine gl_iaload (sw_in_e g8) (by decide +kernel) ?_
  refine gl_aload_n (k0 := 0) 0 rfl (by decide +kernel) rfl ?_
  refine gl_iload_n (k0 := 3) 3 rfl (by decide +kernel) rfl ?_
  refine gl_iconst (n := 3) (v := 3) (by decide +kernel) (by decide) ?_
  refine gl_iadd (by decide +kernel) ?_
  obtain ⟨g9, h⟩ := sw_gd_e h
  refine gl_iaload (sw_in_e g9) (by decide +kernel) ?_
  obtain ⟨r10, m11, w12, h⟩ := sw_b2_e h
  refine gl_callVi (ci := 10) (i := 49) [.int (xs (a3 + 1).toNatClampNeg), .int (xs (a3 + 2).toNatClampNeg), .int (xs (a3 + 3).toNatClampNeg)] (sX10_ask (K := 200) (by omega) m5 (xs (a3 + 1).toNatClampNeg) (xs (a3 + 2).toNatClampNeg) (xs (a3 + 3).toNatClampNeg) w12) rfl (by omega) rfl gs_L_208 hy_X10_ask (by decide) (by decide) rfl rfl (Nat.le_of_ble_eq_true rfl) (by decide +kernel) ?_
  refine gl_icmp_eq (off := 74) 1484 (by decide +kernel) (by decide) (fun c13 => ?_) (fun c13 => ?_)
  · rw [if_pos c13] at h
    exact sL_law_L1484 hE m11 a3 h hk
  · rw [if_neg c13] at h
    refine gl_iconst (n := 0) (v := 0) (by decide +kernel) (by decide) ?_
    cases h
    first | exact absurd (show (0 : Int32) = 1 from hk) (by decide) | skip
    all_goals exact gl_zret (by decide +kernel)
set_option maxRecDepth 20000 in
theorem sL_law_L1415 {l : Launch} {E : sw_E} {b L : Nat} {xs : Nat → Int32} (hE : sw_RS l E) (σ : sw_M) (a3 : Int32) {t : (Int32 × sw_M) ⊕ (Int32)} (h : fL_law_L1415 xs L σ a3 = some t) (hk : (Sum.elim (fun s : Int32 × sw_M => sw_Gl l E b L xs 18 [(0, .ref 90), (1, .ref 0), (2, .ref 49), (3, .int s.1)] [] s.2) (fun q => q = 1)) t) : sw_Gl l E b L xs 1415 [(0, .ref 90), (1, .ref 0), (2, .ref 49), (3, .int a3)] [] σ := by
  unfold fL_law_L1415 at h
  refine gl_aload_n (k0 := 1) 1 rfl (by decide +kernel) rfl ?_
  refine gl_aload_n (k0 := 0) 0 rfl (by decide +kernel) rfl ?_
  refine gl_iload_n (k0 := 3) 3 rfl (by decide +kernel) rfl ?_
  refine gl_iconst (n := 1) (v := 1) (by decide +kernel) (by decide) ?_
  refine gl_iadd (by decide +kernel) ?_
  obtain ⟨g1, h⟩ := sw_gd_e h
  refine gl_iaload (sw_in_e g1) (by decide +kernel) ?_
  obtain ⟨r2, m3, w4, h⟩ := sw_b2_e h
  refine gl_callVi (ci := 9) (i := 0) [.int (xs (a3 + 1).toNatClampNeg)] (sX9_image (K := 200) (by omega) σ (xs (a3 + 1).toNatClampNeg) w4) rfl (by omega) rfl gs_L_209 hy_X9_image (by decide) (by decide) rfl rfl (Nat.le_of_ble_eq_true rfl) (by decide +kernel) ?_
  refine gl_aload_n (k0 := 2) 2 rfl (by decide +kernel) rfl ?_
  refine gl_aload_n (k0 := 0) 0 rfl (by decide +kernel) rfl ?_
  refine gl_iload_n (k0 := 3) 3 rfl (by decide +kernel) rfl ?_
  refine gl_iconst (n := 1) (v := 1) (by decide +kernel) (by decide) ?_
  refine gl_iadd (by decide +kernel) ?_
  obtain ⟨g5, h⟩ := sw_gd_e h
  refine gl_iaload (sw_in_e g5) (by decide +kernel) ?_
  obtain ⟨r6, m7, w8, h⟩ := sw_b2_e h
  refine gl_callVi (ci := 10) (i := 49) [.int (xs (a3 + 1).toNatClampNeg)] (sX10_image (K := 200) (by omega) m3 (xs (a3 + 1).toNatClampNeg) w8) rfl (by omega) rfl gs_L_212 hy_X10_image (by decide) (by decide) rfl rfl (Nat.le_of_ble_eq_true rfl) (by decide +kernel) ?_
  refine gl_icmp_eq (off := 51) 1484 (by decide +kernel) (by decide) (fun c9 => ?_) (fun c9 => ?_)
  · rw [if_pos c9] at h
    exact sL_law_L1484 hE m7 a3 h hk
  · rw [if_neg c9] at h
    refine gl_iconst (n := 0) (v := 0) (by decide +kernel) (by decide) ?_
    cases h
    first | exact absurd (show (0 : Int32) = 1 from hk) (by decide) | skip
    all_goals exact gl_zret (by decide +kernel)
set_option maxRecDepth 20000 in
theorem sL_law_L1438 {l : Launch} {E : sw_E} {b L : Nat} {xs : Nat → Int32} (hE : sw_RS l E) (σ : sw_M) (a3 : Int32) {t : (Int32 × sw_M) ⊕ (Int32)} (h : fL_law_L1438 xs L σ a3 = some t) (hk : (Sum.elim (fun s : Int32 × sw_M => sw_Gl l E b L xs 18 [(0, .ref 90), (1, .ref 0), (2, .ref 49), (3, .int s.1)] [] s.2) (fun q => q = 1)) t) : sw_Gl l E b L xs 1438 [(0, .ref 90), (1, .ref 0), (2, .ref 49), (3, .int a3)] [] σ := by
  unfold fL_law_L1438 at h
  refine gl_aload_n (k0 := 1) 1 rfl (by decide +kernel) rfl ?_
  refine gl_aload_n (k0 := 0) 0 rfl (by decide +kernel) rfl ?_
  refine gl_iload_n (k0 := 3) 3 rfl (by decide +kernel) rfl ?_
  refine gl_iconst (n := 1) (v := 1) (by decide +kernel) (by decide) ?_
  refine gl_iadd (by decide +kernel) ?_
  obtain ⟨g1, h⟩ := sw_gd_e h
  refine gl_iaload (sw_in_e g1) (by decide +kernel) ?_
  obtain ⟨r2, m3, w4, h⟩ := sw_b2_e h
  refine gl_callVi (ci := 9) (i := 0) [.int (xs (a3 + 1).toNatClampNeg)] (sX9_back (K := 200) (by omega) σ (xs (a3 + 1).toNatClampNeg) w4) rfl (by omega) rfl gs_L_213 hy_X9_back (by decide) (by decide) rfl rfl (Nat.le_of_ble_eq_true rfl) (by decide +kernel) ?_
  refine gl_aload_n (k0 := 2) 2 rfl (by decide +kernel) rfl ?_
  refine gl_aload_n (k0 := 0) 0 rfl (by decide +kernel) rfl ?_
  refine gl_iload_n (k0 := 3) 3 rfl (by decide +kernel) rfl ?_
  refine gl_iconst (n := 1) (v := 1) (by decide +kernel) (by decide) ?_
  refine gl_iadd (by decide +kernel) ?_
  obtain ⟨g5, h⟩ := sw_gd_e h
  refine gl_iaload (sw_in_e g5) (by decide +kernel) ?_
  obtain ⟨r6, m7, w8, h⟩ := sw_b2_e h
  refine gl_callVi (ci := 10) (i := 49) [.int (xs (a3 + 1).toNatClampNeg)] (sX10_back (K := 200) (by omega) m3 (xs (a3 + 1).toNatClampNeg) w8) rfl (by omega) rfl gs_L_216 hy_X10_back (by decide) (by decide) rfl rfl (Nat.le_of_ble_eq_true rfl) (by decide +kernel) ?_
  refine gl_icmp_eq (off := 28) 1484 (by decide +kernel) (by decide) (fun c9 => ?_) (fun c9 => ?_)
  · rw [if_pos c9] at h
    exact sL_law_L1484 hE m7 a3 h hk
  · rw [if_neg c9] at h
    refine gl_iconst (n := 0) (v := 0) (by decide +kernel) (by decide) ?_
    cases h
    first | exact absurd (show (0 : Int32) = 1 from hk) (by decide) | skip
    all_goals exact gl_zret (by decide +kernel)
set_option maxRecDepth 20000 in
theorem sL_law_L1461 {l : Launch} {E : sw_E} {b L : Nat} {xs : Nat → Int32} (hE : sw_RS l E) (σ : sw_M) (a3 : Int32) {t : (Int32 × sw_M) ⊕ (Int32)} (h : fL_law_L1461 xs L σ a3 = some t) (hk : (Sum.elim (fun s : Int32 × sw_M => sw_Gl l E b L xs 18 [(0, .ref 90), (1, .ref 0), (2, .ref 49), (3, .int s.1)] [] s.2) (fun q => q = 1)) t) : sw_Gl l E b L xs 1461 [(0, .ref 90), (1, .ref 0), (2, .ref 49), (3, .int a3)] [] σ := by
  unfold fL_law_L1461 at h
  refine gl_aload_n (k0 := 1) 1 rfl (by decide +kernel) rfl ?_
  refine gl_aload_n (k0 := 0) 0 rfl (by decide +kernel) rfl ?_
  refine gl_iload_n (k0 := 3) 3 rfl (by decide +kernel) rfl ?_
  refine gl_iconst (n := 1) (v := 1) (by decide +kernel) (by decide) ?_
  refine gl_iadd (by decide +kernel) ?_
  obtain ⟨g1, h⟩ := sw_gd_e h
  refine gl_iaload (sw_in_e g1) (by decide +kernel) ?_
  refine gl_callVi (ci := 9) (i := 0) [.int (xs (a3 + 1).toNatClampNeg)] (sX9_about (K := 200) (by omega) σ (xs (a3 + 1).toNatClampNeg) rfl) rfl (by omega) rfl gs_L_217 hy_X9_about (by decide) (by decide) rfl rfl (Nat.le_of_ble_eq_true rfl) (by decide +kernel) ?_
  refine gl_aload_n (k0 := 2) 2 rfl (by decide +kernel) rfl ?_
  refine gl_aload_n (k0 := 0) 0 rfl (by decide +kernel) rfl ?_
  refine gl_iload_n (k0 := 3) 3 rfl (by decide +kernel) rfl ?_
  refine gl_iconst (n := 1) (v := 1) (by decide +kernel) (by decide) ?_
  refine gl_iadd (by decide +kernel) ?_
  obtain ⟨g2, h⟩ := sw_gd_e h
  refine gl_iaload (sw_in_e g2) (by decide +kernel) ?_
  refine gl_callVi (ci := 10) (i := 49) [.int (xs (a3 + 1).toNatClampNeg)] (sX10_about (K := 200) (by omega) σ (xs (a3 + 1).toNatClampNeg) rfl) rfl (by omega) rfl gs_L_220 hy_X10_about (by decide) (by decide) rfl rfl (Nat.le_of_ble_eq_true rfl) (by decide +kernel) ?_
  refine gl_icmp_eq (off := 5) 1484 (by decide +kernel) (by decide) (fun c3 => ?_) (fun c3 => ?_)
  · rw [if_pos c3] at h
    exact sL_law_L1484 hE σ a3 h hk
  · rw [if_neg c3] at h
    refine gl_iconst (n := 0) (v := 0) (by decide +kernel) (by decide) ?_
    cases h
    first | exact absurd (show (0 : Int32) = 1 from hk) (by decide) | skip
    all_goals exact gl_zret (by decide +kernel)
set_option maxRecDepth 20000 in
theorem sL_law_L18 {l : Launch} {E : sw_E} {b L : Nat} {xs : Nat → Int32} (hE : sw_RS l E) (σ : sw_M) (a3 : Int32) {t : (Int32 × sw_M) ⊕ (Int32)} (h : fL_law_L18 xs L σ a3 = some t) (hk : (Sum.elim (fun s : Int32 × sw_M => sw_Gl l E b L xs 18 [(0, .ref 90), (1, .ref 0), (2, .ref 49), (3, .int s.1)] [] s.2) (fun q => q = 1)) t) : sw_Gl l E b L xs 18 [(0, .ref 90), (1, .ref 0), (2, .ref 49), (3, .int a3)] [] σ := by
  unfold fL_law_L18 at h
  refine gl_iload_n (k0 := 3) 3 rfl (by decide +kernel) rfl ?_
  refine gl_aload_n (k0 := 0) 0 rfl (by decide +kernel) rfl ?_
  refine gl_alen (by decide +kernel) ?_
  refine gl_bipush (n := 6) (v := 6) (by decide +kernel) (by decide) ?_
  refine gl_isub (by decide +kernel) ?_
  refine gl_icmp_gt (off := 1466) 1490 (by decide +kernel) (by decide) (fun c1 => ?_) (fun c1 => ?_)
  · rw [if_pos c1] at h
    refine gl_iconst (n := 1) (v := 1) (by decide +kernel) (by decide) ?_
    cases h
    first | exact absurd (show (0 : Int32) = 1 from hk) (by decide) | skip
    all_goals exact gl_zret (by decide +kernel)
  · rw [if_neg c1] at h
    refine gl_aload_n (k0 := 0) 0 rfl (by decide +kernel) rfl ?_
    refine gl_iload_n (k0 := 3) 3 rfl (by decide +kernel) rfl ?_
    obtain ⟨g2, h⟩ := sw_gd_e h
    refine gl_iaload (sw_in_e g2) (by decide +kernel) ?_
    refine gl_bipush (n := 63) (v := 63) (by decide +kernel) (by decide) ?_
    refine gl_iand (by decide +kernel) ?_
    obtain ⟨v3, e4, h⟩ := sw_let_e h
    refine gl_topi e4 ?_
    by_cases c5 : v3 = 0
    · rw [if_pos c5] at h
      refine gl_tabIn  (off := 215) 248 dL33 (by rw [c5]; decide) (by rw [c5]; decide) (by rw [c5]; decide) (by decide) ?_
      exact sL_law_L248 hE σ a3 h hk
    · rw [if_neg c5] at h
      by_cases c6 : v3 = 1
      · rw [if_pos c6] at h
        refine gl_tabIn  (off := 278) 311 dL33 (by rw [c6]; decide) (by rw [c6]; decide) (by rw [c6]; decide) (by decide) ?_
        exact sL_law_L311 hE σ a3 h hk
      · rw [if_neg c6] at h
        by_cases c7 : v3 = 2
        · rw [if_pos c7] at h
          refine gl_tabIn  (off := 301) 334 dL33 (by rw [c7]; decide) (by rw [c7]; decide) (by rw [c7]; decide) (by decide) ?_
          exact sL_law_L334 hE σ a3 h hk
        · rw [if_neg c7] at h
          by_cases c8 : v3 = 3
          · rw [if_pos c8] at h
            refine gl_tabIn  (off := 314) 347 dL33 (by rw [c8]; decide) (by rw [c8]; decide) (by rw [c8]; decide) (by decide) ?_
            exact sL_law_L347 hE σ a3 h hk
          · rw [if_neg c8] at h
            by_cases c9 : v3 = 4
            · rw [if_pos c9] at h
              refine gl_tabIn  (off := 337) 370 dL33 (by rw [c9]; decide) (by rw [c9]; decide) (by rw [c9]; decide) (by decide) ?_
              exact sL_law_L370 hE σ a3 h hk
            · rw [if_neg c9] at h
              by_cases c10 : v3 = 5
              · rw [if_pos c10] at h
                refine gl_tabIn  (off := 360) 393 dL33 (by rw [c10]; decide) (by rw [c10]; decide) (by rw [c10]; decide) (by decide) ?_
                exact sL_law_L393 hE σ a3 h hk
              · rw [if_neg c10] at h
                by_cases c11 : v3 = 6
                · rw [if_pos c11] at h
                  refine gl_tabIn  (off := 393) 426 dL33 (by rw [c11]; decide) (by rw [c11]; decide) (by rw [c11]; decide) (by decide) ?_
                  exact sL_law_L426 hE σ a3 h hk
                · rw [if_neg c11] at h
                  by_cases c12 : v3 = 7
                  · rw [if_pos c12] at h
                    refine gl_tabIn  (off := 426) 459 dL33 (by rw [c12]; decide) (by rw [c12]; decide) (by rw [c12]; decide) (by decide) ?_
                    exact sL_law_L459 hE σ a3 h hk
                  · rw [if_neg c12] at h
                    by_cases c13 : v3 = 8
                    · rw [if_pos c13] at h
                      refine gl_tabIn  (off := 459) 492 dL33 (by rw [c13]; decide) (by rw [c13]; decide) (by rw [c13]; decide) (by decide) ?_
                      exact sL_law_L492 hE σ a3 h hk
                    · rw [if_neg c13] at h
                      by_cases c14 : v3 = 9
                      · rw [if_pos c14] at h
                        refine gl_tabIn  (off := 482) 515 dL33 (by rw [c14]; decide) (by rw [c14]; decide) (by rw [c14]; decide) (by decide) ?_
                        exact sL_law_L515 hE σ a3 h hk
                      · rw [if_neg c14] at h
                        by_cases c15 : v3 = 10
                        · rw [if_pos c15] at h
                          refine gl_tabIn  (off := 495) 528 dL33 (by rw [c15]; decide) (by rw [c15]; decide) (by rw [c15]; decide) (by decide) ?_
                          exact sL_law_L528 hE σ a3 h hk
                        · rw [if_neg c15] at h
                          by_cases c16 : v3 = 11
                          · rw [if_pos c16] at h
                            refine gl_tabIn  (off := 518) 551 dL33 (by rw [c16]; decide) (by rw [c16]; decide) (by rw [c16]; decide) (by decide) ?_
                            exact sL_law_L551 hE σ a3 h hk
                          · rw [if_neg c16] at h
                            by_cases c17 : v3 = 12
                            · rw [if_pos c17] at h
                              refine gl_tabIn  (off := 541) 574 dL33 (by rw [c17]; decide) (by rw [c17]; decide) (by rw [c17]; decide) (by decide) ?_
                              exact sL_law_L574 hE σ a3 h hk
                            · rw [if_neg c17] at h
                              by_cases c18 : v3 = 13
                              · rw [if_pos c18] at h
                                refine gl_tabIn  (off := 554) 587 dL33 (by rw [c18]; decide) (by rw [c18]; decide) (by rw [c18]; decide) (by decide) ?_
                                exact sL_law_L587 hE σ a3 h hk
                              · rw [if_neg c18] at h
                                by_cases c19 : v3 = 14
                                · rw [if_pos c19] at h
                                  refine gl_tabIn  (off := 567) 600 dL33 (by rw [c19]; decide) (by rw [c19]; decide) (by rw [c19]; decide) (by decide) ?_
                                  exact sL_law_L600 hE σ a3 h hk
                                · rw [if_neg c19] at h
                                  by_cases c20 : v3 = 15
                                  · rw [if_pos c20] at h
                                    refine gl_tabIn  (off := 610) 643 dL33 (by rw [c20]; decide) (by rw [c20]; decide) (by rw [c20]; decide) (by decide) ?_
                                    exact sL_law_L643 hE σ a3 h hk
                                  · rw [if_neg c20] at h
                                    by_cases c21 : v3 = 16
                                    · rw [if_pos c21] at h
                                      refine gl_tabIn  (off := 623) 656 dL33 (by rw [c21]; decide) (by rw [c21]; decide) (by rw [c21]; decide) (by decide) ?_
                                      exact sL_law_L656 hE σ a3 h hk
                                    · rw [if_neg c21] at h
                                      by_cases c22 : v3 = 17
                                      · rw [if_pos c22] at h
                                        refine gl_tabIn  (off := 646) 679 dL33 (by rw [c22]; decide) (by rw [c22]; decide) (by rw [c22]; decide) (by decide) ?_
                                        exact sL_law_L679 hE σ a3 h hk
                                      · rw [if_neg c22] at h
                                        by_cases c23 : v3 = 18
                                        · rw [if_pos c23] at h
                                          refine gl_tabIn  (off := 679) 712 dL33 (by rw [c23]; decide) (by rw [c23]; decide) (by rw [c23]; decide) (by decide) ?_
                                          exact sL_law_L712 hE σ a3 h hk
                                        · rw [if_neg c23] at h
                                          by_cases c24 : v3 = 19
                                          · rw [if_pos c24] at h
                                            refine gl_tabIn  (off := 702) 735 dL33 (by rw [c24]; decide) (by rw [c24]; decide) (by rw [c24]; decide) (by decide) ?_
                                            exact sL_law_L735 hE σ a3 h hk
                                          · rw [if_neg c24] at h
                                            by_cases c25 : v3 = 20
                                            · rw [if_pos c25] at h
                                              refine gl_tabIn  (off := 725) 758 dL33 (by rw [c25]; decide) (by rw [c25]; decide) (by rw [c25]; decide) (by decide) ?_
                                              exact sL_law_L758 hE σ a3 h hk
                                            · rw [if_neg c25] at h
                                              by_cases c26 : v3 = 21
                                              · rw [if_pos c26] at h
                                                refine gl_tabIn  (off := 758) 791 dL33 (by rw [c26]; decide) (by rw [c26]; decide) (by rw [c26]; decide) (by decide) ?_
                                                exact sL_law_L791 hE σ a3 h hk
                                              · rw [if_neg c26] at h
                                                by_cases c27 : v3 = 22
                                                · rw [if_pos c27] at h
                                                  refine gl_tabIn  (off := 781) 814 dL33 (by rw [c27]; decide) (by rw [c27]; decide) (by rw [c27]; decide) (by decide) ?_
                                                  exact sL_law_L814 hE σ a3 h hk
                                                · rw [if_neg c27] at h
                                                  by_cases c28 : v3 = 23
                                                  · rw [if_pos c28] at h
                                                    refine gl_tabIn  (off := 804) 837 dL33 (by rw [c28]; decide) (by rw [c28]; decide) (by rw [c28]; decide) (by decide) ?_
                                                    exact sL_law_L837 hE σ a3 h hk
                                                  · rw [if_neg c28] at h
                                                    by_cases c29 : v3 = 24
                                                    · rw [if_pos c29] at h
                                                      refine gl_tabIn  (off := 817) 850 dL33 (by rw [c29]; decide) (by rw [c29]; decide) (by rw [c29]; decide) (by decide) ?_
                                                      exact sL_law_L850 hE σ a3 h hk
                                                    · rw [if_neg c29] at h
                                                      by_cases c30 : v3 = 25
                                                      · rw [if_pos c30] at h
                                                        refine gl_tabIn  (off := 840) 873 dL33 (by rw [c30]; decide) (by rw [c30]; decide) (by rw [c30]; decide) (by decide) ?_
                                                        exact sL_law_L873 hE σ a3 h hk
                                                      · rw [if_neg c30] at h
                                                        by_cases c31 : v3 = 26
                                                        · rw [if_pos c31] at h
                                                          refine gl_tabIn  (off := 863) 896 dL33 (by rw [c31]; decide) (by rw [c31]; decide) (by rw [c31]; decide) (by decide) ?_
                                                          exact sL_law_L896 hE σ a3 h hk
                                                        · rw [if_neg c31] at h
                                                          by_cases c32 : v3 = 27
                                                          · rw [if_pos c32] at h
                                                            refine gl_tabIn  (off := 896) 929 dL33 (by rw [c32]; decide) (by rw [c32]; decide) (by rw [c32]; decide) (by decide) ?_
                                                            exact sL_law_L929 hE σ a3 h hk
                                                          · rw [if_neg c32] at h
                                                            by_cases c33 : v3 = 28
                                                            · rw [if_pos c33] at h
                                                              refine gl_tabIn  (off := 929) 962 dL33 (by rw [c33]; decide) (by rw [c33]; decide) (by rw [c33]; decide) (by decide) ?_
                                                              exact sL_law_L962 hE σ a3 h hk
                                                            · rw [if_neg c33] at h
                                                              by_cases c34 : v3 = 29
                                                              · rw [if_pos c34] at h
                                                                refine gl_tabIn  (off := 942) 975 dL33 (by rw [c34]; decide) (by rw [c34]; decide) (by rw [c34]; decide) (by decide) ?_
                                                                exact sL_law_L975 hE σ a3 h hk
                                                              · rw [if_neg c34] at h
                                                                by_cases c35 : v3 = 30
                                                                · rw [if_pos c35] at h
                                                                  refine gl_tabIn  (off := 965) 998 dL33 (by rw [c35]; decide) (by rw [c35]; decide) (by rw [c35]; decide) (by decide) ?_
                                                                  exact sL_law_L998 hE σ a3 h hk
                                                                · rw [if_neg c35] at h
                                                                  by_cases c36 : v3 = 31
                                                                  · rw [if_pos c36] at h
                                                                    refine gl_tabIn  (off := 988) 1021 dL33 (by rw [c36]; decide) (by rw [c36]; decide) (by rw [c36]; decide) (by decide) ?_
                                                                    exact sL_law_L1021 hE σ a3 h hk
                                                                  · rw [if_neg c36] at h
                                                                    by_cases c37 : v3 = 32
                                                                    · rw [if_pos c37] at h
                                                                      refine gl_tabIn  (off := 1001) 1034 dL33 (by rw [c37]; decide) (by rw [c37]; decide) (by rw [c37]; decide) (by decide) ?_
                                                                      exact sL_law_L1034 hE σ a3 h hk
                                                                    · rw [if_neg c37] at h
                                                                      by_cases c38 : v3 = 33
                                                                      · rw [if_pos c38] at h
                                                                        refine gl_tabIn  (off := 1014) 1047 dL33 (by rw [c38]; decide) (by rw [c38]; decide) (by rw [c38]; decide) (by decide) ?_
                                                                        exact sL_law_L1047 hE σ a3 h hk
                                                                      · rw [if_neg c38] at h
                                                                        by_cases c39 : v3 = 34
                                                                        · rw [if_pos c39] at h
                                                                          refine gl_tabIn  (off := 1027) 1060 dL33 (by rw [c39]; decide) (by rw [c39]; decide) (by rw [c39]; decide) (by decide) ?_
                                                                          exact sL_law_L1060 hE σ a3 h hk
                                                                        · rw [if_neg c39] at h
                                                                          by_cases c40 : v3 = 35
                                                                          · rw [if_pos c40] at h
                                                                            refine gl_tabIn  (off := 1040) 1073 dL33 (by rw [c40]; decide) (by rw [c40]; decide) (by rw [c40]; decide) (by decide) ?_
                                                                            exact sL_law_L1073 hE σ a3 h hk
                                                                          · rw [if_neg c40] at h
                                                                            by_cases c41 : v3 = 36
                                                                            · rw [if_pos c41] at h
                                                                              refine gl_tabIn  (off := 1063) 1096 dL33 (by rw [c41]; decide) (by rw [c41]; decide) (by rw [c41]; decide) (by decide) ?_
                                                                              exact sL_law_L1096 hE σ a3 h hk
                                                                            · rw [if_neg c41] at h
                                                                              by_cases c42 : v3 = 37
                                                                              · rw [if_pos c42] at h
                                                                                refine gl_tabIn  (off := 1076) 1109 dL33 (by rw [c42]; decide) (by rw [c42]; decide) (by rw [c42]; decide) (by decide) ?_
                                                                                exact sL_law_L1109 hE σ a3 h hk
                                                                              · rw [if_neg c42] at h
                                                                                by_cases c43 : v3 = 38
                                                                                · rw [if_pos c43] at h
                                                                                  refine gl_tabIn  (off := 1099) 1132 dL33 (by rw [c43]; decide) (by rw [c43]; decide) (by rw [c43]; decide) (by decide) ?_
                                                                                  exact sL_law_L1132 hE σ a3 h hk
                                                                                · rw [if_neg c43] at h
                                                                                  by_cases c44 : v3 = 39
                                                                                  · rw [if_pos c44] at h
                                                                                    refine gl_tabIn  (off := 1112) 1145 dL33 (by rw [c44]; decide) (by rw [c44]; decide) (by rw [c44]; decide) (by decide) ?_
                                                                                    exact sL_law_L1145 hE σ a3 h hk
                                                                                  · rw [if_neg c44] at h
                                                                                    by_cases c45 : v3 = 40
                                                                                    · rw [if_pos c45] at h
                                                                                      refine gl_tabIn  (off := 1145) 1178 dL33 (by rw [c45]; decide) (by rw [c45]; decide) (by rw [c45]; decide) (by decide) ?_
                                                                                      exact sL_law_L1178 hE σ a3 h hk
                                                                                    · rw [if_neg c45] at h
                                                                                      by_cases c46 : v3 = 41
                                                                                      · rw [if_pos c46] at h
                                                                                        refine gl_tabIn  (off := 1168) 1201 dL33 (by rw [c46]; decide) (by rw [c46]; decide) (by rw [c46]; decide) (by decide) ?_
                                                                                        exact sL_law_L1201 hE σ a3 h hk
                                                                                      · rw [if_neg c46] at h
                                                                                        by_cases c47 : v3 = 42
                                                                                        · rw [if_pos c47] at h
                                                                                          refine gl_tabIn  (off := 1237) 1270 dL33 (by rw [c47]; decide) (by rw [c47]; decide) (by rw [c47]; decide) (by decide) ?_
                                                                                          exact sL_law_L1270 hE σ a3 h hk
                                                                                        · rw [if_neg c47] at h
                                                                                          by_cases c48 : v3 = 43
                                                                                          · rw [if_pos c48] at h
                                                                                            refine gl_tabIn  (off := 1260) 1293 dL33 (by rw [c48]; decide) (by rw [c48]; decide) (by rw [c48]; decide) (by decide) ?_
                                                                                            exact sL_law_L1293 hE σ a3 h hk
                                                                                          · rw [if_neg c48] at h
                                                                                            by_cases c49 : v3 = 44
                                                                                            · rw [if_pos c49] at h
                                                                                              refine gl_tabIn  (off := 1283) 1316 dL33 (by rw [c49]; decide) (by rw [c49]; decide) (by rw [c49]; decide) (by decide) ?_
                                                                                              exact sL_law_L1316 hE σ a3 h hk
                                                                                            · rw [if_neg c49] at h
                                                                                              by_cases c50 : v3 = 45
                                                                                              · rw [if_pos c50] at h
                                                                                                refine gl_tabIn  (off := 1306) 1339 dL33 (by rw [c50]; decide) (by rw [c50]; decide) (by rw [c50]; decide) (by decide) ?_
                                                                                                exact sL_law_L1339 hE σ a3 h hk
                                                                                              · rw [if_neg c50] at h
                                                                                                by_cases c51 : v3 = 46
                                                                                                · rw [if_pos c51] at h
                                                                                                  refine gl_tabIn  (off := 1339) 1372 dL33 (by rw [c51]; decide) (by rw [c51]; decide) (by rw [c51]; decide) (by decide) ?_
                                                                                                  exact sL_law_L1372 hE σ a3 h hk
                                                                                                · rw [if_neg c51] at h
                                                                                                  by_cases c52 : v3 = 47
                                                                                                  · rw [if_pos c52] at h
                                                                                                    refine gl_tabIn  (off := 1382) 1415 dL33 (by rw [c52]; decide) (by rw [c52]; decide) (by rw [c52]; decide) (by decide) ?_
                                                                                                    exact sL_law_L1415 hE σ a3 h hk
                                                                                                  · rw [if_neg c52] at h
                                                                                                    by_cases c53 : v3 = 48
                                                                                                    · rw [if_pos c53] at h
                                                                                                      refine gl_tabIn  (off := 1405) 1438 dL33 (by rw [c53]; decide) (by rw [c53]; decide) (by rw [c53]; decide) (by decide) ?_
                                                                                                      exact sL_law_L1438 hE σ a3 h hk
                                                                                                    · rw [if_neg c53] at h
                                                                                                      by_cases c54 : v3 = 49
                                                                                                      · rw [if_pos c54] at h
                                                                                                        refine gl_tabIn  (off := 1428) 1461 dL33 (by rw [c54]; decide) (by rw [c54]; decide) (by rw [c54]; decide) (by decide) ?_
                                                                                                        exact sL_law_L1461 hE σ a3 h hk
                                                                                                      · rw [if_neg c54] at h
                                                                                                        have n0 := lv_neT (a := 0) c5 (by decide)
                                                                                                        have n1 := lv_neT (a := 1) c6 (by decide)
                                                                                                        have n2 := lv_neT (a := 2) c7 (by decide)
                                                                                                        have n3 := lv_neT (a := 3) c8 (by decide)
                                                                                                        have n4 := lv_neT (a := 4) c9 (by decide)
                                                                                                        have n5 := lv_neT (a := 5) c10 (by decide)
                                                                                                        have n6 := lv_neT (a := 6) c11 (by decide)
                                                                                                        have n7 := lv_neT (a := 7) c12 (by decide)
                                                                                                        have n8 := lv_neT (a := 8) c13 (by decide)
                                                                                                        have n9 := lv_neT (a := 9) c14 (by decide)
                                                                                                        have n10 := lv_neT (a := 10) c15 (by decide)
                                                                                                        have n11 := lv_neT (a := 11) c16 (by decide)
                                                                                                        have n12 := lv_neT (a := 12) c17 (by decide)
                                                                                                        have n13 := lv_neT (a := 13) c18 (by decide)
                                                                                                        have n14 := lv_neT (a := 14) c19 (by decide)
                                                                                                        have n15 := lv_neT (a := 15) c20 (by decide)
                                                                                                        have n16 := lv_neT (a := 16) c21 (by decide)
                                                                                                        have n17 := lv_neT (a := 17) c22 (by decide)
                                                                                                        have n18 := lv_neT (a := 18) c23 (by decide)
                                                                                                        have n19 := lv_neT (a := 19) c24 (by decide)
                                                                                                        have n20 := lv_neT (a := 20) c25 (by decide)
                                                                                                        have n21 := lv_neT (a := 21) c26 (by decide)
                                                                                                        have n22 := lv_neT (a := 22) c27 (by decide)
                                                                                                        have n23 := lv_neT (a := 23) c28 (by decide)
                                                                                                        have n24 := lv_neT (a := 24) c29 (by decide)
                                                                                                        have n25 := lv_neT (a := 25) c30 (by decide)
                                                                                                        have n26 := lv_neT (a := 26) c31 (by decide)
                                                                                                        have n27 := lv_neT (a := 27) c32 (by decide)
                                                                                                        have n28 := lv_neT (a := 28) c33 (by decide)
                                                                                                        have n29 := lv_neT (a := 29) c34 (by decide)
                                                                                                        have n30 := lv_neT (a := 30) c35 (by decide)
                                                                                                        have n31 := lv_neT (a := 31) c36 (by decide)
                                                                                                        have n32 := lv_neT (a := 32) c37 (by decide)
                                                                                                        have n33 := lv_neT (a := 33) c38 (by decide)
                                                                                                        have n34 := lv_neT (a := 34) c39 (by decide)
                                                                                                        have n35 := lv_neT (a := 35) c40 (by decide)
                                                                                                        have n36 := lv_neT (a := 36) c41 (by decide)
                                                                                                        have n37 := lv_neT (a := 37) c42 (by decide)
                                                                                                        have n38 := lv_neT (a := 38) c43 (by decide)
                                                                                                        have n39 := lv_neT (a := 39) c44 (by decide)
                                                                                                        have n40 := lv_neT (a := 40) c45 (by decide)
                                                                                                        have n41 := lv_neT (a := 41) c46 (by decide)
                                                                                                        have n42 := lv_neT (a := 42) c47 (by decide)
                                                                                                        have n43 := lv_neT (a := 43) c48 (by decide)
                                                                                                        have n44 := lv_neT (a := 44) c49 (by decide)
                                                                                                        have n45 := lv_neT (a := 45) c50 (by decide)
                                                                                                        have n46 := lv_neT (a := 46) c51 (by decide)
                                                                                                        have n47 := lv_neT (a := 47) c52 (by decide)
                                                                                                        have n48 := lv_neT (a := 48) c53 (by decide)
                                                                                                        have n49 := lv_neT (a := 49) c54 (by decide)
                                                                                                        refine gl_tabOut  1484 dL33 (by omega) (by decide) ?_
                                                                                                        exact sL_law_L1484 hE σ a3 h hk
