/-! the Int layer, by program (gen_sp.py) -/
def sp_X0_init (x0 : Nat) (M : Im) (Q : Im → Prop) : Prop :=
  iO M x0 0 ∧
  Q M
def sp_X0_beFlat (x0 : Nat) (x1 : Int) (M : Im) (Q : Im → Prop) : Prop :=
  iO M x0 0 ∧
  ∀ M1 : Im, M1 = pI M x0 0 0 →
  ∀ M2 : Im, M2 = pI M1 x0 1 x1 →
  ∀ M3 : Im, M3 = pL M2 x0 6 0 →
  ∀ M4 : Im, M4 = pL M3 x0 7 1 →
  ∀ M5 : Im, M5 = pL M4 x0 8 0 →
  Q M5
def sp_X0_beLike (x0 : Nat) (x1 : Option Nat) (M : Im) (Q : Im → Prop) : Prop :=
  iO M x0 0 ∧
  ∃ a1 : Nat, x1 = some a1 ∧
  iO M a1 0 ∧
  ∀ M2 : Im, M2 = pI M x0 0 (gI M a1 0) →
  ∀ M3 : Im, M3 = pI M2 x0 1 (gI M2 a1 1) →
  ∀ M4 : Im, M4 = pL M3 x0 6 (gL M3 a1 6) →
  ∀ M5 : Im, M5 = pL M4 x0 7 (gL M4 a1 7) →
  ∀ M6 : Im, M6 = pL M5 x0 8 (gL M5 a1 8) →
  ∀ M7 : Im, M7 = pD M6 x0 9 (gD M6 a1 9) →
  ∀ M8 : Im, M8 = pD M7 x0 10 (gD M7 a1 10) →
  Q M8
def sp_X0_roundedDown (x0 : UInt64) (M : Im) (Q : Int → Im → Prop) : Prop :=
  ∀ j1 : Int, j1 = (FP.d2l x0).toInt →
  (((Op.cmpValue (FP.dcmp (FP.l2d (lz j1)) x0) CmpOp.l).toInt) ≤ 0 →
  Q j1 M) ∧
  (0 < ((Op.cmpValue (FP.dcmp (FP.l2d (lz j1)) x0) CmpOp.l).toInt) →
  (-9223372036854775808 ≤ j1 - 1 ∧ j1 - 1 < 9223372036854775808) ∧
  Q (j1 - 1) M)
def sp_J9_floorDiv_f86c9 (x0 : Int) (x2 : Int) (M : Im) (Q : Int → Im → Prop) : Prop :=
  ¬ x2 = 0 ∧
  (-9223372036854775808 ≤ x0.tdiv x2 ∧ x0.tdiv x2 < 9223372036854775808) ∧
  ∀ j1 : Int, j1 = x0.tdiv x2 →
  (0 ≤ ((lz x0 ^^^ lz x2).toInt) →
  Q j1 M) ∧
  (((lz x0 ^^^ lz x2).toInt) < 0 →
  (-9223372036854775808 ≤ j1 * x2 ∧ j1 * x2 < 9223372036854775808) ∧
  ((j1 * x2) = x0 →
  Q j1 M) ∧
  (¬ (j1 * x2) = x0 →
  (-9223372036854775808 ≤ j1 - 1 ∧ j1 - 1 < 9223372036854775808) ∧
  Q (j1 - 1) M))
def sp_J9_min_f86c9 (x0 : Int) (x2 : Int) (M : Im) (Q : Int → Im → Prop) : Prop :=
  (x2 < x0 →
  Q x2 M) ∧
  (x0 ≤ x2 →
  Q x0 M)
def sp_J9_max_f86c9 (x0 : Int) (x2 : Int) (M : Im) (Q : Int → Im → Prop) : Prop :=
  (x0 < x2 →
  Q x2 M) ∧
  (x2 ≤ x0 →
  Q x0 M)
def sp_X0_guessAway_62 (x0 : Nat) (t0 : Int) (M : Im) (Q : Int → Im → Prop) : Prop :=
  (-9223372036854775808 ≤ (gI M x0 3) - 1 ∧ (gI M x0 3) - 1 < 9223372036854775808) ∧
  sp_J9_min_f86c9 t0 ((gI M x0 3) - 1) M (fun (j2 : Int) (M1 : Im) =>
  sp_J9_max_f86c9 0 j2 M1 (fun (j4 : Int) (M3 : Im) =>
  (-2147483648 ≤ j4 ∧ j4 < 2147483648) ∧
  Q j4 M3))
def sp_X0_guessAway (x0 : Nat) (x1 : Int) (M : Im) (Q : Int → Im → Prop) : Prop :=
  iO M x0 0 ∧
  ((gI M x0 0) = 0 →
  Q 0 M) ∧
  (¬ (gI M x0 0) = 0 →
  (1 ≤ (gL M x0 7) →
  (¬ (gI M x0 0) = 2 →
  (-9223372036854775808 ≤ (gL M x0 6) * x1 ∧ (gL M x0 6) * x1 < 9223372036854775808) ∧
  (-9223372036854775808 ≤ (gL M x0 8) + ((gL M x0 6) * x1) ∧ (gL M x0 8) + ((gL M x0 6) * x1) < 9223372036854775808) ∧
  sp_J9_floorDiv_f86c9 ((gL M x0 8) + ((gL M x0 6) * x1)) (gL M x0 7) M (fun (j6 : Int) (M5 : Im) =>
  sp_X0_guessAway_62 x0 j6 M5 Q)) ∧
  ((gI M x0 0) = 2 →
  ∀ f7 : UInt64, alike64 f7 (FP.dmul (gD M x0 9) (FP.l2d (lz x1))) = true →
  ∀ f8 : UInt64, alike64 f8 (FP.dadd (gD M x0 10) f7) = true →
  sp_X0_roundedDown f8 M (fun (j10 : Int) (M9 : Im) =>
  sp_X0_guessAway_62 x0 j10 M9 Q))) ∧
  ((gL M x0 7) < 1 →
  Q 0 M))
def sp_X1_init (x0 : Nat) (M : Im) (Q : Im → Prop) : Prop :=
  iO M x0 1 ∧
  ∀ M1 : Im, M1 = pL M x0 0 (-1) →
  ∀ M2 : Im, M2 = pL M1 x0 1 0 →
  ∀ M3 : Im, M3 = pL M2 x0 2 1 →
  ∀ M4 : Im, M4 = pL M3 x0 3 0 →
  ∀ M5 : Im, M5 = pI M4 x0 4 0 →
  Q M5
def sp_X1_forget (x0 : Nat) (M : Im) (Q : Im → Prop) : Prop :=
  iO M x0 1 ∧
  ∀ M1 : Im, M1 = pL M x0 0 (-1) →
  ∀ M2 : Im, M2 = pL M1 x0 1 0 →
  ∀ M3 : Im, M3 = pL M2 x0 2 1 →
  ∀ M4 : Im, M4 = pL M3 x0 3 0 →
  ∀ M5 : Im, M5 = pI M4 x0 4 0 →
  Q M5
def sp_X1_narrow_82 (x0 : Nat) (x5 : Int) (x9 : Int) (M : Im) (Q : Im → Prop) : Prop :=
  (-9223372036854775808 ≤ x9 * (gL M x0 1) ∧ x9 * (gL M x0 1) < 9223372036854775808) ∧
  (-9223372036854775808 ≤ (gL M x0 0) * x5 ∧ (gL M x0 0) * x5 < 9223372036854775808) ∧
  ((x9 * (gL M x0 1)) ≤ ((gL M x0 0) * x5) →
  Q M) ∧
  (((gL M x0 0) * x5) < (x9 * (gL M x0 1)) →
  ∀ M1 : Im, M1 = pL M x0 0 x9 →
  ∀ M2 : Im, M2 = pL M1 x0 1 x5 →
  Q M2)
def sp_X1_narrow (x0 : Nat) (x1 : Option Nat) (x2 : Int) (x3 : Int) (x4 : Int) (M : Im) (Q : Im → Prop) : Prop :=
  iO M x0 1 ∧
  (x2 < 0 →
  Q M) ∧
  (0 ≤ x2 →
  (x3 ≤ x2 →
  Q M) ∧
  (x2 < x3 →
  ∃ a3 : Nat, x1 = some a3 ∧
  iA M a3 .long ∧
  (x3 < (alen a3 : Int) →
  (0 ≤ x3 ∧ x3 < ((alen a3) : Int)) ∧
  (0 ≤ x2 ∧ x2 < ((alen a3) : Int)) ∧
  (-9223372036854775808 ≤ (gL M a3 x3.toNat) - (gL M a3 x2.toNat) ∧ (gL M a3 x3.toNat) - (gL M a3 x2.toNat) < 9223372036854775808) ∧
  ∀ j4 : Int, j4 = (gL M a3 x3.toNat) - (gL M a3 x2.toNat) →
  (-2147483648 ≤ x3 - x2 ∧ x3 - x2 < 2147483648) ∧
  (-2147483648 ≤ 2 * x4 ∧ 2 * x4 < 2147483648) ∧
  (-2147483648 ≤ (x3 - x2) + (2 * x4) ∧ (x3 - x2) + (2 * x4) < 2147483648) ∧
  ∀ j5 : Int, j5 = (x3 - x2) + (2 * x4) →
  (-2147483648 ≤ x3 - x2 ∧ x3 - x2 < 2147483648) ∧
  (-2147483648 ≤ 2 * x4 ∧ 2 * x4 < 2147483648) ∧
  (-2147483648 ≤ (x3 - x2) - (2 * x4) ∧ (x3 - x2) - (2 * x4) < 2147483648) ∧
  ∀ j6 : Int, j6 = (x3 - x2) - (2 * x4) →
  (-9223372036854775808 ≤ (gL M x0 2) * j4 ∧ (gL M x0 2) * j4 < 9223372036854775808) ∧
  (-9223372036854775808 ≤ j5 * (gL M x0 3) ∧ j5 * (gL M x0 3) < 9223372036854775808) ∧
  (((gL M x0 2) * j4) ≤ (j5 * (gL M x0 3)) →
  sp_X1_narrow_82 x0 j4 j6 M Q) ∧
  ((j5 * (gL M x0 3)) < ((gL M x0 2) * j4) →
  ∀ M7 : Im, M7 = pL M x0 2 j5 →
  ∀ M8 : Im, M8 = pL M7 x0 3 j4 →
  ∀ M9 : Im, M9 = pI M8 x0 4 x2 →
  sp_X1_narrow_82 x0 j4 j6 M9 Q)) ∧
  ((alen a3 : Int) ≤ x3 →
  Q M)))
def sp_X1_leaveSome (x0 : Nat) (M : Im) (Q : Int → Im → Prop) : Prop :=
  iO M x0 1 ∧
  (-9223372036854775808 ≤ (gL M x0 2) * (gL M x0 1) ∧ (gL M x0 2) * (gL M x0 1) < 9223372036854775808) ∧
  (-9223372036854775808 ≤ (gL M x0 0) * (gL M x0 3) ∧ (gL M x0 0) * (gL M x0 3) < 9223372036854775808) ∧
  (((gL M x0 2) * (gL M x0 1)) < ((gL M x0 0) * (gL M x0 3)) →
  ((0 : Int) = 0 ∨ (0 : Int) = 1) ∧
  Q 0 M) ∧
  (((gL M x0 0) * (gL M x0 3)) ≤ ((gL M x0 2) * (gL M x0 1)) →
  ((1 : Int) = 0 ∨ (1 : Int) = 1) ∧
  Q 1 M)
def sp_X1_admit_21 (n : Nat) (x0 : Nat) (x1 : Option Nat) (x3 : Int) (x4 : Int) (x5 : Int) (x7 : Int) (x9 : Int) (x10 : Int) (M : Im) (Q : Int → Im → Prop) (K43 : Nat → Int → Int → Int → Im → Prop) : Prop := match n with
  | 0 => False
  | n + 1 =>
  (x3 ≤ x10 →
  K43 x0 x5 x7 x9 M) ∧
  (x10 < x3 →
  sp_X1_narrow x0 x1 x10 x3 x4 M (fun (M1 : Im) =>
  (-2147483648 ≤ x10 + 1 ∧ x10 + 1 < 2147483648) ∧
  ∀ i2 : Int, i2 = x10 + 1 →
  sp_X1_admit_21 n x0 x1 x3 x4 x5 x7 x9 i2 M1 Q K43))
def sp_X1_admit (x0 : Nat) (x1 : Option Nat) (x2 : Int) (x3 : Int) (x4 : Int) (M : Im) (Q : Int → Im → Prop) : Prop :=
  iO M x0 1 ∧
  ∀ j8 : Int, j8 = gL M x0 2 →
  ∀ j9 : Int, j9 = gL M x0 3 →
  ∀ i10 : Int, i10 = gI M x0 4 →
  ∃ k21, 
  sp_X1_admit_21 k21 x0 x1 x3 x4 j8 j9 i10 x2 M Q (fun (x0 : Nat) (x5 : Int) (x7 : Int) (x9 : Int) (M : Im) =>
  sp_X1_leaveSome x0 M (fun (i4 : Int) (M3 : Im) =>
  (i4 = 0 →
  ∀ M5 : Im, M5 = pL M3 x0 2 x5 →
  ∀ M6 : Im, M6 = pL M5 x0 3 x7 →
  ∀ M7 : Im, M7 = pI M6 x0 4 x9 →
  Q 0 M7) ∧
  (¬ i4 = 0 →
  Q 1 M3)))
def sp_X1_endOfSpan_9 (n : Nat) (x0 : Nat) (x1 : Option Nat) (x2 : Int) (x3 : Int) (x4 : Int) (x5 : Int) (M : Im) (Q : Int → Im → Prop) (K34 : Int → Im → Prop) : Prop := match n with
  | 0 => False
  | n + 1 =>
  (x3 ≤ x5 →
  K34 x5 M) ∧
  (x5 < x3 →
  sp_X1_admit x0 x1 x2 x5 x4 M (fun (i2 : Int) (M1 : Im) =>
  (i2 = 0 →
  K34 x5 M1) ∧
  (¬ i2 = 0 →
  (-2147483648 ≤ x5 + 1 ∧ x5 + 1 < 2147483648) ∧
  ∀ i3 : Int, i3 = x5 + 1 →
  sp_X1_endOfSpan_9 n x0 x1 x2 x3 x4 i3 M1 Q K34)))
def sp_X1_endOfSpan (x0 : Nat) (x1 : Option Nat) (x2 : Int) (x3 : Int) (x4 : Int) (M : Im) (Q : Int → Im → Prop) : Prop :=
  iO M x0 1 ∧
  sp_X1_forget x0 M (fun (M4 : Im) =>
  (-2147483648 ≤ x2 + 1 ∧ x2 + 1 < 2147483648) ∧
  ∀ i5 : Int, i5 = x2 + 1 →
  ∃ k9, 
  sp_X1_endOfSpan_9 k9 x0 x1 x2 x3 x4 i5 M4 Q (fun (x5 : Int) (M : Im) =>
  Q x5 M))
def sp_X1_passThree (x0 : Nat) (x1 : Option Nat) (x2 : Int) (x3 : Int) (x4 : Int) (x5 : Int) (M : Im) (Q : Int → Im → Prop) : Prop :=
  iO M x0 1 ∧
  sp_X1_forget x0 M (fun (M1 : Im) =>
  sp_X1_narrow x0 x1 x2 x3 x5 M1 (fun (M2 : Im) =>
  sp_X1_narrow x0 x1 x2 x4 x5 M2 (fun (M3 : Im) =>
  sp_X1_narrow x0 x1 x3 x4 x5 M3 (fun (M4 : Im) =>
  sp_X1_leaveSome x0 M4 (fun (i6 : Int) (M5 : Im) =>
  (i6 = 0 ∨ i6 = 1) ∧
  Q i6 M5)))))
def sp_X1_commonDivisor_9 (n : Nat) (x4 : Int) (x6 : Int) (x8 : Int) (M : Im) (Q : Int → Im → Prop) (K44 : Int → Im → Prop) : Prop := match n with
  | 0 => False
  | n + 1 =>
  (100 ≤ x8 →
  K44 x4 M) ∧
  (x8 < 100 →
  (x6 = 0 →
  K44 x4 M) ∧
  (¬ x6 = 0 →
  ¬ x6 = 0 ∧
  (-9223372036854775808 ≤ x4.tdiv x6 ∧ x4.tdiv x6 < 9223372036854775808) ∧
  (-9223372036854775808 ≤ (x4.tdiv x6) * x6 ∧ (x4.tdiv x6) * x6 < 9223372036854775808) ∧
  (-9223372036854775808 ≤ x4 - ((x4.tdiv x6) * x6) ∧ x4 - ((x4.tdiv x6) * x6) < 9223372036854775808) ∧
  ∀ j1 : Int, j1 = x4 - ((x4.tdiv x6) * x6) →
  (-2147483648 ≤ x8 + 1 ∧ x8 + 1 < 2147483648) ∧
  ∀ i2 : Int, i2 = x8 + 1 →
  sp_X1_commonDivisor_9 n x6 j1 i2 M Q K44))
def sp_X1_commonDivisor (x0 : Int) (x2 : Int) (M : Im) (Q : Int → Im → Prop) : Prop :=
  ∃ k9, 
  sp_X1_commonDivisor_9 k9 x0 x2 0 M Q (fun (x4 : Int) (M : Im) =>
  Q x4 M)
def sp_X1_tellLine (x0 : Nat) (x1 : Option Nat) (x2 : Option Nat) (x3 : Int) (x4 : Int) (M : Im) (Q : Im → Prop) : Prop :=
  iO M x0 1 ∧
  sp_X1_commonDivisor (gL M x0 2) (gL M x0 3) M (fun (j2 : Int) (M1 : Im) =>
  (j2 < 1 →
  Q M1) ∧
  (1 ≤ j2 →
  (x3 < 0 →
  Q M1) ∧
  (0 ≤ x3 →
  ((gI M1 x0 4) < x3 →
  Q M1) ∧
  (x3 ≤ (gI M1 x0 4) →
  ∃ a3 : Nat, x2 = some a3 ∧
  iA M1 a3 .long ∧
  ((gI M1 x0 4) < (alen a3 : Int) →
  ¬ j2 = 0 ∧
  ∃ a4 : Nat, x1 = some a4 ∧
  iO M1 a4 0 ∧
  (-9223372036854775808 ≤ (gL M1 x0 2).tdiv j2 ∧ (gL M1 x0 2).tdiv j2 < 9223372036854775808) ∧
  ∀ M5 : Im, M5 = pL M1 a4 6 ((gL M1 x0 2).tdiv j2) →
  ¬ j2 = 0 ∧
  (-9223372036854775808 ≤ (gL M5 x0 3).tdiv j2 ∧ (gL M5 x0 3).tdiv j2 < 9223372036854775808) ∧
  ∀ M6 : Im, M6 = pL M5 a4 7 ((gL M5 x0 3).tdiv j2) →
  (-2147483648 ≤ (gI M6 x0 4) - x3 ∧ (gI M6 x0 4) - x3 < 2147483648) ∧
  ∀ j7 : Int, j7 = (gI M6 x0 4) - x3 →
  (0 ≤ gI M6 x0 4 ∧ gI M6 x0 4 < ((alen a3) : Int)) ∧
  (0 ≤ x3 ∧ x3 < ((alen a3) : Int)) ∧
  (-9223372036854775808 ≤ j7 - x4 ∧ j7 - x4 < 9223372036854775808) ∧
  (-9223372036854775808 ≤ (gL M6 a4 7) * (j7 - x4) ∧ (gL M6 a4 7) * (j7 - x4) < 9223372036854775808) ∧
  (-9223372036854775808 ≤ (gL M6 a3 (gI M6 x0 4).toNat) - (gL M6 a3 x3.toNat) ∧ (gL M6 a3 (gI M6 x0 4).toNat) - (gL M6 a3 x3.toNat) < 9223372036854775808) ∧
  (-9223372036854775808 ≤ (gL M6 a4 6) * ((gL M6 a3 (gI M6 x0 4).toNat) - (gL M6 a3 x3.toNat)) ∧ (gL M6 a4 6) * ((gL M6 a3 (gI M6 x0 4).toNat) - (gL M6 a3 x3.toNat)) < 9223372036854775808) ∧
  (-9223372036854775808 ≤ ((gL M6 a4 7) * (j7 - x4)) - ((gL M6 a4 6) * ((gL M6 a3 (gI M6 x0 4).toNat) - (gL M6 a3 x3.toNat))) ∧ ((gL M6 a4 7) * (j7 - x4)) - ((gL M6 a4 6) * ((gL M6 a3 (gI M6 x0 4).toNat) - (gL M6 a3 x3.toNat))) < 9223372036854775808) ∧
  ∀ M8 : Im, M8 = pL M6 a4 8 (((gL M6 a4 7) * (j7 - x4)) - ((gL M6 a4 6) * ((gL M6 a3 (gI M6 x0 4).toNat) - (gL M6 a3 x3.toNat)))) →
  Q M8) ∧
  ((alen a3 : Int) ≤ (gI M1 x0 4) →
  Q M1)))))
def sp_X2_init_59 (x0 : Nat) (x1 : Int) (t0 : Int) (t1 : Nat) (M : Im) (Q : Im → Prop) : Prop :=
  0 ≤ t0 ∧
  gz M < ZMAX ∧
  shp (gz M) = .inl (.long, t0.toNat) ∧
  t0.toNat * 8 ≤ 536870912 ∧
  ∀ (a7 : Nat) (M8 : Im), a7 = gz M → M8 = pnw M →
  ∀ M9 : Im, M9 = pR M8 t1 2 (some a7) →
  (x1 ≤ 0 →
  0 ≤ (0 : Int) ∧
  gz M9 < ZMAX ∧
  shp (gz M9) = .inl (.object "LeaningIndex$Piece", 0) ∧
  0 * 8 ≤ 536870912 ∧
  ∀ (a10 : Nat) (M11 : Im), a10 = gz M9 → M11 = pnw M9 →
  ∀ M12 : Im, M12 = pR M11 x0 3 (some a10) →
  Q M12) ∧
  (0 < x1 →
  0 ≤ x1 ∧
  gz M9 < ZMAX ∧
  shp (gz M9) = .inl (.object "LeaningIndex$Piece", x1.toNat) ∧
  x1.toNat * 8 ≤ 536870912 ∧
  ∀ (a10 : Nat) (M11 : Im), a10 = gz M9 → M11 = pnw M9 →
  ∀ M12 : Im, M12 = pR M11 x0 3 (some a10) →
  Q M12)
def sp_X2_init_44 (x0 : Nat) (x1 : Int) (x2 : Int) (t0 : Int) (t1 : Nat) (M : Im) (Q : Im → Prop) : Prop :=
  0 ≤ t0 ∧
  gz M < ZMAX ∧
  shp (gz M) = .inl (.boolean, t0.toNat) ∧
  t0.toNat * 8 ≤ 536870912 ∧
  ∀ (a4 : Nat) (M5 : Im), a4 = gz M → M5 = pnw M →
  ∀ M6 : Im, M6 = pR M5 t1 1 (some a4) →
  (x2 ≤ 0 →
  sp_X2_init_59 x0 x1 0 x0 M6 Q) ∧
  (0 < x2 →
  sp_X2_init_59 x0 x1 x2 x0 M6 Q)
def sp_X2_init_29 (x0 : Nat) (x1 : Int) (x2 : Int) (t0 : Int) (t1 : Nat) (M : Im) (Q : Im → Prop) : Prop :=
  0 ≤ t0 ∧
  gz M < ZMAX ∧
  shp (gz M) = .inl (.long, t0.toNat) ∧
  t0.toNat * 8 ≤ 536870912 ∧
  ∀ (a1 : Nat) (M2 : Im), a1 = gz M → M2 = pnw M →
  ∀ M3 : Im, M3 = pR M2 t1 0 (some a1) →
  (x1 ≤ 0 →
  sp_X2_init_44 x0 x1 x2 0 x0 M3 Q) ∧
  (0 < x1 →
  sp_X2_init_44 x0 x1 x2 x1 x0 M3 Q)
def sp_X2_init (x0 : Nat) (x1 : Int) (x2 : Int) (M : Im) (Q : Im → Prop) : Prop :=
  iO M x0 2 ∧
  ∀ M13 : Im, M13 = pI M x0 4 0 →
  ∀ M14 : Im, M14 = pI M13 x0 5 0 →
  ∀ M15 : Im, M15 = pI M14 x0 6 0 →
  (x1 ≤ 0 →
  sp_X2_init_29 x0 x1 x2 0 x0 M15 Q) ∧
  (0 < x1 →
  sp_X2_init_29 x0 x1 x2 x1 x0 M15 Q)
def sp_X2_empty (x0 : Nat) (M : Im) (Q : Im → Prop) : Prop :=
  iO M x0 2 ∧
  ∀ M1 : Im, M1 = pI M x0 4 0 →
  ∀ M2 : Im, M2 = pI M1 x0 5 0 →
  ∀ M3 : Im, M3 = pI M2 x0 6 0 →
  Q M3
def sp_X2_isFull (x0 : Nat) (M : Im) (Q : Int → Im → Prop) : Prop :=
  iO M x0 2 ∧
  (-2147483648 ≤ (gI M x0 4) + (gI M x0 5) ∧ (gI M x0 4) + (gI M x0 5) < 2147483648) ∧
  ((alen (x0 + 1) : Int) ≤ ((gI M x0 4) + (gI M x0 5)) →
  ((1 : Int) = 0 ∨ (1 : Int) = 1) ∧
  Q 1 M) ∧
  (((gI M x0 4) + (gI M x0 5)) < (alen (x0 + 1) : Int) →
  ((gI M x0 5) < (alen (x0 + 3) : Int) →
  ((0 : Int) = 0 ∨ (0 : Int) = 1) ∧
  Q 0 M) ∧
  ((alen (x0 + 3) : Int) ≤ (gI M x0 5) →
  ((1 : Int) = 0 ∨ (1 : Int) = 1) ∧
  Q 1 M))
def sp_X2_pieceAt (x0 : Nat) (x1 : Int) (M : Im) (Q : Option Nat → Im → Prop) : Prop :=
  iO M x0 2 ∧
  (x1 < 0 →
  Q none M) ∧
  (0 ≤ x1 →
  ((gI M x0 6) ≤ x1 →
  Q none M) ∧
  (x1 < (gI M x0 6) →
  (0 ≤ x1 ∧ x1 < ((alen (x0 + 4)) : Int)) ∧
  ∀ r1 : Option Nat, r1 = gR M (x0 + 4) x1.toNat →
  Q r1 M))
def sp_X2_keyOf (x0 : Nat) (x1 : Option Nat) (x2 : Int) (M : Im) (Q : Int → Im → Prop) : Prop :=
  iO M x0 2 ∧
  ∃ a1 : Nat, x1 = some a1 ∧
  iO M a1 0 ∧
  ∀ i2 : Int, (-2147483648 ≤ i2 ∧ i2 < 2147483648) → ((-2147483648 ≤ (gI M a1 2) + x2 ∧ (gI M a1 2) + x2 < 2147483648) → i2 = (gI M a1 2) + x2) →
  (x2 < 0 →
  Q (-9223372036854775808) M) ∧
  (0 ≤ x2 →
  ((gI M a1 3) ≤ x2 →
  Q (-9223372036854775808) M) ∧
  (x2 < (gI M a1 3) →
  (i2 < 0 →
  Q (-9223372036854775808) M) ∧
  (0 ≤ i2 →
  ((gI M x0 4) ≤ i2 →
  Q (-9223372036854775808) M) ∧
  (i2 < (gI M x0 4) →
  (0 ≤ i2 ∧ i2 < ((alen (x0 + 1)) : Int)) ∧
  Q (gL M (x0 + 1) i2.toNat) M))))
def sp_X2_lateOf (x0 : Nat) (x1 : Option Nat) (x2 : Int) (M : Im) (Q : Int → Im → Prop) : Prop :=
  iO M x0 2 ∧
  ∃ a1 : Nat, x1 = some a1 ∧
  iO M a1 0 ∧
  ∀ i2 : Int, (-2147483648 ≤ i2 ∧ i2 < 2147483648) → ((-2147483648 ≤ (gI M a1 4) + x2 ∧ (gI M a1 4) + x2 < 2147483648) → i2 = (gI M a1 4) + x2) →
  (x2 < 0 →
  Q (-9223372036854775808) M) ∧
  (0 ≤ x2 →
  ((gI M a1 5) ≤ x2 →
  Q (-9223372036854775808) M) ∧
  (x2 < (gI M a1 5) →
  (i2 < 0 →
  Q (-9223372036854775808) M) ∧
  (0 ≤ i2 →
  ((gI M x0 5) ≤ i2 →
  Q (-9223372036854775808) M) ∧
  (i2 < (gI M x0 5) →
  (0 ≤ i2 ∧ i2 < ((alen (x0 + 3)) : Int)) ∧
  Q (gL M (x0 + 3) i2.toNat) M))))
def sp_X2_isDropped (x0 : Nat) (x1 : Option Nat) (x2 : Int) (M : Im) (Q : Int → Im → Prop) : Prop :=
  iO M x0 2 ∧
  ∃ a1 : Nat, x1 = some a1 ∧
  iO M a1 0 ∧
  ∀ i2 : Int, (-2147483648 ≤ i2 ∧ i2 < 2147483648) → ((-2147483648 ≤ (gI M a1 2) + x2 ∧ (gI M a1 2) + x2 < 2147483648) → i2 = (gI M a1 2) + x2) →
  (x2 < 0 →
  ((0 : Int) = 0 ∨ (0 : Int) = 1) ∧
  Q 0 M) ∧
  (0 ≤ x2 →
  ((gI M a1 3) ≤ x2 →
  ((0 : Int) = 0 ∨ (0 : Int) = 1) ∧
  Q 0 M) ∧
  (x2 < (gI M a1 3) →
  (i2 < 0 →
  ((0 : Int) = 0 ∨ (0 : Int) = 1) ∧
  Q 0 M) ∧
  (0 ≤ i2 →
  ((gI M x0 4) ≤ i2 →
  ((0 : Int) = 0 ∨ (0 : Int) = 1) ∧
  Q 0 M) ∧
  (i2 < (gI M x0 4) →
  (0 ≤ i2 ∧ i2 < ((alen (x0 + 2)) : Int)) ∧
  ((gI M (x0 + 2) i2.toNat) = 0 →
  ((0 : Int) = 0 ∨ (0 : Int) = 1) ∧
  Q 0 M) ∧
  (¬ (gI M (x0 + 2) i2.toNat) = 0 →
  ((1 : Int) = 0 ∨ (1 : Int) = 1) ∧
  Q 1 M)))))
def sp_X2_countDropped_27 (x0 : Nat) (x1 : Nat) (x3 : Int) (t0 : Int) (t1 : Int) (M : Im) (Q : Int → Im → Prop) (K4 : Nat → Option Nat → Int → Int → Im → Prop) (K35 : Int → Im → Prop) : Prop :=
  (-2147483648 ≤ t1 + t0 ∧ t1 + t0 < 2147483648) ∧
  ∀ i4 : Int, i4 = t1 + t0 →
  (-2147483648 ≤ x3 + 1 ∧ x3 + 1 < 2147483648) ∧
  ∀ i5 : Int, i5 = x3 + 1 →
  K4 x0 (some x1) i4 i5 M
def sp_X2_countDropped_4 (n : Nat) (x0 : Nat) (x1 : Option Nat) (x2 : Int) (x3 : Int) (M : Im) (Q : Int → Im → Prop) (K35 : Int → Im → Prop) : Prop := match n with
  | 0 => False
  | n + 1 =>
  ∃ a1 : Nat, x1 = some a1 ∧
  iO M a1 0 ∧
  ((gI M a1 3) ≤ x3 →
  K35 x2 M) ∧
  (x3 < (gI M a1 3) →
  sp_X2_isDropped x0 (some a1) x3 M (fun (i3 : Int) (M2 : Im) =>
  (i3 = 0 →
  sp_X2_countDropped_27 x0 a1 x3 0 x2 M2 Q (fun (x0 : Nat) (x1 : Option Nat) (x2 : Int) (x3 : Int) (M : Im) =>
  sp_X2_countDropped_4 n x0 x1 x2 x3 M Q K35) K35) ∧
  (¬ i3 = 0 →
  sp_X2_countDropped_27 x0 a1 x3 1 x2 M2 Q (fun (x0 : Nat) (x1 : Option Nat) (x2 : Int) (x3 : Int) (M : Im) =>
  sp_X2_countDropped_4 n x0 x1 x2 x3 M Q K35) K35)))
def sp_X2_countDropped (x0 : Nat) (x1 : Option Nat) (M : Im) (Q : Int → Im → Prop) : Prop :=
  iO M x0 2 ∧
  ∃ k4, 
  sp_X2_countDropped_4 k4 x0 x1 0 0 M Q (fun (x2 : Int) (M : Im) =>
  Q x2 M)
def sp_J9_abs_0f7a4 (x0 : Int) (M : Im) (Q : Int → Im → Prop) : Prop :=
  (0 ≤ x0 →
  Q x0 M) ∧
  (x0 < 0 →
  (-2147483648 ≤ -x0 ∧ -x0 < 2147483648) ∧
  Q (-x0) M)
def sp_J9_max_7cf53 (x0 : Int) (x1 : Int) (M : Im) (Q : Int → Im → Prop) : Prop :=
  (x0 < x1 →
  Q x1 M) ∧
  (x1 ≤ x0 →
  Q x0 M)
def sp_X2_greatestMiss_13 (n : Nat) (x0 : Nat) (x1 : Option Nat) (x2 : Int) (x4 : Int) (x5 : Int) (M : Im) (Q : Int → Im → Prop) (K58 : Int → Im → Prop) : Prop := match n with
  | 0 => False
  | n + 1 =>
  ∃ a1 : Nat, x1 = some a1 ∧
  iO M a1 0 ∧
  ((gI M a1 3) ≤ x5 →
  K58 x4 M) ∧
  (x5 < (gI M a1 3) →
  sp_X2_keyOf x0 (some a1) x5 M (fun (j3 : Int) (M2 : Im) =>
  (-9223372036854775808 ≤ j3 - x2 ∧ j3 - x2 < 9223372036854775808) ∧
  sp_X0_guessAway a1 (j3 - x2) M2 (fun (i5 : Int) (M4 : Im) =>
  (-2147483648 ≤ i5 - x5 ∧ i5 - x5 < 2147483648) ∧
  sp_J9_abs_0f7a4 (i5 - x5) M4 (fun (i7 : Int) (M6 : Im) =>
  sp_J9_max_7cf53 x4 i7 M6 (fun (i9 : Int) (M8 : Im) =>
  (-2147483648 ≤ x5 + 1 ∧ x5 + 1 < 2147483648) ∧
  ∀ i10 : Int, i10 = x5 + 1 →
  sp_X2_greatestMiss_13 n x0 (some a1) x2 i9 i10 M8 Q K58)))))
def sp_X2_greatestMiss (x0 : Nat) (x1 : Option Nat) (M : Im) (Q : Int → Im → Prop) : Prop :=
  iO M x0 2 ∧
  sp_X2_keyOf x0 x1 0 M (fun (j12 : Int) (M11 : Im) =>
  ∃ k13, 
  sp_X2_greatestMiss_13 k13 x0 x1 j12 0 0 M11 Q (fun (x4 : Int) (M : Im) =>
  Q x4 M))
def sp_X2_firstKeys_46 (x0 : Nat) (x1 : Nat) (x2 : Int) (x3 : Int) (t0 : Int) (t1 : Int) (t2 : Nat) (M : Im) (Q : Int → Im → Prop) (K4 : Nat → Option Nat → Int → Int → Im → Prop) (K56 : Int → Im → Prop) : Prop :=
  (0 ≤ t1 ∧ t1 < ((alen t2) : Int)) ∧
  ∀ M6 : Im, M6 = pL M t2 t1.toNat t0 →
  (-2147483648 ≤ x2 + 1 ∧ x2 + 1 < 2147483648) ∧
  ∀ i7 : Int, i7 = x2 + 1 →
  (-2147483648 ≤ x3 + 1 ∧ x3 + 1 < 2147483648) ∧
  ∀ i8 : Int, i8 = x3 + 1 →
  K4 x0 (some x1) i7 i8 M6
def sp_X2_firstKeys_4 (n : Nat) (x0 : Nat) (x1 : Option Nat) (x2 : Int) (x3 : Int) (M : Im) (Q : Int → Im → Prop) (K56 : Int → Im → Prop) : Prop := match n with
  | 0 => False
  | n + 1 =>
  ((gI M x0 6) ≤ x3 →
  K56 x2 M) ∧
  (x3 < (gI M x0 6) →
  ∃ a1 : Nat, x1 = some a1 ∧
  iA M a1 .long ∧
  ((alen a1 : Int) ≤ x3 →
  K56 x2 M) ∧
  (x3 < (alen a1 : Int) →
  (0 ≤ x3 ∧ x3 < ((alen (x0 + 4)) : Int)) ∧
  ∀ r2 : Option Nat, r2 = gR M (x0 + 4) x3.toNat →
  (r2 = none →
  sp_X2_firstKeys_46 x0 a1 x2 x3 (-9223372036854775808) x3 a1 M Q (fun (x0 : Nat) (x1 : Option Nat) (x2 : Int) (x3 : Int) (M : Im) =>
  sp_X2_firstKeys_4 n x0 x1 x2 x3 M Q K56) K56) ∧
  (∀ a3 : Nat, r2 = some a3 →
  sp_X2_keyOf x0 (some a3) 0 M (fun (j5 : Int) (M4 : Im) =>
  sp_X2_firstKeys_46 x0 a1 x2 x3 j5 x3 a1 M4 Q (fun (x0 : Nat) (x1 : Option Nat) (x2 : Int) (x3 : Int) (M : Im) =>
  sp_X2_firstKeys_4 n x0 x1 x2 x3 M Q K56) K56))))
def sp_X2_firstKeys (x0 : Nat) (x1 : Option Nat) (M : Im) (Q : Int → Im → Prop) : Prop :=
  iO M x0 2 ∧
  ∃ k4, 
  sp_X2_firstKeys_4 k4 x0 x1 0 0 M Q (fun (x2 : Int) (M : Im) =>
  Q x2 M)
def sp_J9_min_7cf53 (x0 : Int) (x1 : Int) (M : Im) (Q : Int → Im → Prop) : Prop :=
  (x1 < x0 →
  Q x1 M) ∧
  (x0 ≤ x1 →
  Q x0 M)
def sp_X2_gather_138 (x0 : Nat) (x3 : Nat) (x6 : Int) (x7 : Int) (x8 : Int) (x9 : Int) (x10 : Int) (M : Im) (Q : Int → Im → Prop) (K85 : Nat → Option Nat → Int → Int → Int → Int → Int → Im → Prop) (K195 : Int → Im → Prop) : Prop :=
  (0 ≤ x9 ∧ x9 < ((alen (x0 + 3)) : Int)) ∧
  (0 ≤ x10 ∧ x10 < ((alen x3) : Int)) ∧
  ∀ M2 : Im, M2 = pL M x3 x10.toNat (gL M (x0 + 3) x9.toNat) →
  (-2147483648 ≤ x10 + 1 ∧ x10 + 1 < 2147483648) ∧
  ∀ i3 : Int, i3 = x10 + 1 →
  (-2147483648 ≤ x9 + 1 ∧ x9 + 1 < 2147483648) ∧
  ∀ i4 : Int, i4 = x9 + 1 →
  K85 x0 (some x3) x6 x7 x8 i4 i3 M2
def sp_X2_gather_186 (x0 : Nat) (x3 : Nat) (x6 : Int) (x7 : Int) (x8 : Int) (x9 : Int) (t0 : Int) (t1 : Int) (M : Im) (Q : Int → Im → Prop) (K85 : Nat → Option Nat → Int → Int → Int → Int → Int → Im → Prop) (K195 : Int → Im → Prop) : Prop :=
  (-2147483648 ≤ t1 + t0 ∧ t1 + t0 < 2147483648) ∧
  ∀ i6 : Int, i6 = t1 + t0 →
  (-2147483648 ≤ x8 + 1 ∧ x8 + 1 < 2147483648) ∧
  ∀ i7 : Int, i7 = x8 + 1 →
  K85 x0 (some x3) x6 x7 i7 x9 i6 M
def sp_X2_gather_158 (x0 : Nat) (x3 : Nat) (x6 : Int) (x7 : Int) (x8 : Int) (x9 : Int) (x10 : Int) (M : Im) (Q : Int → Im → Prop) (K85 : Nat → Option Nat → Int → Int → Int → Int → Int → Im → Prop) (K195 : Int → Im → Prop) : Prop :=
  (0 ≤ x8 ∧ x8 < ((alen (x0 + 1)) : Int)) ∧
  (0 ≤ x10 ∧ x10 < ((alen x3) : Int)) ∧
  ∀ M5 : Im, M5 = pL M x3 x10.toNat (gL M (x0 + 1) x8.toNat) →
  (0 ≤ x8 ∧ x8 < ((alen (x0 + 2)) : Int)) ∧
  ((gI M5 (x0 + 2) x8.toNat) = 0 →
  sp_X2_gather_186 x0 x3 x6 x7 x8 x9 1 x10 M5 Q K85 K195) ∧
  (¬ (gI M5 (x0 + 2) x8.toNat) = 0 →
  sp_X2_gather_186 x0 x3 x6 x7 x8 x9 0 x10 M5 Q K85 K195)
def sp_X2_gather_99 (x0 : Nat) (x3 : Option Nat) (x6 : Int) (x7 : Int) (x8 : Int) (x9 : Int) (x10 : Int) (M : Im) (Q : Int → Im → Prop) (K85 : Nat → Option Nat → Int → Int → Int → Int → Int → Im → Prop) (K195 : Int → Im → Prop) : Prop :=
  ∃ a1 : Nat, x3 = some a1 ∧
  iA M a1 .long ∧
  ((alen a1 : Int) ≤ x10 →
  K195 x10 M) ∧
  (x10 < (alen a1 : Int) →
  (x7 ≤ x8 →
  sp_X2_gather_138 x0 a1 x6 x7 x8 x9 x10 M Q K85 K195) ∧
  (x8 < x7 →
  (x6 ≤ x9 →
  sp_X2_gather_158 x0 a1 x6 x7 x8 x9 x10 M Q K85 K195) ∧
  (x9 < x6 →
  (0 ≤ x9 ∧ x9 < ((alen (x0 + 3)) : Int)) ∧
  (0 ≤ x8 ∧ x8 < ((alen (x0 + 1)) : Int)) ∧
  ((gL M (x0 + 1) x8.toNat) ≤ (gL M (x0 + 3) x9.toNat) →
  sp_X2_gather_158 x0 a1 x6 x7 x8 x9 x10 M Q K85 K195) ∧
  ((gL M (x0 + 3) x9.toNat) < (gL M (x0 + 1) x8.toNat) →
  sp_X2_gather_138 x0 a1 x6 x7 x8 x9 x10 M Q K85 K195))))
def sp_X2_gather_85 (n : Nat) (x0 : Nat) (x3 : Option Nat) (x6 : Int) (x7 : Int) (x8 : Int) (x9 : Int) (x10 : Int) (M : Im) (Q : Int → Im → Prop) (K195 : Int → Im → Prop) : Prop := match n with
  | 0 => False
  | n + 1 =>
  (x8 < x7 →
  sp_X2_gather_99 x0 x3 x6 x7 x8 x9 x10 M Q (fun (x0 : Nat) (x3 : Option Nat) (x6 : Int) (x7 : Int) (x8 : Int) (x9 : Int) (x10 : Int) (M : Im) =>
  sp_X2_gather_85 n x0 x3 x6 x7 x8 x9 x10 M Q K195) K195) ∧
  (x7 ≤ x8 →
  (x6 ≤ x9 →
  K195 x10 M) ∧
  (x9 < x6 →
  sp_X2_gather_99 x0 x3 x6 x7 x8 x9 x10 M Q (fun (x0 : Nat) (x3 : Option Nat) (x6 : Int) (x7 : Int) (x8 : Int) (x9 : Int) (x10 : Int) (M : Im) =>
  sp_X2_gather_85 n x0 x3 x6 x7 x8 x9 x10 M Q K195) K195))
def sp_X2_gather (x0 : Nat) (x1 : Int) (x2 : Int) (x3 : Option Nat) (M : Im) (Q : Int → Im → Prop) : Prop :=
  iO M x0 2 ∧
  sp_X2_pieceAt x0 x1 M (fun (r9 : Option Nat) (M8 : Im) =>
  (-2147483648 ≤ x2 - 1 ∧ x2 - 1 < 2147483648) ∧
  sp_X2_pieceAt x0 (x2 - 1) M8 (fun (r11 : Option Nat) (M10 : Im) =>
  (r9 = none →
  Q 0 M10) ∧
  (∀ a12 : Nat, r9 = some a12 →
  (r11 = none →
  Q 0 M10) ∧
  (∀ a13 : Nat, r11 = some a13 →
  iO M10 a13 0 ∧
  (-2147483648 ≤ (gI M10 a13 4) + (gI M10 a13 5) ∧ (gI M10 a13 4) + (gI M10 a13 5) < 2147483648) ∧
  sp_J9_min_7cf53 ((gI M10 a13 4) + (gI M10 a13 5)) (gI M10 x0 5) M10 (fun (i16 : Int) (M15 : Im) =>
  (-2147483648 ≤ (gI M15 a13 2) + (gI M15 a13 3) ∧ (gI M15 a13 2) + (gI M15 a13 3) < 2147483648) ∧
  sp_J9_min_7cf53 ((gI M15 a13 2) + (gI M15 a13 3)) (gI M15 x0 4) M15 (fun (i18 : Int) (M17 : Im) =>
  iO M17 a12 0 ∧
  ∀ i20 : Int, i20 = gI M17 a12 2 →
  ∀ i21 : Int, i21 = gI M17 a12 4 →
  ∃ k85, 
  sp_X2_gather_85 k85 x0 x3 i16 i18 i20 i21 0 M17 Q (fun (x10 : Int) (M : Im) =>
  Q x10 M)))))))
def sp_X2_append_128 (n : Nat) (x0 : Nat) (x1 : Option Nat) (x2 : Int) (x3 : Int) (x5 : Nat) (x6 : Int) (M : Im) (Q : Option Nat → Im → Prop) (K171 : Nat → Int → Nat → Im → Prop) : Prop := match n with
  | 0 => False
  | n + 1 =>
  (x3 ≤ x6 →
  K171 x0 x3 x5 M) ∧
  (x6 < x3 →
  ∃ a13 : Nat, x1 = some a13 ∧
  iA M a13 .long ∧
  (-2147483648 ≤ x2 + x6 ∧ x2 + x6 < 2147483648) ∧
  (0 ≤ x2 + x6 ∧ x2 + x6 < ((alen a13) : Int)) ∧
  (-2147483648 ≤ (gI M x0 4) + x6 ∧ (gI M x0 4) + x6 < 2147483648) ∧
  (0 ≤ (gI M x0 4) + x6 ∧ (gI M x0 4) + x6 < ((alen (x0 + 1)) : Int)) ∧
  (-2147483648 ≤ (gI M x0 4) + x6 ∧ (gI M x0 4) + x6 < 2147483648) ∧
  (-2147483648 ≤ x2 + x6 ∧ x2 + x6 < 2147483648) ∧
  ∀ M14 : Im, M14 = pL M (x0 + 1) ((gI M x0 4) + x6).toNat (gL M a13 (x2 + x6).toNat) →
  (-2147483648 ≤ (gI M14 x0 4) + x6 ∧ (gI M14 x0 4) + x6 < 2147483648) ∧
  (0 ≤ (gI M14 x0 4) + x6 ∧ (gI M14 x0 4) + x6 < ((alen (x0 + 2)) : Int)) ∧
  (-2147483648 ≤ (gI M14 x0 4) + x6 ∧ (gI M14 x0 4) + x6 < 2147483648) ∧
  ∀ M15 : Im, M15 = pI M14 (x0 + 2) ((gI M14 x0 4) + x6).toNat 0 →
  (-2147483648 ≤ x6 + 1 ∧ x6 + 1 < 2147483648) ∧
  ∀ i16 : Int, i16 = x6 + 1 →
  sp_X2_append_128 n x0 (some a13) x2 x3 x5 i16 M15 Q K171)
def sp_X2_append_84 (x0 : Nat) (x1 : Option Nat) (x2 : Int) (x3 : Int) (M : Im) (Q : Option Nat → Im → Prop) : Prop :=
  (0 ≤ gI M x0 6 ∧ gI M x0 6 < ((alen (x0 + 4)) : Int)) ∧
  ∀ r7 : Option Nat, r7 = gR M (x0 + 4) (gI M x0 6).toNat →
  ∃ a8 : Nat, r7 = some a8 ∧
  iO M a8 0 ∧
  ∀ M9 : Im, M9 = pI M a8 2 (gI M x0 4) →
  ∀ M10 : Im, M10 = pI M9 a8 3 x3 →
  ∀ M11 : Im, M11 = pI M10 a8 4 (gI M10 x0 5) →
  ∀ M12 : Im, M12 = pI M11 a8 5 0 →
  ∃ k128, 
  sp_X2_append_128 k128 x0 x1 x2 x3 a8 0 M12 Q (fun (x0 : Nat) (x3 : Int) (x5 : Nat) (M : Im) =>
  (-2147483648 ≤ (gI M x0 4) + x3 ∧ (gI M x0 4) + x3 < 2147483648) ∧
  ∀ M17 : Im, M17 = pI M x0 4 ((gI M x0 4) + x3) →
  (-2147483648 ≤ (gI M17 x0 6) + 1 ∧ (gI M17 x0 6) + 1 < 2147483648) ∧
  ∀ M18 : Im, M18 = pI M17 x0 6 ((gI M17 x0 6) + 1) →
  Q (some x5) M18)
def sp_X2_append_21 (x0 : Nat) (x1 : Option Nat) (x2 : Int) (x3 : Int) (t0 : Int) (M : Im) (Q : Option Nat → Im → Prop) : Prop :=
  (t0 = 0 →
  Q none M) ∧
  (¬ t0 = 0 →
  (-2147483648 ≤ (alen (x0 + 1) : Int) - x3 ∧ (alen (x0 + 1) : Int) - x3 < 2147483648) ∧
  (((alen (x0 + 1) : Int) - x3) < (gI M x0 4) →
  Q none M) ∧
  ((gI M x0 4) ≤ ((alen (x0 + 1) : Int) - x3) →
  ((gI M x0 6) < (alen (x0 + 4) : Int) →
  (0 ≤ gI M x0 6 ∧ gI M x0 6 < ((alen (x0 + 4)) : Int)) ∧
  ∀ r1 : Option Nat, r1 = gR M (x0 + 4) (gI M x0 6).toNat →
  (r1 = none →
  gz M < ZMAX ∧
  ∀ (a3 : Nat) (M4 : Im), a3 = gz M → M4 = pnw M →
  sp_X0_init a3 M4 (fun (M5 : Im) =>
  (0 ≤ gI M x0 6 ∧ gI M x0 6 < ((alen (x0 + 4)) : Int)) ∧
  ∀ M6 : Im, M6 = pR M5 (x0 + 4) (gI M x0 6).toNat (some a3) →
  sp_X2_append_84 x0 x1 x2 x3 M6 Q)) ∧
  (∀ a2 : Nat, r1 = some a2 →
  sp_X2_append_84 x0 x1 x2 x3 M Q)) ∧
  ((alen (x0 + 4) : Int) ≤ (gI M x0 6) →
  Q none M)))
def sp_X2_append (x0 : Nat) (x1 : Option Nat) (x2 : Int) (x3 : Int) (M : Im) (Q : Option Nat → Im → Prop) : Prop :=
  iO M x0 2 ∧
  (x2 < 0 →
  sp_X2_append_21 x0 x1 x2 x3 0 M Q) ∧
  (0 ≤ x2 →
  (x3 ≤ 0 →
  sp_X2_append_21 x0 x1 x2 x3 0 M Q) ∧
  (0 < x3 →
  ∃ a19 : Nat, x1 = some a19 ∧
  iA M a19 .long ∧
  (-2147483648 ≤ (alen a19 : Int) - x3 ∧ (alen a19 : Int) - x3 < 2147483648) ∧
  (((alen a19 : Int) - x3) < x2 →
  sp_X2_append_21 x0 (some a19) x2 x3 0 M Q) ∧
  (x2 ≤ ((alen a19 : Int) - x3) →
  sp_X2_append_21 x0 (some a19) x2 x3 1 M Q)))
def sp_X2_makePieces_85 (x0 : Nat) (x1 : Option Nat) (x2 : Int) (x3 : Int) (x4 : Int) (x5 : Nat) (x6 : Int) (x8 : Int) (M : Im) (Q : Int → Im → Prop) (K6 : Nat → Option Nat → Int → Int → Int → Option Nat → Int → Int → Im → Prop) (K49 : Int → Im → Prop) (K95 : Int → Im → Prop) : Prop :=
  (-2147483648 ≤ x6 + 1 ∧ x6 + 1 < 2147483648) ∧
  ∀ i11 : Int, i11 = x6 + 1 →
  K6 x0 x1 x2 x3 x4 (some x5) i11 x8 M
def sp_X2_makePieces_6 (n : Nat) (x0 : Nat) (x1 : Option Nat) (x2 : Int) (x3 : Int) (x4 : Int) (x5 : Option Nat) (x6 : Int) (x7 : Int) (M : Im) (Q : Int → Im → Prop) (K49 : Int → Im → Prop) (K95 : Int → Im → Prop) : Prop := match n with
  | 0 => False
  | n + 1 =>
  (x2 ≤ x7 →
  K95 x6 M) ∧
  (x7 < x2 →
  (x2 ≤ x6 →
  K95 x6 M) ∧
  (x6 < x2 →
  ∃ a1 : Nat, x5 = some a1 ∧
  iO M a1 1 ∧
  sp_X1_endOfSpan a1 x1 x7 x2 x3 M (fun (i3 : Int) (M2 : Im) =>
  (-2147483648 ≤ i3 - x7 ∧ i3 - x7 < 2147483648) ∧
  sp_X2_append x0 x1 x7 (i3 - x7) M2 (fun (r5 : Option Nat) (M4 : Im) =>
  (r5 = none →
  K49 x6 M4) ∧
  (∀ a6 : Nat, r5 = some a6 →
  iO M4 a6 0 ∧
  sp_X0_beFlat a6 x4 M4 (fun (M8 : Im) =>
  (-2147483648 ≤ i3 - x7 ∧ i3 - x7 < 2147483648) ∧
  ((i3 - x7) ≤ 1 →
  sp_X2_makePieces_85 x0 x1 x2 x3 x4 a1 x6 i3 M8 Q (fun (x0 : Nat) (x1 : Option Nat) (x2 : Int) (x3 : Int) (x4 : Int) (x5 : Option Nat) (x6 : Int) (x7 : Int) (M : Im) =>
  sp_X2_makePieces_6 n x0 x1 x2 x3 x4 x5 x6 x7 M Q K49 K95) K49 K95) ∧
  (1 < (i3 - x7) →
  ∀ M9 : Im, M9 = pI M8 a6 0 1 →
  sp_X1_tellLine a1 (some a6) x1 x7 x3 M9 (fun (M10 : Im) =>
  sp_X2_makePieces_85 x0 x1 x2 x3 x4 a1 x6 i3 M10 Q (fun (x0 : Nat) (x1 : Option Nat) (x2 : Int) (x3 : Int) (x4 : Int) (x5 : Option Nat) (x6 : Int) (x7 : Int) (M : Im) =>
  sp_X2_makePieces_6 n x0 x1 x2 x3 x4 x5 x6 x7 M Q K49 K95) K49 K95))))))))
def sp_X2_makePieces (x0 : Nat) (x1 : Option Nat) (x2 : Int) (x3 : Int) (x4 : Int) (x5 : Option Nat) (M : Im) (Q : Int → Im → Prop) : Prop :=
  iO M x0 2 ∧
  ∃ k6, 
  sp_X2_makePieces_6 k6 x0 x1 x2 x3 x4 x5 0 0 M Q (fun (x6 : Int) (M : Im) =>
  Q x6 M) (fun (x6 : Int) (M : Im) =>
  Q x6 M)
def sp_X2_turnRounded (x0 : Nat) (x1 : Option Nat) (M : Im) (Q : Int → Im → Prop) : Prop :=
  iO M x0 2 ∧
  ∃ a1 : Nat, x1 = some a1 ∧
  iO M a1 0 ∧
  (1 ≤ (gL M a1 7) →
  ∀ M2 : Im, M2 = pI M a1 0 2 →
  ∀ f3 : UInt64, alike64 f3 (FP.ddiv (FP.l2d (lz (gL M2 a1 6))) (FP.l2d (lz (gL M2 a1 7)))) = true →
  ∀ M4 : Im, M4 = pD M2 a1 9 f3 →
  ∀ f5 : UInt64, alike64 f5 (FP.ddiv (FP.l2d (lz (gL M4 a1 8))) (FP.l2d (lz (gL M4 a1 7)))) = true →
  ∀ M6 : Im, M6 = pD M4 a1 10 f5 →
  sp_X2_greatestMiss x0 (some a1) M6 (fun (i8 : Int) (M7 : Im) =>
  (i8 ≤ (gI M7 a1 1) →
  Q 1 M7) ∧
  ((gI M7 a1 1) < i8 →
  ∀ M9 : Im, M9 = pI M7 a1 0 1 →
  Q 0 M9))) ∧
  ((gL M a1 7) < 1 →
  Q 0 M)
def sp_X2_roundPieces_35 (x0 : Nat) (x2 : Int) (x3 : Int) (M : Im) (Q : Im → Prop) (K2 : Nat → Int → Int → Im → Prop) (K41 : Im → Prop) : Prop :=
  (-2147483648 ≤ x3 + 1 ∧ x3 + 1 < 2147483648) ∧
  ∀ i7 : Int, i7 = x3 + 1 →
  K2 x0 x2 i7 M
def sp_X2_roundPieces_2 (n : Nat) (x0 : Nat) (x2 : Int) (x3 : Int) (M : Im) (Q : Im → Prop) (K41 : Im → Prop) : Prop := match n with
  | 0 => False
  | n + 1 =>
  (x2 ≤ x3 →
  K41 M) ∧
  (x3 < x2 →
  sp_X2_pieceAt x0 x3 M (fun (r2 : Option Nat) (M1 : Im) =>
  (r2 = none →
  sp_X2_roundPieces_35 x0 x2 x3 M1 Q (fun (x0 : Nat) (x2 : Int) (x3 : Int) (M : Im) =>
  sp_X2_roundPieces_2 n x0 x2 x3 M Q K41) K41) ∧
  (∀ a3 : Nat, r2 = some a3 →
  iO M1 a3 0 ∧
  (¬ (gI M1 a3 0) = 1 →
  sp_X2_roundPieces_35 x0 x2 x3 M1 Q (fun (x0 : Nat) (x2 : Int) (x3 : Int) (M : Im) =>
  sp_X2_roundPieces_2 n x0 x2 x3 M Q K41) K41) ∧
  ((gI M1 a3 0) = 1 →
  sp_X2_turnRounded x0 (some a3) M1 (fun (i6 : Int) (M5 : Im) =>
  sp_X2_roundPieces_35 x0 x2 x3 M5 Q (fun (x0 : Nat) (x2 : Int) (x3 : Int) (M : Im) =>
  sp_X2_roundPieces_2 n x0 x2 x3 M Q K41) K41)))))
def sp_X2_roundPieces (x0 : Nat) (x1 : Int) (x2 : Int) (M : Im) (Q : Im → Prop) : Prop :=
  iO M x0 2 ∧
  ∃ k2, 
  sp_X2_roundPieces_2 k2 x0 x2 x1 M Q (fun (M : Im) =>
  Q M)
def sp_X2_takeOver_67 (n : Nat) (x0 : Nat) (x1 : Nat) (x3 : Int) (x4 : Int) (x5 : Nat) (x6 : Nat) (x7 : Int) (M : Im) (Q : Im → Prop) (K104 : Nat → Nat → Int → Int → Nat → Nat → Im → Prop) : Prop := match n with
  | 0 => False
  | n + 1 =>
  iO M x5 0 ∧
  ((gI M x5 3) ≤ x7 →
  K104 x0 x1 x3 x4 x5 x6 M) ∧
  (x7 < (gI M x5 3) →
  sp_X2_isDropped x1 (some x5) x7 M (fun (i14 : Int) (M13 : Im) =>
  (-2147483648 ≤ (gI M x6 2) + x7 ∧ (gI M x6 2) + x7 < 2147483648) ∧
  (0 ≤ (gI M x6 2) + x7 ∧ (gI M x6 2) + x7 < ((alen (x0 + 2)) : Int)) ∧
  (i14 = 0 ∨ i14 = 1) ∧
  (-2147483648 ≤ (gI M x6 2) + x7 ∧ (gI M x6 2) + x7 < 2147483648) ∧
  ∀ M15 : Im, M15 = pI M13 (x0 + 2) ((gI M x6 2) + x7).toNat i14 →
  (-2147483648 ≤ x7 + 1 ∧ x7 + 1 < 2147483648) ∧
  ∀ i16 : Int, i16 = x7 + 1 →
  sp_X2_takeOver_67 n x0 x1 x3 x4 x5 x6 i16 M15 Q K104))
def sp_X2_takeOver_107 (n : Nat) (x0 : Nat) (x1 : Nat) (x3 : Int) (x4 : Int) (x5 : Nat) (x6 : Nat) (x7 : Int) (M : Im) (Q : Im → Prop) (K173 : Nat → Nat → Int → Int → Im → Prop) : Prop := match n with
  | 0 => False
  | n + 1 =>
  ((gI M x5 5) ≤ x7 →
  K173 x0 x1 x3 x4 M) ∧
  (x7 < (gI M x5 5) →
  ((alen (x0 + 3) : Int) ≤ (gI M x0 5) →
  K173 x0 x1 x3 x4 M) ∧
  ((gI M x0 5) < (alen (x0 + 3) : Int) →
  sp_X2_lateOf x1 (some x5) x7 M (fun (j18 : Int) (M17 : Im) =>
  (0 ≤ gI M x0 5 ∧ gI M x0 5 < ((alen (x0 + 3)) : Int)) ∧
  ∀ M19 : Im, M19 = pL M17 (x0 + 3) (gI M x0 5).toNat j18 →
  (-2147483648 ≤ (gI M19 x0 5) + 1 ∧ (gI M19 x0 5) + 1 < 2147483648) ∧
  ∀ M20 : Im, M20 = pI M19 x0 5 ((gI M19 x0 5) + 1) →
  (-2147483648 ≤ (gI M20 x6 5) + 1 ∧ (gI M20 x6 5) + 1 < 2147483648) ∧
  ∀ M21 : Im, M21 = pI M20 x6 5 ((gI M20 x6 5) + 1) →
  (-2147483648 ≤ x7 + 1 ∧ x7 + 1 < 2147483648) ∧
  ∀ i22 : Int, i22 = x7 + 1 →
  sp_X2_takeOver_107 n x0 x1 x3 x4 x5 x6 i22 M21 Q K173)))
def sp_X2_takeOver_173 (x0 : Nat) (x1 : Nat) (x3 : Int) (x4 : Int) (M : Im) (Q : Im → Prop) (K3 : Nat → Option Nat → Int → Int → Im → Prop) (K56 : Im → Prop) (K179 : Im → Prop) : Prop :=
  (-2147483648 ≤ x4 + 1 ∧ x4 + 1 < 2147483648) ∧
  ∀ i23 : Int, i23 = x4 + 1 →
  K3 x0 (some x1) x3 i23 M
def sp_X2_takeOver_104 (x0 : Nat) (x1 : Nat) (x3 : Int) (x4 : Int) (x5 : Nat) (x6 : Nat) (M : Im) (Q : Im → Prop) (K3 : Nat → Option Nat → Int → Int → Im → Prop) (K56 : Im → Prop) (K179 : Im → Prop) : Prop :=
  ∃ k107, 
  sp_X2_takeOver_107 k107 x0 x1 x3 x4 x5 x6 0 M Q (fun (x0 : Nat) (x1 : Nat) (x3 : Int) (x4 : Int) (M : Im) =>
  sp_X2_takeOver_173 x0 x1 x3 x4 M Q K3 K56 K179)
def sp_X2_takeOver_44 (x0 : Nat) (x1 : Nat) (x3 : Int) (x4 : Int) (x5 : Option Nat) (t0 : Option Nat) (M : Im) (Q : Im → Prop) (K3 : Nat → Option Nat → Int → Int → Im → Prop) (K56 : Im → Prop) (K179 : Im → Prop) : Prop :=
  (x5 = none →
  K56 M) ∧
  (∀ a8 : Nat, x5 = some a8 →
  (t0 = none →
  K56 M) ∧
  (∀ a9 : Nat, t0 = some a9 →
  iO M a9 0 ∧
  sp_X0_beLike a9 (some a8) M (fun (M11 : Im) =>
  ∃ k67, 
  sp_X2_takeOver_67 k67 x0 x1 x3 x4 a8 a9 0 M11 Q (fun (x0 : Nat) (x1 : Nat) (x3 : Int) (x4 : Int) (x5 : Nat) (x6 : Nat) (M : Im) =>
  sp_X2_takeOver_104 x0 x1 x3 x4 x5 x6 M Q K3 K56 K179))))
def sp_X2_takeOver_3 (n : Nat) (x0 : Nat) (x1 : Option Nat) (x3 : Int) (x4 : Int) (M : Im) (Q : Im → Prop) (K56 : Im → Prop) (K179 : Im → Prop) : Prop := match n with
  | 0 => False
  | n + 1 =>
  (x3 ≤ x4 →
  K179 M) ∧
  (x4 < x3 →
  ∃ a1 : Nat, x1 = some a1 ∧
  iO M a1 2 ∧
  sp_X2_pieceAt a1 x4 M (fun (r3 : Option Nat) (M2 : Im) =>
  (r3 = none →
  sp_X2_takeOver_44 x0 a1 x3 x4 none none M2 Q (fun (x0 : Nat) (x1 : Option Nat) (x3 : Int) (x4 : Int) (M : Im) =>
  sp_X2_takeOver_3 n x0 x1 x3 x4 M Q K56 K179) K56 K179) ∧
  (∀ a4 : Nat, r3 = some a4 →
  iO M2 a4 0 ∧
  sp_X2_append x0 (some (a1 + 1)) (gI M2 a4 2) (gI M2 a4 3) M2 (fun (r7 : Option Nat) (M6 : Im) =>
  sp_X2_takeOver_44 x0 a1 x3 x4 (some a4) r7 M6 Q (fun (x0 : Nat) (x1 : Option Nat) (x3 : Int) (x4 : Int) (M : Im) =>
  sp_X2_takeOver_3 n x0 x1 x3 x4 M Q K56 K179) K56 K179))))
def sp_X2_takeOver (x0 : Nat) (x1 : Option Nat) (x2 : Int) (x3 : Int) (M : Im) (Q : Im → Prop) : Prop :=
  iO M x0 2 ∧
  ∃ k3, 
  sp_X2_takeOver_3 k3 x0 x1 x3 x2 M Q (fun (M : Im) =>
  Q M) (fun (M : Im) =>
  Q M)
def sp_X2_holds (x0 : Nat) (x1 : Int) (x2 : Int) (M : Im) (Q : Int → Im → Prop) : Prop :=
  iO M x0 2 ∧
  (x1 < 0 →
  ((0 : Int) = 0 ∨ (0 : Int) = 1) ∧
  Q 0 M) ∧
  (0 ≤ x1 →
  ((gI M x0 4) ≤ x1 →
  ((0 : Int) = 0 ∨ (0 : Int) = 1) ∧
  Q 0 M) ∧
  (x1 < (gI M x0 4) →
  (0 ≤ x1 ∧ x1 < ((alen (x0 + 1)) : Int)) ∧
  (¬ (gL M (x0 + 1) x1.toNat) = x2 →
  ((0 : Int) = 0 ∨ (0 : Int) = 1) ∧
  Q 0 M) ∧
  ((gL M (x0 + 1) x1.toNat) = x2 →
  (0 ≤ x1 ∧ x1 < ((alen (x0 + 2)) : Int)) ∧
  (¬ (gI M (x0 + 2) x1.toNat) = 0 →
  ((0 : Int) = 0 ∨ (0 : Int) = 1) ∧
  Q 0 M) ∧
  ((gI M (x0 + 2) x1.toNat) = 0 →
  ((1 : Int) = 0 ∨ (1 : Int) = 1) ∧
  Q 1 M))))
def sp_X2_restore (x0 : Nat) (x1 : Int) (x2 : Int) (M : Im) (Q : Int → Im → Prop) : Prop :=
  iO M x0 2 ∧
  (x1 < 0 →
  Q 0 M) ∧
  (0 ≤ x1 →
  ((gI M x0 4) ≤ x1 →
  Q 0 M) ∧
  (x1 < (gI M x0 4) →
  (0 ≤ x1 ∧ x1 < ((alen (x0 + 1)) : Int)) ∧
  (¬ (gL M (x0 + 1) x1.toNat) = x2 →
  Q 0 M) ∧
  ((gL M (x0 + 1) x1.toNat) = x2 →
  (0 ≤ x1 ∧ x1 < ((alen (x0 + 2)) : Int)) ∧
  (¬ (gI M (x0 + 2) x1.toNat) = 0 →
  (0 ≤ x1 ∧ x1 < ((alen (x0 + 2)) : Int)) ∧
  ∀ M1 : Im, M1 = pI M (x0 + 2) x1.toNat 0 →
  Q 1 M1) ∧
  ((gI M (x0 + 2) x1.toNat) = 0 →
  Q 0 M))))
def sp_X2_markDropped (x0 : Nat) (x1 : Int) (M : Im) (Q : Im → Prop) : Prop :=
  iO M x0 2 ∧
  (x1 < 0 →
  Q M) ∧
  (0 ≤ x1 →
  ((gI M x0 4) ≤ x1 →
  Q M) ∧
  (x1 < (gI M x0 4) →
  (0 ≤ x1 ∧ x1 < ((alen (x0 + 2)) : Int)) ∧
  ∀ M1 : Im, M1 = pI M (x0 + 2) x1.toNat 1 →
  Q M1))
def sp_X2_changeLate_62 (x0 : Nat) (x1 : Int) (x2 : Int) (x3 : Int) (M : Im) (Q : Im → Prop) (K2 : Nat → Int → Int → Int → Im → Prop) (K68 : Im → Prop) : Prop :=
  (-2147483648 ≤ x3 + 1 ∧ x3 + 1 < 2147483648) ∧
  ∀ i7 : Int, i7 = x3 + 1 →
  K2 x0 x1 x2 i7 M
def sp_X2_changeLate_58 (x0 : Nat) (x1 : Int) (x2 : Int) (x3 : Int) (t0 : Int) (t1 : Int) (t2 : Nat) (M : Im) (Q : Im → Prop) (K2 : Nat → Int → Int → Int → Im → Prop) (K68 : Im → Prop) : Prop :=
  (-2147483648 ≤ t1 + t0 ∧ t1 + t0 < 2147483648) ∧
  ∀ M6 : Im, M6 = pI M t2 4 (t1 + t0) →
  sp_X2_changeLate_62 x0 x1 x2 x3 M6 Q K2 K68
def sp_X2_changeLate_38 (x0 : Nat) (x1 : Int) (x2 : Int) (x3 : Int) (x4 : Nat) (t0 : Int) (t1 : Int) (t2 : Nat) (M : Im) (Q : Im → Prop) (K2 : Nat → Int → Int → Int → Im → Prop) (K68 : Im → Prop) : Prop :=
  (-2147483648 ≤ t1 + t0 ∧ t1 + t0 < 2147483648) ∧
  ∀ M5 : Im, M5 = pI M t2 5 (t1 + t0) →
  (¬ x3 = x1 →
  sp_X2_changeLate_58 x0 x1 x2 x3 x2 (gI M5 x4 4) x4 M5 Q K2 K68) ∧
  (x3 = x1 →
  sp_X2_changeLate_58 x0 x1 x2 x3 0 (gI M5 x4 4) x4 M5 Q K2 K68)
def sp_X2_changeLate_2 (n : Nat) (x0 : Nat) (x1 : Int) (x2 : Int) (x3 : Int) (M : Im) (Q : Im → Prop) (K68 : Im → Prop) : Prop := match n with
  | 0 => False
  | n + 1 =>
  ((gI M x0 6) ≤ x3 →
  K68 M) ∧
  (x3 < (gI M x0 6) →
  sp_X2_pieceAt x0 x3 M (fun (r2 : Option Nat) (M1 : Im) =>
  (r2 = none →
  sp_X2_changeLate_62 x0 x1 x2 x3 M1 Q (fun (x0 : Nat) (x1 : Int) (x2 : Int) (x3 : Int) (M : Im) =>
  sp_X2_changeLate_2 n x0 x1 x2 x3 M Q K68) K68) ∧
  (∀ a3 : Nat, r2 = some a3 →
  iO M1 a3 0 ∧
  (¬ x3 = x1 →
  sp_X2_changeLate_38 x0 x1 x2 x3 a3 0 (gI M1 a3 5) a3 M1 Q (fun (x0 : Nat) (x1 : Int) (x2 : Int) (x3 : Int) (M : Im) =>
  sp_X2_changeLate_2 n x0 x1 x2 x3 M Q K68) K68) ∧
  (x3 = x1 →
  sp_X2_changeLate_38 x0 x1 x2 x3 a3 x2 (gI M1 a3 5) a3 M1 Q (fun (x0 : Nat) (x1 : Int) (x2 : Int) (x3 : Int) (M : Im) =>
  sp_X2_changeLate_2 n x0 x1 x2 x3 M Q K68) K68))))
def sp_X2_changeLate (x0 : Nat) (x1 : Int) (x2 : Int) (M : Im) (Q : Im → Prop) : Prop :=
  iO M x0 2 ∧
  ∃ k2, 
  sp_X2_changeLate_2 k2 x0 x1 x2 x1 M Q (fun (M : Im) =>
  Q M)
def sp_X2_putLate_44 (n : Nat) (x0 : Nat) (x1 : Int) (x2 : Int) (x3 : Int) (x5 : Nat) (x6 : Int) (M : Im) (Q : Int → Im → Prop) (K72 : Nat → Int → Int → Int → Nat → Im → Prop) : Prop := match n with
  | 0 => False
  | n + 1 =>
  (x6 ≤ x2 →
  K72 x0 x1 x2 x3 x5 M) ∧
  (x2 < x6 →
  (-2147483648 ≤ x6 - 1 ∧ x6 - 1 < 2147483648) ∧
  (0 ≤ x6 - 1 ∧ x6 - 1 < ((alen (x0 + 3)) : Int)) ∧
  (0 ≤ x6 ∧ x6 < ((alen (x0 + 3)) : Int)) ∧
  (-2147483648 ≤ x6 - 1 ∧ x6 - 1 < 2147483648) ∧
  ∀ M1 : Im, M1 = pL M (x0 + 3) x6.toNat (gL M (x0 + 3) (x6 - 1).toNat) →
  (-2147483648 ≤ x6 + (-1) ∧ x6 + (-1) < 2147483648) ∧
  ∀ i2 : Int, i2 = x6 + (-1) →
  sp_X2_putLate_44 n x0 x1 x2 x3 x5 i2 M1 Q K72)
def sp_X2_putLate (x0 : Nat) (x1 : Int) (x2 : Int) (x3 : Int) (M : Im) (Q : Int → Im → Prop) : Prop :=
  iO M x0 2 ∧
  sp_X2_pieceAt x0 x1 M (fun (r8 : Option Nat) (M7 : Im) =>
  (r8 = none →
  Q 0 M7) ∧
  (∀ a9 : Nat, r8 = some a9 →
  (x2 < 0 →
  Q 0 M7) ∧
  (0 ≤ x2 →
  ((gI M7 x0 5) < x2 →
  Q 0 M7) ∧
  (x2 ≤ (gI M7 x0 5) →
  ((gI M7 x0 5) < (alen (x0 + 3) : Int) →
  ∀ i10 : Int, i10 = gI M7 x0 5 →
  ∃ k44, 
  sp_X2_putLate_44 k44 x0 x1 x2 x3 a9 i10 M7 Q (fun (x0 : Nat) (x1 : Int) (x2 : Int) (x3 : Int) (x5 : Nat) (M : Im) =>
  (0 ≤ x2 ∧ x2 < ((alen (x0 + 3)) : Int)) ∧
  ∀ M3 : Im, M3 = pL M (x0 + 3) x2.toNat x3 →
  (-2147483648 ≤ (gI M3 x0 5) + 1 ∧ (gI M3 x0 5) + 1 < 2147483648) ∧
  ∀ M4 : Im, M4 = pI M3 x0 5 ((gI M3 x0 5) + 1) →
  sp_X2_changeLate x0 x1 1 M4 (fun (M5 : Im) =>
  iO M5 x5 0 ∧
  Q (gI M5 x5 5) M5))) ∧
  ((alen (x0 + 3) : Int) ≤ (gI M7 x0 5) →
  Q 0 M7)))))
def sp_X2_takeLate_25 (n : Nat) (x0 : Nat) (x1 : Int) (x3 : Int) (M : Im) (Q : Im → Prop) (K53 : Nat → Int → Im → Prop) : Prop := match n with
  | 0 => False
  | n + 1 =>
  ((gI M x0 5) ≤ x3 →
  K53 x0 x1 M) ∧
  (x3 < (gI M x0 5) →
  (-2147483648 ≤ x3 + 1 ∧ x3 + 1 < 2147483648) ∧
  (0 ≤ x3 + 1 ∧ x3 + 1 < ((alen (x0 + 3)) : Int)) ∧
  (0 ≤ x3 ∧ x3 < ((alen (x0 + 3)) : Int)) ∧
  (-2147483648 ≤ x3 + 1 ∧ x3 + 1 < 2147483648) ∧
  ∀ M1 : Im, M1 = pL M (x0 + 3) x3.toNat (gL M (x0 + 3) (x3 + 1).toNat) →
  (-2147483648 ≤ x3 + 1 ∧ x3 + 1 < 2147483648) ∧
  ∀ i2 : Int, i2 = x3 + 1 →
  sp_X2_takeLate_25 n x0 x1 i2 M1 Q K53)
def sp_X2_takeLate (x0 : Nat) (x1 : Int) (x2 : Int) (M : Im) (Q : Im → Prop) : Prop :=
  iO M x0 2 ∧
  (x2 < 0 →
  Q M) ∧
  (0 ≤ x2 →
  (x2 < (gI M x0 5) →
  (-2147483648 ≤ (gI M x0 5) - 1 ∧ (gI M x0 5) - 1 < 2147483648) ∧
  ∀ M4 : Im, M4 = pI M x0 5 ((gI M x0 5) - 1) →
  ∃ k25, 
  sp_X2_takeLate_25 k25 x0 x1 x2 M4 Q (fun (x0 : Nat) (x1 : Int) (M : Im) =>
  sp_X2_changeLate x0 x1 (-1) M (fun (M3 : Im) =>
  Q M3))) ∧
  ((gI M x0 5) ≤ x2 →
  Q M))
def sp_X3_init (x0 : Nat) (M : Im) (Q : Im → Prop) : Prop :=
  iO M x0 3 ∧
  0 ≤ (34 : Int) ∧
  gz M < ZMAX ∧
  shp (gz M) = .inl (.int, 34) ∧
  34 * 8 ≤ 536870912 ∧
  ∀ (a1 : Nat) (M2 : Im), a1 = gz M → M2 = pnw M →
  ∀ M3 : Im, M3 = pR M2 x0 0 (some a1) →
  ∀ M4 : Im, M4 = pI M3 x0 1 0 →
  ∀ M5 : Im, M5 = pI M4 x0 2 0 →
  ∀ M6 : Im, M6 = pI M5 x0 3 0 →
  ∀ M7 : Im, M7 = pI M6 x0 4 0 →
  ∀ M8 : Im, M8 = pI M7 x0 5 0 →
  ∀ M9 : Im, M9 = pI M8 x0 6 0 →
  Q M9
def sp_X3_tell (x0 : Nat) (x1 : Int) (M : Im) (Q : Im → Prop) : Prop :=
  iO M x0 3 ∧
  ((alen (x0 + 1) : Int) ≤ (gI M x0 1) →
  Q M) ∧
  ((gI M x0 1) < (alen (x0 + 1) : Int) →
  (0 ≤ gI M x0 1 ∧ gI M x0 1 < ((alen (x0 + 1)) : Int)) ∧
  ∀ M1 : Im, M1 = pI M (x0 + 1) (gI M x0 1).toNat x1 →
  (-2147483648 ≤ (gI M1 x0 1) + 1 ∧ (gI M1 x0 1) + 1 < 2147483648) ∧
  ∀ M2 : Im, M2 = pI M1 x0 1 ((gI M1 x0 1) + 1) →
  Q M2)
def sp_X3_descend_105 (x0 : Nat) (x1 : Nat) (x2 : Int) (x3 : Int) (x5 : Nat) (x6 : Int) (x8 : Int) (t0 : Int) (t1 : Int) (M : Im) (Q : Int → Im → Prop) (K53 : Nat → Nat → Int → Int → Nat → Int → Int → Int → Im → Prop) (K111 : Nat → Int → Nat → Int → Int → Im → Prop) : Prop :=
  (-2147483648 ≤ t1 - t0 ∧ t1 - t0 < 2147483648) ∧
  ∀ i4 : Int, i4 = t1 - t0 →
  K53 x0 x1 x2 x3 x5 x6 i4 x8 M
def sp_X3_descend_91 (x0 : Nat) (x1 : Nat) (x2 : Int) (x3 : Int) (x5 : Nat) (x6 : Int) (x7 : Int) (t0 : Int) (M : Im) (Q : Int → Im → Prop) (K53 : Nat → Nat → Int → Int → Nat → Int → Int → Int → Im → Prop) (K111 : Nat → Int → Nat → Int → Int → Im → Prop) : Prop :=
  (t0 = 0 →
  sp_X3_descend_105 x0 x1 x2 x3 x5 x6 t0 0 x7 M Q K53 K111) ∧
  (¬ t0 = 0 →
  sp_X3_descend_105 x0 x1 x2 x3 x5 x6 t0 1 x7 M Q K53 K111)
def sp_X3_descend_53 (n : Nat) (x0 : Nat) (x1 : Nat) (x2 : Int) (x3 : Int) (x5 : Nat) (x6 : Int) (x7 : Int) (x8 : Int) (M : Im) (Q : Int → Im → Prop) (K111 : Nat → Int → Nat → Int → Int → Im → Prop) : Prop := match n with
  | 0 => False
  | n + 1 =>
  (x7 ≤ 0 →
  K111 x0 x2 x5 x6 x7 M) ∧
  (0 < x7 →
  (x8 = 0 →
  K111 x0 x2 x5 x6 x7 M) ∧
  (¬ x8 = 0 →
  (-2147483648 ≤ (gI M x0 2) + 1 ∧ (gI M x0 2) + 1 < 2147483648) ∧
  ∀ M1 : Im, M1 = pI M x0 2 ((gI M x0 2) + 1) →
  sp_X2_keyOf x1 (some x5) x7 M1 (fun (j3 : Int) (M2 : Im) =>
  (j3 ≤ x3 →
  sp_X3_descend_91 x0 x1 x2 x3 x5 x6 x7 0 M2 Q (fun (x0 : Nat) (x1 : Nat) (x2 : Int) (x3 : Int) (x5 : Nat) (x6 : Int) (x7 : Int) (x8 : Int) (M : Im) =>
  sp_X3_descend_53 n x0 x1 x2 x3 x5 x6 x7 x8 M Q K111) K111) ∧
  (x3 < j3 →
  sp_X3_descend_91 x0 x1 x2 x3 x5 x6 x7 1 M2 Q (fun (x0 : Nat) (x1 : Nat) (x2 : Int) (x3 : Int) (x5 : Nat) (x6 : Int) (x7 : Int) (x8 : Int) (M : Im) =>
  sp_X3_descend_53 n x0 x1 x2 x3 x5 x6 x7 x8 M Q K111) K111))))
def sp_X3_descend (x0 : Nat) (x1 : Option Nat) (x2 : Int) (x3 : Int) (M : Im) (Q : Int → Im → Prop) : Prop :=
  iO M x0 3 ∧
  ∃ a8 : Nat, x1 = some a8 ∧
  iO M a8 2 ∧
  sp_X2_pieceAt a8 x2 M (fun (r10 : Option Nat) (M9 : Im) =>
  (r10 = none →
  Q 0 M9) ∧
  (∀ a11 : Nat, r10 = some a11 →
  sp_X2_keyOf a8 (some a11) 0 M9 (fun (j13 : Int) (M12 : Im) =>
  iO M12 a11 0 ∧
  (-9223372036854775808 ≤ x3 - j13 ∧ x3 - j13 < 9223372036854775808) ∧
  sp_X0_guessAway a11 (x3 - j13) M12 (fun (i16 : Int) (M15 : Im) =>
  (-2147483648 ≤ i16 + (gI M15 a11 1) ∧ i16 + (gI M15 a11 1) < 2147483648) ∧
  (-2147483648 ≤ (gI M15 a11 3) - 1 ∧ (gI M15 a11 3) - 1 < 2147483648) ∧
  sp_J9_min_7cf53 (i16 + (gI M15 a11 1)) ((gI M15 a11 3) - 1) M15 (fun (i18 : Int) (M17 : Im) =>
  ∃ k53, 
  sp_X3_descend_53 k53 x0 a8 x2 x3 a11 i16 i18 1 M17 Q (fun (x0 : Nat) (x2 : Int) (x5 : Nat) (x6 : Int) (x7 : Int) (M : Im) =>
  sp_X3_tell x0 x2 M (fun (M5 : Im) =>
  sp_X3_tell x0 x6 M5 (fun (M6 : Im) =>
  sp_X3_tell x0 x7 M6 (fun (M7 : Im) =>
  (-2147483648 ≤ (gI M7 x5 2) + x7 ∧ (gI M7 x5 2) + x7 < 2147483648) ∧
  Q ((gI M7 x5 2) + x7) M7)))))))))
def sp_X3_seekLate_100 (x0 : Nat) (x1 : Nat) (x2 : Int) (x4 : Nat) (x5 : Int) (x6 : Int) (t0 : Int) (t1 : Nat) (M : Im) (Q : Im → Prop) (K26 : Nat → Nat → Int → Nat → Int → Int → Im → Prop) (K106 : Nat → Nat → Int → Im → Prop) : Prop :=
  ∀ M5 : Im, M5 = pI M t1 3 t0 →
  K26 x0 x1 x2 x4 x5 x6 M5
def sp_X3_seekLate_84 (x0 : Nat) (x1 : Nat) (x2 : Int) (x4 : Nat) (x6 : Int) (x7 : Int) (t0 : Int) (t1 : Int) (M : Im) (Q : Im → Prop) (K26 : Nat → Nat → Int → Nat → Int → Int → Im → Prop) (K106 : Nat → Nat → Int → Im → Prop) : Prop :=
  (-2147483648 ≤ t1 - t0 ∧ t1 - t0 < 2147483648) ∧
  ∀ i4 : Int, i4 = t1 - t0 →
  (¬ x7 = x2 →
  sp_X3_seekLate_100 x0 x1 x2 x4 i4 x6 0 x0 M Q K26 K106) ∧
  (x7 = x2 →
  sp_X3_seekLate_100 x0 x1 x2 x4 i4 x6 1 x0 M Q K26 K106)
def sp_X3_seekLate_70 (x0 : Nat) (x1 : Nat) (x2 : Int) (x4 : Nat) (x5 : Int) (x7 : Int) (t0 : Int) (M : Im) (Q : Im → Prop) (K26 : Nat → Nat → Int → Nat → Int → Int → Im → Prop) (K106 : Nat → Nat → Int → Im → Prop) : Prop :=
  (t0 = 0 →
  sp_X3_seekLate_84 x0 x1 x2 x4 t0 x7 0 x5 M Q K26 K106) ∧
  (¬ t0 = 0 →
  sp_X3_seekLate_84 x0 x1 x2 x4 t0 x7 1 x5 M Q K26 K106)
def sp_X3_seekLate_26 (n : Nat) (x0 : Nat) (x1 : Nat) (x2 : Int) (x4 : Nat) (x5 : Int) (x6 : Int) (M : Im) (Q : Im → Prop) (K106 : Nat → Nat → Int → Im → Prop) : Prop := match n with
  | 0 => False
  | n + 1 =>
  (x5 ≤ 0 →
  K106 x0 x4 x5 M) ∧
  (0 < x5 →
  (x6 = 0 →
  K106 x0 x4 x5 M) ∧
  (¬ x6 = 0 →
  (-2147483648 ≤ (gI M x0 2) + 1 ∧ (gI M x0 2) + 1 < 2147483648) ∧
  ∀ M1 : Im, M1 = pI M x0 2 ((gI M x0 2) + 1) →
  (-2147483648 ≤ x5 - 1 ∧ x5 - 1 < 2147483648) ∧
  sp_X2_lateOf x1 (some x4) (x5 - 1) M1 (fun (j3 : Int) (M2 : Im) =>
  (j3 ≤ x2 →
  sp_X3_seekLate_70 x0 x1 x2 x4 x5 j3 0 M2 Q (fun (x0 : Nat) (x1 : Nat) (x2 : Int) (x4 : Nat) (x5 : Int) (x6 : Int) (M : Im) =>
  sp_X3_seekLate_26 n x0 x1 x2 x4 x5 x6 M Q K106) K106) ∧
  (x2 < j3 →
  sp_X3_seekLate_70 x0 x1 x2 x4 x5 j3 1 M2 Q (fun (x0 : Nat) (x1 : Nat) (x2 : Int) (x4 : Nat) (x5 : Int) (x6 : Int) (M : Im) =>
  sp_X3_seekLate_26 n x0 x1 x2 x4 x5 x6 M Q K106) K106))))
def sp_X3_seekLate (x0 : Nat) (x1 : Option Nat) (x2 : Int) (M : Im) (Q : Im → Prop) : Prop :=
  iO M x0 3 ∧
  ∃ a7 : Nat, x1 = some a7 ∧
  iO M a7 2 ∧
  sp_X2_pieceAt a7 (gI M x0 4) M (fun (r9 : Option Nat) (M8 : Im) =>
  (r9 = none →
  Q M8) ∧
  (∀ a10 : Nat, r9 = some a10 →
  iO M8 a10 0 ∧
  ∀ i12 : Int, i12 = gI M8 a10 5 →
  ∃ k26, 
  sp_X3_seekLate_26 k26 x0 a7 x2 a10 i12 1 M8 Q (fun (x0 : Nat) (x4 : Nat) (x5 : Int) (M : Im) =>
  (-2147483648 ≤ (gI M x4 4) + x5 ∧ (gI M x4 4) + x5 < 2147483648) ∧
  ∀ M6 : Im, M6 = pI M x0 6 ((gI M x4 4) + x5) →
  Q M6)))
def sp_X3_follow_26 (n : Nat) (x0 : Nat) (x1 : Int) (x3 : Option Nat) (x4 : Option Nat) (x6 : Int) (M : Im) (Q : Im → Prop) (K63 : Nat → Int → Option Nat → Im → Prop) : Prop := match n with
  | 0 => False
  | n + 1 =>
  (x6 < 0 →
  K63 x0 x1 x3 M) ∧
  (0 ≤ x6 →
  ∃ a1 : Nat, x4 = some a1 ∧
  iA M a1 (.object "LeaningIndex$Tier") ∧
  ((alen a1 : Int) ≤ x6 →
  K63 x0 x1 x3 M) ∧
  (x6 < (alen a1 : Int) →
  (0 ≤ x6 ∧ x6 < ((alen a1) : Int)) ∧
  ∀ r2 : Option Nat, r2 = gz4 M a1 x6.toNat →
  sp_X3_descend x0 r2 (gI M x0 4) x1 M (fun (i4 : Int) (M3 : Im) =>
  ∀ M5 : Im, M5 = pI M3 x0 4 i4 →
  (-2147483648 ≤ x6 + (-1) ∧ x6 + (-1) < 2147483648) ∧
  ∀ i6 : Int, i6 = x6 + (-1) →
  sp_X3_follow_26 n x0 x1 x3 (some a1) i6 M5 Q K63)))
def sp_X3_follow_113 (x0 : Nat) (M : Im) (Q : Im → Prop) : Prop :=
  sp_X3_tell x0 (gI M x0 3) M (fun (M16 : Im) =>
  Q M16)
def sp_X3_follow (x0 : Nat) (x1 : Int) (x3 : Option Nat) (x4 : Option Nat) (x5 : Int) (M : Im) (Q : Im → Prop) : Prop :=
  iO M x0 3 ∧
  ∀ M17 : Im, M17 = pI M x0 1 0 →
  ∀ M18 : Im, M18 = pI M17 x0 2 0 →
  ∀ M19 : Im, M19 = pI M18 x0 3 0 →
  ∀ M20 : Im, M20 = pI M19 x0 4 0 →
  (-2147483648 ≤ x5 - 1 ∧ x5 - 1 < 2147483648) ∧
  ∀ i21 : Int, i21 = x5 - 1 →
  ∃ k26, 
  sp_X3_follow_26 k26 x0 x1 x3 x4 i21 M20 Q (fun (x0 : Nat) (x1 : Int) (x3 : Option Nat) (M : Im) =>
  sp_X3_descend x0 x3 (gI M x0 4) x1 M (fun (i8 : Int) (M7 : Im) =>
  ∀ M9 : Im, M9 = pI M7 x0 5 i8 →
  (-2147483648 ≤ (gI M9 x0 2) + 1 ∧ (gI M9 x0 2) + 1 < 2147483648) ∧
  ∀ M10 : Im, M10 = pI M9 x0 2 ((gI M9 x0 2) + 1) →
  ∃ a11 : Nat, x3 = some a11 ∧
  iO M10 a11 2 ∧
  sp_X2_holds a11 (gI M10 x0 5) x1 M10 (fun (i13 : Int) (M12 : Im) =>
  (i13 = 0 →
  sp_X3_seekLate x0 (some a11) x1 M12 (fun (M14 : Im) =>
  sp_X3_follow_113 x0 M14 Q)) ∧
  (¬ i13 = 0 →
  ∀ M15 : Im, M15 = pI M12 x0 3 1 →
  sp_X3_follow_113 x0 M15 Q))))
def sp_X3_tellsTheSame_15 (n : Nat) (x0 : Nat) (x1 : Nat) (x2 : Int) (M : Im) (Q : Int → Im → Prop) (K38 : Im → Prop) (K46 : Im → Prop) : Prop := match n with
  | 0 => False
  | n + 1 =>
  ((gI M x0 1) ≤ x2 →
  K46 M) ∧
  (x2 < (gI M x0 1) →
  (0 ≤ x2 ∧ x2 < ((alen (x0 + 1)) : Int)) ∧
  (0 ≤ x2 ∧ x2 < ((alen (x1 + 1)) : Int)) ∧
  ((gI M (x0 + 1) x2.toNat) = (gI M (x1 + 1) x2.toNat) →
  (-2147483648 ≤ x2 + 1 ∧ x2 + 1 < 2147483648) ∧
  ∀ i1 : Int, i1 = x2 + 1 →
  sp_X3_tellsTheSame_15 n x0 x1 i1 M Q K38 K46) ∧
  (¬ (gI M (x0 + 1) x2.toNat) = (gI M (x1 + 1) x2.toNat) →
  K38 M))
def sp_X3_tellsTheSame (x0 : Nat) (x1 : Option Nat) (M : Im) (Q : Int → Im → Prop) : Prop :=
  iO M x0 3 ∧
  ∃ a2 : Nat, x1 = some a2 ∧
  iO M a2 3 ∧
  ((gI M x0 1) = (gI M a2 1) →
  ∃ k15, 
  sp_X3_tellsTheSame_15 k15 x0 a2 0 M Q (fun (M : Im) =>
  Q 0 M) (fun (M : Im) =>
  Q 1 M)) ∧
  (¬ (gI M x0 1) = (gI M a2 1) →
  Q 0 M)
def sp_X4_init_135 (n : Nat) (x0 : Nat) (x1 : Int) (x2 : Int) (M : Im) (Q : Im → Prop) (K168 : Im → Prop) : Prop := match n with
  | 0 => False
  | n + 1 =>
  (10 ≤ x2 →
  K168 M) ∧
  (x2 < 10 →
  ∀ r1 : Option Nat, r1 = gR M x0 5 →
  gz M < ZMAX ∧
  shp (gz M) = .inr 2 ∧
  ∀ (a2 : Nat) (M3 : Im), a2 = gz M → M3 = pnw M →
  sp_X2_init a2 x1 0 M3 (fun (M4 : Im) =>
  ∃ a5 : Nat, r1 = some a5 ∧
  iA M4 a5 (.object "LeaningIndex$Tier") ∧
  (0 ≤ x2 ∧ x2 < ((alen a5) : Int)) ∧
  ∀ M6 : Im, M6 = pR M4 a5 x2.toNat (some a2) →
  ¬ (2 : Int) = 0 ∧
  (-2147483648 ≤ x1 + 1 ∧ x1 + 1 < 2147483648) ∧
  (-2147483648 ≤ (x1 + 1).tdiv 2 ∧ (x1 + 1).tdiv 2 < 2147483648) ∧
  ∀ i7 : Int, i7 = (x1 + 1).tdiv 2 →
  (-2147483648 ≤ x2 + 1 ∧ x2 + 1 < 2147483648) ∧
  ∀ i8 : Int, i8 = x2 + 1 →
  sp_X4_init_135 n x0 i7 i8 M6 Q K168))
def sp_X4_init (x0 : Nat) (M : Im) (Q : Im → Prop) : Prop :=
  iO M x0 4 ∧
  0 ≤ (300 : Int) ∧
  gz M < ZMAX ∧
  shp (gz M) = .inl (.long, 300) ∧
  300 * 8 ≤ 536870912 ∧
  ∀ (a9 : Nat) (M10 : Im), a9 = gz M → M10 = pnw M →
  ∀ M11 : Im, M11 = pR M10 x0 0 (some a9) →
  ∀ M12 : Im, M12 = pI M11 x0 1 0 →
  ∀ M13 : Im, M13 = pI M12 x0 2 8 →
  gz M13 < ZMAX ∧
  shp (gz M13) = .inr 2 ∧
  ∀ (a14 : Nat) (M15 : Im), a14 = gz M13 → M15 = pnw M13 →
  sp_X2_init a14 600 300 M15 (fun (M16 : Im) =>
  ∀ M17 : Im, M17 = pR M16 x0 3 (some a14) →
  gz M17 < ZMAX ∧
  shp (gz M17) = .inr 2 ∧
  ∀ (a18 : Nat) (M19 : Im), a18 = gz M17 → M19 = pnw M17 →
  sp_X2_init a18 600 300 M19 (fun (M20 : Im) =>
  ∀ M21 : Im, M21 = pR M20 x0 4 (some a18) →
  0 ≤ (10 : Int) ∧
  gz M21 < ZMAX ∧
  shp (gz M21) = .inl (.object "LeaningIndex$Tier", 10) ∧
  10 * 8 ≤ 536870912 ∧
  ∀ (a22 : Nat) (M23 : Im), a22 = gz M21 → M23 = pnw M21 →
  ∀ M24 : Im, M24 = pR M23 x0 5 (some a22) →
  ∀ M25 : Im, M25 = pI M24 x0 6 0 →
  ∀ M26 : Im, M26 = pI M25 x0 7 0 →
  ∀ M27 : Im, M27 = pI M26 x0 8 0 →
  ∀ M28 : Im, M28 = pI M27 x0 9 0 →
  gz M28 < ZMAX ∧
  shp (gz M28) = .inr 3 ∧
  ∀ (a29 : Nat) (M30 : Im), a29 = gz M28 → M30 = pnw M28 →
  sp_X3_init a29 M30 (fun (M31 : Im) =>
  ∀ M32 : Im, M32 = pR M31 x0 10 (some a29) →
  gz M32 < ZMAX ∧
  shp (gz M32) = .inr 3 ∧
  ∀ (a33 : Nat) (M34 : Im), a33 = gz M32 → M34 = pnw M32 →
  sp_X3_init a33 M34 (fun (M35 : Im) =>
  ∀ M36 : Im, M36 = pR M35 x0 11 (some a33) →
  gz M36 < ZMAX ∧
  shp (gz M36) = .inr 1 ∧
  ∀ (a37 : Nat) (M38 : Im), a37 = gz M36 → M38 = pnw M36 →
  sp_X1_init a37 M38 (fun (M39 : Im) =>
  ∀ M40 : Im, M40 = pR M39 x0 12 (some a37) →
  0 ≤ (600 : Int) ∧
  gz M40 < ZMAX ∧
  shp (gz M40) = .inl (.long, 600) ∧
  600 * 8 ≤ 536870912 ∧
  ∀ (a41 : Nat) (M42 : Im), a41 = gz M40 → M42 = pnw M40 →
  ∀ M43 : Im, M43 = pR M42 x0 13 (some a41) →
  ∃ k135, 
  sp_X4_init_135 k135 x0 600 0 M43 Q (fun (M : Im) =>
  Q M))))))
def sp_X4_isKey (x0 : Int) (M : Im) (Q : Int → Im → Prop) : Prop :=
  (x0 < (-1000000000000) →
  ((0 : Int) = 0 ∨ (0 : Int) = 1) ∧
  Q 0 M) ∧
  ((-1000000000000) ≤ x0 →
  (1000000000000 < x0 →
  ((0 : Int) = 0 ∨ (0 : Int) = 1) ∧
  Q 0 M) ∧
  (x0 ≤ 1000000000000 →
  ((1 : Int) = 0 ∨ (1 : Int) = 1) ∧
  Q 1 M))
def sp_X4_isAboveRow (x0 : Nat) (x1 : Int) (M : Im) (Q : Int → Im → Prop) : Prop :=
  iO M x0 4 ∧
  ((gI M x0 1) = 0 →
  ((1 : Int) = 0 ∨ (1 : Int) = 1) ∧
  Q 1 M) ∧
  (¬ (gI M x0 1) = 0 →
  (-2147483648 ≤ (gI M x0 1) - 1 ∧ (gI M x0 1) - 1 < 2147483648) ∧
  (0 ≤ (gI M x0 1) - 1 ∧ (gI M x0 1) - 1 < ((alen 1) : Int)) ∧
  (-2147483648 ≤ (gI M x0 1) - 1 ∧ (gI M x0 1) - 1 < 2147483648) ∧
  (x1 ≤ (gL M 1 ((gI M x0 1) - 1).toNat) →
  ((0 : Int) = 0 ∨ (0 : Int) = 1) ∧
  Q 0 M) ∧
  ((gL M 1 ((gI M x0 1) - 1).toNat) < x1 →
  ((1 : Int) = 0 ∨ (1 : Int) = 1) ∧
  Q 1 M))
def sp_X4_load (x0 : Nat) (x1 : Int) (M : Im) (Q : Int → Im → Prop) : Prop :=
  iO M x0 4 ∧
  sp_X4_isKey x1 M (fun (i2 : Int) (M1 : Im) =>
  (i2 = 0 →
  Q (-2) M1) ∧
  (¬ i2 = 0 →
  sp_X4_isAboveRow x0 x1 M1 (fun (i4 : Int) (M3 : Im) =>
  (¬ i4 = 0 →
  ((gI M3 x0 1) < 300 →
  (0 ≤ gI M3 x0 1 ∧ gI M3 x0 1 < ((alen 1) : Int)) ∧
  ∀ M5 : Im, M5 = pL M3 1 (gI M3 x0 1).toNat x1 →
  (-2147483648 ≤ (gI M5 x0 1) + 1 ∧ (gI M5 x0 1) + 1 < 2147483648) ∧
  ∀ M6 : Im, M6 = pI M5 x0 1 ((gI M5 x0 1) + 1) →
  Q (gI M6 x0 1) M6) ∧
  (300 ≤ (gI M3 x0 1) →
  Q (-3) M3)) ∧
  (i4 = 0 →
  Q (-2) M3))))
def sp_X4_fill_68 (n : Nat) (x0 : Nat) (x1 : Int) (x3 : Int) (x5 : Int) (x6 : Int) (M : Im) (Q : Int → Im → Prop) (K100 : Nat → Int → Im → Prop) : Prop := match n with
  | 0 => False
  | n + 1 =>
  (x5 ≤ x6 →
  K100 x0 x5 M) ∧
  (x6 < x5 →
  (-2147483648 ≤ (gI M x0 1) + x6 ∧ (gI M x0 1) + x6 < 2147483648) ∧
  (0 ≤ (gI M x0 1) + x6 ∧ (gI M x0 1) + x6 < ((alen 1) : Int)) ∧
  (-2147483648 ≤ (gI M x0 1) + x6 ∧ (gI M x0 1) + x6 < 2147483648) ∧
  (-9223372036854775808 ≤ x6 * x3 ∧ x6 * x3 < 9223372036854775808) ∧
  (-9223372036854775808 ≤ x1 + (x6 * x3) ∧ x1 + (x6 * x3) < 9223372036854775808) ∧
  ∀ M1 : Im, M1 = pL M 1 ((gI M x0 1) + x6).toNat (x1 + (x6 * x3)) →
  (-2147483648 ≤ x6 + 1 ∧ x6 + 1 < 2147483648) ∧
  ∀ i2 : Int, i2 = x6 + 1 →
  sp_X4_fill_68 n x0 x1 x3 x5 i2 M1 Q K100)
def sp_X4_fill (x0 : Nat) (x1 : Int) (x3 : Int) (x5 : Int) (M : Im) (Q : Int → Im → Prop) : Prop :=
  iO M x0 4 ∧
  (x5 < 1 →
  Q (-2) M) ∧
  (1 ≤ x5 →
  (x3 < 1 →
  Q (-2) M) ∧
  (1 ≤ x3 →
  sp_X4_isKey x1 M (fun (i5 : Int) (M4 : Im) =>
  (i5 = 0 →
  Q (-2) M4) ∧
  (¬ i5 = 0 →
  sp_X4_isAboveRow x0 x1 M4 (fun (i7 : Int) (M6 : Im) =>
  (¬ i7 = 0 →
  ¬ x3 = 0 ∧
  (-2147483648 ≤ x5 - 1 ∧ x5 - 1 < 2147483648) ∧
  (-9223372036854775808 ≤ 1000000000000 - x1 ∧ 1000000000000 - x1 < 9223372036854775808) ∧
  (-9223372036854775808 ≤ (1000000000000 - x1).tdiv x3 ∧ (1000000000000 - x1).tdiv x3 < 9223372036854775808) ∧
  ((x5 - 1) ≤ ((1000000000000 - x1).tdiv x3) →
  (-2147483648 ≤ 300 - (gI M6 x0 1) ∧ 300 - (gI M6 x0 1) < 2147483648) ∧
  (x5 ≤ (300 - (gI M6 x0 1)) →
  ∃ k68, 
  sp_X4_fill_68 k68 x0 x1 x3 x5 0 M6 Q (fun (x0 : Nat) (x5 : Int) (M : Im) =>
  (-2147483648 ≤ (gI M x0 1) + x5 ∧ (gI M x0 1) + x5 < 2147483648) ∧
  ∀ M3 : Im, M3 = pI M x0 1 ((gI M x0 1) + x5) →
  Q (gI M3 x0 1) M3)) ∧
  ((300 - (gI M6 x0 1)) < x5 →
  Q (-3) M6)) ∧
  (((1000000000000 - x1).tdiv x3) < (x5 - 1) →
  Q (-2) M6)) ∧
  (i7 = 0 →
  Q (-2) M6))))))
def sp_X4_wipe (x0 : Nat) (M : Im) (Q : Int → Im → Prop) : Prop :=
  iO M x0 4 ∧
  ∀ i1 : Int, i1 = gI M x0 1 →
  ∀ M2 : Im, M2 = pI M x0 1 0 →
  Q i1 M2
def sp_X4_isMargin (x0 : Int) (M : Im) (Q : Int → Im → Prop) : Prop :=
  (x0 < 0 →
  ((0 : Int) = 0 ∨ (0 : Int) = 1) ∧
  Q 0 M) ∧
  (0 ≤ x0 →
  (40 < x0 →
  ((0 : Int) = 0 ∨ (0 : Int) = 1) ∧
  Q 0 M) ∧
  (x0 ≤ 40 →
  ((1 : Int) = 0 ∨ (1 : Int) = 1) ∧
  Q 1 M))
def sp_X4_margin (x0 : Nat) (x1 : Int) (M : Im) (Q : Int → Im → Prop) : Prop :=
  iO M x0 4 ∧
  sp_X4_isMargin x1 M (fun (i2 : Int) (M1 : Im) =>
  (¬ i2 = 0 →
  ∀ i3 : Int, i3 = gI M1 x0 2 →
  ∀ M4 : Im, M4 = pI M1 x0 2 x1 →
  Q i3 M4) ∧
  (i2 = 0 →
  Q (-2) M1))
def sp_X4_few_14 (n : Nat) (x0 : Nat) (x1 : Int) (x2 : Int) (x3 : Int) (M : Im) (Q : Int → Im → Prop) (K54 : Int → Im → Prop) : Prop := match n with
  | 0 => False
  | n + 1 =>
  ((gI M x0 1) ≤ x3 →
  K54 x2 M) ∧
  (x3 < (gI M x0 1) →
  ((gI M x0 1) ≤ x2 →
  K54 x2 M) ∧
  (x2 < (gI M x0 1) →
  sp_X1_endOfSpan 17 (some 1) x3 (gI M x0 1) x1 M (fun (i2 : Int) (M1 : Im) =>
  (-2147483648 ≤ x2 + 1 ∧ x2 + 1 < 2147483648) ∧
  ∀ i3 : Int, i3 = x2 + 1 →
  sp_X4_few_14 n x0 x1 i3 i2 M1 Q K54)))
def sp_X4_few (x0 : Nat) (x1 : Int) (M : Im) (Q : Int → Im → Prop) : Prop :=
  iO M x0 4 ∧
  sp_X4_isMargin x1 M (fun (i5 : Int) (M4 : Im) =>
  (¬ i5 = 0 →
  ∃ k14, 
  sp_X4_few_14 k14 x0 x1 0 0 M4 Q (fun (x2 : Int) (M : Im) =>
  Q x2 M)) ∧
  (i5 = 0 →
  Q (-2) M4))
def sp_X4_passes (x0 : Nat) (x1 : Int) (x2 : Int) (x3 : Int) (x4 : Int) (M : Im) (Q : Int → Im → Prop) : Prop :=
  iO M x0 4 ∧
  sp_X4_isMargin x4 M (fun (i2 : Int) (M1 : Im) =>
  (i2 = 0 →
  Q (-2) M1) ∧
  (¬ i2 = 0 →
  (x1 < 0 →
  Q (-2) M1) ∧
  (0 ≤ x1 →
  (x2 ≤ x1 →
  Q (-2) M1) ∧
  (x1 < x2 →
  (x3 ≤ x2 →
  Q (-2) M1) ∧
  (x2 < x3 →
  (x3 < (gI M1 x0 1) →
  sp_X1_passThree 17 (some 1) x1 x2 x3 x4 M1 (fun (i4 : Int) (M3 : Im) =>
  (i4 = 0 →
  Q 0 M3) ∧
  (¬ i4 = 0 →
  Q 1 M3))) ∧
  ((gI M1 x0 1) ≤ x3 →
  Q (-2) M1))))))
def sp_X4_oneOfTwoThatBar_15 (n : Nat) (x0 : Nat) (x2 : Int) (x3 : Int) (x4 : Int) (x5 : Int) (M : Im) (Q : Int → Im → Prop) (K44 : Int → Int → Int → Im → Prop) (K62 : Nat → Int → Int → Int → Im → Prop) : Prop := match n with
  | 0 => False
  | n + 1 =>
  (x2 ≤ x5 →
  K62 x0 x2 x3 x4 M) ∧
  (x5 < x2 →
  sp_X1_passThree 17 (some 1) x4 x5 x2 (gI M x0 2) M (fun (i3 : Int) (M2 : Im) =>
  (¬ i3 = 0 →
  (-2147483648 ≤ x5 + 1 ∧ x5 + 1 < 2147483648) ∧
  ∀ i4 : Int, i4 = x5 + 1 →
  sp_X4_oneOfTwoThatBar_15 n x0 x2 x3 x4 i4 M2 Q K44 K62) ∧
  (i3 = 0 →
  K44 x3 x4 x5 M2)))
def sp_X4_oneOfTwoThatBar_62 (x0 : Nat) (x2 : Int) (x3 : Int) (x4 : Int) (M : Im) (Q : Int → Im → Prop) (K3 : Nat → Int → Int → Int → Im → Prop) (K44 : Int → Int → Int → Im → Prop) (K68 : Im → Prop) : Prop :=
  (-2147483648 ≤ x4 + 1 ∧ x4 + 1 < 2147483648) ∧
  ∀ i5 : Int, i5 = x4 + 1 →
  K3 x0 x2 x3 i5 M
def sp_X4_oneOfTwoThatBar_3 (n : Nat) (x0 : Nat) (x2 : Int) (x3 : Int) (x4 : Int) (M : Im) (Q : Int → Im → Prop) (K44 : Int → Int → Int → Im → Prop) (K68 : Im → Prop) : Prop := match n with
  | 0 => False
  | n + 1 =>
  (x2 ≤ x4 →
  K68 M) ∧
  (x4 < x2 →
  (-2147483648 ≤ x4 + 1 ∧ x4 + 1 < 2147483648) ∧
  ∀ i1 : Int, i1 = x4 + 1 →
  ∃ k15, 
  sp_X4_oneOfTwoThatBar_15 k15 x0 x2 x3 x4 i1 M Q (fun (x3 : Int) (x4 : Int) (x5 : Int) (M : Im) =>
  K44 x3 x4 x5 M) (fun (x0 : Nat) (x2 : Int) (x3 : Int) (x4 : Int) (M : Im) =>
  sp_X4_oneOfTwoThatBar_62 x0 x2 x3 x4 M Q (fun (x0 : Nat) (x2 : Int) (x3 : Int) (x4 : Int) (M : Im) =>
  sp_X4_oneOfTwoThatBar_3 n x0 x2 x3 x4 M Q K44 K68) K44 K68))
def sp_X4_oneOfTwoThatBar (x0 : Nat) (x1 : Int) (x2 : Int) (x3 : Int) (M : Im) (Q : Int → Im → Prop) : Prop :=
  iO M x0 4 ∧
  ∃ k3, 
  sp_X4_oneOfTwoThatBar_3 k3 x0 x2 x3 x1 M Q (fun (x3 : Int) (x4 : Int) (x5 : Int) (M : Im) =>
  (x3 = 0 →
  Q x5 M) ∧
  (¬ x3 = 0 →
  Q x4 M)) (fun (M : Im) =>
  Q (-1) M)
def sp_X4_span_34 (n : Nat) (x0 : Nat) (x1 : Int) (x2 : Int) (x4 : Int) (x5 : Int) (x6 : Int) (M : Im) (Q : Int → Im → Prop) (K82 : Nat → Int → Int → Int → Im → Prop) : Prop := match n with
  | 0 => False
  | n + 1 =>
  (x1 ≤ x6 →
  K82 x0 x2 x4 x5 M) ∧
  (x6 < x1 →
  ((gI M x0 1) ≤ x5 →
  K82 x0 x2 x4 x5 M) ∧
  (x5 < (gI M x0 1) →
  sp_X1_endOfSpan 17 (some 1) x5 (gI M x0 1) (gI M x0 2) M (fun (i2 : Int) (M1 : Im) =>
  (-2147483648 ≤ x6 + 1 ∧ x6 + 1 < 2147483648) ∧
  ∀ i3 : Int, i3 = x6 + 1 →
  sp_X4_span_34 n x0 x1 x2 x5 i2 i3 M1 Q K82)))
def sp_X4_span_145 (t0 : Int) (t1 : Int) (t2 : Int) (t3 : Nat) (M : Im) (Q : Int → Im → Prop) : Prop :=
  sp_X4_oneOfTwoThatBar t3 t2 t1 t0 M (fun (i7 : Int) (M6 : Im) =>
  Q i7 M6)
def sp_X4_span_9 (x0 : Nat) (x1 : Int) (x2 : Int) (t0 : Int) (M : Im) (Q : Int → Im → Prop) : Prop :=
  (x1 < 0 →
  Q (-1) M) ∧
  (0 ≤ x1 →
  (x2 < 0 →
  Q (-1) M) ∧
  (0 ≤ x2 →
  (x2 ≤ t0 →
  ∃ k34, 
  sp_X4_span_34 k34 x0 x1 x2 0 0 0 M Q (fun (x0 : Nat) (x2 : Int) (x4 : Int) (x5 : Int) (M : Im) =>
  (x5 < (gI M x0 1) →
  (¬ x2 = 0 →
  (¬ x2 = 1 →
  (¬ x2 = 2 →
  sp_X4_span_145 0 x5 x4 x0 M Q) ∧
  (x2 = 2 →
  sp_X4_span_145 1 x5 x4 x0 M Q)) ∧
  (x2 = 1 →
  sp_X1_endOfSpan 17 (some 1) x5 (gI M x0 1) (gI M x0 2) M (fun (i5 : Int) (M4 : Im) =>
  (-2147483648 ≤ i5 - x5 ∧ i5 - x5 < 2147483648) ∧
  Q (i5 - x5) M4))) ∧
  (x2 = 0 →
  Q x5 M)) ∧
  ((gI M x0 1) ≤ x5 →
  Q (-1) M))) ∧
  (t0 < x2 →
  Q (-1) M)))
def sp_X4_span (x0 : Nat) (x1 : Int) (x2 : Int) (M : Im) (Q : Int → Im → Prop) : Prop :=
  iO M x0 4 ∧
  (x1 ≤ 0 →
  sp_X4_span_9 x0 x1 x2 1 M Q) ∧
  (0 < x1 →
  sp_X4_span_9 x0 x1 x2 3 M Q)
def sp_X4_isKindToMake (x0 : Nat) (x1 : Int) (M : Im) (Q : Int → Im → Prop) : Prop :=
  iO M x0 4 ∧
  (x1 = 1 →
  ((1 : Int) = 0 ∨ (1 : Int) = 1) ∧
  Q 1 M) ∧
  (¬ x1 = 1 →
  (¬ x1 = 2 →
  ((0 : Int) = 0 ∨ (0 : Int) = 1) ∧
  Q 0 M) ∧
  (x1 = 2 →
  ((gI M x0 2) ≤ 0 →
  ((0 : Int) = 0 ∨ (0 : Int) = 1) ∧
  Q 0 M) ∧
  (0 < (gI M x0 2) →
  ((1 : Int) = 0 ∨ (1 : Int) = 1) ∧
  Q 1 M)))
def sp_X4_makeLayers_10 (n : Nat) (x0 : Nat) (x1 : Option Nat) (M : Im) (Q : Im → Prop) (K87 : Im → Prop) : Prop := match n with
  | 0 => False
  | n + 1 =>
  ∃ a1 : Nat, x1 = some a1 ∧
  iO M a1 2 ∧
  ((gI M a1 6) ≤ 1 →
  K87 M) ∧
  (1 < (gI M a1 6) →
  (10 ≤ (gI M x0 6) →
  K87 M) ∧
  ((gI M x0 6) < 10 →
  sp_X2_firstKeys a1 (some 18) M (fun (i3 : Int) (M2 : Im) =>
  (0 ≤ gI M2 x0 6 ∧ gI M2 x0 6 < ((alen 12) : Int)) ∧
  ∀ r4 : Option Nat, r4 = gz4 M2 12 (gI M2 x0 6).toNat →
  ∃ a5 : Nat, r4 = some a5 ∧
  iO M2 a5 2 ∧
  sp_X2_empty a5 M2 (fun (M6 : Im) =>
  sp_X2_makePieces a5 (some 18) i3 (gI M6 x0 2) (gI M6 x0 2) (some 17) M6 (fun (i8 : Int) (M7 : Im) =>
  (-2147483648 ≤ (gI M7 x0 6) + 1 ∧ (gI M7 x0 6) + 1 < 2147483648) ∧
  ∀ M9 : Im, M9 = pI M7 x0 6 ((gI M7 x0 6) + 1) →
  sp_X4_makeLayers_10 n x0 (some a5) M9 Q K87)))))
def sp_X4_makeLayers (x0 : Nat) (M : Im) (Q : Im → Prop) : Prop :=
  iO M x0 4 ∧
  ∀ M10 : Im, M10 = pI M x0 6 0 →
  ∀ r11 : Option Nat, r11 = gR M10 x0 3 →
  ∃ k10, 
  sp_X4_makeLayers_10 k10 x0 r11 M10 Q (fun (M : Im) =>
  Q M)
def sp_X4_replace_83 (x0 : Nat) (x2 : Int) (x6 : Int) (M : Im) (Q : Int → Im → Prop) : Prop :=
  ∀ r8 : Option Nat, r8 = gR M x0 4 →
  ∀ r9 : Option Nat, r9 = gR M x0 3 →
  ∀ r10 : Option Nat, r10 = gR M x0 3 →
  ∃ a11 : Nat, r10 = some a11 ∧
  iO M a11 2 ∧
  ∃ a12 : Nat, r8 = some a12 ∧
  iO M a12 2 ∧
  sp_X2_takeOver a12 r9 x2 (gI M a11 6) M (fun (M13 : Im) =>
  ∀ r14 : Option Nat, r14 = gR M13 x0 3 →
  ∀ r15 : Option Nat, r15 = gR M13 x0 4 →
  ∀ M16 : Im, M16 = pR M13 x0 3 r15 →
  ∀ M17 : Im, M17 = pR M16 x0 4 r14 →
  (-2147483648 ≤ (gI M17 x0 8) + x6 ∧ (gI M17 x0 8) + x6 < 2147483648) ∧
  ∀ M18 : Im, M18 = pI M17 x0 8 ((gI M17 x0 8) + x6) →
  sp_X4_makeLayers x0 M18 (fun (M19 : Im) =>
  Q x6 M19))
def sp_X4_replace_39 (x0 : Nat) (x1 : Int) (x2 : Int) (x3 : Int) (x4 : Int) (t0 : Int) (M : Im) (Q : Int → Im → Prop) : Prop :=
  ∀ r1 : Option Nat, r1 = gR M x0 4 →
  ∃ a2 : Nat, r1 = some a2 ∧
  iO M a2 2 ∧
  sp_X2_makePieces a2 (some 18) x3 t0 (gI M x0 2) (some 17) M (fun (i4 : Int) (M3 : Im) =>
  (¬ x4 = 2 →
  sp_X4_replace_83 x0 x2 i4 M3 Q) ∧
  (x4 = 2 →
  ∀ r5 : Option Nat, r5 = gR M3 x0 4 →
  ∃ a6 : Nat, r5 = some a6 ∧
  iO M3 a6 2 ∧
  (-2147483648 ≤ x1 + i4 ∧ x1 + i4 < 2147483648) ∧
  sp_X2_roundPieces a6 x1 (x1 + i4) M3 (fun (M7 : Im) =>
  sp_X4_replace_83 x0 x2 i4 M7 Q)))
def sp_X4_replace (x0 : Nat) (x1 : Int) (x2 : Int) (x3 : Int) (x4 : Int) (M : Im) (Q : Int → Im → Prop) : Prop :=
  iO M x0 4 ∧
  ∀ r20 : Option Nat, r20 = gR M x0 4 →
  ∃ a21 : Nat, r20 = some a21 ∧
  iO M a21 2 ∧
  sp_X2_empty a21 M (fun (M22 : Im) =>
  ∀ r23 : Option Nat, r23 = gR M22 x0 4 →
  ∀ r24 : Option Nat, r24 = gR M22 x0 3 →
  ∃ a25 : Nat, r23 = some a25 ∧
  iO M22 a25 2 ∧
  sp_X2_takeOver a25 r24 0 x1 M22 (fun (M26 : Im) =>
  (¬ x4 = 2 →
  sp_X4_replace_39 x0 x1 x2 x3 x4 (gI M26 x0 2) M26 Q) ∧
  (x4 = 2 →
  (-2147483648 ≤ (gI M26 x0 2) - 1 ∧ (gI M26 x0 2) - 1 < 2147483648) ∧
  sp_X4_replace_39 x0 x1 x2 x3 x4 ((gI M26 x0 2) - 1) M26 Q)))
def sp_X4_build (x0 : Nat) (x1 : Int) (M : Im) (Q : Int → Im → Prop) : Prop :=
  iO M x0 4 ∧
  sp_X4_isKindToMake x0 x1 M (fun (i2 : Int) (M1 : Im) =>
  (i2 = 0 →
  Q (-2) M1) ∧
  (¬ i2 = 0 →
  (¬ (gI M1 x0 1) = 0 →
  0 ≤ (0 : Int) ∧
  0 ≤ (0 : Int) ∧
  0 ≤ (gI M1 x0 1) ∧
  0 + (gI M1 x0 1).toNat ≤ alen 1 ∧
  0 + (gI M1 x0 1).toNat ≤ alen 18 ∧
  ∀ M3 : Im, M3 = pcp M1 1 0 18 0 (gI M1 x0 1).toNat →
  ∀ M4 : Im, M4 = pI M3 x0 7 (gI M3 x0 1) →
  ∀ r5 : Option Nat, r5 = gR M4 x0 3 →
  ∃ a6 : Nat, r5 = some a6 ∧
  iO M4 a6 2 ∧
  sp_X4_replace x0 0 (gI M4 a6 6) (gI M4 x0 1) x1 M4 (fun (i8 : Int) (M7 : Im) =>
  Q i8 M7)) ∧
  ((gI M1 x0 1) = 0 →
  Q (-2) M1)))
def sp_X4_hasIndex (x0 : Nat) (M : Im) (Q : Int → Im → Prop) : Prop :=
  iO M x0 4 ∧
  ∀ r1 : Option Nat, r1 = gR M x0 3 →
  ∃ a2 : Nat, r1 = some a2 ∧
  iO M a2 2 ∧
  ((gI M a2 6) ≤ 0 →
  ((0 : Int) = 0 ∨ (0 : Int) = 1) ∧
  Q 0 M) ∧
  (0 < (gI M a2 6) →
  ((1 : Int) = 0 ∨ (1 : Int) = 1) ∧
  Q 1 M)
def sp_X4_gatherAll (x0 : Nat) (M : Im) (Q : Int → Im → Prop) : Prop :=
  iO M x0 4 ∧
  ∀ r1 : Option Nat, r1 = gR M x0 3 →
  ∀ r2 : Option Nat, r2 = gR M x0 3 →
  ∃ a3 : Nat, r2 = some a3 ∧
  iO M a3 2 ∧
  ∃ a4 : Nat, r1 = some a4 ∧
  iO M a4 2 ∧
  sp_X2_gather a4 0 (gI M a3 6) (some 18) M (fun (i6 : Int) (M5 : Im) =>
  Q i6 M5)
def sp_X4_again (x0 : Nat) (x1 : Int) (M : Im) (Q : Int → Im → Prop) : Prop :=
  iO M x0 4 ∧
  sp_X4_hasIndex x0 M (fun (i2 : Int) (M1 : Im) =>
  (¬ i2 = 0 →
  sp_X4_isKindToMake x0 x1 M1 (fun (i4 : Int) (M3 : Im) =>
  (¬ i4 = 0 →
  ∀ r5 : Option Nat, r5 = gR M3 x0 3 →
  ∃ a6 : Nat, r5 = some a6 ∧
  iO M3 a6 2 ∧
  sp_X4_gatherAll x0 M3 (fun (i8 : Int) (M7 : Im) =>
  sp_X4_replace x0 0 (gI M3 a6 6) i8 x1 M7 (fun (i10 : Int) (M9 : Im) =>
  Q i10 M9))) ∧
  (i4 = 0 →
  Q (-2) M3))) ∧
  (i2 = 0 →
  Q (-1) M1))
def sp_X4_clear (x0 : Nat) (M : Im) (Q : Int → Im → Prop) : Prop :=
  iO M x0 4 ∧
  ∀ i1 : Int, i1 = gI M x0 7 →
  ∀ r2 : Option Nat, r2 = gR M x0 3 →
  ∃ a3 : Nat, r2 = some a3 ∧
  iO M a3 2 ∧
  sp_X2_empty a3 M (fun (M4 : Im) =>
  ∀ M5 : Im, M5 = pI M4 x0 6 0 →
  ∀ M6 : Im, M6 = pI M5 x0 7 0 →
  Q i1 M6)
def sp_X4_round (x0 : Nat) (x1 : Int) (M : Im) (Q : Int → Im → Prop) : Prop :=
  iO M x0 4 ∧
  ∀ r1 : Option Nat, r1 = gR M x0 3 →
  ∃ a2 : Nat, r1 = some a2 ∧
  iO M a2 2 ∧
  sp_X2_pieceAt a2 x1 M (fun (r4 : Option Nat) (M3 : Im) =>
  (r4 = none →
  Q (-1) M3) ∧
  (∀ a5 : Nat, r4 = some a5 →
  iO M3 a5 0 ∧
  ((gI M3 a5 0) = 1 →
  ∀ r7 : Option Nat, r7 = gR M3 x0 3 →
  ∃ a8 : Nat, r7 = some a8 ∧
  iO M3 a8 2 ∧
  sp_X2_turnRounded a8 (some a5) M3 (fun (i10 : Int) (M9 : Im) =>
  (i10 = 0 →
  Q 0 M9) ∧
  (¬ i10 = 0 →
  Q 1 M9))) ∧
  (¬ (gI M3 a5 0) = 1 →
  Q (-2) M3)))
def sp_X4_merge (x0 : Nat) (x1 : Int) (M : Im) (Q : Int → Im → Prop) : Prop :=
  iO M x0 4 ∧
  (x1 < 0 →
  Q (-1) M) ∧
  (0 ≤ x1 →
  ∀ r1 : Option Nat, r1 = gR M x0 3 →
  ∃ a2 : Nat, r1 = some a2 ∧
  iO M a2 2 ∧
  (-2147483648 ≤ (gI M a2 6) - 1 ∧ (gI M a2 6) - 1 < 2147483648) ∧
  (x1 < ((gI M a2 6) - 1) →
  ∀ r3 : Option Nat, r3 = gR M x0 3 →
  ∃ a4 : Nat, r3 = some a4 ∧
  iO M a4 2 ∧
  (-2147483648 ≤ x1 + 2 ∧ x1 + 2 < 2147483648) ∧
  sp_X2_gather a4 x1 (x1 + 2) (some 18) M (fun (i6 : Int) (M5 : Im) =>
  (-2147483648 ≤ x1 + 2 ∧ x1 + 2 < 2147483648) ∧
  sp_X4_replace x0 x1 (x1 + 2) i6 1 M5 (fun (i8 : Int) (M7 : Im) =>
  Q i8 M7))) ∧
  (((gI M a2 6) - 1) ≤ x1 →
  Q (-1) M))
def sp_X4_find (x0 : Nat) (x1 : Int) (M : Im) (Q : Int → Im → Prop) : Prop :=
  iO M x0 4 ∧
  sp_X4_hasIndex x0 M (fun (i2 : Int) (M1 : Im) =>
  (¬ i2 = 0 →
  sp_X4_isKey x1 M1 (fun (i4 : Int) (M3 : Im) =>
  (¬ i4 = 0 →
  ∀ r5 : Option Nat, r5 = gR M3 x0 3 →
  sp_X3_follow 13 x1 r5 (some 12) (gI M3 x0 6) M3 (fun (M6 : Im) =>
  Q (gI M6 13 3) M6)) ∧
  (i4 = 0 →
  Q (-2) M3))) ∧
  (i2 = 0 →
  Q (-1) M1))
def sp_X4_insert (x0 : Nat) (x1 : Int) (M : Im) (Q : Int → Im → Prop) : Prop :=
  iO M x0 4 ∧
  sp_X4_hasIndex x0 M (fun (i2 : Int) (M1 : Im) =>
  (¬ i2 = 0 →
  sp_X4_isKey x1 M1 (fun (i4 : Int) (M3 : Im) =>
  (¬ i4 = 0 →
  ∀ r5 : Option Nat, r5 = gR M3 x0 3 →
  sp_X3_follow 15 x1 r5 (some 12) (gI M3 x0 6) M3 (fun (M6 : Im) =>
  (¬ (gI M6 15 3) = 1 →
  (300 ≤ (gI M6 x0 7) →
  Q (-3) M6) ∧
  ((gI M6 x0 7) < 300 →
  ∀ r7 : Option Nat, r7 = gR M6 x0 3 →
  ∃ a8 : Nat, r7 = some a8 ∧
  iO M6 a8 2 ∧
  sp_X2_isFull a8 M6 (fun (i10 : Int) (M9 : Im) =>
  (i10 = 0 →
  (-2147483648 ≤ (gI M9 x0 7) + 1 ∧ (gI M9 x0 7) + 1 < 2147483648) ∧
  ∀ M11 : Im, M11 = pI M9 x0 7 ((gI M9 x0 7) + 1) →
  ∀ r12 : Option Nat, r12 = gR M11 x0 3 →
  ∃ a13 : Nat, r12 = some a13 ∧
  iO M11 a13 2 ∧
  sp_X2_restore a13 (gI M11 15 5) x1 M11 (fun (i15 : Int) (M14 : Im) =>
  (i15 = 0 →
  ∀ i16 : Int, i16 = gI M14 15 4 →
  ∀ r17 : Option Nat, r17 = gR M14 x0 3 →
  ∃ a18 : Nat, r17 = some a18 ∧
  iO M14 a18 2 ∧
  sp_X2_putLate a18 i16 (gI M14 15 6) x1 M14 (fun (i20 : Int) (M19 : Im) =>
  (i20 ≤ 15 →
  Q 1 M19) ∧
  (15 < i20 →
  (-2147483648 ≤ (gI M19 x0 9) + 1 ∧ (gI M19 x0 9) + 1 < 2147483648) ∧
  ∀ M21 : Im, M21 = pI M19 x0 9 ((gI M19 x0 9) + 1) →
  ∀ r22 : Option Nat, r22 = gR M21 x0 3 →
  ∃ a23 : Nat, r22 = some a23 ∧
  iO M21 a23 2 ∧
  (-2147483648 ≤ i16 + 1 ∧ i16 + 1 < 2147483648) ∧
  sp_X2_gather a23 i16 (i16 + 1) (some 18) M21 (fun (i25 : Int) (M24 : Im) =>
  (-2147483648 ≤ i16 + 1 ∧ i16 + 1 < 2147483648) ∧
  sp_X4_replace x0 i16 (i16 + 1) i25 1 M24 (fun (i27 : Int) (M26 : Im) =>
  Q 1 M26))))) ∧
  (¬ i15 = 0 →
  Q 1 M14))) ∧
  (¬ i10 = 0 →
  Q (-3) M9)))) ∧
  ((gI M6 15 3) = 1 →
  Q 0 M6))) ∧
  (i4 = 0 →
  Q (-2) M3))) ∧
  (i2 = 0 →
  Q (-1) M1))
def sp_X4_drop (x0 : Nat) (x1 : Int) (M : Im) (Q : Int → Im → Prop) : Prop :=
  iO M x0 4 ∧
  sp_X4_hasIndex x0 M (fun (i3 : Int) (M2 : Im) =>
  (¬ i3 = 0 →
  sp_X4_isKey x1 M2 (fun (i5 : Int) (M4 : Im) =>
  (¬ i5 = 0 →
  ∀ r6 : Option Nat, r6 = gR M4 x0 3 →
  sp_X3_follow 15 x1 r6 (some 12) (gI M4 x0 6) M4 (fun (M7 : Im) =>
  (¬ (gI M7 15 3) = 0 →
  ∀ r8 : Option Nat, r8 = gR M7 x0 3 →
  ∃ a9 : Nat, r8 = some a9 ∧
  iO M7 a9 2 ∧
  sp_X2_holds a9 (gI M7 15 5) x1 M7 (fun (i11 : Int) (M10 : Im) =>
  (i11 = 0 →
  ∀ r12 : Option Nat, r12 = gR M10 x0 3 →
  ∃ a13 : Nat, r12 = some a13 ∧
  iO M10 a13 2 ∧
  (-2147483648 ≤ (gI M10 15 6) - 1 ∧ (gI M10 15 6) - 1 < 2147483648) ∧
  sp_X2_takeLate a13 (gI M10 15 4) ((gI M10 15 6) - 1) M10 (fun (M14 : Im) =>
  (-2147483648 ≤ (gI M14 x0 7) - 1 ∧ (gI M14 x0 7) - 1 < 2147483648) ∧
  ∀ M1 : Im, M1 = pI M14 x0 7 ((gI M14 x0 7) - 1) →
  Q 1 M1)) ∧
  (¬ i11 = 0 →
  ∀ r15 : Option Nat, r15 = gR M10 x0 3 →
  ∃ a16 : Nat, r15 = some a16 ∧
  iO M10 a16 2 ∧
  sp_X2_markDropped a16 (gI M10 15 5) M10 (fun (M17 : Im) =>
  (-2147483648 ≤ (gI M17 x0 7) - 1 ∧ (gI M17 x0 7) - 1 < 2147483648) ∧
  ∀ M1 : Im, M1 = pI M17 x0 7 ((gI M17 x0 7) - 1) →
  Q 1 M1)))) ∧
  ((gI M7 15 3) = 0 →
  Q 0 M7))) ∧
  (i5 = 0 →
  Q (-2) M4))) ∧
  (i3 = 0 →
  Q (-1) M2))
def sp_X4_at (x0 : Nat) (x1 : Int) (M : Im) (Q : Int → Im → Prop) : Prop :=
  iO M x0 4 ∧
  sp_X4_gatherAll x0 M (fun (i2 : Int) (M1 : Im) =>
  (x1 < 0 →
  Q (-9223372036854775808) M1) ∧
  (0 ≤ x1 →
  (i2 ≤ x1 →
  Q (-9223372036854775808) M1) ∧
  (x1 < i2 →
  (0 ≤ x1 ∧ x1 < ((alen 18) : Int)) ∧
  Q (gL M1 18 x1.toNat) M1)))
def sp_X4_countBelow_8 (n : Nat) (x0 : Nat) (x1 : Int) (x3 : Int) (x4 : Int) (M : Im) (Q : Int → Im → Prop) (K32 : Int → Im → Prop) : Prop := match n with
  | 0 => False
  | n + 1 =>
  (x3 ≤ x4 →
  K32 x4 M) ∧
  (x4 < x3 →
  (0 ≤ x4 ∧ x4 < ((alen 18) : Int)) ∧
  (x1 ≤ (gL M 18 x4.toNat) →
  K32 x4 M) ∧
  ((gL M 18 x4.toNat) < x1 →
  (-2147483648 ≤ x4 + 1 ∧ x4 + 1 < 2147483648) ∧
  ∀ i1 : Int, i1 = x4 + 1 →
  sp_X4_countBelow_8 n x0 x1 x3 i1 M Q K32))
def sp_X4_countBelow (x0 : Nat) (x1 : Int) (M : Im) (Q : Int → Im → Prop) : Prop :=
  iO M x0 4 ∧
  sp_X4_gatherAll x0 M (fun (i3 : Int) (M2 : Im) =>
  ∃ k8, 
  sp_X4_countBelow_8 k8 x0 x1 i3 0 M2 Q (fun (x4 : Int) (M : Im) =>
  Q x4 M))
def sp_X4_below (x0 : Nat) (x1 : Int) (M : Im) (Q : Int → Im → Prop) : Prop :=
  iO M x0 4 ∧
  sp_X4_hasIndex x0 M (fun (i2 : Int) (M1 : Im) =>
  (¬ i2 = 0 →
  sp_X4_isKey x1 M1 (fun (i4 : Int) (M3 : Im) =>
  (¬ i4 = 0 →
  sp_X4_countBelow x0 x1 M3 (fun (i6 : Int) (M5 : Im) =>
  Q i6 M5)) ∧
  (i4 = 0 →
  Q (-2) M3))) ∧
  (i2 = 0 →
  Q (-1) M1))
def sp_X4_above_8 (n : Nat) (x0 : Nat) (x1 : Int) (x3 : Int) (x4 : Int) (M : Im) (Q : Int → Im → Prop) (K26 : Nat → Int → Im → Prop) (K40 : Im → Prop) : Prop := match n with
  | 0 => False
  | n + 1 =>
  (x3 ≤ x4 →
  K40 M) ∧
  (x4 < x3 →
  (0 ≤ x4 ∧ x4 < ((alen 18) : Int)) ∧
  ((gL M 18 x4.toNat) ≤ x1 →
  (-2147483648 ≤ x4 + 1 ∧ x4 + 1 < 2147483648) ∧
  ∀ i1 : Int, i1 = x4 + 1 →
  sp_X4_above_8 n x0 x1 x3 i1 M Q K26 K40) ∧
  (x1 < (gL M 18 x4.toNat) →
  K26 x0 x4 M))
def sp_X4_above (x0 : Nat) (x1 : Int) (M : Im) (Q : Int → Im → Prop) : Prop :=
  iO M x0 4 ∧
  sp_X4_gatherAll x0 M (fun (i3 : Int) (M2 : Im) =>
  ∃ k8, 
  sp_X4_above_8 k8 x0 x1 i3 0 M2 Q (fun (x0 : Nat) (x4 : Int) (M : Im) =>
  (0 ≤ x4 ∧ x4 < ((alen 18) : Int)) ∧
  Q (gL M 18 x4.toNat) M) (fun (M : Im) =>
  Q (-9223372036854775808) M))
def sp_X4_between (x0 : Nat) (x1 : Int) (x3 : Int) (M : Im) (Q : Int → Im → Prop) : Prop :=
  iO M x0 4 ∧
  sp_X4_hasIndex x0 M (fun (i2 : Int) (M1 : Im) =>
  (¬ i2 = 0 →
  sp_X4_isKey x1 M1 (fun (i4 : Int) (M3 : Im) =>
  (i4 = 0 →
  Q (-2) M3) ∧
  (¬ i4 = 0 →
  sp_X4_isKey x3 M3 (fun (i6 : Int) (M5 : Im) =>
  (¬ i6 = 0 →
  (x3 ≤ x1 →
  Q 0 M5) ∧
  (x1 < x3 →
  sp_X4_countBelow x0 x3 M5 (fun (i8 : Int) (M7 : Im) =>
  sp_X4_countBelow x0 x1 M7 (fun (i10 : Int) (M9 : Im) =>
  (-2147483648 ≤ i8 - i10 ∧ i8 - i10 < 2147483648) ∧
  Q (i8 - i10) M9)))) ∧
  (i6 = 0 →
  Q (-2) M5))))) ∧
  (i2 = 0 →
  Q (-1) M1))
def sp_X4_layers (x0 : Nat) (M : Im) (Q : Int → Im → Prop) : Prop :=
  iO M x0 4 ∧
  sp_X4_hasIndex x0 M (fun (i2 : Int) (M1 : Im) =>
  (i2 = 0 →
  Q (-1) M1) ∧
  (¬ i2 = 0 →
  Q (gI M1 x0 6) M1))
def sp_X4_tierOf (x0 : Nat) (x1 : Int) (M : Im) (Q : Option Nat → Im → Prop) : Prop :=
  iO M x0 4 ∧
  sp_X4_hasIndex x0 M (fun (i2 : Int) (M1 : Im) =>
  (i2 = 0 →
  Q none M1) ∧
  (¬ i2 = 0 →
  (x1 < (-1) →
  Q none M1) ∧
  ((-1) ≤ x1 →
  (x1 < (gI M1 x0 6) →
  (¬ x1 = (-1) →
  (0 ≤ x1 ∧ x1 < ((alen 12) : Int)) ∧
  ∀ r3 : Option Nat, r3 = gz4 M1 12 x1.toNat →
  Q r3 M1) ∧
  (x1 = (-1) →
  ∀ r4 : Option Nat, r4 = gR M1 x0 3 →
  Q r4 M1)) ∧
  ((gI M1 x0 6) ≤ x1 →
  Q none M1))))
def sp_X4_pieces (x0 : Nat) (x1 : Int) (M : Im) (Q : Int → Im → Prop) : Prop :=
  iO M x0 4 ∧
  sp_X4_tierOf x0 x1 M (fun (r2 : Option Nat) (M1 : Im) =>
  (r2 = none →
  Q (-1) M1) ∧
  (∀ a3 : Nat, r2 = some a3 →
  iO M1 a3 2 ∧
  Q (gI M1 a3 6) M1))
def sp_X4_piece_22 (x3 : Int) (x4 : Option Nat) (t0 : Option Nat) (M : Im) (Q : Int → Im → Prop) : Prop :=
  (x4 = none →
  Q (-1) M) ∧
  (∀ a1 : Nat, x4 = some a1 →
  (t0 = none →
  Q (-1) M) ∧
  (∀ a2 : Nat, t0 = some a2 →
  (x3 = 0 →
  iO M a2 0 ∧
  Q (gI M a2 0) M) ∧
  (x3 = 1 →
  iO M a2 0 ∧
  Q (gI M a2 3) M) ∧
  (x3 = 2 →
  iO M a1 2 ∧
  sp_X2_countDropped a1 (some a2) M (fun (i7 : Int) (M6 : Im) =>
  Q i7 M6)) ∧
  (x3 = 3 →
  iO M a2 0 ∧
  Q (gI M a2 5) M) ∧
  (x3 = 4 →
  iO M a2 0 ∧
  Q (gI M a2 1) M) ∧
  (x3 = 5 →
  iO M a1 2 ∧
  sp_X2_greatestMiss a1 (some a2) M (fun (i12 : Int) (M11 : Im) =>
  Q i12 M11)) ∧
  (¬ x3 = 0 → ¬ x3 = 1 → ¬ x3 = 2 → ¬ x3 = 3 → ¬ x3 = 4 → ¬ x3 = 5 →
  Q (-1) M)))
def sp_X4_piece (x0 : Nat) (x1 : Int) (x2 : Int) (x3 : Int) (M : Im) (Q : Int → Im → Prop) : Prop :=
  iO M x0 4 ∧
  sp_X4_tierOf x0 x1 M (fun (r14 : Option Nat) (M13 : Im) =>
  (r14 = none →
  sp_X4_piece_22 x3 none none M13 Q) ∧
  (∀ a15 : Nat, r14 = some a15 →
  iO M13 a15 2 ∧
  sp_X2_pieceAt a15 x2 M13 (fun (r18 : Option Nat) (M17 : Im) =>
  sp_X4_piece_22 x3 (some a15) r18 M17 Q)))
def sp_X4_line_22 (x3 : Int) (x4 : Option Nat) (t0 : Option Nat) (M : Im) (Q : Int → Im → Prop) : Prop :=
  (x4 = none →
  Q (-9223372036854775808) M) ∧
  (∀ a1 : Nat, x4 = some a1 →
  (t0 = none →
  Q (-9223372036854775808) M) ∧
  (∀ a2 : Nat, t0 = some a2 →
  (x3 = 0 →
  iO M a2 0 ∧
  Q (gL M a2 6) M) ∧
  (x3 = 1 →
  iO M a2 0 ∧
  Q (gL M a2 7) M) ∧
  (x3 = 2 →
  iO M a2 0 ∧
  Q (gL M a2 8) M) ∧
  (x3 = 3 →
  iO M a1 2 ∧
  sp_X2_keyOf a1 (some a2) 0 M (fun (j8 : Int) (M7 : Im) =>
  Q j8 M7)) ∧
  (x3 = 4 →
  iO M a2 0 ∧
  iO M a1 2 ∧
  (-2147483648 ≤ (gI M a2 3) - 1 ∧ (gI M a2 3) - 1 < 2147483648) ∧
  sp_X2_keyOf a1 (some a2) ((gI M a2 3) - 1) M (fun (j12 : Int) (M11 : Im) =>
  Q j12 M11)) ∧
  (¬ x3 = 0 → ¬ x3 = 1 → ¬ x3 = 2 → ¬ x3 = 3 → ¬ x3 = 4 →
  Q (-9223372036854775808) M)))
def sp_X4_line (x0 : Nat) (x1 : Int) (x2 : Int) (x3 : Int) (M : Im) (Q : Int → Im → Prop) : Prop :=
  iO M x0 4 ∧
  sp_X4_tierOf x0 x1 M (fun (r14 : Option Nat) (M13 : Im) =>
  (r14 = none →
  sp_X4_line_22 x3 none none M13 Q) ∧
  (∀ a15 : Nat, r14 = some a15 →
  iO M13 a15 2 ∧
  sp_X2_pieceAt a15 x2 M13 (fun (r18 : Option Nat) (M17 : Im) =>
  sp_X4_line_22 x3 (some a15) r18 M17 Q)))
def sp_X4_guess_22 (x3 : Int) (x5 : Option Nat) (t0 : Option Nat) (M : Im) (Q : Int → Im → Prop) : Prop :=
  (x5 = none →
  Q (-1) M) ∧
  (∀ a1 : Nat, x5 = some a1 →
  (t0 = none →
  Q (-1) M) ∧
  (∀ a2 : Nat, t0 = some a2 →
  sp_X4_isKey x3 M (fun (i4 : Int) (M3 : Im) =>
  (i4 = 0 →
  Q (-2) M3) ∧
  (¬ i4 = 0 →
  iO M3 a1 2 ∧
  sp_X2_keyOf a1 (some a2) 0 M3 (fun (j7 : Int) (M6 : Im) =>
  iO M6 a2 0 ∧
  (-9223372036854775808 ≤ x3 - j7 ∧ x3 - j7 < 9223372036854775808) ∧
  sp_X0_guessAway a2 (x3 - j7) M6 (fun (i10 : Int) (M9 : Im) =>
  Q i10 M9))))))
def sp_X4_guess (x0 : Nat) (x1 : Int) (x2 : Int) (x3 : Int) (M : Im) (Q : Int → Im → Prop) : Prop :=
  iO M x0 4 ∧
  sp_X4_tierOf x0 x1 M (fun (r12 : Option Nat) (M11 : Im) =>
  (r12 = none →
  sp_X4_guess_22 x3 none none M11 Q) ∧
  (∀ a13 : Nat, r12 = some a13 →
  iO M11 a13 2 ∧
  sp_X2_pieceAt a13 x2 M11 (fun (r16 : Option Nat) (M15 : Im) =>
  sp_X4_guess_22 x3 (some a13) r16 M15 Q)))
def sp_X4_bitsOf_24 (n : Nat) (x0 : UInt64) (x2 : UInt64) (x4 : Int) (M : Im) (Q : Int → Im → Prop) (K52 : UInt64 → UInt64 → Int → Im → Prop) : Prop := match n with
  | 0 => False
  | n + 1 =>
  (((Op.cmpValue (FP.dcmp x2 (4611686018427387904 : UInt64)) CmpOp.l).toInt) < 0 →
  K52 x0 x2 x4 M) ∧
  (0 ≤ ((Op.cmpValue (FP.dcmp x2 (4611686018427387904 : UInt64)) CmpOp.l).toInt) →
  (1023 ≤ x4 →
  K52 x0 x2 x4 M) ∧
  (x4 < 1023 →
  ∀ f1 : UInt64, alike64 f1 (FP.ddiv x2 (4611686018427387904 : UInt64)) = true →
  (-2147483648 ≤ x4 + 1 ∧ x4 + 1 < 2147483648) ∧
  ∀ i2 : Int, i2 = x4 + 1 →
  sp_X4_bitsOf_24 n x0 f1 i2 M Q K52))
def sp_X4_bitsOf_52 (n : Nat) (x0 : UInt64) (x2 : UInt64) (x4 : Int) (M : Im) (Q : Int → Im → Prop) (K78 : UInt64 → UInt64 → Int → Im → Prop) : Prop := match n with
  | 0 => False
  | n + 1 =>
  (0 ≤ ((Op.cmpValue (FP.dcmp x2 FP.dconst1) CmpOp.g).toInt) →
  K78 x0 x2 x4 M) ∧
  (((Op.cmpValue (FP.dcmp x2 FP.dconst1) CmpOp.g).toInt) < 0 →
  (x4 ≤ (-1022) →
  K78 x0 x2 x4 M) ∧
  ((-1022) < x4 →
  ∀ f3 : UInt64, alike64 f3 (FP.dmul x2 (4611686018427387904 : UInt64)) = true →
  (-2147483648 ≤ x4 + (-1) ∧ x4 + (-1) < 2147483648) ∧
  ∀ i4 : Int, i4 = x4 + (-1) →
  sp_X4_bitsOf_52 n x0 f3 i4 M Q K78))
def sp_X4_bitsOf_20 (x0 : UInt64) (t0 : UInt64) (M : Im) (Q : Int → Im → Prop) : Prop :=
  ∃ k24, 
  sp_X4_bitsOf_24 k24 x0 t0 0 M Q (fun (x0 : UInt64) (x2 : UInt64) (x4 : Int) (M : Im) =>
  ∃ k52, 
  sp_X4_bitsOf_52 k52 x0 x2 x4 M Q (fun (x0 : UInt64) (x2 : UInt64) (x4 : Int) (M : Im) =>
  ∀ f5 : UInt64, alike64 f5 (FP.dsub x2 FP.dconst1) = true →
  ∀ f6 : UInt64, alike64 f6 (FP.dmul f5 (4841369599423283200 : UInt64)) = true →
  ∀ j7 : Int, j7 = (FP.d2l f6).toInt →
  (-9223372036854775808 ≤ x4 + 1023 ∧ x4 + 1023 < 9223372036854775808) ∧
  ∀ j8 : Int, j8 = (lz ((lz (x4 + 1023) <<< lz ((lz 52 &&& lz 63).toInt)).toInt) ||| lz j7).toInt →
  (0 ≤ ((Op.cmpValue (FP.dcmp x0 FP.dconst0) CmpOp.g).toInt) →
  Q j8 M) ∧
  (((Op.cmpValue (FP.dcmp x0 FP.dconst0) CmpOp.g).toInt) < 0 →
  Q ((lz j8 ||| lz (-9223372036854775808)).toInt) M)))
def sp_X4_bitsOf (x0 : UInt64) (M : Im) (Q : Int → Im → Prop) : Prop :=
  (¬ ((Op.cmpValue (FP.dcmp x0 FP.dconst0) CmpOp.l).toInt) = 0 →
  (0 ≤ ((Op.cmpValue (FP.dcmp x0 FP.dconst0) CmpOp.g).toInt) →
  sp_X4_bitsOf_20 x0 x0 M Q) ∧
  (((Op.cmpValue (FP.dcmp x0 FP.dconst0) CmpOp.g).toInt) < 0 →
  sp_X4_bitsOf_20 x0 (FP.dneg x0) M Q)) ∧
  (((Op.cmpValue (FP.dcmp x0 FP.dconst0) CmpOp.l).toInt) = 0 →
  Q 0 M)
def sp_X4_bits_47 (t0 : UInt64) (M : Im) (Q : Int → Im → Prop) : Prop :=
  sp_X4_bitsOf t0 M (fun (j2 : Int) (M1 : Im) =>
  Q j2 M1)
def sp_X4_bits (x0 : Nat) (x1 : Int) (x2 : Int) (M : Im) (Q : Int → Im → Prop) : Prop :=
  iO M x0 4 ∧
  ∀ r3 : Option Nat, r3 = gR M x0 3 →
  ∃ a4 : Nat, r3 = some a4 ∧
  iO M a4 2 ∧
  sp_X2_pieceAt a4 x1 M (fun (r6 : Option Nat) (M5 : Im) =>
  (r6 = none →
  Q 0 M5) ∧
  (∀ a7 : Nat, r6 = some a7 →
  iO M5 a7 0 ∧
  (¬ (gI M5 a7 0) = 2 →
  Q 0 M5) ∧
  ((gI M5 a7 0) = 2 →
  (x2 < 0 →
  Q 0 M5) ∧
  (0 ≤ x2 →
  (x2 ≤ 1 →
  (¬ x2 = 0 →
  sp_X4_bits_47 (gD M5 a7 10) M5 Q) ∧
  (x2 = 0 →
  sp_X4_bits_47 (gD M5 a7 9) M5 Q)) ∧
  (1 < x2 →
  Q 0 M5)))))
def sp_X4_key (x0 : Nat) (x1 : Int) (x2 : Int) (x3 : Int) (M : Im) (Q : Int → Im → Prop) : Prop :=
  iO M x0 4 ∧
  ∀ r1 : Option Nat, r1 = gR M x0 3 →
  ∃ a2 : Nat, r1 = some a2 ∧
  iO M a2 2 ∧
  sp_X2_pieceAt a2 x1 M (fun (r4 : Option Nat) (M3 : Im) =>
  (r4 = none →
  Q (-9223372036854775808) M3) ∧
  (∀ a5 : Nat, r4 = some a5 →
  (x3 = 0 →
  ∀ r6 : Option Nat, r6 = gR M3 x0 3 →
  ∃ a7 : Nat, r6 = some a7 ∧
  iO M3 a7 2 ∧
  sp_X2_keyOf a7 (some a5) x2 M3 (fun (j9 : Int) (M8 : Im) =>
  Q j9 M8)) ∧
  (¬ x3 = 0 →
  ∀ r10 : Option Nat, r10 = gR M3 x0 3 →
  ∃ a11 : Nat, r10 = some a11 ∧
  iO M3 a11 2 ∧
  sp_X2_lateOf a11 (some a5) x2 M3 (fun (j13 : Int) (M12 : Im) =>
  Q j13 M12))))
def sp_X4_looks (x0 : Nat) (M : Im) (Q : Int → Im → Prop) : Prop :=
  iO M x0 4 ∧
  Q (gI M 13 2) M
def sp_X4_told (x0 : Nat) (x1 : Int) (M : Im) (Q : Int → Im → Prop) : Prop :=
  iO M x0 4 ∧
  (x1 < 0 →
  Q (-2) M) ∧
  (0 ≤ x1 →
  ((gI M 13 1) ≤ x1 →
  Q (-2) M) ∧
  (x1 < (gI M 13 1) →
  (0 ≤ x1 ∧ x1 < ((alen (13 + 1)) : Int)) ∧
  Q (gI M (13 + 1) x1.toNat) M))
def sp_X4_check (x0 : Nat) (x1 : Int) (M : Im) (Q : Int → Im → Prop) : Prop :=
  iO M x0 4 ∧
  sp_X4_hasIndex x0 M (fun (i2 : Int) (M1 : Im) =>
  (¬ i2 = 0 →
  sp_X4_isKey x1 M1 (fun (i4 : Int) (M3 : Im) =>
  (i4 = 0 →
  Q (-2) M3) ∧
  (¬ i4 = 0 →
  (¬ (gI M3 13 1) = 0 →
  ∀ r5 : Option Nat, r5 = gR M3 x0 3 →
  sp_X3_follow 15 x1 r5 (some 12) (gI M3 x0 6) M3 (fun (M6 : Im) =>
  sp_X3_tellsTheSame 15 (some 13) M6 (fun (i8 : Int) (M7 : Im) =>
  (i8 = 0 →
  (-2147483648 ≤ 2 * (gI M6 15 3) ∧ 2 * (gI M6 15 3) < 2147483648) ∧
  (-2147483648 ≤ (2 * (gI M6 15 3)) + 0 ∧ (2 * (gI M6 15 3)) + 0 < 2147483648) ∧
  Q ((2 * (gI M6 15 3)) + 0) M7) ∧
  (¬ i8 = 0 →
  (-2147483648 ≤ 2 * (gI M6 15 3) ∧ 2 * (gI M6 15 3) < 2147483648) ∧
  (-2147483648 ≤ (2 * (gI M6 15 3)) + 1 ∧ (2 * (gI M6 15 3)) + 1 < 2147483648) ∧
  Q ((2 * (gI M6 15 3)) + 1) M7)))) ∧
  ((gI M3 13 1) = 0 →
  Q (-2) M3)))) ∧
  (i2 = 0 →
  Q (-1) M1))
def sp_X4_count (x0 : Nat) (x1 : Int) (M : Im) (Q : Int → Im → Prop) : Prop :=
  iO M x0 4 ∧
  (x1 = 0 →
  Q (gI M x0 1) M) ∧
  (x1 = 1 →
  Q (gI M x0 2) M) ∧
  (x1 = 2 →
  Q (gI M x0 7) M) ∧
  (x1 = 3 →
  Q (gI M x0 8) M) ∧
  (x1 = 4 →
  Q (gI M x0 9) M) ∧
  (¬ x1 = 0 → ¬ x1 = 1 → ¬ x1 = 2 → ¬ x1 = 3 → ¬ x1 = 4 →
  Q (-1) M)
def sp_X5_init (x0 : Nat) (M : Im) (Q : Im → Prop) : Prop :=
  iO M x0 5 ∧
  0 ≤ (300 : Int) ∧
  gz M < ZMAX ∧
  shp (gz M) = .inl (.long, 300) ∧
  300 * 8 ≤ 536870912 ∧
  ∀ (a1 : Nat) (M2 : Im), a1 = gz M → M2 = pnw M →
  ∀ M3 : Im, M3 = pR M2 x0 0 (some a1) →
  ∀ M4 : Im, M4 = pI M3 x0 1 0 →
  ∀ M5 : Im, M5 = pI M4 x0 2 8 →
  0 ≤ (5000 : Int) ∧
  gz M5 < ZMAX ∧
  shp (gz M5) = .inl (.long, 5000) ∧
  5000 * 8 ≤ 536870912 ∧
  ∀ (a6 : Nat) (M7 : Im), a6 = gz M5 → M7 = pnw M5 →
  ∀ M8 : Im, M8 = pR M7 x0 3 (some a6) →
  ∀ M9 : Im, M9 = pL M8 x0 4 0 →
  ∀ M10 : Im, M10 = pL M9 x0 5 0 →
  ∀ M11 : Im, M11 = pL M10 x0 6 0 →
  ∀ M12 : Im, M12 = pL M11 x0 7 0 →
  ∀ M13 : Im, M13 = pI M12 x0 8 0 →
  ∀ M14 : Im, M14 = pI M13 x0 9 0 →
  0 ≤ (20 : Int) ∧
  gz M14 < ZMAX ∧
  shp (gz M14) = .inl (.int, 20) ∧
  20 * 8 ≤ 536870912 ∧
  ∀ (a15 : Nat) (M16 : Im), a15 = gz M14 → M16 = pnw M14 →
  ∀ M17 : Im, M17 = pR M16 x0 10 (some a15) →
  0 ≤ (20 : Int) ∧
  gz M17 < ZMAX ∧
  shp (gz M17) = .inl (.int, 20) ∧
  20 * 8 ≤ 536870912 ∧
  ∀ (a18 : Nat) (M19 : Im), a18 = gz M17 → M19 = pnw M17 →
  ∀ M20 : Im, M20 = pR M19 x0 11 (some a18) →
  0 ≤ (10000 : Int) ∧
  gz M20 < ZMAX ∧
  shp (gz M20) = .inl (.int, 10000) ∧
  10000 * 8 ≤ 536870912 ∧
  ∀ (a21 : Nat) (M22 : Im), a21 = gz M20 → M22 = pnw M20 →
  ∀ M23 : Im, M23 = pR M22 x0 12 (some a21) →
  0 ≤ (10000 : Int) ∧
  gz M23 < ZMAX ∧
  shp (gz M23) = .inl (.int, 10000) ∧
  10000 * 8 ≤ 536870912 ∧
  ∀ (a24 : Nat) (M25 : Im), a24 = gz M23 → M25 = pnw M23 →
  ∀ M26 : Im, M26 = pR M25 x0 13 (some a24) →
  0 ≤ (10000 : Int) ∧
  gz M26 < ZMAX ∧
  shp (gz M26) = .inl (.int, 10000) ∧
  10000 * 8 ≤ 536870912 ∧
  ∀ (a27 : Nat) (M28 : Im), a27 = gz M26 → M28 = pnw M26 →
  ∀ M29 : Im, M29 = pR M28 x0 14 (some a27) →
  0 ≤ (10000 : Int) ∧
  gz M29 < ZMAX ∧
  shp (gz M29) = .inl (.int, 10000) ∧
  10000 * 8 ≤ 536870912 ∧
  ∀ (a30 : Nat) (M31 : Im), a30 = gz M29 → M31 = pnw M29 →
  ∀ M32 : Im, M32 = pR M31 x0 15 (some a30) →
  0 ≤ (10000 : Int) ∧
  gz M32 < ZMAX ∧
  shp (gz M32) = .inl (.int, 10000) ∧
  10000 * 8 ≤ 536870912 ∧
  ∀ (a33 : Nat) (M34 : Im), a33 = gz M32 → M34 = pnw M32 →
  ∀ M35 : Im, M35 = pR M34 x0 16 (some a33) →
  0 ≤ (10000 : Int) ∧
  gz M35 < ZMAX ∧
  shp (gz M35) = .inl (.long, 10000) ∧
  10000 * 8 ≤ 536870912 ∧
  ∀ (a36 : Nat) (M37 : Im), a36 = gz M35 → M37 = pnw M35 →
  ∀ M38 : Im, M38 = pR M37 x0 17 (some a36) →
  0 ≤ (10000 : Int) ∧
  gz M38 < ZMAX ∧
  shp (gz M38) = .inl (.long, 10000) ∧
  10000 * 8 ≤ 536870912 ∧
  ∀ (a39 : Nat) (M40 : Im), a39 = gz M38 → M40 = pnw M38 →
  ∀ M41 : Im, M41 = pR M40 x0 18 (some a39) →
  0 ≤ (10000 : Int) ∧
  gz M41 < ZMAX ∧
  shp (gz M41) = .inl (.long, 10000) ∧
  10000 * 8 ≤ 536870912 ∧
  ∀ (a42 : Nat) (M43 : Im), a42 = gz M41 → M43 = pnw M41 →
  ∀ M44 : Im, M44 = pR M43 x0 19 (some a42) →
  0 ≤ (12000 : Int) ∧
  gz M44 < ZMAX ∧
  shp (gz M44) = .inl (.long, 12000) ∧
  12000 * 8 ≤ 536870912 ∧
  ∀ (a45 : Nat) (M46 : Im), a45 = gz M44 → M46 = pnw M44 →
  ∀ M47 : Im, M47 = pR M46 x0 20 (some a45) →
  0 ≤ (160000 : Int) ∧
  gz M47 < ZMAX ∧
  shp (gz M47) = .inl (.long, 160000) ∧
  160000 * 8 ≤ 536870912 ∧
  ∀ (a48 : Nat) (M49 : Im), a48 = gz M47 → M49 = pnw M47 →
  ∀ M50 : Im, M50 = pR M49 x0 21 (some a48) →
  0 ≤ (12000 : Int) ∧
  gz M50 < ZMAX ∧
  shp (gz M50) = .inl (.boolean, 12000) ∧
  12000 * 8 ≤ 536870912 ∧
  ∀ (a51 : Nat) (M52 : Im), a51 = gz M50 → M52 = pnw M50 →
  ∀ M53 : Im, M53 = pR M52 x0 22 (some a51) →
  ∀ M54 : Im, M54 = pI M53 x0 23 0 →
  ∀ M55 : Im, M55 = pI M54 x0 24 0 →
  ∀ M56 : Im, M56 = pI M55 x0 25 0 →
  ∀ M57 : Im, M57 = pI M56 x0 26 0 →
  0 ≤ (5000 : Int) ∧
  gz M57 < ZMAX ∧
  shp (gz M57) = .inl (.int, 5000) ∧
  5000 * 8 ≤ 536870912 ∧
  ∀ (a58 : Nat) (M59 : Im), a58 = gz M57 → M59 = pnw M57 →
  ∀ M60 : Im, M60 = pR M59 x0 27 (some a58) →
  0 ≤ (5000 : Int) ∧
  gz M60 < ZMAX ∧
  shp (gz M60) = .inl (.int, 5000) ∧
  5000 * 8 ≤ 536870912 ∧
  ∀ (a61 : Nat) (M62 : Im), a61 = gz M60 → M62 = pnw M60 →
  ∀ M63 : Im, M63 = pR M62 x0 28 (some a61) →
  0 ≤ (5000 : Int) ∧
  gz M63 < ZMAX ∧
  shp (gz M63) = .inl (.int, 5000) ∧
  5000 * 8 ≤ 536870912 ∧
  ∀ (a64 : Nat) (M65 : Im), a64 = gz M63 → M65 = pnw M63 →
  ∀ M66 : Im, M66 = pR M65 x0 29 (some a64) →
  0 ≤ (5000 : Int) ∧
  gz M66 < ZMAX ∧
  shp (gz M66) = .inl (.int, 5000) ∧
  5000 * 8 ≤ 536870912 ∧
  ∀ (a67 : Nat) (M68 : Im), a67 = gz M66 → M68 = pnw M66 →
  ∀ M69 : Im, M69 = pR M68 x0 30 (some a67) →
  0 ≤ (5000 : Int) ∧
  gz M69 < ZMAX ∧
  shp (gz M69) = .inl (.long, 5000) ∧
  5000 * 8 ≤ 536870912 ∧
  ∀ (a70 : Nat) (M71 : Im), a70 = gz M69 → M71 = pnw M69 →
  ∀ M72 : Im, M72 = pR M71 x0 31 (some a70) →
  0 ≤ (5000 : Int) ∧
  gz M72 < ZMAX ∧
  shp (gz M72) = .inl (.long, 5000) ∧
  5000 * 8 ≤ 536870912 ∧
  ∀ (a73 : Nat) (M74 : Im), a73 = gz M72 → M74 = pnw M72 →
  ∀ M75 : Im, M75 = pR M74 x0 32 (some a73) →
  0 ≤ (5000 : Int) ∧
  gz M75 < ZMAX ∧
  shp (gz M75) = .inl (.long, 5000) ∧
  5000 * 8 ≤ 536870912 ∧
  ∀ (a76 : Nat) (M77 : Im), a76 = gz M75 → M77 = pnw M75 →
  ∀ M78 : Im, M78 = pR M77 x0 33 (some a76) →
  0 ≤ (6000 : Int) ∧
  gz M78 < ZMAX ∧
  shp (gz M78) = .inl (.long, 6000) ∧
  6000 * 8 ≤ 536870912 ∧
  ∀ (a79 : Nat) (M80 : Im), a79 = gz M78 → M80 = pnw M78 →
  ∀ M81 : Im, M81 = pR M80 x0 34 (some a79) →
  0 ≤ (80000 : Int) ∧
  gz M81 < ZMAX ∧
  shp (gz M81) = .inl (.long, 80000) ∧
  80000 * 8 ≤ 536870912 ∧
  ∀ (a82 : Nat) (M83 : Im), a82 = gz M81 → M83 = pnw M81 →
  ∀ M84 : Im, M84 = pR M83 x0 35 (some a82) →
  0 ≤ (6000 : Int) ∧
  gz M84 < ZMAX ∧
  shp (gz M84) = .inl (.boolean, 6000) ∧
  6000 * 8 ≤ 536870912 ∧
  ∀ (a85 : Nat) (M86 : Im), a85 = gz M84 → M86 = pnw M84 →
  ∀ M87 : Im, M87 = pR M86 x0 36 (some a85) →
  0 ≤ (64 : Int) ∧
  gz M87 < ZMAX ∧
  shp (gz M87) = .inl (.int, 64) ∧
  64 * 8 ≤ 536870912 ∧
  ∀ (a88 : Nat) (M89 : Im), a88 = gz M87 → M89 = pnw M87 →
  ∀ M90 : Im, M90 = pR M89 x0 37 (some a88) →
  0 ≤ (64 : Int) ∧
  gz M90 < ZMAX ∧
  shp (gz M90) = .inl (.int, 64) ∧
  64 * 8 ≤ 536870912 ∧
  ∀ (a91 : Nat) (M92 : Im), a91 = gz M90 → M92 = pnw M90 →
  ∀ M93 : Im, M93 = pR M92 x0 38 (some a91) →
  ∀ M94 : Im, M94 = pI M93 x0 39 0 →
  ∀ M95 : Im, M95 = pI M94 x0 40 0 →
  ∀ M96 : Im, M96 = pI M95 x0 41 0 →
  ∀ M97 : Im, M97 = pI M96 x0 42 0 →
  ∀ M98 : Im, M98 = pI M97 x0 43 0 →
  ∀ M99 : Im, M99 = pI M98 x0 44 0 →
  ∀ M100 : Im, M100 = pI M99 x0 45 0 →
  ∀ M101 : Im, M101 = pI M100 x0 46 0 →
  Q M101
def sp_X5_isKey (x0 : Nat) (x1 : Int) (M : Im) (Q : Int → Im → Prop) : Prop :=
  iO M x0 5 ∧
  (x1 < (-1000000000000) →
  ((0 : Int) = 0 ∨ (0 : Int) = 1) ∧
  Q 0 M) ∧
  ((-1000000000000) ≤ x1 →
  (1000000000000 < x1 →
  ((0 : Int) = 0 ∨ (0 : Int) = 1) ∧
  Q 0 M) ∧
  (x1 ≤ 1000000000000 →
  ((1 : Int) = 0 ∨ (1 : Int) = 1) ∧
  Q 1 M))
def sp_X5_load_34 (x0 : Nat) (x1 : Int) (M : Im) (Q : Int → Im → Prop) : Prop :=
  (¬ (gI M x0 1) = 300 →
  (0 ≤ gI M x0 1 ∧ gI M x0 1 < ((alen 70) : Int)) ∧
  ∀ M1 : Im, M1 = pL M 70 (gI M x0 1).toNat x1 →
  (-2147483648 ≤ (gI M1 x0 1) + 1 ∧ (gI M1 x0 1) + 1 < 2147483648) ∧
  ∀ M2 : Im, M2 = pI M1 x0 1 ((gI M1 x0 1) + 1) →
  Q (gI M2 x0 1) M2) ∧
  ((gI M x0 1) = 300 →
  Q (-3) M)
def sp_X5_load (x0 : Nat) (x1 : Int) (M : Im) (Q : Int → Im → Prop) : Prop :=
  iO M x0 5 ∧
  sp_X5_isKey x0 x1 M (fun (i4 : Int) (M3 : Im) =>
  (i4 = 0 →
  Q (-2) M3) ∧
  (¬ i4 = 0 →
  ((gI M3 x0 1) ≤ 0 →
  sp_X5_load_34 x0 x1 M3 Q) ∧
  (0 < (gI M3 x0 1) →
  (-2147483648 ≤ (gI M3 x0 1) - 1 ∧ (gI M3 x0 1) - 1 < 2147483648) ∧
  (0 ≤ (gI M3 x0 1) - 1 ∧ (gI M3 x0 1) - 1 < ((alen 70) : Int)) ∧
  (-2147483648 ≤ (gI M3 x0 1) - 1 ∧ (gI M3 x0 1) - 1 < 2147483648) ∧
  ((gL M3 70 ((gI M3 x0 1) - 1).toNat) < x1 →
  sp_X5_load_34 x0 x1 M3 Q) ∧
  (x1 ≤ (gL M3 70 ((gI M3 x0 1) - 1).toNat) →
  Q (-2) M3))))
def sp_X5_fill_93 (n : Nat) (x0 : Nat) (x1 : Int) (x3 : Int) (x5 : Int) (x6 : Int) (M : Im) (Q : Int → Im → Prop) (K132 : Nat → Im → Prop) : Prop := match n with
  | 0 => False
  | n + 1 =>
  (x5 ≤ x6 →
  K132 x0 M) ∧
  (x6 < x5 →
  (0 ≤ gI M x0 1 ∧ gI M x0 1 < ((alen 70) : Int)) ∧
  (-9223372036854775808 ≤ x3 * x6 ∧ x3 * x6 < 9223372036854775808) ∧
  (-9223372036854775808 ≤ x1 + (x3 * x6) ∧ x1 + (x3 * x6) < 9223372036854775808) ∧
  ∀ M1 : Im, M1 = pL M 70 (gI M x0 1).toNat (x1 + (x3 * x6)) →
  (-2147483648 ≤ (gI M1 x0 1) + 1 ∧ (gI M1 x0 1) + 1 < 2147483648) ∧
  ∀ M2 : Im, M2 = pI M1 x0 1 ((gI M1 x0 1) + 1) →
  (-2147483648 ≤ x6 + 1 ∧ x6 + 1 < 2147483648) ∧
  ∀ i3 : Int, i3 = x6 + 1 →
  sp_X5_fill_93 n x0 x1 x3 x5 i3 M2 Q K132)
def sp_X5_fill_71 (x0 : Nat) (x1 : Int) (x3 : Int) (x5 : Int) (M : Im) (Q : Int → Im → Prop) : Prop :=
  (-9223372036854775808 ≤ (gI M x0 1) + x5 ∧ (gI M x0 1) + x5 < 9223372036854775808) ∧
  (((gI M x0 1) + x5) ≤ 300 →
  ∃ k93, 
  sp_X5_fill_93 k93 x0 x1 x3 x5 0 M Q (fun (x0 : Nat) (M : Im) =>
  Q (gI M x0 1) M)) ∧
  (300 < ((gI M x0 1) + x5) →
  Q (-3) M)
def sp_X5_fill_46 (x0 : Nat) (x1 : Int) (x3 : Int) (x5 : Int) (M : Im) (Q : Int → Im → Prop) : Prop :=
  (x5 ≤ 1 →
  sp_X5_fill_71 x0 x1 x3 x5 M Q) ∧
  (1 < x5 →
  (-2147483648 ≤ x5 - 1 ∧ x5 - 1 < 2147483648) ∧
  ¬ (x5 - 1) = 0 ∧
  (-9223372036854775808 ≤ 1000000000000 - x1 ∧ 1000000000000 - x1 < 9223372036854775808) ∧
  (-2147483648 ≤ x5 - 1 ∧ x5 - 1 < 2147483648) ∧
  (-9223372036854775808 ≤ (1000000000000 - x1).tdiv (x5 - 1) ∧ (1000000000000 - x1).tdiv (x5 - 1) < 9223372036854775808) ∧
  (x3 ≤ ((1000000000000 - x1).tdiv (x5 - 1)) →
  sp_X5_fill_71 x0 x1 x3 x5 M Q) ∧
  (((1000000000000 - x1).tdiv (x5 - 1)) < x3 →
  Q (-2) M))
def sp_X5_fill (x0 : Nat) (x1 : Int) (x3 : Int) (x5 : Int) (M : Im) (Q : Int → Im → Prop) : Prop :=
  iO M x0 5 ∧
  (x5 < 1 →
  Q (-2) M) ∧
  (1 ≤ x5 →
  (x3 < 1 →
  Q (-2) M) ∧
  (1 ≤ x3 →
  sp_X5_isKey x0 x1 M (fun (i5 : Int) (M4 : Im) =>
  (i5 = 0 →
  Q (-2) M4) ∧
  (¬ i5 = 0 →
  ((gI M4 x0 1) ≤ 0 →
  sp_X5_fill_46 x0 x1 x3 x5 M4 Q) ∧
  (0 < (gI M4 x0 1) →
  (-2147483648 ≤ (gI M4 x0 1) - 1 ∧ (gI M4 x0 1) - 1 < 2147483648) ∧
  (0 ≤ (gI M4 x0 1) - 1 ∧ (gI M4 x0 1) - 1 < ((alen 70) : Int)) ∧
  (-2147483648 ≤ (gI M4 x0 1) - 1 ∧ (gI M4 x0 1) - 1 < 2147483648) ∧
  ((gL M4 70 ((gI M4 x0 1) - 1).toNat) < x1 →
  sp_X5_fill_46 x0 x1 x3 x5 M4 Q) ∧
  (x1 ≤ (gL M4 70 ((gI M4 x0 1) - 1).toNat) →
  Q (-2) M4))))))
def sp_X5_wipe (x0 : Nat) (M : Im) (Q : Int → Im → Prop) : Prop :=
  iO M x0 5 ∧
  ∀ i1 : Int, i1 = gI M x0 1 →
  ∀ M2 : Im, M2 = pI M x0 1 0 →
  Q i1 M2
def sp_X5_margin (x0 : Nat) (x1 : Int) (M : Im) (Q : Int → Im → Prop) : Prop :=
  iO M x0 5 ∧
  (x1 < 0 →
  Q (-2) M) ∧
  (0 ≤ x1 →
  (x1 ≤ 40 →
  ∀ i1 : Int, i1 = gI M x0 2 →
  ∀ M2 : Im, M2 = pI M x0 2 x1 →
  Q i1 M2) ∧
  (40 < x1 →
  Q (-2) M))
def sp_X5_pair_87 (x0 : Nat) (x5 : Int) (x9 : Int) (M : Im) (Q : Im → Prop) : Prop :=
  ((gL M x0 7) = 0 →
  ∀ M4 : Im, M4 = pL M x0 6 x9 →
  ∀ M5 : Im, M5 = pL M4 x0 7 x5 →
  Q M5) ∧
  (¬ (gL M x0 7) = 0 →
  (-9223372036854775808 ≤ x9 * (gL M x0 7) ∧ x9 * (gL M x0 7) < 9223372036854775808) ∧
  (-9223372036854775808 ≤ (gL M x0 6) * x5 ∧ (gL M x0 6) * x5 < 9223372036854775808) ∧
  ((x9 * (gL M x0 7)) ≤ ((gL M x0 6) * x5) →
  Q M) ∧
  (((gL M x0 6) * x5) < (x9 * (gL M x0 7)) →
  ∀ M4 : Im, M4 = pL M x0 6 x9 →
  ∀ M5 : Im, M5 = pL M4 x0 7 x5 →
  Q M5))
def sp_X5_pair (x0 : Nat) (x1 : Int) (x2 : Int) (x3 : Int) (x4 : Int) (M : Im) (Q : Im → Prop) : Prop :=
  iO M x0 5 ∧
  (0 ≤ x2 ∧ x2 < ((alen 71) : Int)) ∧
  (0 ≤ x1 ∧ x1 < ((alen 71) : Int)) ∧
  (-9223372036854775808 ≤ (gL M 71 x2.toNat) - (gL M 71 x1.toNat) ∧ (gL M 71 x2.toNat) - (gL M 71 x1.toNat) < 9223372036854775808) ∧
  ∀ j6 : Int, j6 = (gL M 71 x2.toNat) - (gL M 71 x1.toNat) →
  (-2147483648 ≤ x2 - x1 ∧ x2 - x1 < 2147483648) ∧
  (-9223372036854775808 ≤ 2 * x4 ∧ 2 * x4 < 9223372036854775808) ∧
  (-9223372036854775808 ≤ (x2 - x1) + (2 * x4) ∧ (x2 - x1) + (2 * x4) < 9223372036854775808) ∧
  ∀ j7 : Int, j7 = (x2 - x1) + (2 * x4) →
  (-2147483648 ≤ x2 - x1 ∧ x2 - x1 < 2147483648) ∧
  (-9223372036854775808 ≤ 2 * x4 ∧ 2 * x4 < 9223372036854775808) ∧
  (-9223372036854775808 ≤ (x2 - x1) - (2 * x4) ∧ (x2 - x1) - (2 * x4) < 9223372036854775808) ∧
  ∀ j8 : Int, j8 = (x2 - x1) - (2 * x4) →
  ((gL M x0 5) = 0 →
  ∀ M1 : Im, M1 = pL M x0 4 j7 →
  ∀ M2 : Im, M2 = pL M1 x0 5 j6 →
  ∀ M3 : Im, M3 = pI M2 x0 8 x1 →
  sp_X5_pair_87 x0 j6 j8 M3 Q) ∧
  (¬ (gL M x0 5) = 0 →
  (-9223372036854775808 ≤ (gL M x0 4) * j6 ∧ (gL M x0 4) * j6 < 9223372036854775808) ∧
  (-9223372036854775808 ≤ j7 * (gL M x0 5) ∧ j7 * (gL M x0 5) < 9223372036854775808) ∧
  (((gL M x0 4) * j6) ≤ (j7 * (gL M x0 5)) →
  sp_X5_pair_87 x0 j6 j8 M Q) ∧
  ((j7 * (gL M x0 5)) < ((gL M x0 4) * j6) →
  ∀ M1 : Im, M1 = pL M x0 4 j7 →
  ∀ M2 : Im, M2 = pL M1 x0 5 j6 →
  ∀ M3 : Im, M3 = pI M2 x0 8 x1 →
  sp_X5_pair_87 x0 j6 j8 M3 Q))
def sp_X5_fits (x0 : Nat) (M : Im) (Q : Int → Im → Prop) : Prop :=
  iO M x0 5 ∧
  ((gL M x0 5) = 0 →
  ((1 : Int) = 0 ∨ (1 : Int) = 1) ∧
  Q 1 M) ∧
  (¬ (gL M x0 5) = 0 →
  (-9223372036854775808 ≤ (gL M x0 4) * (gL M x0 7) ∧ (gL M x0 4) * (gL M x0 7) < 9223372036854775808) ∧
  (-9223372036854775808 ≤ (gL M x0 6) * (gL M x0 5) ∧ (gL M x0 6) * (gL M x0 5) < 9223372036854775808) ∧
  (((gL M x0 4) * (gL M x0 7)) < ((gL M x0 6) * (gL M x0 5)) →
  ((0 : Int) = 0 ∨ (0 : Int) = 1) ∧
  Q 0 M) ∧
  (((gL M x0 6) * (gL M x0 5)) ≤ ((gL M x0 4) * (gL M x0 7)) →
  ((1 : Int) = 0 ∨ (1 : Int) = 1) ∧
  Q 1 M))
def sp_X5_passed_24 (n : Nat) (x0 : Nat) (x1 : Int) (x2 : Int) (x3 : Int) (x4 : Int) (x5 : Int) (M : Im) (Q : Int → Im → Prop) (K47 : Nat → Int → Int → Int → Int → Im → Prop) : Prop := match n with
  | 0 => False
  | n + 1 =>
  (x4 ≤ x5 →
  K47 x0 x1 x2 x3 x4 M) ∧
  (x5 < x4 →
  sp_X5_pair x0 x5 x4 x1 x3 M (fun (M1 : Im) =>
  (-2147483648 ≤ x5 + 1 ∧ x5 + 1 < 2147483648) ∧
  ∀ i2 : Int, i2 = x5 + 1 →
  sp_X5_passed_24 n x0 x1 x2 x3 x4 i2 M1 Q K47))
def sp_X5_passed_47 (x0 : Nat) (x1 : Int) (x2 : Int) (x3 : Int) (x4 : Int) (M : Im) (Q : Int → Im → Prop) (K15 : Nat → Int → Int → Int → Int → Im → Prop) (K53 : Nat → Im → Prop) : Prop :=
  (-2147483648 ≤ x4 + 1 ∧ x4 + 1 < 2147483648) ∧
  ∀ i3 : Int, i3 = x4 + 1 →
  K15 x0 x1 x2 x3 i3 M
def sp_X5_passed_15 (n : Nat) (x0 : Nat) (x1 : Int) (x2 : Int) (x3 : Int) (x4 : Int) (M : Im) (Q : Int → Im → Prop) (K53 : Nat → Im → Prop) : Prop := match n with
  | 0 => False
  | n + 1 =>
  (x2 ≤ x4 →
  K53 x0 M) ∧
  (x4 < x2 →
  ∃ k24, 
  sp_X5_passed_24 k24 x0 x1 x2 x3 x4 x1 M Q (fun (x0 : Nat) (x1 : Int) (x2 : Int) (x3 : Int) (x4 : Int) (M : Im) =>
  sp_X5_passed_47 x0 x1 x2 x3 x4 M Q (fun (x0 : Nat) (x1 : Int) (x2 : Int) (x3 : Int) (x4 : Int) (M : Im) =>
  sp_X5_passed_15 n x0 x1 x2 x3 x4 M Q K53) K53))
def sp_X5_passed (x0 : Nat) (x1 : Int) (x2 : Int) (x3 : Int) (M : Im) (Q : Int → Im → Prop) : Prop :=
  iO M x0 5 ∧
  ∀ M6 : Im, M6 = pL M x0 5 0 →
  ∀ M7 : Im, M7 = pL M6 x0 7 0 →
  (-2147483648 ≤ x1 + 1 ∧ x1 + 1 < 2147483648) ∧
  ∀ i8 : Int, i8 = x1 + 1 →
  ∃ k15, 
  sp_X5_passed_15 k15 x0 x1 x2 x3 i8 M7 Q (fun (x0 : Nat) (M : Im) =>
  sp_X5_fits x0 M (fun (i5 : Int) (M4 : Im) =>
  (i5 = 0 ∨ i5 = 1) ∧
  Q i5 M4))
def sp_X5_spanEnd_32 (n : Nat) (x0 : Nat) (x1 : Int) (x2 : Int) (x3 : Int) (x4 : Int) (x6 : Int) (M : Im) (Q : Int → Im → Prop) (K55 : Nat → Int → Int → Int → Int → Im → Prop) : Prop := match n with
  | 0 => False
  | n + 1 =>
  (x4 ≤ x6 →
  K55 x0 x1 x2 x3 x4 M) ∧
  (x6 < x4 →
  sp_X5_pair x0 x6 x4 x1 x3 M (fun (M1 : Im) =>
  (-2147483648 ≤ x6 + 1 ∧ x6 + 1 < 2147483648) ∧
  ∀ i2 : Int, i2 = x6 + 1 →
  sp_X5_spanEnd_32 n x0 x1 x2 x3 x4 i2 M1 Q K55))
def sp_X5_spanEnd_73 (x0 : Nat) (x1 : Int) (x2 : Int) (x3 : Int) (x5 : Int) (t0 : Int) (t1 : Int) (M : Im) (Q : Int → Im → Prop) (K18 : Nat → Int → Int → Int → Int → Int → Im → Prop) (K79 : Int → Im → Prop) : Prop :=
  (-2147483648 ≤ t1 + t0 ∧ t1 + t0 < 2147483648) ∧
  ∀ i5 : Int, i5 = t1 + t0 →
  K18 x0 x1 x2 x3 i5 x5 M
def sp_X5_spanEnd_55 (x0 : Nat) (x1 : Int) (x2 : Int) (x3 : Int) (x4 : Int) (M : Im) (Q : Int → Im → Prop) (K18 : Nat → Int → Int → Int → Int → Int → Im → Prop) (K79 : Int → Im → Prop) : Prop :=
  sp_X5_fits x0 M (fun (i4 : Int) (M3 : Im) =>
  (i4 = 0 →
  sp_X5_spanEnd_73 x0 x1 x2 x3 i4 0 x4 M3 Q K18 K79) ∧
  (¬ i4 = 0 →
  sp_X5_spanEnd_73 x0 x1 x2 x3 i4 1 x4 M3 Q K18 K79))
def sp_X5_spanEnd_18 (n : Nat) (x0 : Nat) (x1 : Int) (x2 : Int) (x3 : Int) (x4 : Int) (x5 : Int) (M : Im) (Q : Int → Im → Prop) (K79 : Int → Im → Prop) : Prop := match n with
  | 0 => False
  | n + 1 =>
  (x2 ≤ x4 →
  K79 x4 M) ∧
  (x4 < x2 →
  (x5 = 0 →
  K79 x4 M) ∧
  (¬ x5 = 0 →
  ∃ k32, 
  sp_X5_spanEnd_32 k32 x0 x1 x2 x3 x4 x1 M Q (fun (x0 : Nat) (x1 : Int) (x2 : Int) (x3 : Int) (x4 : Int) (M : Im) =>
  sp_X5_spanEnd_55 x0 x1 x2 x3 x4 M Q (fun (x0 : Nat) (x1 : Int) (x2 : Int) (x3 : Int) (x4 : Int) (x5 : Int) (M : Im) =>
  sp_X5_spanEnd_18 n x0 x1 x2 x3 x4 x5 M Q K79) K79)))
def sp_X5_spanEnd (x0 : Nat) (x1 : Int) (x2 : Int) (x3 : Int) (M : Im) (Q : Int → Im → Prop) : Prop :=
  iO M x0 5 ∧
  ∀ M6 : Im, M6 = pL M x0 5 0 →
  ∀ M7 : Im, M7 = pL M6 x0 7 0 →
  (-2147483648 ≤ x1 + 1 ∧ x1 + 1 < 2147483648) ∧
  ∀ i8 : Int, i8 = x1 + 1 →
  ∃ k18, 
  sp_X5_spanEnd_18 k18 x0 x1 x2 x3 i8 1 M7 Q (fun (x4 : Int) (M : Im) =>
  Q x4 M)
def sp_X5_take_2 (n : Nat) (x0 : Nat) (x1 : Int) (M : Im) (Q : Im → Prop) (K28 : Im → Prop) : Prop := match n with
  | 0 => False
  | n + 1 =>
  ((gI M x0 1) ≤ x1 →
  K28 M) ∧
  (x1 < (gI M x0 1) →
  (0 ≤ x1 ∧ x1 < ((alen 70) : Int)) ∧
  (0 ≤ x1 ∧ x1 < ((alen 71) : Int)) ∧
  ∀ M1 : Im, M1 = pL M 71 x1.toNat (gL M 70 x1.toNat) →
  (-2147483648 ≤ x1 + 1 ∧ x1 + 1 < 2147483648) ∧
  ∀ i2 : Int, i2 = x1 + 1 →
  sp_X5_take_2 n x0 i2 M1 Q K28)
def sp_X5_take (x0 : Nat) (M : Im) (Q : Im → Prop) : Prop :=
  iO M x0 5 ∧
  ∃ k2, 
  sp_X5_take_2 k2 x0 0 M Q (fun (M : Im) =>
  Q M)
def sp_X5_few_21 (n : Nat) (x0 : Nat) (x1 : Int) (x2 : Int) (x3 : Int) (M : Im) (Q : Int → Im → Prop) (K46 : Int → Im → Prop) : Prop := match n with
  | 0 => False
  | n + 1 =>
  ((gI M x0 1) ≤ x3 →
  K46 x2 M) ∧
  (x3 < (gI M x0 1) →
  (-2147483648 ≤ x2 + 1 ∧ x2 + 1 < 2147483648) ∧
  ∀ i1 : Int, i1 = x2 + 1 →
  sp_X5_spanEnd x0 x3 (gI M x0 1) x1 M (fun (i3 : Int) (M2 : Im) =>
  sp_X5_few_21 n x0 x1 i1 i3 M2 Q K46))
def sp_X5_few (x0 : Nat) (x1 : Int) (M : Im) (Q : Int → Im → Prop) : Prop :=
  iO M x0 5 ∧
  (x1 < 0 →
  Q (-2) M) ∧
  (0 ≤ x1 →
  (x1 ≤ 40 →
  sp_X5_take x0 M (fun (M4 : Im) =>
  ∃ k21, 
  sp_X5_few_21 k21 x0 x1 0 0 M4 Q (fun (x2 : Int) (M : Im) =>
  Q x2 M))) ∧
  (40 < x1 →
  Q (-2) M))
def sp_X5_three (x0 : Nat) (x1 : Int) (x2 : Int) (x3 : Int) (x4 : Int) (M : Im) (Q : Int → Im → Prop) : Prop :=
  iO M x0 5 ∧
  sp_X5_take x0 M (fun (M1 : Im) =>
  ∀ M2 : Im, M2 = pL M1 x0 5 0 →
  ∀ M3 : Im, M3 = pL M2 x0 7 0 →
  sp_X5_pair x0 x1 x2 0 x4 M3 (fun (M4 : Im) =>
  sp_X5_pair x0 x1 x3 0 x4 M4 (fun (M5 : Im) =>
  sp_X5_pair x0 x2 x3 0 x4 M5 (fun (M6 : Im) =>
  sp_X5_fits x0 M6 (fun (i8 : Int) (M7 : Im) =>
  (i8 = 0 ∨ i8 = 1) ∧
  Q i8 M7)))))
def sp_X5_passes (x0 : Nat) (x1 : Int) (x2 : Int) (x3 : Int) (x4 : Int) (M : Im) (Q : Int → Im → Prop) : Prop :=
  iO M x0 5 ∧
  (x4 < 0 →
  Q (-2) M) ∧
  (0 ≤ x4 →
  (40 < x4 →
  Q (-2) M) ∧
  (x4 ≤ 40 →
  (x1 < 0 →
  Q (-2) M) ∧
  (0 ≤ x1 →
  (x2 ≤ x1 →
  Q (-2) M) ∧
  (x1 < x2 →
  (x3 ≤ x2 →
  Q (-2) M) ∧
  (x2 < x3 →
  (x3 < (gI M x0 1) →
  sp_X5_three x0 x1 x2 x3 x4 M (fun (i2 : Int) (M1 : Im) =>
  (i2 = 0 →
  Q 0 M1) ∧
  (¬ i2 = 0 →
  Q 1 M1))) ∧
  ((gI M x0 1) ≤ x3 →
  Q (-2) M))))))
def sp_X5_span_12 (n : Nat) (x0 : Nat) (x1 : Int) (x2 : Int) (x3 : Int) (x4 : Int) (x5 : Int) (M : Im) (Q : Int → Im → Prop) (K52 : Nat → Int → Int → Int → Int → Im → Prop) : Prop := match n with
  | 0 => False
  | n + 1 =>
  (x1 ≤ x5 →
  K52 x0 x1 x2 x3 x4 M) ∧
  (x5 < x1 →
  ((gI M x0 1) ≤ x4 →
  K52 x0 x1 x2 x3 x4 M) ∧
  (x4 < (gI M x0 1) →
  sp_X5_spanEnd x0 x4 (gI M x0 1) (gI M x0 2) M (fun (i2 : Int) (M1 : Im) =>
  (-2147483648 ≤ x5 + 1 ∧ x5 + 1 < 2147483648) ∧
  ∀ i3 : Int, i3 = x5 + 1 →
  sp_X5_span_12 n x0 x1 x2 x4 i2 i3 M1 Q K52)))
def sp_X5_span_130 (n : Nat) (x0 : Nat) (x2 : Int) (x4 : Int) (x6 : Int) (x7 : Int) (M : Im) (Q : Int → Im → Prop) (K154 : Int → Int → Int → Im → Prop) (K173 : Nat → Int → Int → Int → Im → Prop) : Prop := match n with
  | 0 => False
  | n + 1 =>
  (x4 ≤ x7 →
  K173 x0 x2 x4 x6 M) ∧
  (x7 < x4 →
  sp_X5_three x0 x6 x7 x4 (gI M x0 2) M (fun (i8 : Int) (M7 : Im) =>
  (¬ i8 = 0 →
  (-2147483648 ≤ x7 + 1 ∧ x7 + 1 < 2147483648) ∧
  ∀ i9 : Int, i9 = x7 + 1 →
  sp_X5_span_130 n x0 x2 x4 x6 i9 M7 Q K154 K173) ∧
  (i8 = 0 →
  K154 x2 x6 x7 M7)))
def sp_X5_span_173 (x0 : Nat) (x2 : Int) (x4 : Int) (x6 : Int) (M : Im) (Q : Int → Im → Prop) (K117 : Nat → Int → Int → Int → Im → Prop) (K154 : Int → Int → Int → Im → Prop) (K179 : Im → Prop) : Prop :=
  (-2147483648 ≤ x6 + 1 ∧ x6 + 1 < 2147483648) ∧
  ∀ i10 : Int, i10 = x6 + 1 →
  K117 x0 x2 x4 i10 M
def sp_X5_span_117 (n : Nat) (x0 : Nat) (x2 : Int) (x4 : Int) (x6 : Int) (M : Im) (Q : Int → Im → Prop) (K154 : Int → Int → Int → Im → Prop) (K179 : Im → Prop) : Prop := match n with
  | 0 => False
  | n + 1 =>
  (x4 ≤ x6 →
  K179 M) ∧
  (x6 < x4 →
  (-2147483648 ≤ x6 + 1 ∧ x6 + 1 < 2147483648) ∧
  ∀ i6 : Int, i6 = x6 + 1 →
  ∃ k130, 
  sp_X5_span_130 k130 x0 x2 x4 x6 i6 M Q (fun (x2 : Int) (x6 : Int) (x7 : Int) (M : Im) =>
  K154 x2 x6 x7 M) (fun (x0 : Nat) (x2 : Int) (x4 : Int) (x6 : Int) (M : Im) =>
  sp_X5_span_173 x0 x2 x4 x6 M Q (fun (x0 : Nat) (x2 : Int) (x4 : Int) (x6 : Int) (M : Im) =>
  sp_X5_span_117 n x0 x2 x4 x6 M Q K154 K179) K154 K179))
def sp_X5_span_79 (x0 : Nat) (x2 : Int) (x3 : Int) (x4 : Int) (t0 : Int) (t1 : Int) (M : Im) (Q : Int → Im → Prop) : Prop :=
  (t1 ≤ t0 →
  (¬ x2 = 0 →
  (¬ x2 = 1 →
  ∃ k117, 
  sp_X5_span_117 k117 x0 x2 x4 x3 M Q (fun (x2 : Int) (x6 : Int) (x7 : Int) (M : Im) =>
  (¬ x2 = 2 →
  Q x7 M) ∧
  (x2 = 2 →
  Q x6 M)) (fun (M : Im) =>
  Q (-1) M)) ∧
  (x2 = 1 →
  sp_X5_spanEnd x0 x4 (gI M x0 1) (gI M x0 2) M (fun (i5 : Int) (M4 : Im) =>
  (-2147483648 ≤ i5 - x4 ∧ i5 - x4 < 2147483648) ∧
  Q (i5 - x4) M4))) ∧
  (x2 = 0 →
  Q x4 M)) ∧
  (t0 < t1 →
  Q (-1) M)
def sp_X5_span (x0 : Nat) (x1 : Int) (x2 : Int) (M : Im) (Q : Int → Im → Prop) : Prop :=
  iO M x0 5 ∧
  sp_X5_take x0 M (fun (M11 : Im) =>
  ∃ k12, 
  sp_X5_span_12 k12 x0 x1 x2 0 0 0 M11 Q (fun (x0 : Nat) (x1 : Int) (x2 : Int) (x3 : Int) (x4 : Int) (M : Im) =>
  (x1 < 0 →
  Q (-1) M) ∧
  (0 ≤ x1 →
  ((gI M x0 1) ≤ x4 →
  Q (-1) M) ∧
  (x4 < (gI M x0 1) →
  (x2 < 0 →
  Q (-1) M) ∧
  (0 ≤ x2 →
  (x1 ≤ 0 →
  sp_X5_span_79 x0 x2 x3 x4 1 x2 M Q) ∧
  (0 < x1 →
  sp_X5_span_79 x0 x2 x3 x4 3 x2 M Q))))))
def sp_X5_pieces (x0 : Nat) (M : Im) (Q : Int → Im → Prop) : Prop :=
  iO M x0 5 ∧
  (0 ≤ (0 : Int) ∧ (0 : Int) < ((alen 73) : Int)) ∧
  Q (gI M 73 0) M
def sp_X5_divisor_6 (n : Nat) (x5 : Int) (x7 : Int) (M : Im) (Q : Int → Im → Prop) (K31 : Int → Im → Prop) : Prop := match n with
  | 0 => False
  | n + 1 =>
  (x7 = 0 →
  K31 x5 M) ∧
  (¬ x7 = 0 →
  ¬ x7 = 0 ∧
  (-9223372036854775808 ≤ x5.tdiv x7 ∧ x5.tdiv x7 < 9223372036854775808) ∧
  (-9223372036854775808 ≤ (x5.tdiv x7) * x7 ∧ (x5.tdiv x7) * x7 < 9223372036854775808) ∧
  (-9223372036854775808 ≤ x5 - ((x5.tdiv x7) * x7) ∧ x5 - ((x5.tdiv x7) * x7) < 9223372036854775808) ∧
  ∀ j1 : Int, j1 = x5 - ((x5.tdiv x7) * x7) →
  sp_X5_divisor_6 n x7 j1 M Q K31)
def sp_X5_divisor (x0 : Nat) (x1 : Int) (x3 : Int) (M : Im) (Q : Int → Im → Prop) : Prop :=
  iO M x0 5 ∧
  ∃ k6, 
  sp_X5_divisor_6 k6 x1 x3 M Q (fun (x5 : Int) (M : Im) =>
  Q x5 M)
def sp_X5_guessOf (x0 : Nat) (x1 : Int) (x2 : Int) (M : Im) (Q : Int → Im → Prop) : Prop :=
  iO M x0 5 ∧
  (0 ≤ x1 ∧ x1 < ((alen 76) : Int)) ∧
  (-2147483648 ≤ (gI M 76 x1.toNat) - 1 ∧ (gI M 76 x1.toNat) - 1 < 2147483648) ∧
  ∀ i1 : Int, i1 = (gI M 76 x1.toNat) - 1 →
  (0 ≤ x1 ∧ x1 < ((alen 74) : Int)) ∧
  (¬ (gI M 74 x1.toNat) = 0 →
  (0 ≤ x1 ∧ x1 < ((alen 74) : Int)) ∧
  (¬ (gI M 74 x1.toNat) = 2 →
  (0 ≤ x1 ∧ x1 < ((alen 81) : Int)) ∧
  (0 ≤ x1 ∧ x1 < ((alen 79) : Int)) ∧
  (0 ≤ x1 ∧ x1 < ((alen 75) : Int)) ∧
  (0 ≤ gI M 75 x1.toNat ∧ gI M 75 x1.toNat < ((alen 82) : Int)) ∧
  (-9223372036854775808 ≤ x2 - (gL M 82 (gI M 75 x1.toNat).toNat) ∧ x2 - (gL M 82 (gI M 75 x1.toNat).toNat) < 9223372036854775808) ∧
  (-9223372036854775808 ≤ (gL M 79 x1.toNat) * (x2 - (gL M 82 (gI M 75 x1.toNat).toNat)) ∧ (gL M 79 x1.toNat) * (x2 - (gL M 82 (gI M 75 x1.toNat).toNat)) < 9223372036854775808) ∧
  (-9223372036854775808 ≤ (gL M 81 x1.toNat) + ((gL M 79 x1.toNat) * (x2 - (gL M 82 (gI M 75 x1.toNat).toNat))) ∧ (gL M 81 x1.toNat) + ((gL M 79 x1.toNat) * (x2 - (gL M 82 (gI M 75 x1.toNat).toNat))) < 9223372036854775808) ∧
  ∀ j2 : Int, j2 = (gL M 81 x1.toNat) + ((gL M 79 x1.toNat) * (x2 - (gL M 82 (gI M 75 x1.toNat).toNat))) →
  (0 ≤ j2 →
  (0 ≤ x1 ∧ x1 < ((alen 80) : Int)) ∧
  ¬ (gL M 80 x1.toNat) = 0 ∧
  (-9223372036854775808 ≤ j2.tdiv (gL M 80 x1.toNat) ∧ j2.tdiv (gL M 80 x1.toNat) < 9223372036854775808) ∧
  ∀ j3 : Int, j3 = j2.tdiv (gL M 80 x1.toNat) →
  (j3 ≤ i1 →
  (-2147483648 ≤ j3 ∧ j3 < 2147483648) ∧
  Q j3 M) ∧
  (i1 < j3 →
  Q i1 M)) ∧
  (j2 < 0 →
  Q 0 M)) ∧
  ((gI M 74 x1.toNat) = 2 →
  (0 ≤ x1 ∧ x1 < ((alen 81) : Int)) ∧
  (0 ≤ x1 ∧ x1 < ((alen 80) : Int)) ∧
  ∀ f4 : UInt64, alike64 f4 (FP.ddiv (FP.l2d (lz (gL M 81 x1.toNat))) (FP.l2d (lz (gL M 80 x1.toNat)))) = true →
  (0 ≤ x1 ∧ x1 < ((alen 79) : Int)) ∧
  (0 ≤ x1 ∧ x1 < ((alen 80) : Int)) ∧
  ∀ f5 : UInt64, alike64 f5 (FP.ddiv (FP.l2d (lz (gL M 79 x1.toNat))) (FP.l2d (lz (gL M 80 x1.toNat)))) = true →
  (0 ≤ x1 ∧ x1 < ((alen 75) : Int)) ∧
  (0 ≤ gI M 75 x1.toNat ∧ gI M 75 x1.toNat < ((alen 82) : Int)) ∧
  (-9223372036854775808 ≤ x2 - (gL M 82 (gI M 75 x1.toNat).toNat) ∧ x2 - (gL M 82 (gI M 75 x1.toNat).toNat) < 9223372036854775808) ∧
  ∀ f6 : UInt64, alike64 f6 (FP.dmul f5 (FP.l2d (lz (x2 - (gL M 82 (gI M 75 x1.toNat).toNat))))) = true →
  ∀ f7 : UInt64, alike64 f7 (FP.dadd f4 f6) = true →
  (((Op.cmpValue (FP.dcmp f7 (FP.i2d (iz i1))) CmpOp.l).toInt) < 0 →
  (((Op.cmpValue (FP.dcmp f7 FP.dconst0) CmpOp.l).toInt) ≤ 0 →
  Q 0 M) ∧
  (0 < ((Op.cmpValue (FP.dcmp f7 FP.dconst0) CmpOp.l).toInt) →
  Q ((FP.d2i f7).toInt) M)) ∧
  (0 ≤ ((Op.cmpValue (FP.dcmp f7 (FP.i2d (iz i1))) CmpOp.l).toInt) →
  Q i1 M))) ∧
  ((gI M 74 x1.toNat) = 0 →
  Q 0 M)
def sp_X5_miss_61 (x0 : Nat) (x1 : Int) (x3 : Int) (t0 : Int) (M : Im) (Q : Int → Im → Prop) (K4 : Nat → Int → Int → Int → Im → Prop) (K68 : Int → Im → Prop) : Prop :=
  (-2147483648 ≤ x3 + 1 ∧ x3 + 1 < 2147483648) ∧
  ∀ i4 : Int, i4 = x3 + 1 →
  K4 x0 x1 t0 i4 M
def sp_X5_miss_4 (n : Nat) (x0 : Nat) (x1 : Int) (x2 : Int) (x3 : Int) (M : Im) (Q : Int → Im → Prop) (K68 : Int → Im → Prop) : Prop := match n with
  | 0 => False
  | n + 1 =>
  (0 ≤ x1 ∧ x1 < ((alen 76) : Int)) ∧
  ((gI M 76 x1.toNat) ≤ x3 →
  K68 x2 M) ∧
  (x3 < (gI M 76 x1.toNat) →
  (0 ≤ x1 ∧ x1 < ((alen 75) : Int)) ∧
  (-2147483648 ≤ (gI M 75 x1.toNat) + x3 ∧ (gI M 75 x1.toNat) + x3 < 2147483648) ∧
  (0 ≤ (gI M 75 x1.toNat) + x3 ∧ (gI M 75 x1.toNat) + x3 < ((alen 82) : Int)) ∧
  (-2147483648 ≤ (gI M 75 x1.toNat) + x3 ∧ (gI M 75 x1.toNat) + x3 < 2147483648) ∧
  sp_X5_guessOf x0 x1 (gL M 82 ((gI M 75 x1.toNat) + x3).toNat) M (fun (i2 : Int) (M1 : Im) =>
  (-2147483648 ≤ i2 - x3 ∧ i2 - x3 < 2147483648) ∧
  ∀ i3 : Int, i3 = i2 - x3 →
  (i3 ≤ x2 →
  (-2147483648 ≤ -i3 ∧ -i3 < 2147483648) ∧
  ((-i3) ≤ x2 →
  sp_X5_miss_61 x0 x1 x3 x2 M1 Q (fun (x0 : Nat) (x1 : Int) (x2 : Int) (x3 : Int) (M : Im) =>
  sp_X5_miss_4 n x0 x1 x2 x3 M Q K68) K68) ∧
  (x2 < (-i3) →
  (-2147483648 ≤ -i3 ∧ -i3 < 2147483648) ∧
  sp_X5_miss_61 x0 x1 x3 (-i3) M1 Q (fun (x0 : Nat) (x1 : Int) (x2 : Int) (x3 : Int) (M : Im) =>
  sp_X5_miss_4 n x0 x1 x2 x3 M Q K68) K68)) ∧
  (x2 < i3 →
  sp_X5_miss_61 x0 x1 x3 i3 M1 Q (fun (x0 : Nat) (x1 : Int) (x2 : Int) (x3 : Int) (M : Im) =>
  sp_X5_miss_4 n x0 x1 x2 x3 M Q K68) K68)))
def sp_X5_miss (x0 : Nat) (x1 : Int) (M : Im) (Q : Int → Im → Prop) : Prop :=
  iO M x0 5 ∧
  ∃ k4, 
  sp_X5_miss_4 k4 x0 x1 0 0 M Q (fun (x2 : Int) (M : Im) =>
  Q x2 M)
def sp_X5_lean_77 (n : Nat) (x0 : Nat) (x1 : Int) (x2 : Int) (x3 : Int) (x4 : Int) (x5 : Int) (x6 : Int) (x7 : Int) (M : Im) (Q : Im → Prop) (K121 : Nat → Int → Int → Int → Int → Int → Im → Prop) : Prop := match n with
  | 0 => False
  | n + 1 =>
  (x3 ≤ x7 →
  K121 x0 x1 x2 x3 x4 x5 M) ∧
  (x7 < x3 →
  (0 ≤ x7 ∧ x7 < ((alen 71) : Int)) ∧
  (-2147483648 ≤ x6 + x7 ∧ x6 + x7 < 2147483648) ∧
  (-2147483648 ≤ (x6 + x7) - x2 ∧ (x6 + x7) - x2 < 2147483648) ∧
  (0 ≤ (x6 + x7) - x2 ∧ (x6 + x7) - x2 < ((alen 82) : Int)) ∧
  (-2147483648 ≤ x6 + x7 ∧ x6 + x7 < 2147483648) ∧
  (-2147483648 ≤ (x6 + x7) - x2 ∧ (x6 + x7) - x2 < 2147483648) ∧
  ∀ M9 : Im, M9 = pL M 82 ((x6 + x7) - x2).toNat (gL M 71 x7.toNat) →
  (-2147483648 ≤ x6 + x7 ∧ x6 + x7 < 2147483648) ∧
  (-2147483648 ≤ (x6 + x7) - x2 ∧ (x6 + x7) - x2 < 2147483648) ∧
  (0 ≤ (x6 + x7) - x2 ∧ (x6 + x7) - x2 < ((alen 84) : Int)) ∧
  (-2147483648 ≤ x6 + x7 ∧ x6 + x7 < 2147483648) ∧
  (-2147483648 ≤ (x6 + x7) - x2 ∧ (x6 + x7) - x2 < 2147483648) ∧
  ∀ M10 : Im, M10 = pI M9 84 ((x6 + x7) - x2).toNat 0 →
  (-2147483648 ≤ x7 + 1 ∧ x7 + 1 < 2147483648) ∧
  ∀ i11 : Int, i11 = x7 + 1 →
  sp_X5_lean_77 n x0 x1 x2 x3 x4 x5 x6 i11 M10 Q K121)
def sp_X5_lean_18 (x0 : Nat) (x1 : Int) (x2 : Int) (x3 : Int) (x4 : Int) (x5 : Int) (x6 : Int) (t0 : Int) (t1 : Int) (t2 : Nat) (M : Im) (Q : Im → Prop) : Prop :=
  (0 ≤ t1 ∧ t1 < ((alen t2) : Int)) ∧
  ∀ M1 : Im, M1 = pI M t2 t1.toNat t0 →
  (0 ≤ x1 ∧ x1 < ((alen 75) : Int)) ∧
  ∀ M2 : Im, M2 = pI M1 75 x1.toNat x6 →
  (0 ≤ x1 ∧ x1 < ((alen 76) : Int)) ∧
  (-2147483648 ≤ x3 - x2 ∧ x3 - x2 < 2147483648) ∧
  ∀ M3 : Im, M3 = pI M2 76 x1.toNat (x3 - x2) →
  (0 ≤ x1 ∧ x1 < ((alen 77) : Int)) ∧
  ∀ M4 : Im, M4 = pI M3 77 x1.toNat (gI M3 x0 2) →
  (0 ≤ x1 ∧ x1 < ((alen 78) : Int)) ∧
  ∀ M5 : Im, M5 = pI M4 78 x1.toNat 0 →
  (0 ≤ x1 ∧ x1 < ((alen 79) : Int)) ∧
  ∀ M6 : Im, M6 = pL M5 79 x1.toNat 0 →
  (0 ≤ x1 ∧ x1 < ((alen 80) : Int)) ∧
  ∀ M7 : Im, M7 = pL M6 80 x1.toNat 1 →
  (0 ≤ x1 ∧ x1 < ((alen 81) : Int)) ∧
  ∀ M8 : Im, M8 = pL M7 81 x1.toNat 0 →
  ∃ k77, 
  sp_X5_lean_77 k77 x0 x1 x2 x3 x4 x5 x6 x2 M8 Q (fun (x0 : Nat) (x1 : Int) (x2 : Int) (x3 : Int) (x4 : Int) (x5 : Int) (M : Im) =>
  (-2147483648 ≤ x3 - x2 ∧ x3 - x2 < 2147483648) ∧
  (¬ (x3 - x2) = 1 →
  sp_X5_passed x0 x2 x3 x4 M (fun (i13 : Int) (M12 : Im) =>
  sp_X5_divisor x0 (gL M12 x0 4) (gL M12 x0 5) M12 (fun (j15 : Int) (M14 : Im) =>
  ¬ j15 = 0 ∧
  (0 ≤ x1 ∧ x1 < ((alen 79) : Int)) ∧
  (-9223372036854775808 ≤ (gL M14 x0 4).tdiv j15 ∧ (gL M14 x0 4).tdiv j15 < 9223372036854775808) ∧
  ∀ M16 : Im, M16 = pL M14 79 x1.toNat ((gL M14 x0 4).tdiv j15) →
  ¬ j15 = 0 ∧
  (0 ≤ x1 ∧ x1 < ((alen 80) : Int)) ∧
  (-9223372036854775808 ≤ (gL M16 x0 5).tdiv j15 ∧ (gL M16 x0 5).tdiv j15 < 9223372036854775808) ∧
  ∀ M17 : Im, M17 = pL M16 80 x1.toNat ((gL M16 x0 5).tdiv j15) →
  (0 ≤ x1 ∧ x1 < ((alen 80) : Int)) ∧
  (0 ≤ x1 ∧ x1 < ((alen 79) : Int)) ∧
  (0 ≤ gI M17 x0 8 ∧ gI M17 x0 8 < ((alen 71) : Int)) ∧
  (0 ≤ x2 ∧ x2 < ((alen 71) : Int)) ∧
  (0 ≤ x1 ∧ x1 < ((alen 81) : Int)) ∧
  (-2147483648 ≤ (gI M17 x0 8) - x2 ∧ (gI M17 x0 8) - x2 < 2147483648) ∧
  (-2147483648 ≤ ((gI M17 x0 8) - x2) - x4 ∧ ((gI M17 x0 8) - x2) - x4 < 2147483648) ∧
  (-9223372036854775808 ≤ (gL M17 80 x1.toNat) * (((gI M17 x0 8) - x2) - x4) ∧ (gL M17 80 x1.toNat) * (((gI M17 x0 8) - x2) - x4) < 9223372036854775808) ∧
  (-9223372036854775808 ≤ (gL M17 71 (gI M17 x0 8).toNat) - (gL M17 71 x2.toNat) ∧ (gL M17 71 (gI M17 x0 8).toNat) - (gL M17 71 x2.toNat) < 9223372036854775808) ∧
  (-9223372036854775808 ≤ (gL M17 79 x1.toNat) * ((gL M17 71 (gI M17 x0 8).toNat) - (gL M17 71 x2.toNat)) ∧ (gL M17 79 x1.toNat) * ((gL M17 71 (gI M17 x0 8).toNat) - (gL M17 71 x2.toNat)) < 9223372036854775808) ∧
  (-9223372036854775808 ≤ ((gL M17 80 x1.toNat) * (((gI M17 x0 8) - x2) - x4)) - ((gL M17 79 x1.toNat) * ((gL M17 71 (gI M17 x0 8).toNat) - (gL M17 71 x2.toNat))) ∧ ((gL M17 80 x1.toNat) * (((gI M17 x0 8) - x2) - x4)) - ((gL M17 79 x1.toNat) * ((gL M17 71 (gI M17 x0 8).toNat) - (gL M17 71 x2.toNat))) < 9223372036854775808) ∧
  ∀ M18 : Im, M18 = pL M17 81 x1.toNat (((gL M17 80 x1.toNat) * (((gI M17 x0 8) - x2) - x4)) - ((gL M17 79 x1.toNat) * ((gL M17 71 (gI M17 x0 8).toNat) - (gL M17 71 x2.toNat)))) →
  (¬ x5 = 2 →
  Q M18) ∧
  (x5 = 2 →
  sp_X5_miss x0 x1 M18 (fun (i20 : Int) (M19 : Im) =>
  (i20 ≤ (gI M19 x0 2) →
  Q M19) ∧
  ((gI M19 x0 2) < i20 →
  (0 ≤ x1 ∧ x1 < ((alen 74) : Int)) ∧
  ∀ M21 : Im, M21 = pI M19 74 x1.toNat 1 →
  Q M21)))))) ∧
  ((x3 - x2) = 1 →
  Q M))
def sp_X5_lean (x0 : Nat) (x1 : Int) (x2 : Int) (x3 : Int) (x4 : Int) (x5 : Int) (x6 : Int) (M : Im) (Q : Im → Prop) : Prop :=
  iO M x0 5 ∧
  (-2147483648 ≤ x3 - x2 ∧ x3 - x2 < 2147483648) ∧
  (¬ (x3 - x2) = 1 →
  sp_X5_lean_18 x0 x1 x2 x3 x4 x5 x6 x5 x1 74 M Q) ∧
  ((x3 - x2) = 1 →
  sp_X5_lean_18 x0 x1 x2 x3 x4 x5 x6 0 x1 74 M Q)
def sp_X5_make_27 (n : Nat) (x0 : Nat) (x1 : Int) (x2 : Int) (x3 : Int) (x4 : Int) (x5 : Int) (x6 : Int) (x7 : Int) (M : Im) (Q : Int → Im → Prop) (K74 : Int → Im → Prop) : Prop := match n with
  | 0 => False
  | n + 1 =>
  (x1 ≤ x6 →
  K74 x7 M) ∧
  (x6 < x1 →
  sp_X5_spanEnd x0 x6 x1 x5 M (fun (i2 : Int) (M1 : Im) =>
  (-2147483648 ≤ x2 + x7 ∧ x2 + x7 < 2147483648) ∧
  (-2147483648 ≤ x3 + x6 ∧ x3 + x6 < 2147483648) ∧
  sp_X5_lean x0 (x2 + x7) x6 i2 x5 x4 (x3 + x6) M1 (fun (M3 : Im) =>
  (-2147483648 ≤ x7 + 1 ∧ x7 + 1 < 2147483648) ∧
  ∀ i4 : Int, i4 = x7 + 1 →
  sp_X5_make_27 n x0 x1 x2 x3 x4 x5 i2 i4 M3 Q K74)))
def sp_X5_make_19 (x0 : Nat) (x1 : Int) (x2 : Int) (x3 : Int) (x4 : Int) (t0 : Int) (M : Im) (Q : Int → Im → Prop) : Prop :=
  ∃ k27, 
  sp_X5_make_27 k27 x0 x1 x2 x3 x4 t0 0 0 M Q (fun (x7 : Int) (M : Im) =>
  Q x7 M)
def sp_X5_make (x0 : Nat) (x1 : Int) (x2 : Int) (x3 : Int) (x4 : Int) (M : Im) (Q : Int → Im → Prop) : Prop :=
  iO M x0 5 ∧
  (¬ x4 = 2 →
  sp_X5_make_19 x0 x1 x2 x3 x4 (gI M x0 2) M Q) ∧
  (x4 = 2 →
  (-2147483648 ≤ (gI M x0 2) - 1 ∧ (gI M x0 2) - 1 < 2147483648) ∧
  sp_X5_make_19 x0 x1 x2 x3 x4 ((gI M x0 2) - 1) M Q)
def sp_X5_layersAnew_50 (n : Nat) (x0 : Nat) (x1 : Int) (x2 : Int) (M : Im) (Q : Im → Prop) (K88 : Nat → Int → Im → Prop) : Prop := match n with
  | 0 => False
  | n + 1 =>
  (x1 ≤ x2 →
  K88 x0 x1 M) ∧
  (x2 < x1 →
  (0 ≤ gI M x0 9 ∧ gI M x0 9 < ((alen 72) : Int)) ∧
  (-2147483648 ≤ (gI M 72 (gI M x0 9).toNat) + x2 ∧ (gI M 72 (gI M x0 9).toNat) + x2 < 2147483648) ∧
  (0 ≤ (gI M 72 (gI M x0 9).toNat) + x2 ∧ (gI M 72 (gI M x0 9).toNat) + x2 < ((alen 75) : Int)) ∧
  (-2147483648 ≤ (gI M 72 (gI M x0 9).toNat) + x2 ∧ (gI M 72 (gI M x0 9).toNat) + x2 < 2147483648) ∧
  (0 ≤ gI M 75 ((gI M 72 (gI M x0 9).toNat) + x2).toNat ∧ gI M 75 ((gI M 72 (gI M x0 9).toNat) + x2).toNat < ((alen 82) : Int)) ∧
  (0 ≤ x2 ∧ x2 < ((alen 71) : Int)) ∧
  (-2147483648 ≤ (gI M 72 (gI M x0 9).toNat) + x2 ∧ (gI M 72 (gI M x0 9).toNat) + x2 < 2147483648) ∧
  ∀ M2 : Im, M2 = pL M 71 x2.toNat (gL M 82 (gI M 75 ((gI M 72 (gI M x0 9).toNat) + x2).toNat).toNat) →
  (-2147483648 ≤ x2 + 1 ∧ x2 + 1 < 2147483648) ∧
  ∀ i3 : Int, i3 = x2 + 1 →
  sp_X5_layersAnew_50 n x0 x1 i3 M2 Q K88)
def sp_X5_layersAnew_88 (x0 : Nat) (x1 : Int) (M : Im) (Q : Im → Prop) (K5 : Nat → Im → Prop) (K168 : Im → Prop) : Prop :=
  (0 ≤ gI M x0 9 ∧ gI M x0 9 < ((alen 73) : Int)) ∧
  (-2147483648 ≤ (gI M 73 (gI M x0 9).toNat) - 1 ∧ (gI M 73 (gI M x0 9).toNat) - 1 < 2147483648) ∧
  ∀ i4 : Int, i4 = (gI M 73 (gI M x0 9).toNat) - 1 →
  (0 ≤ gI M x0 9 ∧ gI M x0 9 < ((alen 73) : Int)) ∧
  ∀ i5 : Int, i5 = gI M 73 (gI M x0 9).toNat →
  (0 ≤ i4 ∧ i4 < ((alen 75) : Int)) ∧
  (0 ≤ i4 ∧ i4 < ((alen 76) : Int)) ∧
  (-2147483648 ≤ (gI M 75 i4.toNat) + (gI M 76 i4.toNat) ∧ (gI M 75 i4.toNat) + (gI M 76 i4.toNat) < 2147483648) ∧
  sp_X5_make x0 x1 i5 ((gI M 75 i4.toNat) + (gI M 76 i4.toNat)) 1 M (fun (i7 : Int) (M6 : Im) =>
  (-2147483648 ≤ (gI M6 x0 9) + 1 ∧ (gI M6 x0 9) + 1 < 2147483648) ∧
  ∀ M8 : Im, M8 = pI M6 x0 9 ((gI M6 x0 9) + 1) →
  (0 ≤ gI M8 x0 9 ∧ gI M8 x0 9 < ((alen 72) : Int)) ∧
  ∀ M9 : Im, M9 = pI M8 72 (gI M8 x0 9).toNat i5 →
  (0 ≤ gI M9 x0 9 ∧ gI M9 x0 9 < ((alen 73) : Int)) ∧
  (-2147483648 ≤ i5 + i7 ∧ i5 + i7 < 2147483648) ∧
  ∀ M10 : Im, M10 = pI M9 73 (gI M9 x0 9).toNat (i5 + i7) →
  K5 x0 M10)
def sp_X5_layersAnew_5 (n : Nat) (x0 : Nat) (M : Im) (Q : Im → Prop) (K168 : Im → Prop) : Prop := match n with
  | 0 => False
  | n + 1 =>
  (0 ≤ gI M x0 9 ∧ gI M x0 9 < ((alen 73) : Int)) ∧
  (0 ≤ gI M x0 9 ∧ gI M x0 9 < ((alen 72) : Int)) ∧
  (-2147483648 ≤ (gI M 73 (gI M x0 9).toNat) - (gI M 72 (gI M x0 9).toNat) ∧ (gI M 73 (gI M x0 9).toNat) - (gI M 72 (gI M x0 9).toNat) < 2147483648) ∧
  (((gI M 73 (gI M x0 9).toNat) - (gI M 72 (gI M x0 9).toNat)) ≤ 1 →
  K168 M) ∧
  (1 < ((gI M 73 (gI M x0 9).toNat) - (gI M 72 (gI M x0 9).toNat)) →
  (0 ≤ gI M x0 9 ∧ gI M x0 9 < ((alen 73) : Int)) ∧
  (0 ≤ gI M x0 9 ∧ gI M x0 9 < ((alen 72) : Int)) ∧
  (-2147483648 ≤ (gI M 73 (gI M x0 9).toNat) - (gI M 72 (gI M x0 9).toNat) ∧ (gI M 73 (gI M x0 9).toNat) - (gI M 72 (gI M x0 9).toNat) < 2147483648) ∧
  ∀ i1 : Int, i1 = (gI M 73 (gI M x0 9).toNat) - (gI M 72 (gI M x0 9).toNat) →
  ∃ k50, 
  sp_X5_layersAnew_50 k50 x0 i1 0 M Q (fun (x0 : Nat) (x1 : Int) (M : Im) =>
  sp_X5_layersAnew_88 x0 x1 M Q (fun (x0 : Nat) (M : Im) =>
  sp_X5_layersAnew_5 n x0 M Q K168) K168))
def sp_X5_layersAnew (x0 : Nat) (M : Im) (Q : Im → Prop) : Prop :=
  iO M x0 5 ∧
  ∀ M11 : Im, M11 = pI M x0 9 0 →
  ∃ k5, 
  sp_X5_layersAnew_5 k5 x0 M11 Q (fun (M : Im) =>
  Q M)
def sp_X5_isThere (x0 : Nat) (x1 : Int) (x2 : Int) (M : Im) (Q : Int → Im → Prop) : Prop :=
  iO M x0 5 ∧
  (0 ≤ x1 ∧ x1 < ((alen 75) : Int)) ∧
  (-2147483648 ≤ (gI M 75 x1.toNat) + x2 ∧ (gI M 75 x1.toNat) + x2 < 2147483648) ∧
  (0 ≤ (gI M 75 x1.toNat) + x2 ∧ (gI M 75 x1.toNat) + x2 < ((alen 84) : Int)) ∧
  (-2147483648 ≤ (gI M 75 x1.toNat) + x2 ∧ (gI M 75 x1.toNat) + x2 < 2147483648) ∧
  (¬ (gI M 84 ((gI M 75 x1.toNat) + x2).toNat) = 0 →
  ((0 : Int) = 0 ∨ (0 : Int) = 1) ∧
  Q 0 M) ∧
  ((gI M 84 ((gI M 75 x1.toNat) + x2).toNat) = 0 →
  ((1 : Int) = 0 ∨ (1 : Int) = 1) ∧
  Q 1 M)
def sp_X5_gather_168 (x0 : Nat) (x1 : Int) (x2 : Int) (t0 : Int) (t1 : Int) (M : Im) (Q : Im → Prop) (K4 : Nat → Int → Int → Int → Im → Prop) (K173 : Im → Prop) : Prop :=
  (-2147483648 ≤ t1 + t0 ∧ t1 + t0 < 2147483648) ∧
  ∀ i6 : Int, i6 = t1 + t0 →
  K4 x0 x1 x2 i6 M
def sp_X5_gather_155 (x0 : Nat) (x1 : Int) (x3 : Int) (x4 : Int) (t0 : Int) (t1 : Int) (M : Im) (Q : Im → Prop) (K4 : Nat → Int → Int → Int → Im → Prop) (K173 : Im → Prop) : Prop :=
  (-2147483648 ≤ t1 + t0 ∧ t1 + t0 < 2147483648) ∧
  ∀ i5 : Int, i5 = t1 + t0 →
  (x4 = 0 →
  sp_X5_gather_168 x0 x1 i5 1 x3 M Q K4 K173) ∧
  (¬ x4 = 0 →
  sp_X5_gather_168 x0 x1 i5 0 x3 M Q K4 K173)
def sp_X5_gather_144 (x0 : Nat) (x1 : Int) (x2 : Int) (x3 : Int) (x4 : Int) (M : Im) (Q : Im → Prop) (K4 : Nat → Int → Int → Int → Im → Prop) (K173 : Im → Prop) : Prop :=
  (x4 = 0 →
  sp_X5_gather_155 x0 x1 x3 x4 0 x2 M Q K4 K173) ∧
  (¬ x4 = 0 →
  sp_X5_gather_155 x0 x1 x3 x4 1 x2 M Q K4 K173)
def sp_X5_gather_133 (x0 : Nat) (x1 : Int) (x2 : Int) (x3 : Int) (x4 : Int) (t0 : Int) (t1 : Int) (t2 : Nat) (M : Im) (Q : Im → Prop) (K4 : Nat → Int → Int → Int → Im → Prop) (K173 : Im → Prop) : Prop :=
  (0 ≤ t1 ∧ t1 < ((alen t2) : Int)) ∧
  ∀ M3 : Im, M3 = pL M t2 t1.toNat t0 →
  (-2147483648 ≤ (gI M3 x0 26) + 1 ∧ (gI M3 x0 26) + 1 < 2147483648) ∧
  ∀ M4 : Im, M4 = pI M3 x0 26 ((gI M3 x0 26) + 1) →
  sp_X5_gather_144 x0 x1 x2 x3 x4 M4 Q K4 K173
def sp_X5_gather_93 (x0 : Nat) (x1 : Int) (x2 : Int) (x3 : Int) (x4 : Int) (M : Im) (Q : Im → Prop) (K4 : Nat → Int → Int → Int → Im → Prop) (K173 : Im → Prop) : Prop :=
  (x4 = 0 →
  (-2147483648 ≤ 16 * x1 ∧ 16 * x1 < 2147483648) ∧
  (-2147483648 ≤ (16 * x1) + x3 ∧ (16 * x1) + x3 < 2147483648) ∧
  (0 ≤ (16 * x1) + x3 ∧ (16 * x1) + x3 < ((alen 83) : Int)) ∧
  (-2147483648 ≤ 16 * x1 ∧ 16 * x1 < 2147483648) ∧
  (-2147483648 ≤ (16 * x1) + x3 ∧ (16 * x1) + x3 < 2147483648) ∧
  sp_X5_gather_133 x0 x1 x2 x3 x4 (gL M 83 ((16 * x1) + x3).toNat) (gI M x0 26) 71 M Q K4 K173) ∧
  (¬ x4 = 0 →
  (0 ≤ x1 ∧ x1 < ((alen 75) : Int)) ∧
  (-2147483648 ≤ (gI M 75 x1.toNat) + x2 ∧ (gI M 75 x1.toNat) + x2 < 2147483648) ∧
  (0 ≤ (gI M 75 x1.toNat) + x2 ∧ (gI M 75 x1.toNat) + x2 < ((alen 82) : Int)) ∧
  (-2147483648 ≤ (gI M 75 x1.toNat) + x2 ∧ (gI M 75 x1.toNat) + x2 < 2147483648) ∧
  sp_X5_gather_133 x0 x1 x2 x3 x4 (gL M 82 ((gI M 75 x1.toNat) + x2).toNat) (gI M x0 26) 71 M Q K4 K173)
def sp_X5_gather_77 (x0 : Nat) (x1 : Int) (x2 : Int) (x3 : Int) (t0 : Int) (M : Im) (Q : Im → Prop) (K4 : Nat → Int → Int → Int → Im → Prop) (K173 : Im → Prop) : Prop :=
  (t0 = 0 →
  sp_X5_gather_93 x0 x1 x2 x3 t0 M Q K4 K173) ∧
  (¬ t0 = 0 →
  sp_X5_isThere x0 x1 x2 M (fun (i2 : Int) (M1 : Im) =>
  (i2 = 0 →
  sp_X5_gather_144 x0 x1 x2 x3 t0 M1 Q K4 K173) ∧
  (¬ i2 = 0 →
  sp_X5_gather_93 x0 x1 x2 x3 t0 M1 Q K4 K173)))
def sp_X5_gather_72 (x0 : Nat) (x1 : Int) (x2 : Int) (x3 : Int) (M : Im) (Q : Im → Prop) (K4 : Nat → Int → Int → Int → Im → Prop) (K173 : Im → Prop) : Prop :=
  sp_X5_gather_77 x0 x1 x2 x3 1 M Q K4 K173
def sp_X5_gather_76 (x0 : Nat) (x1 : Int) (x2 : Int) (x3 : Int) (M : Im) (Q : Im → Prop) (K4 : Nat → Int → Int → Int → Im → Prop) (K173 : Im → Prop) : Prop :=
  sp_X5_gather_77 x0 x1 x2 x3 0 M Q K4 K173
def sp_X5_gather_24 (x0 : Nat) (x1 : Int) (x2 : Int) (x3 : Int) (M : Im) (Q : Im → Prop) (K4 : Nat → Int → Int → Int → Im → Prop) (K173 : Im → Prop) : Prop :=
  (0 ≤ x1 ∧ x1 < ((alen 78) : Int)) ∧
  (x3 = (gI M 78 x1.toNat) →
  sp_X5_gather_72 x0 x1 x2 x3 M Q K4 K173) ∧
  (¬ x3 = (gI M 78 x1.toNat) →
  (0 ≤ x1 ∧ x1 < ((alen 76) : Int)) ∧
  ((gI M 76 x1.toNat) ≤ x2 →
  sp_X5_gather_76 x0 x1 x2 x3 M Q K4 K173) ∧
  (x2 < (gI M 76 x1.toNat) →
  (0 ≤ x1 ∧ x1 < ((alen 75) : Int)) ∧
  (-2147483648 ≤ (gI M 75 x1.toNat) + x2 ∧ (gI M 75 x1.toNat) + x2 < 2147483648) ∧
  (0 ≤ (gI M 75 x1.toNat) + x2 ∧ (gI M 75 x1.toNat) + x2 < ((alen 82) : Int)) ∧
  (-2147483648 ≤ 16 * x1 ∧ 16 * x1 < 2147483648) ∧
  (-2147483648 ≤ (16 * x1) + x3 ∧ (16 * x1) + x3 < 2147483648) ∧
  (0 ≤ (16 * x1) + x3 ∧ (16 * x1) + x3 < ((alen 83) : Int)) ∧
  (-2147483648 ≤ 16 * x1 ∧ 16 * x1 < 2147483648) ∧
  (-2147483648 ≤ (16 * x1) + x3 ∧ (16 * x1) + x3 < 2147483648) ∧
  (-2147483648 ≤ (gI M 75 x1.toNat) + x2 ∧ (gI M 75 x1.toNat) + x2 < 2147483648) ∧
  ((gL M 83 ((16 * x1) + x3).toNat) ≤ (gL M 82 ((gI M 75 x1.toNat) + x2).toNat) →
  sp_X5_gather_76 x0 x1 x2 x3 M Q K4 K173) ∧
  ((gL M 82 ((gI M 75 x1.toNat) + x2).toNat) < (gL M 83 ((16 * x1) + x3).toNat) →
  sp_X5_gather_72 x0 x1 x2 x3 M Q K4 K173)))
def sp_X5_gather_4 (n : Nat) (x0 : Nat) (x1 : Int) (x2 : Int) (x3 : Int) (M : Im) (Q : Im → Prop) (K173 : Im → Prop) : Prop := match n with
  | 0 => False
  | n + 1 =>
  (0 ≤ x1 ∧ x1 < ((alen 76) : Int)) ∧
  (x2 < (gI M 76 x1.toNat) →
  sp_X5_gather_24 x0 x1 x2 x3 M Q (fun (x0 : Nat) (x1 : Int) (x2 : Int) (x3 : Int) (M : Im) =>
  sp_X5_gather_4 n x0 x1 x2 x3 M Q K173) K173) ∧
  ((gI M 76 x1.toNat) ≤ x2 →
  (0 ≤ x1 ∧ x1 < ((alen 78) : Int)) ∧
  ((gI M 78 x1.toNat) ≤ x3 →
  K173 M) ∧
  (x3 < (gI M 78 x1.toNat) →
  sp_X5_gather_24 x0 x1 x2 x3 M Q (fun (x0 : Nat) (x1 : Int) (x2 : Int) (x3 : Int) (M : Im) =>
  sp_X5_gather_4 n x0 x1 x2 x3 M Q K173) K173))
def sp_X5_gather (x0 : Nat) (x1 : Int) (M : Im) (Q : Im → Prop) : Prop :=
  iO M x0 5 ∧
  ∃ k4, 
  sp_X5_gather_4 k4 x0 x1 0 0 M Q (fun (M : Im) =>
  Q M)
def sp_X5_replace_128 (n : Nat) (x0 : Nat) (x1 : Int) (x2 : Int) (x3 : Int) (x4 : Int) (x5 : Int) (x6 : Int) (x7 : Int) (x8 : Int) (M : Im) (Q : Im → Prop) (K172 : Nat → Int → Int → Int → Int → Int → Int → Int → Im → Prop) : Prop := match n with
  | 0 => False
  | n + 1 =>
  (0 ≤ x7 ∧ x7 < ((alen 78) : Int)) ∧
  ((gI M 78 x7.toNat) ≤ x8 →
  K172 x0 x1 x2 x3 x4 x5 x6 x7 M) ∧
  (x8 < (gI M 78 x7.toNat) →
  (-2147483648 ≤ 16 * x7 ∧ 16 * x7 < 2147483648) ∧
  (-2147483648 ≤ (16 * x7) + x8 ∧ (16 * x7) + x8 < 2147483648) ∧
  (0 ≤ (16 * x7) + x8 ∧ (16 * x7) + x8 < ((alen 83) : Int)) ∧
  (-2147483648 ≤ 16 * x6 ∧ 16 * x6 < 2147483648) ∧
  (-2147483648 ≤ (16 * x6) + x8 ∧ (16 * x6) + x8 < 2147483648) ∧
  (0 ≤ (16 * x6) + x8 ∧ (16 * x6) + x8 < ((alen 93) : Int)) ∧
  (-2147483648 ≤ 16 * x6 ∧ 16 * x6 < 2147483648) ∧
  (-2147483648 ≤ (16 * x6) + x8 ∧ (16 * x6) + x8 < 2147483648) ∧
  (-2147483648 ≤ 16 * x7 ∧ 16 * x7 < 2147483648) ∧
  (-2147483648 ≤ (16 * x7) + x8 ∧ (16 * x7) + x8 < 2147483648) ∧
  ∀ M9 : Im, M9 = pL M 93 ((16 * x6) + x8).toNat (gL M 83 ((16 * x7) + x8).toNat) →
  (-2147483648 ≤ x8 + 1 ∧ x8 + 1 < 2147483648) ∧
  ∀ i10 : Int, i10 = x8 + 1 →
  sp_X5_replace_128 n x0 x1 x2 x3 x4 x5 x6 x7 i10 M9 Q K172)
def sp_X5_replace_175 (n : Nat) (x0 : Nat) (x1 : Int) (x2 : Int) (x3 : Int) (x4 : Int) (x5 : Int) (x6 : Int) (x7 : Int) (x8 : Int) (M : Im) (Q : Im → Prop) (K240 : Nat → Int → Int → Int → Int → Int → Int → Im → Prop) : Prop := match n with
  | 0 => False
  | n + 1 =>
  (0 ≤ x7 ∧ x7 < ((alen 76) : Int)) ∧
  ((gI M 76 x7.toNat) ≤ x8 →
  K240 x0 x1 x2 x3 x4 x5 x6 M) ∧
  (x8 < (gI M 76 x7.toNat) →
  (0 ≤ x7 ∧ x7 < ((alen 75) : Int)) ∧
  (-2147483648 ≤ (gI M 75 x7.toNat) + x8 ∧ (gI M 75 x7.toNat) + x8 < 2147483648) ∧
  (0 ≤ (gI M 75 x7.toNat) + x8 ∧ (gI M 75 x7.toNat) + x8 < ((alen 82) : Int)) ∧
  (0 ≤ x5 ∧ x5 < ((alen 92) : Int)) ∧
  (-2147483648 ≤ (gI M 75 x7.toNat) + x8 ∧ (gI M 75 x7.toNat) + x8 < 2147483648) ∧
  ∀ M11 : Im, M11 = pL M 92 x5.toNat (gL M 82 ((gI M 75 x7.toNat) + x8).toNat) →
  (0 ≤ x7 ∧ x7 < ((alen 75) : Int)) ∧
  (-2147483648 ≤ (gI M11 75 x7.toNat) + x8 ∧ (gI M11 75 x7.toNat) + x8 < 2147483648) ∧
  (0 ≤ (gI M11 75 x7.toNat) + x8 ∧ (gI M11 75 x7.toNat) + x8 < ((alen 84) : Int)) ∧
  (0 ≤ x5 ∧ x5 < ((alen 94) : Int)) ∧
  (-2147483648 ≤ (gI M11 75 x7.toNat) + x8 ∧ (gI M11 75 x7.toNat) + x8 < 2147483648) ∧
  ((gI M11 84 ((gI M11 75 x7.toNat) + x8).toNat) = 0 ∨ (gI M11 84 ((gI M11 75 x7.toNat) + x8).toNat) = 1) ∧
  (-2147483648 ≤ (gI M11 75 x7.toNat) + x8 ∧ (gI M11 75 x7.toNat) + x8 < 2147483648) ∧
  ∀ M12 : Im, M12 = pI M11 94 x5.toNat (gI M11 84 ((gI M11 75 x7.toNat) + x8).toNat) →
  (-2147483648 ≤ x5 + 1 ∧ x5 + 1 < 2147483648) ∧
  ∀ i13 : Int, i13 = x5 + 1 →
  (-2147483648 ≤ x8 + 1 ∧ x8 + 1 < 2147483648) ∧
  ∀ i14 : Int, i14 = x8 + 1 →
  sp_X5_replace_175 n x0 x1 x2 x3 x4 i13 x6 x7 i14 M12 Q K240)
def sp_X5_replace_240 (x0 : Nat) (x1 : Int) (x2 : Int) (x3 : Int) (x4 : Int) (x5 : Int) (x6 : Int) (M : Im) (Q : Im → Prop) (K14 : Nat → Int → Int → Int → Int → Int → Int → Im → Prop) (K246 : Nat → Int → Int → Int → Im → Prop) : Prop :=
  (-2147483648 ≤ x6 + 1 ∧ x6 + 1 < 2147483648) ∧
  ∀ i15 : Int, i15 = x6 + 1 →
  K14 x0 x1 x2 x3 x4 x5 i15 M
def sp_X5_replace_439 (n : Nat) (x0 : Nat) (x1 : Int) (x4 : Int) (x5 : Int) (x6 : Int) (x7 : Int) (x8 : Int) (x9 : Int) (x10 : Int) (M : Im) (Q : Im → Prop) (K483 : Nat → Int → Int → Int → Int → Int → Int → Int → Im → Prop) : Prop := match n with
  | 0 => False
  | n + 1 =>
  (0 ≤ x9 ∧ x9 < ((alen 78) : Int)) ∧
  ((gI M 78 x9.toNat) ≤ x10 →
  K483 x0 x1 x4 x5 x6 x7 x8 x9 M) ∧
  (x10 < (gI M 78 x9.toNat) →
  (-2147483648 ≤ 16 * x8 ∧ 16 * x8 < 2147483648) ∧
  (-2147483648 ≤ (16 * x8) + x10 ∧ (16 * x8) + x10 < 2147483648) ∧
  (0 ≤ (16 * x8) + x10 ∧ (16 * x8) + x10 < ((alen 93) : Int)) ∧
  (-2147483648 ≤ 16 * x9 ∧ 16 * x9 < 2147483648) ∧
  (-2147483648 ≤ (16 * x9) + x10 ∧ (16 * x9) + x10 < 2147483648) ∧
  (0 ≤ (16 * x9) + x10 ∧ (16 * x9) + x10 < ((alen 83) : Int)) ∧
  (-2147483648 ≤ 16 * x9 ∧ 16 * x9 < 2147483648) ∧
  (-2147483648 ≤ (16 * x9) + x10 ∧ (16 * x9) + x10 < 2147483648) ∧
  (-2147483648 ≤ 16 * x8 ∧ 16 * x8 < 2147483648) ∧
  (-2147483648 ≤ (16 * x8) + x10 ∧ (16 * x8) + x10 < 2147483648) ∧
  ∀ M29 : Im, M29 = pL M 83 ((16 * x9) + x10).toNat (gL M 93 ((16 * x8) + x10).toNat) →
  (-2147483648 ≤ x10 + 1 ∧ x10 + 1 < 2147483648) ∧
  ∀ i30 : Int, i30 = x10 + 1 →
  sp_X5_replace_439 n x0 x1 x4 x5 x6 x7 x8 x9 i30 M29 Q K483)
def sp_X5_replace_486 (n : Nat) (x0 : Nat) (x1 : Int) (x4 : Int) (x5 : Int) (x6 : Int) (x7 : Int) (x8 : Int) (x9 : Int) (x10 : Int) (M : Im) (Q : Im → Prop) (K538 : Nat → Int → Int → Int → Int → Int → Int → Im → Prop) : Prop := match n with
  | 0 => False
  | n + 1 =>
  (0 ≤ x9 ∧ x9 < ((alen 76) : Int)) ∧
  ((gI M 76 x9.toNat) ≤ x10 →
  K538 x0 x1 x4 x5 x6 x7 x8 M) ∧
  (x10 < (gI M 76 x9.toNat) →
  (0 ≤ x5 ∧ x5 < ((alen 92) : Int)) ∧
  (0 ≤ x6 ∧ x6 < ((alen 82) : Int)) ∧
  ∀ M31 : Im, M31 = pL M 82 x6.toNat (gL M 92 x5.toNat) →
  (0 ≤ x5 ∧ x5 < ((alen 94) : Int)) ∧
  (0 ≤ x6 ∧ x6 < ((alen 84) : Int)) ∧
  ((gI M31 94 x5.toNat) = 0 ∨ (gI M31 94 x5.toNat) = 1) ∧
  ∀ M32 : Im, M32 = pI M31 84 x6.toNat (gI M31 94 x5.toNat) →
  (-2147483648 ≤ x6 + 1 ∧ x6 + 1 < 2147483648) ∧
  ∀ i33 : Int, i33 = x6 + 1 →
  (-2147483648 ≤ x5 + 1 ∧ x5 + 1 < 2147483648) ∧
  ∀ i34 : Int, i34 = x5 + 1 →
  (-2147483648 ≤ x10 + 1 ∧ x10 + 1 < 2147483648) ∧
  ∀ i35 : Int, i35 = x10 + 1 →
  sp_X5_replace_486 n x0 x1 x4 i34 i33 x7 x8 x9 i35 M32 Q K538)
def sp_X5_replace_538 (x0 : Nat) (x1 : Int) (x4 : Int) (x5 : Int) (x6 : Int) (x7 : Int) (x8 : Int) (M : Im) (Q : Im → Prop) (K313 : Nat → Int → Int → Int → Int → Int → Int → Im → Prop) (K544 : Nat → Int → Int → Int → Im → Prop) : Prop :=
  (-2147483648 ≤ x8 + 1 ∧ x8 + 1 < 2147483648) ∧
  ∀ i36 : Int, i36 = x8 + 1 →
  K313 x0 x1 x4 x5 x6 x7 i36 M
def sp_X5_replace_172 (x0 : Nat) (x1 : Int) (x2 : Int) (x3 : Int) (x4 : Int) (x5 : Int) (x6 : Int) (x7 : Int) (M : Im) (Q : Im → Prop) (K14 : Nat → Int → Int → Int → Int → Int → Int → Im → Prop) (K246 : Nat → Int → Int → Int → Im → Prop) : Prop :=
  ∃ k175, 
  sp_X5_replace_175 k175 x0 x1 x2 x3 x4 x5 x6 x7 0 M Q (fun (x0 : Nat) (x1 : Int) (x2 : Int) (x3 : Int) (x4 : Int) (x5 : Int) (x6 : Int) (M : Im) =>
  sp_X5_replace_240 x0 x1 x2 x3 x4 x5 x6 M Q K14 K246)
def sp_X5_replace_483 (x0 : Nat) (x1 : Int) (x4 : Int) (x5 : Int) (x6 : Int) (x7 : Int) (x8 : Int) (x9 : Int) (M : Im) (Q : Im → Prop) (K313 : Nat → Int → Int → Int → Int → Int → Int → Im → Prop) (K544 : Nat → Int → Int → Int → Im → Prop) : Prop :=
  ∃ k486, 
  sp_X5_replace_486 k486 x0 x1 x4 x5 x6 x7 x8 x9 0 M Q (fun (x0 : Nat) (x1 : Int) (x4 : Int) (x5 : Int) (x6 : Int) (x7 : Int) (x8 : Int) (M : Im) =>
  sp_X5_replace_538 x0 x1 x4 x5 x6 x7 x8 M Q K313 K544)
def sp_X5_replace_577 (x0 : Nat) (t0 : Int) (t1 : Nat) (M : Im) (Q : Im → Prop) : Prop :=
  (t0 = 0 ∨ t0 = 1) ∧
  ∀ M41 : Im, M41 = pI M t1 23 t0 →
  ((gI M41 x0 23) = 0 →
  ∀ M42 : Im, M42 = pI M41 x0 9 0 →
  Q M42) ∧
  (¬ (gI M41 x0 23) = 0 →
  sp_X5_layersAnew x0 M41 (fun (M43 : Im) =>
  Q M43))
def sp_X5_replace_14 (n : Nat) (x0 : Nat) (x1 : Int) (x2 : Int) (x3 : Int) (x4 : Int) (x5 : Int) (x6 : Int) (M : Im) (Q : Im → Prop) (K246 : Nat → Int → Int → Int → Im → Prop) : Prop := match n with
  | 0 => False
  | n + 1 =>
  (x4 ≤ x6 →
  K246 x0 x1 x3 x4 M) ∧
  (x6 < x4 →
  (-2147483648 ≤ x2 + x6 ∧ x2 + x6 < 2147483648) ∧
  ∀ i1 : Int, i1 = x2 + x6 →
  (0 ≤ i1 ∧ i1 < ((alen 74) : Int)) ∧
  (0 ≤ x6 ∧ x6 < ((alen 85) : Int)) ∧
  ∀ M2 : Im, M2 = pI M 85 x6.toNat (gI M 74 i1.toNat) →
  (0 ≤ i1 ∧ i1 < ((alen 76) : Int)) ∧
  (0 ≤ x6 ∧ x6 < ((alen 86) : Int)) ∧
  ∀ M3 : Im, M3 = pI M2 86 x6.toNat (gI M2 76 i1.toNat) →
  (0 ≤ i1 ∧ i1 < ((alen 77) : Int)) ∧
  (0 ≤ x6 ∧ x6 < ((alen 87) : Int)) ∧
  ∀ M4 : Im, M4 = pI M3 87 x6.toNat (gI M3 77 i1.toNat) →
  (0 ≤ i1 ∧ i1 < ((alen 78) : Int)) ∧
  (0 ≤ x6 ∧ x6 < ((alen 88) : Int)) ∧
  ∀ M5 : Im, M5 = pI M4 88 x6.toNat (gI M4 78 i1.toNat) →
  (0 ≤ i1 ∧ i1 < ((alen 79) : Int)) ∧
  (0 ≤ x6 ∧ x6 < ((alen 89) : Int)) ∧
  ∀ M6 : Im, M6 = pL M5 89 x6.toNat (gL M5 79 i1.toNat) →
  (0 ≤ i1 ∧ i1 < ((alen 80) : Int)) ∧
  (0 ≤ x6 ∧ x6 < ((alen 90) : Int)) ∧
  ∀ M7 : Im, M7 = pL M6 90 x6.toNat (gL M6 80 i1.toNat) →
  (0 ≤ i1 ∧ i1 < ((alen 81) : Int)) ∧
  (0 ≤ x6 ∧ x6 < ((alen 91) : Int)) ∧
  ∀ M8 : Im, M8 = pL M7 91 x6.toNat (gL M7 81 i1.toNat) →
  ∃ k128, 
  sp_X5_replace_128 k128 x0 x1 x2 x3 x4 x5 x6 i1 0 M8 Q (fun (x0 : Nat) (x1 : Int) (x2 : Int) (x3 : Int) (x4 : Int) (x5 : Int) (x6 : Int) (x7 : Int) (M : Im) =>
  sp_X5_replace_172 x0 x1 x2 x3 x4 x5 x6 x7 M Q (fun (x0 : Nat) (x1 : Int) (x2 : Int) (x3 : Int) (x4 : Int) (x5 : Int) (x6 : Int) (M : Im) =>
  sp_X5_replace_14 n x0 x1 x2 x3 x4 x5 x6 M Q K246) K246))
def sp_X5_replace_313 (n : Nat) (x0 : Nat) (x1 : Int) (x4 : Int) (x5 : Int) (x6 : Int) (x7 : Int) (x8 : Int) (M : Im) (Q : Im → Prop) (K544 : Nat → Int → Int → Int → Im → Prop) : Prop := match n with
  | 0 => False
  | n + 1 =>
  (x4 ≤ x8 →
  K544 x0 x1 x4 x7 M) ∧
  (x8 < x4 →
  (-2147483648 ≤ x1 + x7 ∧ x1 + x7 < 2147483648) ∧
  (-2147483648 ≤ (x1 + x7) + x8 ∧ (x1 + x7) + x8 < 2147483648) ∧
  ∀ i20 : Int, i20 = (x1 + x7) + x8 →
  (0 ≤ x8 ∧ x8 < ((alen 85) : Int)) ∧
  (0 ≤ i20 ∧ i20 < ((alen 74) : Int)) ∧
  ∀ M21 : Im, M21 = pI M 74 i20.toNat (gI M 85 x8.toNat) →
  (0 ≤ x8 ∧ x8 < ((alen 86) : Int)) ∧
  (0 ≤ i20 ∧ i20 < ((alen 76) : Int)) ∧
  ∀ M22 : Im, M22 = pI M21 76 i20.toNat (gI M21 86 x8.toNat) →
  (0 ≤ x8 ∧ x8 < ((alen 87) : Int)) ∧
  (0 ≤ i20 ∧ i20 < ((alen 77) : Int)) ∧
  ∀ M23 : Im, M23 = pI M22 77 i20.toNat (gI M22 87 x8.toNat) →
  (0 ≤ x8 ∧ x8 < ((alen 88) : Int)) ∧
  (0 ≤ i20 ∧ i20 < ((alen 78) : Int)) ∧
  ∀ M24 : Im, M24 = pI M23 78 i20.toNat (gI M23 88 x8.toNat) →
  (0 ≤ x8 ∧ x8 < ((alen 89) : Int)) ∧
  (0 ≤ i20 ∧ i20 < ((alen 79) : Int)) ∧
  ∀ M25 : Im, M25 = pL M24 79 i20.toNat (gL M24 89 x8.toNat) →
  (0 ≤ x8 ∧ x8 < ((alen 90) : Int)) ∧
  (0 ≤ i20 ∧ i20 < ((alen 80) : Int)) ∧
  ∀ M26 : Im, M26 = pL M25 80 i20.toNat (gL M25 90 x8.toNat) →
  (0 ≤ x8 ∧ x8 < ((alen 91) : Int)) ∧
  (0 ≤ i20 ∧ i20 < ((alen 81) : Int)) ∧
  ∀ M27 : Im, M27 = pL M26 81 i20.toNat (gL M26 91 x8.toNat) →
  (0 ≤ i20 ∧ i20 < ((alen 75) : Int)) ∧
  ∀ M28 : Im, M28 = pI M27 75 i20.toNat x6 →
  ∃ k439, 
  sp_X5_replace_439 k439 x0 x1 x4 x5 x6 x7 x8 i20 0 M28 Q (fun (x0 : Nat) (x1 : Int) (x4 : Int) (x5 : Int) (x6 : Int) (x7 : Int) (x8 : Int) (x9 : Int) (M : Im) =>
  sp_X5_replace_483 x0 x1 x4 x5 x6 x7 x8 x9 M Q (fun (x0 : Nat) (x1 : Int) (x4 : Int) (x5 : Int) (x6 : Int) (x7 : Int) (x8 : Int) (M : Im) =>
  sp_X5_replace_313 n x0 x1 x4 x5 x6 x7 x8 M Q K544) K544))
def sp_X5_replace_271 (x0 : Nat) (x1 : Int) (x3 : Int) (x4 : Int) (t0 : Int) (M : Im) (Q : Im → Prop) : Prop :=
  sp_X5_make x0 (gI M x0 26) x1 t0 x3 M (fun (i17 : Int) (M16 : Im) =>
  (-2147483648 ≤ (gI M16 x0 24) + i17 ∧ (gI M16 x0 24) + i17 < 2147483648) ∧
  ∀ M18 : Im, M18 = pI M16 x0 24 ((gI M16 x0 24) + i17) →
  (-2147483648 ≤ t0 + (gI M18 x0 26) ∧ t0 + (gI M18 x0 26) < 2147483648) ∧
  ∀ i19 : Int, i19 = t0 + (gI M18 x0 26) →
  ∃ k313, 
  sp_X5_replace_313 k313 x0 x1 x4 0 i19 i17 0 M18 Q (fun (x0 : Nat) (x1 : Int) (x4 : Int) (x7 : Int) (M : Im) =>
  (0 ≤ (0 : Int) ∧ (0 : Int) < ((alen 72) : Int)) ∧
  ∀ M37 : Im, M37 = pI M 72 0 0 →
  (0 ≤ (0 : Int) ∧ (0 : Int) < ((alen 73) : Int)) ∧
  (-2147483648 ≤ x1 + x7 ∧ x1 + x7 < 2147483648) ∧
  (-2147483648 ≤ (x1 + x7) + x4 ∧ (x1 + x7) + x4 < 2147483648) ∧
  ∀ M38 : Im, M38 = pI M37 73 0 ((x1 + x7) + x4) →
  sp_X5_pieces x0 M38 (fun (i40 : Int) (M39 : Im) =>
  (i40 ≤ 0 →
  sp_X5_replace_577 x0 0 x0 M39 Q) ∧
  (0 < i40 →
  sp_X5_replace_577 x0 1 x0 M39 Q))))
def sp_X5_replace (x0 : Nat) (x1 : Int) (x2 : Int) (x3 : Int) (M : Im) (Q : Im → Prop) : Prop :=
  iO M x0 5 ∧
  sp_X5_pieces x0 M (fun (i45 : Int) (M44 : Im) =>
  (-2147483648 ≤ i45 - x2 ∧ i45 - x2 < 2147483648) ∧
  ∀ i46 : Int, i46 = i45 - x2 →
  ∃ k14, 
  sp_X5_replace_14 k14 x0 x1 x2 x3 i46 0 0 M44 Q (fun (x0 : Nat) (x1 : Int) (x3 : Int) (x4 : Int) (M : Im) =>
  (¬ x1 = 0 →
  (-2147483648 ≤ x1 - 1 ∧ x1 - 1 < 2147483648) ∧
  (0 ≤ x1 - 1 ∧ x1 - 1 < ((alen 75) : Int)) ∧
  (-2147483648 ≤ x1 - 1 ∧ x1 - 1 < 2147483648) ∧
  (0 ≤ x1 - 1 ∧ x1 - 1 < ((alen 76) : Int)) ∧
  (-2147483648 ≤ x1 - 1 ∧ x1 - 1 < 2147483648) ∧
  (-2147483648 ≤ x1 - 1 ∧ x1 - 1 < 2147483648) ∧
  (-2147483648 ≤ (gI M 75 (x1 - 1).toNat) + (gI M 76 (x1 - 1).toNat) ∧ (gI M 75 (x1 - 1).toNat) + (gI M 76 (x1 - 1).toNat) < 2147483648) ∧
  sp_X5_replace_271 x0 x1 x3 x4 ((gI M 75 (x1 - 1).toNat) + (gI M 76 (x1 - 1).toNat)) M Q) ∧
  (x1 = 0 →
  sp_X5_replace_271 x0 x1 x3 x4 0 M Q)))
def sp_X5_there_59 (x0 : Nat) (x2 : Int) (x3 : Int) (t0 : Int) (t1 : Int) (M : Im) (Q : Int → Im → Prop) (K34 : Nat → Int → Int → Int → Im → Prop) (K67 : Nat → Int → Int → Im → Prop) : Prop :=
  (-2147483648 ≤ t1 + t0 ∧ t1 + t0 < 2147483648) ∧
  ∀ i6 : Int, i6 = t1 + t0 →
  (-2147483648 ≤ x3 + 1 ∧ x3 + 1 < 2147483648) ∧
  ∀ i7 : Int, i7 = x3 + 1 →
  K34 x0 i6 x2 i7 M
def sp_X5_there_67 (x0 : Nat) (x1 : Int) (x2 : Int) (M : Im) (Q : Int → Im → Prop) (K4 : Nat → Int → Int → Im → Prop) (K73 : Int → Im → Prop) : Prop :=
  (-2147483648 ≤ x2 + 1 ∧ x2 + 1 < 2147483648) ∧
  ∀ i8 : Int, i8 = x2 + 1 →
  K4 x0 x1 i8 M
def sp_X5_there_34 (n : Nat) (x0 : Nat) (x1 : Int) (x2 : Int) (x3 : Int) (M : Im) (Q : Int → Im → Prop) (K67 : Nat → Int → Int → Im → Prop) : Prop := match n with
  | 0 => False
  | n + 1 =>
  (0 ≤ x2 ∧ x2 < ((alen 76) : Int)) ∧
  ((gI M 76 x2.toNat) ≤ x3 →
  K67 x0 x1 x2 M) ∧
  (x3 < (gI M 76 x2.toNat) →
  sp_X5_isThere x0 x2 x3 M (fun (i5 : Int) (M4 : Im) =>
  (i5 = 0 →
  sp_X5_there_59 x0 x2 x3 0 x1 M4 Q (fun (x0 : Nat) (x1 : Int) (x2 : Int) (x3 : Int) (M : Im) =>
  sp_X5_there_34 n x0 x1 x2 x3 M Q K67) K67) ∧
  (¬ i5 = 0 →
  sp_X5_there_59 x0 x2 x3 1 x1 M4 Q (fun (x0 : Nat) (x1 : Int) (x2 : Int) (x3 : Int) (M : Im) =>
  sp_X5_there_34 n x0 x1 x2 x3 M Q K67) K67)))
def sp_X5_there_20 (x0 : Nat) (x1 : Int) (x2 : Int) (t0 : Int) (t1 : Int) (M : Im) (Q : Int → Im → Prop) (K4 : Nat → Int → Int → Im → Prop) (K73 : Int → Im → Prop) : Prop :=
  (t0 ≤ t1 →
  K73 x1 M) ∧
  (t1 < t0 →
  (0 ≤ x2 ∧ x2 < ((alen 78) : Int)) ∧
  (-2147483648 ≤ x1 + (gI M 78 x2.toNat) ∧ x1 + (gI M 78 x2.toNat) < 2147483648) ∧
  ∀ i3 : Int, i3 = x1 + (gI M 78 x2.toNat) →
  ∃ k34, 
  sp_X5_there_34 k34 x0 i3 x2 0 M Q (fun (x0 : Nat) (x1 : Int) (x2 : Int) (M : Im) =>
  sp_X5_there_67 x0 x1 x2 M Q K4 K73))
def sp_X5_there_4 (n : Nat) (x0 : Nat) (x1 : Int) (x2 : Int) (M : Im) (Q : Int → Im → Prop) (K73 : Int → Im → Prop) : Prop := match n with
  | 0 => False
  | n + 1 =>
  ((gI M x0 23) = 0 →
  sp_X5_there_20 x0 x1 x2 0 x2 M Q (fun (x0 : Nat) (x1 : Int) (x2 : Int) (M : Im) =>
  sp_X5_there_4 n x0 x1 x2 M Q K73) K73) ∧
  (¬ (gI M x0 23) = 0 →
  sp_X5_pieces x0 M (fun (i2 : Int) (M1 : Im) =>
  sp_X5_there_20 x0 x1 x2 i2 x2 M1 Q (fun (x0 : Nat) (x1 : Int) (x2 : Int) (M : Im) =>
  sp_X5_there_4 n x0 x1 x2 M Q K73) K73))
def sp_X5_there (x0 : Nat) (M : Im) (Q : Int → Im → Prop) : Prop :=
  iO M x0 5 ∧
  ∃ k4, 
  sp_X5_there_4 k4 x0 0 0 M Q (fun (x1 : Int) (M : Im) =>
  Q x1 M)
def sp_X5_isBuilt (x0 : Nat) (x1 : Int) (M : Im) (Q : Int → Im → Prop) : Prop :=
  iO M x0 5 ∧
  (x1 = 1 →
  ((1 : Int) = 0 ∨ (1 : Int) = 1) ∧
  Q 1 M) ∧
  (¬ x1 = 1 →
  (¬ x1 = 2 →
  ((0 : Int) = 0 ∨ (0 : Int) = 1) ∧
  Q 0 M) ∧
  (x1 = 2 →
  ((gI M x0 2) ≤ 0 →
  ((0 : Int) = 0 ∨ (0 : Int) = 1) ∧
  Q 0 M) ∧
  (0 < (gI M x0 2) →
  ((1 : Int) = 0 ∨ (1 : Int) = 1) ∧
  Q 1 M)))
def sp_X5_build (x0 : Nat) (x1 : Int) (M : Im) (Q : Int → Im → Prop) : Prop :=
  iO M x0 5 ∧
  sp_X5_isBuilt x0 x1 M (fun (i2 : Int) (M1 : Im) =>
  (i2 = 0 →
  Q (-2) M1) ∧
  (¬ i2 = 0 →
  (¬ (gI M1 x0 1) = 0 →
  sp_X5_take x0 M1 (fun (M3 : Im) =>
  ∀ M4 : Im, M4 = pI M3 x0 26 (gI M3 x0 1) →
  (0 ≤ (0 : Int) ∧ (0 : Int) < ((alen 73) : Int)) ∧
  ∀ M5 : Im, M5 = pI M4 73 0 0 →
  sp_X5_replace x0 0 0 x1 M5 (fun (M6 : Im) =>
  sp_X5_pieces x0 M6 (fun (i8 : Int) (M7 : Im) =>
  Q i8 M7)))) ∧
  ((gI M1 x0 1) = 0 →
  Q (-2) M1)))
def sp_X5_again_27 (n : Nat) (x0 : Nat) (x1 : Int) (x2 : Int) (M : Im) (Q : Int → Im → Prop) (K46 : Nat → Int → Im → Prop) : Prop := match n with
  | 0 => False
  | n + 1 =>
  sp_X5_pieces x0 M (fun (i2 : Int) (M1 : Im) =>
  (i2 ≤ x2 →
  K46 x0 x1 M1) ∧
  (x2 < i2 →
  sp_X5_gather x0 x2 M1 (fun (M3 : Im) =>
  (-2147483648 ≤ x2 + 1 ∧ x2 + 1 < 2147483648) ∧
  ∀ i4 : Int, i4 = x2 + 1 →
  sp_X5_again_27 n x0 x1 i4 M3 Q K46)))
def sp_X5_again (x0 : Nat) (x1 : Int) (M : Im) (Q : Int → Im → Prop) : Prop :=
  iO M x0 5 ∧
  (¬ (gI M x0 23) = 0 →
  sp_X5_isBuilt x0 x1 M (fun (i10 : Int) (M9 : Im) =>
  (¬ i10 = 0 →
  ∀ M11 : Im, M11 = pI M9 x0 26 0 →
  ∃ k27, 
  sp_X5_again_27 k27 x0 x1 0 M11 Q (fun (x0 : Nat) (x1 : Int) (M : Im) =>
  (0 ≤ (0 : Int) ∧ (0 : Int) < ((alen 73) : Int)) ∧
  ∀ M5 : Im, M5 = pI M 73 0 0 →
  sp_X5_replace x0 0 0 x1 M5 (fun (M6 : Im) =>
  sp_X5_pieces x0 M6 (fun (i8 : Int) (M7 : Im) =>
  Q i8 M7)))) ∧
  (i10 = 0 →
  Q (-2) M9))) ∧
  ((gI M x0 23) = 0 →
  Q (-1) M)
def sp_X5_clear (x0 : Nat) (M : Im) (Q : Int → Im → Prop) : Prop :=
  iO M x0 5 ∧
  sp_X5_there x0 M (fun (i2 : Int) (M1 : Im) =>
  ∀ M3 : Im, M3 = pI M1 x0 23 0 →
  ∀ M4 : Im, M4 = pI M3 x0 9 0 →
  (0 ≤ (0 : Int) ∧ (0 : Int) < ((alen 73) : Int)) ∧
  ∀ M5 : Im, M5 = pI M4 73 0 0 →
  Q i2 M5)
def sp_X5_round (x0 : Nat) (x1 : Int) (M : Im) (Q : Int → Im → Prop) : Prop :=
  iO M x0 5 ∧
  ((gI M x0 23) = 0 →
  Q (-1) M) ∧
  (¬ (gI M x0 23) = 0 →
  (x1 < 0 →
  Q (-1) M) ∧
  (0 ≤ x1 →
  sp_X5_pieces x0 M (fun (i2 : Int) (M1 : Im) =>
  (x1 < i2 →
  (0 ≤ x1 ∧ x1 < ((alen 74) : Int)) ∧
  ((gI M1 74 x1.toNat) = 1 →
  (0 ≤ x1 ∧ x1 < ((alen 74) : Int)) ∧
  ∀ M3 : Im, M3 = pI M1 74 x1.toNat 2 →
  sp_X5_miss x0 x1 M3 (fun (i5 : Int) (M4 : Im) =>
  (0 ≤ x1 ∧ x1 < ((alen 77) : Int)) ∧
  ((gI M4 77 x1.toNat) < i5 →
  (0 ≤ x1 ∧ x1 < ((alen 74) : Int)) ∧
  ∀ M6 : Im, M6 = pI M4 74 x1.toNat 1 →
  Q 0 M6) ∧
  (i5 ≤ (gI M4 77 x1.toNat) →
  Q 1 M4))) ∧
  (¬ (gI M1 74 x1.toNat) = 1 →
  Q (-2) M1)) ∧
  (i2 ≤ x1 →
  Q (-1) M1))))
def sp_X5_merge (x0 : Nat) (x1 : Int) (M : Im) (Q : Int → Im → Prop) : Prop :=
  iO M x0 5 ∧
  ((gI M x0 23) = 0 →
  Q (-1) M) ∧
  (¬ (gI M x0 23) = 0 →
  (x1 < 0 →
  Q (-1) M) ∧
  (0 ≤ x1 →
  sp_X5_pieces x0 M (fun (i2 : Int) (M1 : Im) =>
  (-2147483648 ≤ i2 - 1 ∧ i2 - 1 < 2147483648) ∧
  (x1 < (i2 - 1) →
  ∀ M3 : Im, M3 = pI M1 x0 26 0 →
  sp_X5_gather x0 x1 M3 (fun (M4 : Im) =>
  (-2147483648 ≤ x1 + 1 ∧ x1 + 1 < 2147483648) ∧
  sp_X5_gather x0 (x1 + 1) M4 (fun (M5 : Im) =>
  sp_X5_pieces x0 M5 (fun (i7 : Int) (M6 : Im) =>
  (-2147483648 ≤ i7 - 2 ∧ i7 - 2 < 2147483648) ∧
  ∀ i8 : Int, i8 = i7 - 2 →
  (-2147483648 ≤ x1 + 2 ∧ x1 + 2 < 2147483648) ∧
  sp_X5_replace x0 x1 (x1 + 2) 1 M6 (fun (M9 : Im) =>
  sp_X5_pieces x0 M9 (fun (i11 : Int) (M10 : Im) =>
  (-2147483648 ≤ i11 - i8 ∧ i11 - i8 < 2147483648) ∧
  Q (i11 - i8) M10)))))) ∧
  ((i2 - 1) ≤ x1 →
  Q (-1) M1))))
def sp_X5_say (x0 : Nat) (x1 : Int) (M : Im) (Q : Im → Prop) : Prop :=
  iO M x0 5 ∧
  (0 ≤ gI M x0 39 ∧ gI M x0 39 < ((alen 95) : Int)) ∧
  ∀ M1 : Im, M1 = pI M 95 (gI M x0 39).toNat x1 →
  (-2147483648 ≤ (gI M1 x0 39) + 1 ∧ (gI M1 x0 39) + 1 < 2147483648) ∧
  ∀ M2 : Im, M2 = pI M1 x0 39 ((gI M1 x0 39) + 1) →
  Q M2
def sp_X5_down_120 (x0 : Nat) (x1 : Int) (x2 : Int) (x3 : Int) (x5 : Int) (x6 : Int) (t0 : Int) (M : Im) (Q : Int → Im → Prop) (K62 : Nat → Int → Int → Int → Int → Int → Int → Im → Prop) (K125 : Nat → Int → Int → Int → Int → Im → Prop) : Prop :=
  K62 x0 x1 x2 x3 x5 x6 t0 M
def sp_X5_down_119 (x0 : Nat) (x1 : Int) (x2 : Int) (x3 : Int) (x5 : Int) (x6 : Int) (M : Im) (Q : Int → Im → Prop) (K62 : Nat → Int → Int → Int → Int → Int → Int → Im → Prop) (K125 : Nat → Int → Int → Int → Int → Im → Prop) : Prop :=
  sp_X5_down_120 x0 x1 x2 x3 x5 x6 0 M Q K62 K125
def sp_X5_down_105 (x0 : Nat) (x1 : Int) (x2 : Int) (x3 : Int) (x5 : Int) (x6 : Int) (x7 : Int) (M : Im) (Q : Int → Im → Prop) (K62 : Nat → Int → Int → Int → Int → Int → Int → Im → Prop) (K125 : Nat → Int → Int → Int → Int → Im → Prop) : Prop :=
  (x7 = 0 →
  sp_X5_down_119 x0 x1 x2 x3 x5 x6 M Q K62 K125) ∧
  (¬ x7 = 0 →
  (x6 ≤ 0 →
  sp_X5_down_119 x0 x1 x2 x3 x5 x6 M Q K62 K125) ∧
  (0 < x6 →
  sp_X5_down_120 x0 x1 x2 x3 x5 x6 1 M Q K62 K125))
def sp_X5_down_62 (n : Nat) (x0 : Nat) (x1 : Int) (x2 : Int) (x3 : Int) (x5 : Int) (x6 : Int) (x7 : Int) (M : Im) (Q : Int → Im → Prop) (K125 : Nat → Int → Int → Int → Int → Im → Prop) : Prop := match n with
  | 0 => False
  | n + 1 =>
  (x7 = 0 →
  K125 x0 x1 x2 x5 x6 M) ∧
  (¬ x7 = 0 →
  (-2147483648 ≤ (gI M x0 41) + 1 ∧ (gI M x0 41) + 1 < 2147483648) ∧
  ∀ M1 : Im, M1 = pI M x0 41 ((gI M x0 41) + 1) →
  (0 ≤ x1 ∧ x1 < ((alen 75) : Int)) ∧
  (-2147483648 ≤ (gI M1 75 x1.toNat) + x6 ∧ (gI M1 75 x1.toNat) + x6 < 2147483648) ∧
  (0 ≤ (gI M1 75 x1.toNat) + x6 ∧ (gI M1 75 x1.toNat) + x6 < ((alen 82) : Int)) ∧
  (-2147483648 ≤ (gI M1 75 x1.toNat) + x6 ∧ (gI M1 75 x1.toNat) + x6 < 2147483648) ∧
  ((gL M1 82 ((gI M1 75 x1.toNat) + x6).toNat) ≤ x3 →
  sp_X5_down_105 x0 x1 x2 x3 x5 x6 0 M1 Q (fun (x0 : Nat) (x1 : Int) (x2 : Int) (x3 : Int) (x5 : Int) (x6 : Int) (x7 : Int) (M : Im) =>
  sp_X5_down_62 n x0 x1 x2 x3 x5 x6 x7 M Q K125) K125) ∧
  (x3 < (gL M1 82 ((gI M1 75 x1.toNat) + x6).toNat) →
  (-2147483648 ≤ x6 + (-1) ∧ x6 + (-1) < 2147483648) ∧
  ∀ i2 : Int, i2 = x6 + (-1) →
  sp_X5_down_105 x0 x1 x2 x3 x5 i2 x7 M1 Q (fun (x0 : Nat) (x1 : Int) (x2 : Int) (x3 : Int) (x5 : Int) (x6 : Int) (x7 : Int) (M : Im) =>
  sp_X5_down_62 n x0 x1 x2 x3 x5 x6 x7 M Q K125) K125))
def sp_X5_down_60 (x0 : Nat) (x1 : Int) (x2 : Int) (x3 : Int) (x5 : Int) (x6 : Int) (t0 : Int) (M : Im) (Q : Int → Im → Prop) : Prop :=
  ∃ k62, 
  sp_X5_down_62 k62 x0 x1 x2 x3 x5 x6 t0 M Q (fun (x0 : Nat) (x1 : Int) (x2 : Int) (x5 : Int) (x6 : Int) (M : Im) =>
  (0 ≤ x2 ∧ x2 < ((alen 72) : Int)) ∧
  (-2147483648 ≤ x1 - (gI M 72 x2.toNat) ∧ x1 - (gI M 72 x2.toNat) < 2147483648) ∧
  sp_X5_say x0 (x1 - (gI M 72 x2.toNat)) M (fun (M3 : Im) =>
  sp_X5_say x0 x5 M3 (fun (M4 : Im) =>
  sp_X5_say x0 x6 M4 (fun (M5 : Im) =>
  Q x6 M5))))
def sp_X5_down_48 (x0 : Nat) (x1 : Int) (x2 : Int) (x3 : Int) (x5 : Int) (t0 : Int) (M : Im) (Q : Int → Im → Prop) : Prop :=
  (t0 ≤ 0 →
  sp_X5_down_60 x0 x1 x2 x3 x5 t0 0 M Q) ∧
  (0 < t0 →
  sp_X5_down_60 x0 x1 x2 x3 x5 t0 1 M Q)
def sp_X5_down (x0 : Nat) (x1 : Int) (x2 : Int) (x3 : Int) (M : Im) (Q : Int → Im → Prop) : Prop :=
  iO M x0 5 ∧
  sp_X5_guessOf x0 x1 x3 M (fun (i7 : Int) (M6 : Im) =>
  (0 ≤ x1 ∧ x1 < ((alen 77) : Int)) ∧
  (0 ≤ x1 ∧ x1 < ((alen 76) : Int)) ∧
  (-2147483648 ≤ (gI M6 76 x1.toNat) - 1 ∧ (gI M6 76 x1.toNat) - 1 < 2147483648) ∧
  (-2147483648 ≤ i7 + (gI M6 77 x1.toNat) ∧ i7 + (gI M6 77 x1.toNat) < 2147483648) ∧
  (((gI M6 76 x1.toNat) - 1) ≤ (i7 + (gI M6 77 x1.toNat)) →
  (0 ≤ x1 ∧ x1 < ((alen 76) : Int)) ∧
  (-2147483648 ≤ (gI M6 76 x1.toNat) - 1 ∧ (gI M6 76 x1.toNat) - 1 < 2147483648) ∧
  sp_X5_down_48 x0 x1 x2 x3 i7 ((gI M6 76 x1.toNat) - 1) M6 Q) ∧
  ((i7 + (gI M6 77 x1.toNat)) < ((gI M6 76 x1.toNat) - 1) →
  (0 ≤ x1 ∧ x1 < ((alen 77) : Int)) ∧
  (-2147483648 ≤ i7 + (gI M6 77 x1.toNat) ∧ i7 + (gI M6 77 x1.toNat) < 2147483648) ∧
  sp_X5_down_48 x0 x1 x2 x3 i7 (i7 + (gI M6 77 x1.toNat)) M6 Q))
def sp_X5_found_33 (n : Nat) (x0 : Nat) (x1 : Int) (x3 : Int) (x4 : Int) (x5 : Int) (M : Im) (Q : Int → Im → Prop) (K88 : Nat → Int → Int → Int → Im → Prop) : Prop := match n with
  | 0 => False
  | n + 1 =>
  (x3 ≤ 0 →
  K88 x0 x1 x4 x5 M) ∧
  (0 < x3 →
  (0 ≤ x4 ∧ x4 < ((alen 75) : Int)) ∧
  (0 ≤ x3 ∧ x3 < ((alen 72) : Int)) ∧
  (0 ≤ gI M 72 x3.toNat ∧ gI M 72 x3.toNat < ((alen 75) : Int)) ∧
  (-2147483648 ≤ (gI M 75 x4.toNat) + x5 ∧ (gI M 75 x4.toNat) + x5 < 2147483648) ∧
  (-2147483648 ≤ ((gI M 75 x4.toNat) + x5) - (gI M 75 (gI M 72 x3.toNat).toNat) ∧ ((gI M 75 x4.toNat) + x5) - (gI M 75 (gI M 72 x3.toNat).toNat) < 2147483648) ∧
  ∀ i1 : Int, i1 = ((gI M 75 x4.toNat) + x5) - (gI M 75 (gI M 72 x3.toNat).toNat) →
  (-2147483648 ≤ x3 + (-1) ∧ x3 + (-1) < 2147483648) ∧
  ∀ i2 : Int, i2 = x3 + (-1) →
  (0 ≤ i2 ∧ i2 < ((alen 72) : Int)) ∧
  (-2147483648 ≤ (gI M 72 i2.toNat) + i1 ∧ (gI M 72 i2.toNat) + i1 < 2147483648) ∧
  ∀ i3 : Int, i3 = (gI M 72 i2.toNat) + i1 →
  sp_X5_down x0 i3 i2 x1 M (fun (i5 : Int) (M4 : Im) =>
  sp_X5_found_33 n x0 x1 i2 i3 i5 M4 Q K88))
def sp_X5_found_250 (x0 : Nat) (x1 : Int) (x4 : Int) (x7 : Int) (x8 : Int) (M : Im) (Q : Int → Im → Prop) (K181 : Nat → Int → Int → Int → Int → Im → Prop) (K256 : Nat → Im → Prop) : Prop :=
  (-2147483648 ≤ x7 + (-1) ∧ x7 + (-1) < 2147483648) ∧
  ∀ i15 : Int, i15 = x7 + (-1) →
  K181 x0 x1 x4 i15 x8 M
def sp_X5_found_281 (x6 : Int) (t0 : Int) (t1 : Nat) (M : Im) (Q : Int → Im → Prop) : Prop :=
  sp_X5_say t1 t0 M (fun (M16 : Im) =>
  (x6 = 0 ∨ x6 = 1) ∧
  Q x6 M16)
def sp_X5_found_224 (x0 : Nat) (x1 : Int) (x4 : Int) (x7 : Int) (t0 : Int) (M : Im) (Q : Int → Im → Prop) (K181 : Nat → Int → Int → Int → Int → Im → Prop) (K256 : Nat → Im → Prop) : Prop :=
  (-2147483648 ≤ 16 * x4 ∧ 16 * x4 < 2147483648) ∧
  (-2147483648 ≤ (16 * x4) + x7 ∧ (16 * x4) + x7 < 2147483648) ∧
  (0 ≤ (16 * x4) + x7 ∧ (16 * x4) + x7 < ((alen 83) : Int)) ∧
  (-2147483648 ≤ 16 * x4 ∧ 16 * x4 < 2147483648) ∧
  (-2147483648 ≤ (16 * x4) + x7 ∧ (16 * x4) + x7 < 2147483648) ∧
  (¬ (gL M 83 ((16 * x4) + x7).toNat) = x1 →
  sp_X5_found_250 x0 x1 x4 x7 t0 M Q K181 K256) ∧
  ((gL M 83 ((16 * x4) + x7).toNat) = x1 →
  ∀ M14 : Im, M14 = pI M x0 45 x7 →
  sp_X5_found_250 x0 x1 x4 x7 t0 M14 Q K181 K256)
def sp_X5_found_270 (x0 : Nat) (x6 : Int) (M : Im) (Q : Int → Im → Prop) : Prop :=
  (x6 = 0 →
  sp_X5_found_281 x6 0 x0 M Q) ∧
  (¬ x6 = 0 →
  sp_X5_found_281 x6 1 x0 M Q)
def sp_X5_found_223 (x0 : Nat) (x1 : Int) (x4 : Int) (x7 : Int) (M : Im) (Q : Int → Im → Prop) (K181 : Nat → Int → Int → Int → Int → Im → Prop) (K256 : Nat → Im → Prop) : Prop :=
  sp_X5_found_224 x0 x1 x4 x7 0 M Q K181 K256
def sp_X5_found_181 (n : Nat) (x0 : Nat) (x1 : Int) (x4 : Int) (x7 : Int) (x8 : Int) (M : Im) (Q : Int → Im → Prop) (K256 : Nat → Im → Prop) : Prop := match n with
  | 0 => False
  | n + 1 =>
  (x8 = 0 →
  K256 x0 M) ∧
  (¬ x8 = 0 →
  (-2147483648 ≤ (gI M x0 41) + 1 ∧ (gI M x0 41) + 1 < 2147483648) ∧
  ∀ M13 : Im, M13 = pI M x0 41 ((gI M x0 41) + 1) →
  (-2147483648 ≤ 16 * x4 ∧ 16 * x4 < 2147483648) ∧
  (-2147483648 ≤ (16 * x4) + x7 ∧ (16 * x4) + x7 < 2147483648) ∧
  (0 ≤ (16 * x4) + x7 ∧ (16 * x4) + x7 < ((alen 83) : Int)) ∧
  (-2147483648 ≤ 16 * x4 ∧ 16 * x4 < 2147483648) ∧
  (-2147483648 ≤ (16 * x4) + x7 ∧ (16 * x4) + x7 < 2147483648) ∧
  ((gL M13 83 ((16 * x4) + x7).toNat) ≤ x1 →
  sp_X5_found_223 x0 x1 x4 x7 M13 Q (fun (x0 : Nat) (x1 : Int) (x4 : Int) (x7 : Int) (x8 : Int) (M : Im) =>
  sp_X5_found_181 n x0 x1 x4 x7 x8 M Q K256) K256) ∧
  (x1 < (gL M13 83 ((16 * x4) + x7).toNat) →
  (x7 ≤ 0 →
  sp_X5_found_223 x0 x1 x4 x7 M13 Q (fun (x0 : Nat) (x1 : Int) (x4 : Int) (x7 : Int) (x8 : Int) (M : Im) =>
  sp_X5_found_181 n x0 x1 x4 x7 x8 M Q K256) K256) ∧
  (0 < x7 →
  sp_X5_found_224 x0 x1 x4 x7 1 M13 Q (fun (x0 : Nat) (x1 : Int) (x4 : Int) (x7 : Int) (x8 : Int) (M : Im) =>
  sp_X5_found_181 n x0 x1 x4 x7 x8 M Q K256) K256)))
def sp_X5_found_179 (x0 : Nat) (x1 : Int) (x4 : Int) (x7 : Int) (t0 : Int) (M : Im) (Q : Int → Im → Prop) : Prop :=
  ∃ k181, 
  sp_X5_found_181 k181 x0 x1 x4 x7 t0 M Q (fun (x0 : Nat) (M : Im) =>
  ((gI M x0 45) < 0 →
  sp_X5_found_270 x0 0 M Q) ∧
  (0 ≤ (gI M x0 45) →
  sp_X5_found_270 x0 1 M Q))
def sp_X5_found_151 (x0 : Nat) (x1 : Int) (x4 : Int) (t0 : Int) (M : Im) (Q : Int → Im → Prop) : Prop :=
  (¬ t0 = 0 →
  sp_X5_found_270 x0 t0 M Q) ∧
  (t0 = 0 →
  (0 ≤ x4 ∧ x4 < ((alen 78) : Int)) ∧
  (-2147483648 ≤ (gI M 78 x4.toNat) - 1 ∧ (gI M 78 x4.toNat) - 1 < 2147483648) ∧
  ∀ i12 : Int, i12 = (gI M 78 x4.toNat) - 1 →
  (i12 < 0 →
  sp_X5_found_179 x0 x1 x4 i12 0 M Q) ∧
  (0 ≤ i12 →
  sp_X5_found_179 x0 x1 x4 i12 1 M Q))
def sp_X5_found (x0 : Nat) (x1 : Int) (M : Im) (Q : Int → Im → Prop) : Prop :=
  iO M x0 5 ∧
  ∀ M17 : Im, M17 = pI M x0 39 0 →
  ∀ M18 : Im, M18 = pI M17 x0 41 0 →
  ∀ i19 : Int, i19 = gI M18 x0 9 →
  (0 ≤ i19 ∧ i19 < ((alen 72) : Int)) ∧
  ∀ i20 : Int, i20 = gI M18 72 i19.toNat →
  sp_X5_down x0 i20 i19 x1 M18 (fun (i22 : Int) (M21 : Im) =>
  ∃ k33, 
  sp_X5_found_33 k33 x0 x1 i19 i20 i22 M21 Q (fun (x0 : Nat) (x1 : Int) (x4 : Int) (x5 : Int) (M : Im) =>
  ∀ M6 : Im, M6 = pI M x0 43 x4 →
  ∀ M7 : Im, M7 = pI M6 x0 44 x5 →
  ∀ M8 : Im, M8 = pI M7 x0 45 (-1) →
  (-2147483648 ≤ (gI M8 x0 41) + 1 ∧ (gI M8 x0 41) + 1 < 2147483648) ∧
  ∀ M9 : Im, M9 = pI M8 x0 41 ((gI M8 x0 41) + 1) →
  (0 ≤ x4 ∧ x4 < ((alen 75) : Int)) ∧
  (-2147483648 ≤ (gI M9 75 x4.toNat) + x5 ∧ (gI M9 75 x4.toNat) + x5 < 2147483648) ∧
  (0 ≤ (gI M9 75 x4.toNat) + x5 ∧ (gI M9 75 x4.toNat) + x5 < ((alen 82) : Int)) ∧
  (-2147483648 ≤ (gI M9 75 x4.toNat) + x5 ∧ (gI M9 75 x4.toNat) + x5 < 2147483648) ∧
  (¬ (gL M9 82 ((gI M9 75 x4.toNat) + x5).toNat) = x1 →
  sp_X5_found_151 x0 x1 x4 0 M9 Q) ∧
  ((gL M9 82 ((gI M9 75 x4.toNat) + x5).toNat) = x1 →
  sp_X5_isThere x0 x4 x5 M9 (fun (i11 : Int) (M10 : Im) =>
  (i11 = 0 →
  sp_X5_found_151 x0 x1 x4 0 M10 Q) ∧
  (¬ i11 = 0 →
  sp_X5_found_151 x0 x1 x4 1 M10 Q)))))
def sp_X5_find_45 (n : Nat) (x0 : Nat) (x3 : Int) (x4 : Int) (M : Im) (Q : Int → Im → Prop) (K74 : Nat → Int → Im → Prop) : Prop := match n with
  | 0 => False
  | n + 1 =>
  ((gI M x0 39) ≤ x4 →
  K74 x0 x3 M) ∧
  (x4 < (gI M x0 39) →
  (0 ≤ x4 ∧ x4 < ((alen 95) : Int)) ∧
  (0 ≤ x4 ∧ x4 < ((alen 96) : Int)) ∧
  ∀ M1 : Im, M1 = pI M 96 x4.toNat (gI M 95 x4.toNat) →
  (-2147483648 ≤ x4 + 1 ∧ x4 + 1 < 2147483648) ∧
  ∀ i2 : Int, i2 = x4 + 1 →
  sp_X5_find_45 n x0 x3 i2 M1 Q K74)
def sp_X5_find (x0 : Nat) (x1 : Int) (M : Im) (Q : Int → Im → Prop) : Prop :=
  iO M x0 5 ∧
  (¬ (gI M x0 23) = 0 →
  sp_X5_isKey x0 x1 M (fun (i5 : Int) (M4 : Im) =>
  (¬ i5 = 0 →
  sp_X5_found x0 x1 M4 (fun (i7 : Int) (M6 : Im) =>
  ∀ M8 : Im, M8 = pI M6 x0 42 (gI M6 x0 41) →
  ∀ M9 : Im, M9 = pI M8 x0 40 (gI M8 x0 39) →
  ∃ k45, 
  sp_X5_find_45 k45 x0 i7 0 M9 Q (fun (x0 : Nat) (x3 : Int) (M : Im) =>
  ∀ M3 : Im, M3 = pI M x0 46 1 →
  (x3 = 0 →
  Q 0 M3) ∧
  (¬ x3 = 0 →
  Q 1 M3)))) ∧
  (i5 = 0 →
  Q (-2) M4))) ∧
  ((gI M x0 23) = 0 →
  Q (-1) M)
def sp_X5_check_90 (x0 : Nat) (x3 : Int) (x5 : Int) (t0 : Int) (M : Im) (Q : Int → Im → Prop) (K54 : Nat → Int → Int → Int → Im → Prop) (K98 : Int → Int → Im → Prop) : Prop :=
  (-2147483648 ≤ x5 + 1 ∧ x5 + 1 < 2147483648) ∧
  ∀ i1 : Int, i1 = x5 + 1 →
  K54 x0 x3 t0 i1 M
def sp_X5_check_54 (n : Nat) (x0 : Nat) (x3 : Int) (x4 : Int) (x5 : Int) (M : Im) (Q : Int → Im → Prop) (K98 : Int → Int → Im → Prop) : Prop := match n with
  | 0 => False
  | n + 1 =>
  ((gI M x0 39) ≤ x5 →
  K98 x3 x4 M) ∧
  (x5 < (gI M x0 39) →
  (x4 = 0 →
  K98 x3 x4 M) ∧
  (¬ x4 = 0 →
  (0 ≤ x5 ∧ x5 < ((alen 95) : Int)) ∧
  (0 ≤ x5 ∧ x5 < ((alen 96) : Int)) ∧
  (¬ (gI M 95 x5.toNat) = (gI M 96 x5.toNat) →
  sp_X5_check_90 x0 x3 x5 0 M Q (fun (x0 : Nat) (x3 : Int) (x4 : Int) (x5 : Int) (M : Im) =>
  sp_X5_check_54 n x0 x3 x4 x5 M Q K98) K98) ∧
  ((gI M 95 x5.toNat) = (gI M 96 x5.toNat) →
  sp_X5_check_90 x0 x3 x5 1 M Q (fun (x0 : Nat) (x3 : Int) (x4 : Int) (x5 : Int) (M : Im) =>
  sp_X5_check_54 n x0 x3 x4 x5 M Q K98) K98)))
def sp_X5_check_107 (x4 : Int) (t0 : Int) (M : Im) (Q : Int → Im → Prop) : Prop :=
  (x4 = 0 →
  (-2147483648 ≤ t0 + 0 ∧ t0 + 0 < 2147483648) ∧
  Q (t0 + 0) M) ∧
  (¬ x4 = 0 →
  (-2147483648 ≤ t0 + 1 ∧ t0 + 1 < 2147483648) ∧
  Q (t0 + 1) M)
def sp_X5_check_49 (x0 : Nat) (x3 : Int) (t0 : Int) (M : Im) (Q : Int → Im → Prop) : Prop :=
  ∃ k54, 
  sp_X5_check_54 k54 x0 x3 t0 0 M Q (fun (x3 : Int) (x4 : Int) (M : Im) =>
  (x3 = 0 →
  sp_X5_check_107 x4 0 M Q) ∧
  (¬ x3 = 0 →
  sp_X5_check_107 x4 2 M Q))
def sp_X5_check (x0 : Nat) (x1 : Int) (M : Im) (Q : Int → Im → Prop) : Prop :=
  iO M x0 5 ∧
  (¬ (gI M x0 23) = 0 →
  sp_X5_isKey x0 x1 M (fun (i3 : Int) (M2 : Im) =>
  (i3 = 0 →
  Q (-2) M2) ∧
  (¬ i3 = 0 →
  (¬ (gI M2 x0 46) = 0 →
  sp_X5_found x0 x1 M2 (fun (i5 : Int) (M4 : Im) =>
  (¬ (gI M4 x0 39) = (gI M4 x0 40) →
  sp_X5_check_49 x0 i5 0 M4 Q) ∧
  ((gI M4 x0 39) = (gI M4 x0 40) →
  sp_X5_check_49 x0 i5 1 M4 Q))) ∧
  ((gI M2 x0 46) = 0 →
  Q (-2) M2)))) ∧
  ((gI M x0 23) = 0 →
  Q (-1) M)
def sp_X5_looks (x0 : Nat) (M : Im) (Q : Int → Im → Prop) : Prop :=
  iO M x0 5 ∧
  Q (gI M x0 42) M
def sp_X5_told (x0 : Nat) (x1 : Int) (M : Im) (Q : Int → Im → Prop) : Prop :=
  iO M x0 5 ∧
  (x1 < 0 →
  Q (-2) M) ∧
  (0 ≤ x1 →
  (x1 < (gI M x0 40) →
  (0 ≤ x1 ∧ x1 < ((alen 96) : Int)) ∧
  Q (gI M 96 x1.toNat) M) ∧
  ((gI M x0 40) ≤ x1 →
  Q (-2) M))
def sp_X5_insert_96 (n : Nat) (x0 : Nat) (x1 : Int) (x3 : Int) (x4 : Int) (M : Im) (Q : Int → Im → Prop) (K152 : Nat → Int → Int → Int → Im → Prop) : Prop := match n with
  | 0 => False
  | n + 1 =>
  (x4 ≤ 0 →
  K152 x0 x1 x3 x4 M) ∧
  (0 < x4 →
  (-2147483648 ≤ 16 * x3 ∧ 16 * x3 < 2147483648) ∧
  (-2147483648 ≤ (16 * x3) + x4 ∧ (16 * x3) + x4 < 2147483648) ∧
  (-2147483648 ≤ ((16 * x3) + x4) - 1 ∧ ((16 * x3) + x4) - 1 < 2147483648) ∧
  (0 ≤ ((16 * x3) + x4) - 1 ∧ ((16 * x3) + x4) - 1 < ((alen 83) : Int)) ∧
  (-2147483648 ≤ 16 * x3 ∧ 16 * x3 < 2147483648) ∧
  (-2147483648 ≤ (16 * x3) + x4 ∧ (16 * x3) + x4 < 2147483648) ∧
  (-2147483648 ≤ ((16 * x3) + x4) - 1 ∧ ((16 * x3) + x4) - 1 < 2147483648) ∧
  ((gL M 83 (((16 * x3) + x4) - 1).toNat) ≤ x1 →
  K152 x0 x1 x3 x4 M) ∧
  (x1 < (gL M 83 (((16 * x3) + x4) - 1).toNat) →
  (-2147483648 ≤ 16 * x3 ∧ 16 * x3 < 2147483648) ∧
  (-2147483648 ≤ (16 * x3) + x4 ∧ (16 * x3) + x4 < 2147483648) ∧
  (-2147483648 ≤ ((16 * x3) + x4) - 1 ∧ ((16 * x3) + x4) - 1 < 2147483648) ∧
  (0 ≤ ((16 * x3) + x4) - 1 ∧ ((16 * x3) + x4) - 1 < ((alen 83) : Int)) ∧
  (-2147483648 ≤ 16 * x3 ∧ 16 * x3 < 2147483648) ∧
  (-2147483648 ≤ (16 * x3) + x4 ∧ (16 * x3) + x4 < 2147483648) ∧
  (0 ≤ (16 * x3) + x4 ∧ (16 * x3) + x4 < ((alen 83) : Int)) ∧
  (-2147483648 ≤ 16 * x3 ∧ 16 * x3 < 2147483648) ∧
  (-2147483648 ≤ (16 * x3) + x4 ∧ (16 * x3) + x4 < 2147483648) ∧
  (-2147483648 ≤ 16 * x3 ∧ 16 * x3 < 2147483648) ∧
  (-2147483648 ≤ (16 * x3) + x4 ∧ (16 * x3) + x4 < 2147483648) ∧
  (-2147483648 ≤ ((16 * x3) + x4) - 1 ∧ ((16 * x3) + x4) - 1 < 2147483648) ∧
  ∀ M1 : Im, M1 = pL M 83 ((16 * x3) + x4).toNat (gL M 83 (((16 * x3) + x4) - 1).toNat) →
  (-2147483648 ≤ x4 + (-1) ∧ x4 + (-1) < 2147483648) ∧
  ∀ i2 : Int, i2 = x4 + (-1) →
  sp_X5_insert_96 n x0 x1 x3 i2 M1 Q K152))
def sp_X5_insert (x0 : Nat) (x1 : Int) (M : Im) (Q : Int → Im → Prop) : Prop :=
  iO M x0 5 ∧
  (¬ (gI M x0 23) = 0 →
  sp_X5_isKey x0 x1 M (fun (i10 : Int) (M9 : Im) =>
  (¬ i10 = 0 →
  sp_X5_found x0 x1 M9 (fun (i12 : Int) (M11 : Im) =>
  (i12 = 0 →
  sp_X5_there x0 M11 (fun (i14 : Int) (M13 : Im) =>
  (¬ i14 = 300 →
  ∀ i15 : Int, i15 = gI M13 x0 43 →
  (0 ≤ i15 ∧ i15 < ((alen 75) : Int)) ∧
  (-2147483648 ≤ (gI M13 75 i15.toNat) + (gI M13 x0 44) ∧ (gI M13 75 i15.toNat) + (gI M13 x0 44) < 2147483648) ∧
  (0 ≤ (gI M13 75 i15.toNat) + (gI M13 x0 44) ∧ (gI M13 75 i15.toNat) + (gI M13 x0 44) < ((alen 82) : Int)) ∧
  (-2147483648 ≤ (gI M13 75 i15.toNat) + (gI M13 x0 44) ∧ (gI M13 75 i15.toNat) + (gI M13 x0 44) < 2147483648) ∧
  (¬ (gL M13 82 ((gI M13 75 i15.toNat) + (gI M13 x0 44)).toNat) = x1 →
  (0 ≤ i15 ∧ i15 < ((alen 78) : Int)) ∧
  ∀ i16 : Int, i16 = gI M13 78 i15.toNat →
  ∃ k96, 
  sp_X5_insert_96 k96 x0 x1 i15 i16 M13 Q (fun (x0 : Nat) (x1 : Int) (x3 : Int) (x4 : Int) (M : Im) =>
  (-2147483648 ≤ 16 * x3 ∧ 16 * x3 < 2147483648) ∧
  (-2147483648 ≤ (16 * x3) + x4 ∧ (16 * x3) + x4 < 2147483648) ∧
  (0 ≤ (16 * x3) + x4 ∧ (16 * x3) + x4 < ((alen 83) : Int)) ∧
  (-2147483648 ≤ 16 * x3 ∧ 16 * x3 < 2147483648) ∧
  (-2147483648 ≤ (16 * x3) + x4 ∧ (16 * x3) + x4 < 2147483648) ∧
  ∀ M3 : Im, M3 = pL M 83 ((16 * x3) + x4).toNat x1 →
  (0 ≤ x3 ∧ x3 < ((alen 78) : Int)) ∧
  (0 ≤ x3 ∧ x3 < ((alen 78) : Int)) ∧
  (-2147483648 ≤ (gI M3 78 x3.toNat) + 1 ∧ (gI M3 78 x3.toNat) + 1 < 2147483648) ∧
  ∀ M4 : Im, M4 = pI M3 78 x3.toNat ((gI M3 78 x3.toNat) + 1) →
  (0 ≤ x3 ∧ x3 < ((alen 78) : Int)) ∧
  (16 ≤ (gI M4 78 x3.toNat) →
  ∀ M5 : Im, M5 = pI M4 x0 26 0 →
  sp_X5_gather x0 x3 M5 (fun (M6 : Im) =>
  (-2147483648 ≤ x3 + 1 ∧ x3 + 1 < 2147483648) ∧
  sp_X5_replace x0 x3 (x3 + 1) 1 M6 (fun (M7 : Im) =>
  (-2147483648 ≤ (gI M7 x0 25) + 1 ∧ (gI M7 x0 25) + 1 < 2147483648) ∧
  ∀ M8 : Im, M8 = pI M7 x0 25 ((gI M7 x0 25) + 1) →
  Q 1 M8))) ∧
  ((gI M4 78 x3.toNat) < 16 →
  Q 1 M4))) ∧
  ((gL M13 82 ((gI M13 75 i15.toNat) + (gI M13 x0 44)).toNat) = x1 →
  (0 ≤ i15 ∧ i15 < ((alen 75) : Int)) ∧
  (-2147483648 ≤ (gI M13 75 i15.toNat) + (gI M13 x0 44) ∧ (gI M13 75 i15.toNat) + (gI M13 x0 44) < 2147483648) ∧
  (0 ≤ (gI M13 75 i15.toNat) + (gI M13 x0 44) ∧ (gI M13 75 i15.toNat) + (gI M13 x0 44) < ((alen 84) : Int)) ∧
  (-2147483648 ≤ (gI M13 75 i15.toNat) + (gI M13 x0 44) ∧ (gI M13 75 i15.toNat) + (gI M13 x0 44) < 2147483648) ∧
  ∀ M17 : Im, M17 = pI M13 84 ((gI M13 75 i15.toNat) + (gI M13 x0 44)).toNat 0 →
  Q 1 M17)) ∧
  (i14 = 300 →
  Q (-3) M13))) ∧
  (¬ i12 = 0 →
  Q 0 M11))) ∧
  (i10 = 0 →
  Q (-2) M9))) ∧
  ((gI M x0 23) = 0 →
  Q (-1) M)
def sp_X5_drop_77 (n : Nat) (x0 : Nat) (x3 : Int) (x4 : Int) (M : Im) (Q : Int → Im → Prop) (K120 : Im → Prop) : Prop := match n with
  | 0 => False
  | n + 1 =>
  (0 ≤ x3 ∧ x3 < ((alen 78) : Int)) ∧
  ((gI M 78 x3.toNat) ≤ x4 →
  K120 M) ∧
  (x4 < (gI M 78 x3.toNat) →
  (-2147483648 ≤ 16 * x3 ∧ 16 * x3 < 2147483648) ∧
  (-2147483648 ≤ (16 * x3) + x4 ∧ (16 * x3) + x4 < 2147483648) ∧
  (-2147483648 ≤ ((16 * x3) + x4) + 1 ∧ ((16 * x3) + x4) + 1 < 2147483648) ∧
  (0 ≤ ((16 * x3) + x4) + 1 ∧ ((16 * x3) + x4) + 1 < ((alen 83) : Int)) ∧
  (-2147483648 ≤ 16 * x3 ∧ 16 * x3 < 2147483648) ∧
  (-2147483648 ≤ (16 * x3) + x4 ∧ (16 * x3) + x4 < 2147483648) ∧
  (0 ≤ (16 * x3) + x4 ∧ (16 * x3) + x4 < ((alen 83) : Int)) ∧
  (-2147483648 ≤ 16 * x3 ∧ 16 * x3 < 2147483648) ∧
  (-2147483648 ≤ (16 * x3) + x4 ∧ (16 * x3) + x4 < 2147483648) ∧
  (-2147483648 ≤ 16 * x3 ∧ 16 * x3 < 2147483648) ∧
  (-2147483648 ≤ (16 * x3) + x4 ∧ (16 * x3) + x4 < 2147483648) ∧
  (-2147483648 ≤ ((16 * x3) + x4) + 1 ∧ ((16 * x3) + x4) + 1 < 2147483648) ∧
  ∀ M1 : Im, M1 = pL M 83 ((16 * x3) + x4).toNat (gL M 83 (((16 * x3) + x4) + 1).toNat) →
  (-2147483648 ≤ x4 + 1 ∧ x4 + 1 < 2147483648) ∧
  ∀ i2 : Int, i2 = x4 + 1 →
  sp_X5_drop_77 n x0 x3 i2 M1 Q K120)
def sp_X5_drop (x0 : Nat) (x1 : Int) (M : Im) (Q : Int → Im → Prop) : Prop :=
  iO M x0 5 ∧
  (¬ (gI M x0 23) = 0 →
  sp_X5_isKey x0 x1 M (fun (i4 : Int) (M3 : Im) =>
  (¬ i4 = 0 →
  sp_X5_found x0 x1 M3 (fun (i6 : Int) (M5 : Im) =>
  (¬ i6 = 0 →
  ∀ i7 : Int, i7 = gI M5 x0 43 →
  (0 ≤ (gI M5 x0 45) →
  (0 ≤ i7 ∧ i7 < ((alen 78) : Int)) ∧
  (0 ≤ i7 ∧ i7 < ((alen 78) : Int)) ∧
  (-2147483648 ≤ (gI M5 78 i7.toNat) - 1 ∧ (gI M5 78 i7.toNat) - 1 < 2147483648) ∧
  ∀ M8 : Im, M8 = pI M5 78 i7.toNat ((gI M5 78 i7.toNat) - 1) →
  ∀ i9 : Int, i9 = gI M8 x0 45 →
  ∃ k77, 
  sp_X5_drop_77 k77 x0 i7 i9 M8 Q (fun (M : Im) =>
  Q 1 M)) ∧
  ((gI M5 x0 45) < 0 →
  (0 ≤ i7 ∧ i7 < ((alen 75) : Int)) ∧
  (-2147483648 ≤ (gI M5 75 i7.toNat) + (gI M5 x0 44) ∧ (gI M5 75 i7.toNat) + (gI M5 x0 44) < 2147483648) ∧
  (0 ≤ (gI M5 75 i7.toNat) + (gI M5 x0 44) ∧ (gI M5 75 i7.toNat) + (gI M5 x0 44) < ((alen 84) : Int)) ∧
  (-2147483648 ≤ (gI M5 75 i7.toNat) + (gI M5 x0 44) ∧ (gI M5 75 i7.toNat) + (gI M5 x0 44) < 2147483648) ∧
  ∀ M10 : Im, M10 = pI M5 84 ((gI M5 75 i7.toNat) + (gI M5 x0 44)).toNat 1 →
  Q 1 M10)) ∧
  (i6 = 0 →
  Q 0 M5))) ∧
  (i4 = 0 →
  Q (-2) M3))) ∧
  ((gI M x0 23) = 0 →
  Q (-1) M)
def sp_X5_all_23 (x0 : Nat) (x1 : Int) (t0 : Int) (t1 : Int) (M : Im) (Q : Im → Prop) (K7 : Nat → Int → Im → Prop) (K37 : Im → Prop) : Prop :=
  (t0 ≤ t1 →
  K37 M) ∧
  (t1 < t0 →
  sp_X5_gather x0 x1 M (fun (M3 : Im) =>
  (-2147483648 ≤ x1 + 1 ∧ x1 + 1 < 2147483648) ∧
  ∀ i4 : Int, i4 = x1 + 1 →
  K7 x0 i4 M3))
def sp_X5_all_7 (n : Nat) (x0 : Nat) (x1 : Int) (M : Im) (Q : Im → Prop) (K37 : Im → Prop) : Prop := match n with
  | 0 => False
  | n + 1 =>
  ((gI M x0 23) = 0 →
  sp_X5_all_23 x0 x1 0 x1 M Q (fun (x0 : Nat) (x1 : Int) (M : Im) =>
  sp_X5_all_7 n x0 x1 M Q K37) K37) ∧
  (¬ (gI M x0 23) = 0 →
  sp_X5_pieces x0 M (fun (i2 : Int) (M1 : Im) =>
  sp_X5_all_23 x0 x1 i2 x1 M1 Q (fun (x0 : Nat) (x1 : Int) (M : Im) =>
  sp_X5_all_7 n x0 x1 M Q K37) K37))
def sp_X5_all (x0 : Nat) (M : Im) (Q : Im → Prop) : Prop :=
  iO M x0 5 ∧
  ∀ M5 : Im, M5 = pI M x0 26 0 →
  ∃ k7, 
  sp_X5_all_7 k7 x0 0 M5 Q (fun (M : Im) =>
  Q M)
def sp_X5_at (x0 : Nat) (x1 : Int) (M : Im) (Q : Int → Im → Prop) : Prop :=
  iO M x0 5 ∧
  sp_X5_all x0 M (fun (M1 : Im) =>
  (x1 < 0 →
  Q (-9223372036854775808) M1) ∧
  (0 ≤ x1 →
  (x1 < (gI M1 x0 26) →
  (0 ≤ x1 ∧ x1 < ((alen 71) : Int)) ∧
  Q (gL M1 71 x1.toNat) M1) ∧
  ((gI M1 x0 26) ≤ x1 →
  Q (-9223372036854775808) M1)))
def sp_X5_ahead_6 (n : Nat) (x0 : Nat) (x1 : Int) (x3 : Int) (M : Im) (Q : Int → Im → Prop) (K31 : Int → Im → Prop) : Prop := match n with
  | 0 => False
  | n + 1 =>
  ((gI M x0 26) ≤ x3 →
  K31 x3 M) ∧
  (x3 < (gI M x0 26) →
  (0 ≤ x3 ∧ x3 < ((alen 71) : Int)) ∧
  (x1 ≤ (gL M 71 x3.toNat) →
  K31 x3 M) ∧
  ((gL M 71 x3.toNat) < x1 →
  (-2147483648 ≤ x3 + 1 ∧ x3 + 1 < 2147483648) ∧
  ∀ i1 : Int, i1 = x3 + 1 →
  sp_X5_ahead_6 n x0 x1 i1 M Q K31))
def sp_X5_ahead (x0 : Nat) (x1 : Int) (M : Im) (Q : Int → Im → Prop) : Prop :=
  iO M x0 5 ∧
  sp_X5_all x0 M (fun (M2 : Im) =>
  ∃ k6, 
  sp_X5_ahead_6 k6 x0 x1 0 M2 Q (fun (x3 : Int) (M : Im) =>
  Q x3 M))
def sp_X5_below (x0 : Nat) (x1 : Int) (M : Im) (Q : Int → Im → Prop) : Prop :=
  iO M x0 5 ∧
  (¬ (gI M x0 23) = 0 →
  sp_X5_isKey x0 x1 M (fun (i2 : Int) (M1 : Im) =>
  (i2 = 0 →
  Q (-2) M1) ∧
  (¬ i2 = 0 →
  sp_X5_ahead x0 x1 M1 (fun (i4 : Int) (M3 : Im) =>
  Q i4 M3)))) ∧
  ((gI M x0 23) = 0 →
  Q (-1) M)
def sp_X5_above_6 (n : Nat) (x0 : Nat) (x1 : Int) (x3 : Int) (M : Im) (Q : Int → Im → Prop) (K31 : Nat → Int → Im → Prop) : Prop := match n with
  | 0 => False
  | n + 1 =>
  ((gI M x0 26) ≤ x3 →
  K31 x0 x3 M) ∧
  (x3 < (gI M x0 26) →
  (0 ≤ x3 ∧ x3 < ((alen 71) : Int)) ∧
  (x1 < (gL M 71 x3.toNat) →
  K31 x0 x3 M) ∧
  ((gL M 71 x3.toNat) ≤ x1 →
  (-2147483648 ≤ x3 + 1 ∧ x3 + 1 < 2147483648) ∧
  ∀ i1 : Int, i1 = x3 + 1 →
  sp_X5_above_6 n x0 x1 i1 M Q K31))
def sp_X5_above (x0 : Nat) (x1 : Int) (M : Im) (Q : Int → Im → Prop) : Prop :=
  iO M x0 5 ∧
  sp_X5_all x0 M (fun (M2 : Im) =>
  ∃ k6, 
  sp_X5_above_6 k6 x0 x1 0 M2 Q (fun (x0 : Nat) (x3 : Int) (M : Im) =>
  ((gI M x0 26) ≤ x3 →
  Q (-9223372036854775808) M) ∧
  (x3 < (gI M x0 26) →
  (0 ≤ x3 ∧ x3 < ((alen 71) : Int)) ∧
  Q (gL M 71 x3.toNat) M)))
def sp_X5_between (x0 : Nat) (x1 : Int) (x3 : Int) (M : Im) (Q : Int → Im → Prop) : Prop :=
  iO M x0 5 ∧
  (¬ (gI M x0 23) = 0 →
  sp_X5_isKey x0 x1 M (fun (i2 : Int) (M1 : Im) =>
  (i2 = 0 →
  Q (-2) M1) ∧
  (¬ i2 = 0 →
  sp_X5_isKey x0 x3 M1 (fun (i4 : Int) (M3 : Im) =>
  (¬ i4 = 0 →
  (x1 < x3 →
  sp_X5_ahead x0 x3 M3 (fun (i6 : Int) (M5 : Im) =>
  sp_X5_ahead x0 x1 M5 (fun (i8 : Int) (M7 : Im) =>
  (-2147483648 ≤ i6 - i8 ∧ i6 - i8 < 2147483648) ∧
  Q (i6 - i8) M7))) ∧
  (x3 ≤ x1 →
  Q 0 M3)) ∧
  (i4 = 0 →
  Q (-2) M3))))) ∧
  ((gI M x0 23) = 0 →
  Q (-1) M)
def sp_X5_layers (x0 : Nat) (M : Im) (Q : Int → Im → Prop) : Prop :=
  iO M x0 5 ∧
  ((gI M x0 23) = 0 →
  Q (-1) M) ∧
  (¬ (gI M x0 23) = 0 →
  Q (gI M x0 9) M)
def sp_X5_pieces_ (x0 : Nat) (x1 : Int) (M : Im) (Q : Int → Im → Prop) : Prop :=
  iO M x0 5 ∧
  ((gI M x0 23) = 0 →
  Q (-1) M) ∧
  (¬ (gI M x0 23) = 0 →
  (x1 < (-1) →
  Q (-1) M) ∧
  ((-1) ≤ x1 →
  (x1 < (gI M x0 9) →
  (-2147483648 ≤ x1 + 1 ∧ x1 + 1 < 2147483648) ∧
  (0 ≤ x1 + 1 ∧ x1 + 1 < ((alen 73) : Int)) ∧
  (-2147483648 ≤ x1 + 1 ∧ x1 + 1 < 2147483648) ∧
  (0 ≤ x1 + 1 ∧ x1 + 1 < ((alen 72) : Int)) ∧
  (-2147483648 ≤ x1 + 1 ∧ x1 + 1 < 2147483648) ∧
  (-2147483648 ≤ x1 + 1 ∧ x1 + 1 < 2147483648) ∧
  (-2147483648 ≤ (gI M 73 (x1 + 1).toNat) - (gI M 72 (x1 + 1).toNat) ∧ (gI M 73 (x1 + 1).toNat) - (gI M 72 (x1 + 1).toNat) < 2147483648) ∧
  Q ((gI M 73 (x1 + 1).toNat) - (gI M 72 (x1 + 1).toNat)) M) ∧
  ((gI M x0 9) ≤ x1 →
  Q (-1) M)))
def sp_X5_pieceOf (x0 : Nat) (x1 : Int) (x2 : Int) (M : Im) (Q : Int → Im → Prop) : Prop :=
  iO M x0 5 ∧
  ((gI M x0 23) = 0 →
  Q (-1) M) ∧
  (¬ (gI M x0 23) = 0 →
  (x1 < (-1) →
  Q (-1) M) ∧
  ((-1) ≤ x1 →
  ((gI M x0 9) ≤ x1 →
  Q (-1) M) ∧
  (x1 < (gI M x0 9) →
  (x2 < 0 →
  Q (-1) M) ∧
  (0 ≤ x2 →
  (-2147483648 ≤ x1 + 1 ∧ x1 + 1 < 2147483648) ∧
  (0 ≤ x1 + 1 ∧ x1 + 1 < ((alen 73) : Int)) ∧
  (-2147483648 ≤ x1 + 1 ∧ x1 + 1 < 2147483648) ∧
  (0 ≤ x1 + 1 ∧ x1 + 1 < ((alen 72) : Int)) ∧
  (-2147483648 ≤ x1 + 1 ∧ x1 + 1 < 2147483648) ∧
  (-2147483648 ≤ (gI M 73 (x1 + 1).toNat) - (gI M 72 (x1 + 1).toNat) ∧ (gI M 73 (x1 + 1).toNat) - (gI M 72 (x1 + 1).toNat) < 2147483648) ∧
  (x2 < ((gI M 73 (x1 + 1).toNat) - (gI M 72 (x1 + 1).toNat)) →
  (-2147483648 ≤ x1 + 1 ∧ x1 + 1 < 2147483648) ∧
  (0 ≤ x1 + 1 ∧ x1 + 1 < ((alen 72) : Int)) ∧
  (-2147483648 ≤ x1 + 1 ∧ x1 + 1 < 2147483648) ∧
  (-2147483648 ≤ (gI M 72 (x1 + 1).toNat) + x2 ∧ (gI M 72 (x1 + 1).toNat) + x2 < 2147483648) ∧
  Q ((gI M 72 (x1 + 1).toNat) + x2) M) ∧
  (((gI M 73 (x1 + 1).toNat) - (gI M 72 (x1 + 1).toNat)) ≤ x2 →
  Q (-1) M)))))
def sp_X5_piece_105 (x0 : Nat) (x4 : Int) (x6 : Int) (t0 : Int) (t1 : Int) (M : Im) (Q : Int → Im → Prop) (K75 : Nat → Int → Int → Int → Im → Prop) (K114 : Int → Im → Prop) : Prop :=
  (-2147483648 ≤ t1 + t0 ∧ t1 + t0 < 2147483648) ∧
  ∀ i3 : Int, i3 = t1 + t0 →
  (-2147483648 ≤ x6 + 1 ∧ x6 + 1 < 2147483648) ∧
  ∀ i4 : Int, i4 = x6 + 1 →
  K75 x0 x4 i3 i4 M
def sp_X5_piece_75 (n : Nat) (x0 : Nat) (x4 : Int) (x5 : Int) (x6 : Int) (M : Im) (Q : Int → Im → Prop) (K114 : Int → Im → Prop) : Prop := match n with
  | 0 => False
  | n + 1 =>
  (0 ≤ x4 ∧ x4 < ((alen 76) : Int)) ∧
  ((gI M 76 x4.toNat) ≤ x6 →
  K114 x5 M) ∧
  (x6 < (gI M 76 x4.toNat) →
  sp_X5_isThere x0 x4 x6 M (fun (i2 : Int) (M1 : Im) =>
  (i2 = 0 →
  sp_X5_piece_105 x0 x4 x6 1 x5 M1 Q (fun (x0 : Nat) (x4 : Int) (x5 : Int) (x6 : Int) (M : Im) =>
  sp_X5_piece_75 n x0 x4 x5 x6 M Q K114) K114) ∧
  (¬ i2 = 0 →
  sp_X5_piece_105 x0 x4 x6 0 x5 M1 Q (fun (x0 : Nat) (x4 : Int) (x5 : Int) (x6 : Int) (M : Im) =>
  sp_X5_piece_75 n x0 x4 x5 x6 M Q K114) K114)))
def sp_X5_piece (x0 : Nat) (x1 : Int) (x2 : Int) (x3 : Int) (M : Im) (Q : Int → Im → Prop) : Prop :=
  iO M x0 5 ∧
  sp_X5_pieceOf x0 x1 x2 M (fun (i6 : Int) (M5 : Im) =>
  (0 ≤ i6 →
  (x3 = 0 →
  (0 ≤ i6 ∧ i6 < ((alen 74) : Int)) ∧
  Q (gI M5 74 i6.toNat) M5) ∧
  (x3 = 1 →
  (0 ≤ i6 ∧ i6 < ((alen 76) : Int)) ∧
  Q (gI M5 76 i6.toNat) M5) ∧
  (x3 = 2 →
  ∃ k75, 
  sp_X5_piece_75 k75 x0 i6 0 0 M5 Q (fun (x5 : Int) (M : Im) =>
  Q x5 M)) ∧
  (x3 = 3 →
  (0 ≤ i6 ∧ i6 < ((alen 78) : Int)) ∧
  Q (gI M5 78 i6.toNat) M5) ∧
  (x3 = 4 →
  (0 ≤ i6 ∧ i6 < ((alen 77) : Int)) ∧
  Q (gI M5 77 i6.toNat) M5) ∧
  (x3 = 5 →
  sp_X5_miss x0 i6 M5 (fun (i8 : Int) (M7 : Im) =>
  Q i8 M7)) ∧
  (¬ x3 = 0 → ¬ x3 = 1 → ¬ x3 = 2 → ¬ x3 = 3 → ¬ x3 = 4 → ¬ x3 = 5 →
  Q (-1) M5)) ∧
  (i6 < 0 →
  Q (-1) M5))
def sp_X5_line (x0 : Nat) (x1 : Int) (x2 : Int) (x3 : Int) (M : Im) (Q : Int → Im → Prop) : Prop :=
  iO M x0 5 ∧
  sp_X5_pieceOf x0 x1 x2 M (fun (i2 : Int) (M1 : Im) =>
  (0 ≤ i2 →
  (x3 = 0 →
  (0 ≤ i2 ∧ i2 < ((alen 79) : Int)) ∧
  Q (gL M1 79 i2.toNat) M1) ∧
  (x3 = 1 →
  (0 ≤ i2 ∧ i2 < ((alen 80) : Int)) ∧
  Q (gL M1 80 i2.toNat) M1) ∧
  (x3 = 2 →
  (0 ≤ i2 ∧ i2 < ((alen 81) : Int)) ∧
  Q (gL M1 81 i2.toNat) M1) ∧
  (x3 = 3 →
  (0 ≤ i2 ∧ i2 < ((alen 75) : Int)) ∧
  (0 ≤ gI M1 75 i2.toNat ∧ gI M1 75 i2.toNat < ((alen 82) : Int)) ∧
  Q (gL M1 82 (gI M1 75 i2.toNat).toNat) M1) ∧
  (x3 = 4 →
  (0 ≤ i2 ∧ i2 < ((alen 75) : Int)) ∧
  (0 ≤ i2 ∧ i2 < ((alen 76) : Int)) ∧
  (-2147483648 ≤ (gI M1 75 i2.toNat) + (gI M1 76 i2.toNat) ∧ (gI M1 75 i2.toNat) + (gI M1 76 i2.toNat) < 2147483648) ∧
  (-2147483648 ≤ ((gI M1 75 i2.toNat) + (gI M1 76 i2.toNat)) - 1 ∧ ((gI M1 75 i2.toNat) + (gI M1 76 i2.toNat)) - 1 < 2147483648) ∧
  (0 ≤ ((gI M1 75 i2.toNat) + (gI M1 76 i2.toNat)) - 1 ∧ ((gI M1 75 i2.toNat) + (gI M1 76 i2.toNat)) - 1 < ((alen 82) : Int)) ∧
  (-2147483648 ≤ (gI M1 75 i2.toNat) + (gI M1 76 i2.toNat) ∧ (gI M1 75 i2.toNat) + (gI M1 76 i2.toNat) < 2147483648) ∧
  (-2147483648 ≤ ((gI M1 75 i2.toNat) + (gI M1 76 i2.toNat)) - 1 ∧ ((gI M1 75 i2.toNat) + (gI M1 76 i2.toNat)) - 1 < 2147483648) ∧
  Q (gL M1 82 (((gI M1 75 i2.toNat) + (gI M1 76 i2.toNat)) - 1).toNat) M1) ∧
  (¬ x3 = 0 → ¬ x3 = 1 → ¬ x3 = 2 → ¬ x3 = 3 → ¬ x3 = 4 →
  Q (-9223372036854775808) M1)) ∧
  (i2 < 0 →
  Q (-9223372036854775808) M1))
def sp_X5_guess (x0 : Nat) (x1 : Int) (x2 : Int) (x3 : Int) (M : Im) (Q : Int → Im → Prop) : Prop :=
  iO M x0 5 ∧
  sp_X5_pieceOf x0 x1 x2 M (fun (i2 : Int) (M1 : Im) =>
  (0 ≤ i2 →
  sp_X5_isKey x0 x3 M1 (fun (i4 : Int) (M3 : Im) =>
  (i4 = 0 →
  Q (-2) M3) ∧
  (¬ i4 = 0 →
  sp_X5_guessOf x0 i2 x3 M3 (fun (i6 : Int) (M5 : Im) =>
  Q i6 M5)))) ∧
  (i2 < 0 →
  Q (-1) M1))
def sp_Jxe99ae_isNaN_b9ae7 (x0 : UInt64) (M : Im) (Q : Int → Im → Prop) : Prop :=
  (((Op.cmpValue (FP.dcmp x0 x0) CmpOp.l).toInt) = 0 →
  ((0 : Int) = 0 ∨ (0 : Int) = 1) ∧
  Q 0 M) ∧
  (¬ ((Op.cmpValue (FP.dcmp x0 x0) CmpOp.l).toInt) = 0 →
  ((1 : Int) = 0 ∨ (1 : Int) = 1) ∧
  Q 1 M)
def sp_Jxe99ae_doubleToLongBits_ccdee (x0 : UInt64) (M : Im) (Q : Int → Im → Prop) : Prop :=
  sp_Jxe99ae_isNaN_b9ae7 x0 M (fun (i2 : Int) (M1 : Im) =>
  (¬ i2 = 0 →
  Q 9221120237041090560 M1) ∧
  (i2 = 0 →
  Q ((x0).toInt64.toInt) M1))
def sp_X5_bits_51 (x0 : Nat) (x3 : Int) (t0 : Int) (M : Im) (Q : Int → Im → Prop) : Prop :=
  (0 ≤ x3 ∧ x3 < ((alen 80) : Int)) ∧
  ∀ f1 : UInt64, alike64 f1 (FP.ddiv (FP.l2d (lz t0)) (FP.l2d (lz (gL M 80 x3.toNat)))) = true →
  sp_Jxe99ae_doubleToLongBits_ccdee f1 M (fun (j3 : Int) (M2 : Im) =>
  Q j3 M2)
def sp_X5_bits (x0 : Nat) (x1 : Int) (x2 : Int) (M : Im) (Q : Int → Im → Prop) : Prop :=
  iO M x0 5 ∧
  sp_X5_pieceOf x0 (-1) x1 M (fun (i5 : Int) (M4 : Im) =>
  (i5 < 0 →
  Q 0 M4) ∧
  (0 ≤ i5 →
  (0 ≤ i5 ∧ i5 < ((alen 74) : Int)) ∧
  (¬ (gI M4 74 i5.toNat) = 2 →
  Q 0 M4) ∧
  ((gI M4 74 i5.toNat) = 2 →
  (x2 < 0 →
  Q 0 M4) ∧
  (0 ≤ x2 →
  (x2 ≤ 1 →
  (¬ x2 = 0 →
  (0 ≤ i5 ∧ i5 < ((alen 81) : Int)) ∧
  sp_X5_bits_51 x0 i5 (gL M4 81 i5.toNat) M4 Q) ∧
  (x2 = 0 →
  (0 ≤ i5 ∧ i5 < ((alen 79) : Int)) ∧
  sp_X5_bits_51 x0 i5 (gL M4 79 i5.toNat) M4 Q)) ∧
  (1 < x2 →
  Q 0 M4)))))
def sp_X5_key_39 (x0 : Nat) (x2 : Int) (x3 : Int) (x4 : Int) (t0 : Int) (t1 : Int) (M : Im) (Q : Int → Im → Prop) : Prop :=
  (t1 < t0 →
  (x3 = 0 →
  (0 ≤ x4 ∧ x4 < ((alen 75) : Int)) ∧
  (-2147483648 ≤ (gI M 75 x4.toNat) + x2 ∧ (gI M 75 x4.toNat) + x2 < 2147483648) ∧
  (0 ≤ (gI M 75 x4.toNat) + x2 ∧ (gI M 75 x4.toNat) + x2 < ((alen 82) : Int)) ∧
  (-2147483648 ≤ (gI M 75 x4.toNat) + x2 ∧ (gI M 75 x4.toNat) + x2 < 2147483648) ∧
  Q (gL M 82 ((gI M 75 x4.toNat) + x2).toNat) M) ∧
  (¬ x3 = 0 →
  (-2147483648 ≤ 16 * x4 ∧ 16 * x4 < 2147483648) ∧
  (-2147483648 ≤ (16 * x4) + x2 ∧ (16 * x4) + x2 < 2147483648) ∧
  (0 ≤ (16 * x4) + x2 ∧ (16 * x4) + x2 < ((alen 83) : Int)) ∧
  (-2147483648 ≤ 16 * x4 ∧ 16 * x4 < 2147483648) ∧
  (-2147483648 ≤ (16 * x4) + x2 ∧ (16 * x4) + x2 < 2147483648) ∧
  Q (gL M 83 ((16 * x4) + x2).toNat) M)) ∧
  (t0 ≤ t1 →
  Q (-9223372036854775808) M)
def sp_X5_key (x0 : Nat) (x1 : Int) (x2 : Int) (x3 : Int) (M : Im) (Q : Int → Im → Prop) : Prop :=
  iO M x0 5 ∧
  sp_X5_pieceOf x0 (-1) x1 M (fun (i2 : Int) (M1 : Im) =>
  (i2 < 0 →
  Q (-9223372036854775808) M1) ∧
  (0 ≤ i2 →
  (x2 < 0 →
  Q (-9223372036854775808) M1) ∧
  (0 ≤ x2 →
  (x3 = 0 →
  (0 ≤ i2 ∧ i2 < ((alen 76) : Int)) ∧
  sp_X5_key_39 x0 x2 x3 i2 (gI M1 76 i2.toNat) x2 M1 Q) ∧
  (¬ x3 = 0 →
  (0 ≤ i2 ∧ i2 < ((alen 78) : Int)) ∧
  sp_X5_key_39 x0 x2 x3 i2 (gI M1 78 i2.toNat) x2 M1 Q))))
def sp_X5_count (x0 : Nat) (x1 : Int) (M : Im) (Q : Int → Im → Prop) : Prop :=
  iO M x0 5 ∧
  (x1 = 0 →
  Q (gI M x0 1) M) ∧
  (x1 = 1 →
  Q (gI M x0 2) M) ∧
  (x1 = 2 →
  sp_X5_there x0 M (fun (i2 : Int) (M1 : Im) =>
  Q i2 M1)) ∧
  (x1 = 3 →
  Q (gI M x0 24) M) ∧
  (x1 = 4 →
  Q (gI M x0 25) M) ∧
  (¬ x1 = 0 → ¬ x1 = 1 → ¬ x1 = 2 → ¬ x1 = 3 → ¬ x1 = 4 →
  Q (-1) M)
