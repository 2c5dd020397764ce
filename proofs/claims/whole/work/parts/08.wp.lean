/-! the weakest preconditions of all methods, by program (gen_walk.py) -/
def wp_X0_init (x0 : Nat) (M : Mem) (Q : Mem → Prop) : Prop :=
  isO M x0 0 ∧
  Q M
def wp_X0_beFlat (x0 : Nat) (x1 : Int32) (M : Mem) (Q : Mem → Prop) : Prop :=
  isO M x0 0 ∧
  ∀ M1 : Mem, M1 = sI M x0 0 (0 : Int32) →
  ∀ M2 : Mem, M2 = sI M1 x0 1 x1 →
  ∀ M3 : Mem, M3 = sL M2 x0 6 (0 : Int64) →
  ∀ M4 : Mem, M4 = sL M3 x0 7 (1 : Int64) →
  ∀ M5 : Mem, M5 = sL M4 x0 8 (0 : Int64) →
  Q M5
def wp_X0_beLike (x0 : Nat) (x1 : Option Nat) (M : Mem) (Q : Mem → Prop) : Prop :=
  isO M x0 0 ∧
  ∃ a1 : Nat, x1 = some a1 ∧ isO M a1 0 ∧
  ∀ M2 : Mem, M2 = sI M x0 0 (mI M a1 0) →
  ∀ M3 : Mem, M3 = sI M2 x0 1 (mI M2 a1 1) →
  ∀ M4 : Mem, M4 = sL M3 x0 6 (mL M3 a1 6) →
  ∀ M5 : Mem, M5 = sL M4 x0 7 (mL M4 a1 7) →
  ∀ M6 : Mem, M6 = sL M5 x0 8 (mL M5 a1 8) →
  ∀ M7 : Mem, M7 = sD M6 x0 9 (mD M6 a1 9) →
  ∀ M8 : Mem, M8 = sD M7 x0 10 (mD M7 a1 10) →
  Q M8
def wp_X0_roundedDown_17 (t0 : Int64) (M : Mem) (Q : Int64 → Mem → Prop) : Prop :=
  Q t0 M
def wp_X0_roundedDown (x0 : UInt64) (M : Mem) (Q : Int64 → Mem → Prop) : Prop :=
  ∀ j1 : Int64, j1 = FP.d2l x0 →
  ((Op.cmpValue (FP.dcmp (FP.l2d j1) x0) CmpOp.l) ≤ 0 →
  wp_X0_roundedDown_17 j1 M Q) ∧
  (¬ (Op.cmpValue (FP.dcmp (FP.l2d j1) x0) CmpOp.l) ≤ 0 →
  wp_X0_roundedDown_17 (j1 - (1 : Int64)) M Q)
def wp_J9_floorDiv_f86c9_27 (x4 : Int64) (M : Mem) (Q : Int64 → Mem → Prop) : Prop :=
  Q x4 M
def wp_J9_floorDiv_f86c9 (x0 : Int64) (x2 : Int64) (M : Mem) (Q : Int64 → Mem → Prop) : Prop :=
  ¬ x2 = 0 ∧
  ∀ j1 : Int64, j1 = x0 / x2 →
  ((0 : Int64) ≤ (x0 ^^^ x2) →
  wp_J9_floorDiv_f86c9_27 j1 M Q) ∧
  (¬ (0 : Int64) ≤ (x0 ^^^ x2) →
  ((j1 * x2) = x0 →
  wp_J9_floorDiv_f86c9_27 j1 M Q) ∧
  (¬ (j1 * x2) = x0 →
  Q (j1 - (1 : Int64)) M))
def wp_J9_min_f86c9_11 (t0 : Int64) (M : Mem) (Q : Int64 → Mem → Prop) : Prop :=
  Q t0 M
def wp_J9_min_f86c9 (x0 : Int64) (x2 : Int64) (M : Mem) (Q : Int64 → Mem → Prop) : Prop :=
  (x2 < x0 →
  wp_J9_min_f86c9_11 x2 M Q) ∧
  (¬ x2 < x0 →
  wp_J9_min_f86c9_11 x0 M Q)
def wp_J9_max_f86c9_11 (t0 : Int64) (M : Mem) (Q : Int64 → Mem → Prop) : Prop :=
  Q t0 M
def wp_J9_max_f86c9 (x0 : Int64) (x2 : Int64) (M : Mem) (Q : Int64 → Mem → Prop) : Prop :=
  (x0 < x2 →
  wp_J9_max_f86c9_11 x2 M Q) ∧
  (¬ x0 < x2 →
  wp_J9_max_f86c9_11 x0 M Q)
def wp_X0_guessAway_16  (M : Mem) (Q : Int32 → Mem → Prop) : Prop :=
  Q (0 : Int32) M
def wp_X0_guessAway_62 (x0 : Nat) (t0 : Int64) (M : Mem) (Q : Int32 → Mem → Prop) : Prop :=
  wp_J9_min_f86c9 t0 (((mI M x0 3).toInt64) - (1 : Int64)) M (fun (j2 : Int64) (M1 : Mem) =>
  wp_J9_max_f86c9 (0 : Int64) j2 M1 (fun (j4 : Int64) (M3 : Mem) =>
  Q j4.toInt32 M3))
def wp_X0_guessAway (x0 : Nat) (x1 : Int64) (M : Mem) (Q : Int32 → Mem → Prop) : Prop :=
  isO M x0 0 ∧
  ((mI M x0 0) = 0 →
  wp_X0_guessAway_16 M Q) ∧
  (¬ (mI M x0 0) = 0 →
  ((1 : Int64) ≤ (mL M x0 7) →
  (¬ (mI M x0 0) = (2 : Int32) →
  wp_J9_floorDiv_f86c9 ((mL M x0 8) + ((mL M x0 6) * x1)) (mL M x0 7) M (fun (j6 : Int64) (M5 : Mem) =>
  wp_X0_guessAway_62 x0 j6 M5 Q)) ∧
  ((mI M x0 0) = (2 : Int32) →
  ∀ f7 : UInt64, alike64 f7 (FP.dmul (mD M x0 9) (FP.l2d x1)) = true →
  ∀ f8 : UInt64, alike64 f8 (FP.dadd (mD M x0 10) f7) = true →
  wp_X0_roundedDown f8 M (fun (j10 : Int64) (M9 : Mem) =>
  wp_X0_guessAway_62 x0 j10 M9 Q))) ∧
  (¬ (1 : Int64) ≤ (mL M x0 7) →
  wp_X0_guessAway_16 M Q))
def wp_X1_init (x0 : Nat) (M : Mem) (Q : Mem → Prop) : Prop :=
  isO M x0 1 ∧
  ∀ M1 : Mem, M1 = sL M x0 0 (-1 : Int64) →
  ∀ M2 : Mem, M2 = sL M1 x0 1 (0 : Int64) →
  ∀ M3 : Mem, M3 = sL M2 x0 2 (1 : Int64) →
  ∀ M4 : Mem, M4 = sL M3 x0 3 (0 : Int64) →
  ∀ M5 : Mem, M5 = sI M4 x0 4 (0 : Int32) →
  Q M5
def wp_X1_forget (x0 : Nat) (M : Mem) (Q : Mem → Prop) : Prop :=
  isO M x0 1 ∧
  ∀ M1 : Mem, M1 = sL M x0 0 (-1 : Int64) →
  ∀ M2 : Mem, M2 = sL M1 x0 1 (0 : Int64) →
  ∀ M3 : Mem, M3 = sL M2 x0 2 (1 : Int64) →
  ∀ M4 : Mem, M4 = sL M3 x0 3 (0 : Int64) →
  ∀ M5 : Mem, M5 = sI M4 x0 4 (0 : Int32) →
  Q M5
def wp_X1_narrow_15  (M : Mem) (Q : Mem → Prop) : Prop :=
  Q M
def wp_X1_narrow_112  (M : Mem) (Q : Mem → Prop) : Prop :=
  Q M
def wp_X1_narrow_82 (x0 : Nat) (x5 : Int64) (x9 : Int64) (M : Mem) (Q : Mem → Prop) : Prop :=
  ((x9 * (mL M x0 1)) ≤ ((mL M x0 0) * x5) →
  wp_X1_narrow_112 M Q) ∧
  (¬ (x9 * (mL M x0 1)) ≤ ((mL M x0 0) * x5) →
  ∀ M1 : Mem, M1 = sL M x0 0 x9 →
  ∀ M2 : Mem, M2 = sL M1 x0 1 x5 →
  wp_X1_narrow_112 M2 Q)
def wp_X1_narrow (x0 : Nat) (x1 : Option Nat) (x2 : Int32) (x3 : Int32) (x4 : Int32) (M : Mem) (Q : Mem → Prop) : Prop :=
  isO M x0 1 ∧
  (x2 < 0 →
  wp_X1_narrow_15 M Q) ∧
  (¬ x2 < 0 →
  (x3 ≤ x2 →
  wp_X1_narrow_15 M Q) ∧
  (¬ x3 ≤ x2 →
  ∃ a3 : Nat, x1 = some a3 ∧ isA M a3 .long ∧
  (x3 < (Int32.ofNat (alen a3)) →
  inb x3 (alen a3) ∧
  inb x2 (alen a3) ∧
  ∀ j4 : Int64, j4 = (mL M a3 x3.toNatClampNeg) - (mL M a3 x2.toNatClampNeg) →
  ∀ j5 : Int64, j5 = ((x3 - x2) + ((2 : Int32) * x4)).toInt64 →
  ∀ j6 : Int64, j6 = ((x3 - x2) - ((2 : Int32) * x4)).toInt64 →
  (((mL M x0 2) * j4) ≤ (j5 * (mL M x0 3)) →
  wp_X1_narrow_82 x0 j4 j6 M Q) ∧
  (¬ ((mL M x0 2) * j4) ≤ (j5 * (mL M x0 3)) →
  ∀ M7 : Mem, M7 = sL M x0 2 j5 →
  ∀ M8 : Mem, M8 = sL M7 x0 3 j4 →
  ∀ M9 : Mem, M9 = sI M8 x0 4 x2 →
  wp_X1_narrow_82 x0 j4 j6 M9 Q)) ∧
  (¬ x3 < (Int32.ofNat (alen a3)) →
  wp_X1_narrow_15 M Q)))
def wp_X1_leaveSome_27 (t0 : Int32) (M : Mem) (Q : Int32 → Mem → Prop) : Prop :=
  (t0 = 0 ∨ t0 = 1) ∧ Q t0 M
def wp_X1_leaveSome (x0 : Nat) (M : Mem) (Q : Int32 → Mem → Prop) : Prop :=
  isO M x0 1 ∧
  (((mL M x0 2) * (mL M x0 1)) < ((mL M x0 0) * (mL M x0 3)) →
  wp_X1_leaveSome_27 (0 : Int32) M Q) ∧
  (¬ ((mL M x0 2) * (mL M x0 1)) < ((mL M x0 0) * (mL M x0 3)) →
  wp_X1_leaveSome_27 (1 : Int32) M Q)
def wp_X1_admit_21 (n : Nat) (x0 : Nat) (x1 : Option Nat) (x3 : Int32) (x4 : Int32) (x5 : Int64) (x7 : Int64) (x9 : Int32) (x10 : Int32) (M : Mem) (Q : Int32 → Mem → Prop) (K43 : Nat → Int64 → Int64 → Int32 → Mem → Prop) : Prop := match n with
  | 0 => False
  | n + 1 =>
  (x3 ≤ x10 →
  K43 x0 x5 x7 x9 M) ∧
  (¬ x3 ≤ x10 →
  wp_X1_narrow x0 x1 x10 x3 x4 M (fun (M1 : Mem) =>
  ∀ i2 : Int32, i2 = x10 + (1 : Int32) →
  wp_X1_admit_21 n x0 x1 x3 x4 x5 x7 x9 i2 M1 Q K43))
def wp_X1_admit_43 (x0 : Nat) (x5 : Int64) (x7 : Int64) (x9 : Int32) (M : Mem) (Q : Int32 → Mem → Prop) : Prop :=
  wp_X1_leaveSome x0 M (fun (i4 : Int32) (M3 : Mem) =>
  (i4 = 0 →
  ∀ M5 : Mem, M5 = sL M3 x0 2 x5 →
  ∀ M6 : Mem, M6 = sL M5 x0 3 x7 →
  ∀ M7 : Mem, M7 = sI M6 x0 4 x9 →
  Q (0 : Int32) M7) ∧
  (¬ i4 = 0 →
  Q (1 : Int32) M3))
def wp_X1_admit (x0 : Nat) (x1 : Option Nat) (x2 : Int32) (x3 : Int32) (x4 : Int32) (M : Mem) (Q : Int32 → Mem → Prop) : Prop :=
  isO M x0 1 ∧
  ∀ j8 : Int64, j8 = mL M x0 2 →
  ∀ j9 : Int64, j9 = mL M x0 3 →
  ∀ i10 : Int32, i10 = mI M x0 4 →
  ∃ k21, wp_X1_admit_21 k21 x0 x1 x3 x4 j8 j9 i10 x2 M Q (fun (x0 : Nat) (x5 : Int64) (x7 : Int64) (x9 : Int32) (M : Mem) => wp_X1_admit_43 x0 x5 x7 x9 M Q)
def wp_X1_endOfSpan_9 (n : Nat) (x0 : Nat) (x1 : Option Nat) (x2 : Int32) (x3 : Int32) (x4 : Int32) (x5 : Int32) (M : Mem) (Q : Int32 → Mem → Prop) (K34 : Int32 → Mem → Prop) : Prop := match n with
  | 0 => False
  | n + 1 =>
  (x3 ≤ x5 →
  K34 x5 M) ∧
  (¬ x3 ≤ x5 →
  wp_X1_admit x0 x1 x2 x5 x4 M (fun (i2 : Int32) (M1 : Mem) =>
  (i2 = 0 →
  K34 x5 M1) ∧
  (¬ i2 = 0 →
  ∀ i3 : Int32, i3 = x5 + (1 : Int32) →
  wp_X1_endOfSpan_9 n x0 x1 x2 x3 x4 i3 M1 Q K34)))
def wp_X1_endOfSpan_34 (x5 : Int32) (M : Mem) (Q : Int32 → Mem → Prop) : Prop :=
  Q x5 M
def wp_X1_endOfSpan (x0 : Nat) (x1 : Option Nat) (x2 : Int32) (x3 : Int32) (x4 : Int32) (M : Mem) (Q : Int32 → Mem → Prop) : Prop :=
  isO M x0 1 ∧
  wp_X1_forget x0 M (fun (M4 : Mem) =>
  ∀ i5 : Int32, i5 = x2 + (1 : Int32) →
  ∃ k9, wp_X1_endOfSpan_9 k9 x0 x1 x2 x3 x4 i5 M4 Q (fun (x5 : Int32) (M : Mem) => wp_X1_endOfSpan_34 x5 M Q))
def wp_X1_passThree (x0 : Nat) (x1 : Option Nat) (x2 : Int32) (x3 : Int32) (x4 : Int32) (x5 : Int32) (M : Mem) (Q : Int32 → Mem → Prop) : Prop :=
  isO M x0 1 ∧
  wp_X1_forget x0 M (fun (M1 : Mem) =>
  wp_X1_narrow x0 x1 x2 x3 x5 M1 (fun (M2 : Mem) =>
  wp_X1_narrow x0 x1 x2 x4 x5 M2 (fun (M3 : Mem) =>
  wp_X1_narrow x0 x1 x3 x4 x5 M3 (fun (M4 : Mem) =>
  wp_X1_leaveSome x0 M4 (fun (i6 : Int32) (M5 : Mem) =>
  (i6 = 0 ∨ i6 = 1) ∧ Q i6 M5)))))
def wp_X1_commonDivisor_9 (n : Nat) (x4 : Int64) (x6 : Int64) (x8 : Int32) (M : Mem) (Q : Int64 → Mem → Prop) (K44 : Int64 → Mem → Prop) : Prop := match n with
  | 0 => False
  | n + 1 =>
  ((100 : Int32) ≤ x8 →
  K44 x4 M) ∧
  (¬ (100 : Int32) ≤ x8 →
  (x6 = (0 : Int64) →
  K44 x4 M) ∧
  (¬ x6 = (0 : Int64) →
  ¬ x6 = 0 ∧
  ∀ j1 : Int64, j1 = x4 - x4 / x6 * x6 →
  ∀ i2 : Int32, i2 = x8 + (1 : Int32) →
  wp_X1_commonDivisor_9 n x6 j1 i2 M Q K44))
def wp_X1_commonDivisor_44 (x4 : Int64) (M : Mem) (Q : Int64 → Mem → Prop) : Prop :=
  Q x4 M
def wp_X1_commonDivisor (x0 : Int64) (x2 : Int64) (M : Mem) (Q : Int64 → Mem → Prop) : Prop :=
  ∃ k9, wp_X1_commonDivisor_9 k9 x0 x2 (0 : Int32) M Q (fun (x4 : Int64) (M : Mem) => wp_X1_commonDivisor_44 x4 M Q)
def wp_X1_tellLine_41  (M : Mem) (Q : Mem → Prop) : Prop :=
  Q M
def wp_X1_tellLine (x0 : Nat) (x1 : Option Nat) (x2 : Option Nat) (x3 : Int32) (x4 : Int32) (M : Mem) (Q : Mem → Prop) : Prop :=
  isO M x0 1 ∧
  wp_X1_commonDivisor (mL M x0 2) (mL M x0 3) M (fun (j2 : Int64) (M1 : Mem) =>
  (j2 < (1 : Int64) →
  wp_X1_tellLine_41 M1 Q) ∧
  (¬ j2 < (1 : Int64) →
  (x3 < 0 →
  wp_X1_tellLine_41 M1 Q) ∧
  (¬ x3 < 0 →
  ((mI M1 x0 4) < x3 →
  wp_X1_tellLine_41 M1 Q) ∧
  (¬ (mI M1 x0 4) < x3 →
  ∃ a3 : Nat, x2 = some a3 ∧ isA M1 a3 .long ∧
  ((mI M1 x0 4) < (Int32.ofNat (alen a3)) →
  ¬ j2 = 0 ∧
  ∃ a4 : Nat, x1 = some a4 ∧ isO M1 a4 0 ∧
  ∀ M5 : Mem, M5 = sL M1 a4 6 ((mL M1 x0 2) / j2) →
  ¬ j2 = 0 ∧
  ∀ M6 : Mem, M6 = sL M5 a4 7 ((mL M5 x0 3) / j2) →
  ∀ j7 : Int64, j7 = ((mI M6 x0 4) - x3).toInt64 →
  inb (mI M6 x0 4) (alen a3) ∧
  inb x3 (alen a3) ∧
  ∀ M8 : Mem, M8 = sL M6 a4 8 (((mL M6 a4 7) * (j7 - x4.toInt64)) - ((mL M6 a4 6) * ((mL M6 a3 (mI M6 x0 4).toNatClampNeg) - (mL M6 a3 x3.toNatClampNeg)))) →
  Q M8) ∧
  (¬ (mI M1 x0 4) < (Int32.ofNat (alen a3)) →
  wp_X1_tellLine_41 M1 Q)))))
def wp_X2_init_74 (t0 : Int32) (t1 : Nat) (M : Mem) (Q : Mem → Prop) : Prop :=
  ¬ t0 < 0 ∧ mz M < ZMAX ∧ shp (mz M) = .inl (.object "LeaningIndex$Piece", t0.toNatClampNeg) ∧ t0.toNatClampNeg * 8 ≤ 536870912 ∧
  ∀ (a10 : Nat) (M11 : Mem), a10 = mz M → M11 = nw M →
  ∀ M12 : Mem, M12 = sR M11 t1 3 (some a10) →
  Q M12
def wp_X2_init_59 (x0 : Nat) (x1 : Int32) (t0 : Int32) (t1 : Nat) (M : Mem) (Q : Mem → Prop) : Prop :=
  ¬ t0 < 0 ∧ mz M < ZMAX ∧ shp (mz M) = .inl (.long, t0.toNatClampNeg) ∧ t0.toNatClampNeg * 8 ≤ 536870912 ∧
  ∀ (a7 : Nat) (M8 : Mem), a7 = mz M → M8 = nw M →
  ∀ M9 : Mem, M9 = sR M8 t1 2 (some a7) →
  (x1 ≤ 0 →
  wp_X2_init_74 (0 : Int32) x0 M9 Q) ∧
  (¬ x1 ≤ 0 →
  wp_X2_init_74 x1 x0 M9 Q)
def wp_X2_init_44 (x0 : Nat) (x1 : Int32) (x2 : Int32) (t0 : Int32) (t1 : Nat) (M : Mem) (Q : Mem → Prop) : Prop :=
  ¬ t0 < 0 ∧ mz M < ZMAX ∧ shp (mz M) = .inl (.boolean, t0.toNatClampNeg) ∧ t0.toNatClampNeg * 8 ≤ 536870912 ∧
  ∀ (a4 : Nat) (M5 : Mem), a4 = mz M → M5 = nw M →
  ∀ M6 : Mem, M6 = sR M5 t1 1 (some a4) →
  (x2 ≤ 0 →
  wp_X2_init_59 x0 x1 (0 : Int32) x0 M6 Q) ∧
  (¬ x2 ≤ 0 →
  wp_X2_init_59 x0 x1 x2 x0 M6 Q)
def wp_X2_init_29 (x0 : Nat) (x1 : Int32) (x2 : Int32) (t0 : Int32) (t1 : Nat) (M : Mem) (Q : Mem → Prop) : Prop :=
  ¬ t0 < 0 ∧ mz M < ZMAX ∧ shp (mz M) = .inl (.long, t0.toNatClampNeg) ∧ t0.toNatClampNeg * 8 ≤ 536870912 ∧
  ∀ (a1 : Nat) (M2 : Mem), a1 = mz M → M2 = nw M →
  ∀ M3 : Mem, M3 = sR M2 t1 0 (some a1) →
  (x1 ≤ 0 →
  wp_X2_init_44 x0 x1 x2 (0 : Int32) x0 M3 Q) ∧
  (¬ x1 ≤ 0 →
  wp_X2_init_44 x0 x1 x2 x1 x0 M3 Q)
def wp_X2_init (x0 : Nat) (x1 : Int32) (x2 : Int32) (M : Mem) (Q : Mem → Prop) : Prop :=
  isO M x0 2 ∧
  ∀ M13 : Mem, M13 = sI M x0 4 (0 : Int32) →
  ∀ M14 : Mem, M14 = sI M13 x0 5 (0 : Int32) →
  ∀ M15 : Mem, M15 = sI M14 x0 6 (0 : Int32) →
  (x1 ≤ 0 →
  wp_X2_init_29 x0 x1 x2 (0 : Int32) x0 M15 Q) ∧
  (¬ x1 ≤ 0 →
  wp_X2_init_29 x0 x1 x2 x1 x0 M15 Q)
def wp_X2_empty (x0 : Nat) (M : Mem) (Q : Mem → Prop) : Prop :=
  isO M x0 2 ∧
  ∀ M1 : Mem, M1 = sI M x0 4 (0 : Int32) →
  ∀ M2 : Mem, M2 = sI M1 x0 5 (0 : Int32) →
  ∀ M3 : Mem, M3 = sI M2 x0 6 (0 : Int32) →
  Q M3
def wp_X2_isFull_34 (t0 : Int32) (M : Mem) (Q : Int32 → Mem → Prop) : Prop :=
  (t0 = 0 ∨ t0 = 1) ∧ Q t0 M
def wp_X2_isFull_29  (M : Mem) (Q : Int32 → Mem → Prop) : Prop :=
  wp_X2_isFull_34 (1 : Int32) M Q
def wp_X2_isFull (x0 : Nat) (M : Mem) (Q : Int32 → Mem → Prop) : Prop :=
  isO M x0 2 ∧
  ((Int32.ofNat (alen (x0 + 1))) ≤ ((mI M x0 4) + (mI M x0 5)) →
  wp_X2_isFull_29 M Q) ∧
  (¬ (Int32.ofNat (alen (x0 + 1))) ≤ ((mI M x0 4) + (mI M x0 5)) →
  ((mI M x0 5) < (Int32.ofNat (alen (x0 + 3))) →
  wp_X2_isFull_34 (0 : Int32) M Q) ∧
  (¬ (mI M x0 5) < (Int32.ofNat (alen (x0 + 3))) →
  wp_X2_isFull_29 M Q))
def wp_X2_pieceAt_22 (t0 : Option Nat) (M : Mem) (Q : Option Nat → Mem → Prop) : Prop :=
  Q t0 M
def wp_X2_pieceAt_21  (M : Mem) (Q : Option Nat → Mem → Prop) : Prop :=
  wp_X2_pieceAt_22 none M Q
def wp_X2_pieceAt (x0 : Nat) (x1 : Int32) (M : Mem) (Q : Option Nat → Mem → Prop) : Prop :=
  isO M x0 2 ∧
  (x1 < 0 →
  wp_X2_pieceAt_21 M Q) ∧
  (¬ x1 < 0 →
  ((mI M x0 6) ≤ x1 →
  wp_X2_pieceAt_21 M Q) ∧
  (¬ (mI M x0 6) ≤ x1 →
  inb x1 (alen (x0 + 4)) ∧
  ∀ r1 : Option Nat, r1 = mR M (x0 + 4) x1.toNatClampNeg →
  wp_X2_pieceAt_22 r1 M Q))
def wp_X2_keyOf_43 (t0 : Int64) (M : Mem) (Q : Int64 → Mem → Prop) : Prop :=
  Q t0 M
def wp_X2_keyOf_40  (M : Mem) (Q : Int64 → Mem → Prop) : Prop :=
  wp_X2_keyOf_43 (-9223372036854775808 : Int64) M Q
def wp_X2_keyOf (x0 : Nat) (x1 : Option Nat) (x2 : Int32) (M : Mem) (Q : Int64 → Mem → Prop) : Prop :=
  isO M x0 2 ∧
  ∃ a1 : Nat, x1 = some a1 ∧ isO M a1 0 ∧
  ∀ i2 : Int32, i2 = (mI M a1 2) + x2 →
  (x2 < 0 →
  wp_X2_keyOf_40 M Q) ∧
  (¬ x2 < 0 →
  ((mI M a1 3) ≤ x2 →
  wp_X2_keyOf_40 M Q) ∧
  (¬ (mI M a1 3) ≤ x2 →
  (i2 < 0 →
  wp_X2_keyOf_40 M Q) ∧
  (¬ i2 < 0 →
  ((mI M x0 4) ≤ i2 →
  wp_X2_keyOf_40 M Q) ∧
  (¬ (mI M x0 4) ≤ i2 →
  inb i2 (alen (x0 + 1)) ∧
  wp_X2_keyOf_43 (mL M (x0 + 1) i2.toNatClampNeg) M Q))))
def wp_X2_lateOf_43 (t0 : Int64) (M : Mem) (Q : Int64 → Mem → Prop) : Prop :=
  Q t0 M
def wp_X2_lateOf_40  (M : Mem) (Q : Int64 → Mem → Prop) : Prop :=
  wp_X2_lateOf_43 (-9223372036854775808 : Int64) M Q
def wp_X2_lateOf (x0 : Nat) (x1 : Option Nat) (x2 : Int32) (M : Mem) (Q : Int64 → Mem → Prop) : Prop :=
  isO M x0 2 ∧
  ∃ a1 : Nat, x1 = some a1 ∧ isO M a1 0 ∧
  ∀ i2 : Int32, i2 = (mI M a1 4) + x2 →
  (x2 < 0 →
  wp_X2_lateOf_40 M Q) ∧
  (¬ x2 < 0 →
  ((mI M a1 5) ≤ x2 →
  wp_X2_lateOf_40 M Q) ∧
  (¬ (mI M a1 5) ≤ x2 →
  (i2 < 0 →
  wp_X2_lateOf_40 M Q) ∧
  (¬ i2 < 0 →
  ((mI M x0 5) ≤ i2 →
  wp_X2_lateOf_40 M Q) ∧
  (¬ (mI M x0 5) ≤ i2 →
  inb i2 (alen (x0 + 3)) ∧
  wp_X2_lateOf_43 (mL M (x0 + 3) i2.toNatClampNeg) M Q))))
def wp_X2_isDropped_45 (t0 : Int32) (M : Mem) (Q : Int32 → Mem → Prop) : Prop :=
  (t0 = 0 ∨ t0 = 1) ∧ Q t0 M
def wp_X2_isDropped_44  (M : Mem) (Q : Int32 → Mem → Prop) : Prop :=
  wp_X2_isDropped_45 (0 : Int32) M Q
def wp_X2_isDropped (x0 : Nat) (x1 : Option Nat) (x2 : Int32) (M : Mem) (Q : Int32 → Mem → Prop) : Prop :=
  isO M x0 2 ∧
  ∃ a1 : Nat, x1 = some a1 ∧ isO M a1 0 ∧
  ∀ i2 : Int32, i2 = (mI M a1 2) + x2 →
  (x2 < 0 →
  wp_X2_isDropped_44 M Q) ∧
  (¬ x2 < 0 →
  ((mI M a1 3) ≤ x2 →
  wp_X2_isDropped_44 M Q) ∧
  (¬ (mI M a1 3) ≤ x2 →
  (i2 < 0 →
  wp_X2_isDropped_44 M Q) ∧
  (¬ i2 < 0 →
  ((mI M x0 4) ≤ i2 →
  wp_X2_isDropped_44 M Q) ∧
  (¬ (mI M x0 4) ≤ i2 →
  inb i2 (alen (x0 + 2)) ∧
  ((mI M (x0 + 2) i2.toNatClampNeg) = 0 →
  wp_X2_isDropped_44 M Q) ∧
  (¬ (mI M (x0 + 2) i2.toNatClampNeg) = 0 →
  wp_X2_isDropped_45 (1 : Int32) M Q)))))
def wp_X2_countDropped_27 (x0 : Nat) (x1 : Nat) (x3 : Int32) (t0 : Int32) (t1 : Int32) (M : Mem) (Q : Int32 → Mem → Prop) (K4 : Nat → Option Nat → Int32 → Int32 → Mem → Prop) (K35 : Int32 → Mem → Prop) : Prop :=
  ∀ i4 : Int32, i4 = t1 + t0 →
  ∀ i5 : Int32, i5 = x3 + (1 : Int32) →
  K4 x0 (some x1) i4 i5 M
def wp_X2_countDropped_35 (x2 : Int32) (M : Mem) (Q : Int32 → Mem → Prop) : Prop :=
  Q x2 M
def wp_X2_countDropped_4 (n : Nat) (x0 : Nat) (x1 : Option Nat) (x2 : Int32) (x3 : Int32) (M : Mem) (Q : Int32 → Mem → Prop) (K35 : Int32 → Mem → Prop) : Prop := match n with
  | 0 => False
  | n + 1 =>
  ∃ a1 : Nat, x1 = some a1 ∧ isO M a1 0 ∧
  ((mI M a1 3) ≤ x3 →
  K35 x2 M) ∧
  (¬ (mI M a1 3) ≤ x3 →
  wp_X2_isDropped x0 (some a1) x3 M (fun (i3 : Int32) (M2 : Mem) =>
  (i3 = 0 →
  wp_X2_countDropped_27 x0 a1 x3 (0 : Int32) x2 M2 Q (fun (x0 : Nat) (x1 : Option Nat) (x2 : Int32) (x3 : Int32) (M : Mem) => wp_X2_countDropped_4 n x0 x1 x2 x3 M Q K35) K35) ∧
  (¬ i3 = 0 →
  wp_X2_countDropped_27 x0 a1 x3 (1 : Int32) x2 M2 Q (fun (x0 : Nat) (x1 : Option Nat) (x2 : Int32) (x3 : Int32) (M : Mem) => wp_X2_countDropped_4 n x0 x1 x2 x3 M Q K35) K35)))
def wp_X2_countDropped (x0 : Nat) (x1 : Option Nat) (M : Mem) (Q : Int32 → Mem → Prop) : Prop :=
  isO M x0 2 ∧
  ∃ k4, wp_X2_countDropped_4 k4 x0 x1 (0 : Int32) (0 : Int32) M Q (fun (x2 : Int32) (M : Mem) => wp_X2_countDropped_35 x2 M Q)
def wp_J9_abs_0f7a4_10 (t0 : Int32) (M : Mem) (Q : Int32 → Mem → Prop) : Prop :=
  Q t0 M
def wp_J9_abs_0f7a4 (x0 : Int32) (M : Mem) (Q : Int32 → Mem → Prop) : Prop :=
  (0 ≤ x0 →
  wp_J9_abs_0f7a4_10 x0 M Q) ∧
  (¬ 0 ≤ x0 →
  wp_J9_abs_0f7a4_10 (-x0) M Q)
def wp_J9_max_7cf53_10 (t0 : Int32) (M : Mem) (Q : Int32 → Mem → Prop) : Prop :=
  Q t0 M
def wp_J9_max_7cf53 (x0 : Int32) (x1 : Int32) (M : Mem) (Q : Int32 → Mem → Prop) : Prop :=
  (x0 < x1 →
  wp_J9_max_7cf53_10 x1 M Q) ∧
  (¬ x0 < x1 →
  wp_J9_max_7cf53_10 x0 M Q)
def wp_X2_greatestMiss_13 (n : Nat) (x0 : Nat) (x1 : Option Nat) (x2 : Int64) (x4 : Int32) (x5 : Int32) (M : Mem) (Q : Int32 → Mem → Prop) (K58 : Int32 → Mem → Prop) : Prop := match n with
  | 0 => False
  | n + 1 =>
  ∃ a1 : Nat, x1 = some a1 ∧ isO M a1 0 ∧
  ((mI M a1 3) ≤ x5 →
  K58 x4 M) ∧
  (¬ (mI M a1 3) ≤ x5 →
  wp_X2_keyOf x0 (some a1) x5 M (fun (j3 : Int64) (M2 : Mem) =>
  wp_X0_guessAway a1 (j3 - x2) M2 (fun (i5 : Int32) (M4 : Mem) =>
  wp_J9_abs_0f7a4 (i5 - x5) M4 (fun (i7 : Int32) (M6 : Mem) =>
  wp_J9_max_7cf53 x4 i7 M6 (fun (i9 : Int32) (M8 : Mem) =>
  ∀ i10 : Int32, i10 = x5 + (1 : Int32) →
  wp_X2_greatestMiss_13 n x0 (some a1) x2 i9 i10 M8 Q K58)))))
def wp_X2_greatestMiss_58 (x4 : Int32) (M : Mem) (Q : Int32 → Mem → Prop) : Prop :=
  Q x4 M
def wp_X2_greatestMiss (x0 : Nat) (x1 : Option Nat) (M : Mem) (Q : Int32 → Mem → Prop) : Prop :=
  isO M x0 2 ∧
  wp_X2_keyOf x0 x1 (0 : Int32) M (fun (j12 : Int64) (M11 : Mem) =>
  ∃ k13, wp_X2_greatestMiss_13 k13 x0 x1 j12 (0 : Int32) (0 : Int32) M11 Q (fun (x4 : Int32) (M : Mem) => wp_X2_greatestMiss_58 x4 M Q))
def wp_X2_firstKeys_46 (x0 : Nat) (x1 : Nat) (x2 : Int32) (x3 : Int32) (t0 : Int64) (t1 : Int32) (t2 : Nat) (M : Mem) (Q : Int32 → Mem → Prop) (K4 : Nat → Option Nat → Int32 → Int32 → Mem → Prop) (K56 : Int32 → Mem → Prop) : Prop :=
  inb t1 (alen t2) ∧
  ∀ M6 : Mem, M6 = sL M t2 t1.toNatClampNeg t0 →
  ∀ i7 : Int32, i7 = x2 + (1 : Int32) →
  ∀ i8 : Int32, i8 = x3 + (1 : Int32) →
  K4 x0 (some x1) i7 i8 M6
def wp_X2_firstKeys_56 (x2 : Int32) (M : Mem) (Q : Int32 → Mem → Prop) : Prop :=
  Q x2 M
def wp_X2_firstKeys_4 (n : Nat) (x0 : Nat) (x1 : Option Nat) (x2 : Int32) (x3 : Int32) (M : Mem) (Q : Int32 → Mem → Prop) (K56 : Int32 → Mem → Prop) : Prop := match n with
  | 0 => False
  | n + 1 =>
  ((mI M x0 6) ≤ x3 →
  K56 x2 M) ∧
  (¬ (mI M x0 6) ≤ x3 →
  ∃ a1 : Nat, x1 = some a1 ∧ isA M a1 .long ∧
  ((Int32.ofNat (alen a1)) ≤ x3 →
  K56 x2 M) ∧
  (¬ (Int32.ofNat (alen a1)) ≤ x3 →
  inb x3 (alen (x0 + 4)) ∧
  ∀ r2 : Option Nat, r2 = mR M (x0 + 4) x3.toNatClampNeg →
  (r2 = none →
  wp_X2_firstKeys_46 x0 a1 x2 x3 (-9223372036854775808 : Int64) x3 a1 M Q (fun (x0 : Nat) (x1 : Option Nat) (x2 : Int32) (x3 : Int32) (M : Mem) => wp_X2_firstKeys_4 n x0 x1 x2 x3 M Q K56) K56) ∧
  (∀ a3 : Nat, r2 = some a3 →
  wp_X2_keyOf x0 (some a3) (0 : Int32) M (fun (j5 : Int64) (M4 : Mem) =>
  wp_X2_firstKeys_46 x0 a1 x2 x3 j5 x3 a1 M4 Q (fun (x0 : Nat) (x1 : Option Nat) (x2 : Int32) (x3 : Int32) (M : Mem) => wp_X2_firstKeys_4 n x0 x1 x2 x3 M Q K56) K56))))
def wp_X2_firstKeys (x0 : Nat) (x1 : Option Nat) (M : Mem) (Q : Int32 → Mem → Prop) : Prop :=
  isO M x0 2 ∧
  ∃ k4, wp_X2_firstKeys_4 k4 x0 x1 (0 : Int32) (0 : Int32) M Q (fun (x2 : Int32) (M : Mem) => wp_X2_firstKeys_56 x2 M Q)
def wp_J9_min_7cf53_10 (t0 : Int32) (M : Mem) (Q : Int32 → Mem → Prop) : Prop :=
  Q t0 M
def wp_J9_min_7cf53 (x0 : Int32) (x1 : Int32) (M : Mem) (Q : Int32 → Mem → Prop) : Prop :=
  (x1 < x0 →
  wp_J9_min_7cf53_10 x1 M Q) ∧
  (¬ x1 < x0 →
  wp_J9_min_7cf53_10 x0 M Q)
def wp_X2_gather_26  (M : Mem) (Q : Int32 → Mem → Prop) : Prop :=
  Q (0 : Int32) M
def wp_X2_gather_138 (x0 : Nat) (x3 : Nat) (x6 : Int32) (x7 : Int32) (x8 : Int32) (x9 : Int32) (x10 : Int32) (M : Mem) (Q : Int32 → Mem → Prop) (K85 : Nat → Option Nat → Int32 → Int32 → Int32 → Int32 → Int32 → Mem → Prop) (K195 : Int32 → Mem → Prop) : Prop :=
  inb x9 (alen (x0 + 3)) ∧
  inb x10 (alen x3) ∧
  ∀ M2 : Mem, M2 = sL M x3 x10.toNatClampNeg (mL M (x0 + 3) x9.toNatClampNeg) →
  ∀ i3 : Int32, i3 = x10 + (1 : Int32) →
  ∀ i4 : Int32, i4 = x9 + (1 : Int32) →
  K85 x0 (some x3) x6 x7 x8 i4 i3 M2
def wp_X2_gather_186 (x0 : Nat) (x3 : Nat) (x6 : Int32) (x7 : Int32) (x8 : Int32) (x9 : Int32) (t0 : Int32) (t1 : Int32) (M : Mem) (Q : Int32 → Mem → Prop) (K85 : Nat → Option Nat → Int32 → Int32 → Int32 → Int32 → Int32 → Mem → Prop) (K195 : Int32 → Mem → Prop) : Prop :=
  ∀ i6 : Int32, i6 = t1 + t0 →
  ∀ i7 : Int32, i7 = x8 + (1 : Int32) →
  K85 x0 (some x3) x6 x7 i7 x9 i6 M
def wp_X2_gather_195 (x10 : Int32) (M : Mem) (Q : Int32 → Mem → Prop) : Prop :=
  Q x10 M
def wp_X2_gather_158 (x0 : Nat) (x3 : Nat) (x6 : Int32) (x7 : Int32) (x8 : Int32) (x9 : Int32) (x10 : Int32) (M : Mem) (Q : Int32 → Mem → Prop) (K85 : Nat → Option Nat → Int32 → Int32 → Int32 → Int32 → Int32 → Mem → Prop) (K195 : Int32 → Mem → Prop) : Prop :=
  inb x8 (alen (x0 + 1)) ∧
  inb x10 (alen x3) ∧
  ∀ M5 : Mem, M5 = sL M x3 x10.toNatClampNeg (mL M (x0 + 1) x8.toNatClampNeg) →
  inb x8 (alen (x0 + 2)) ∧
  ((mI M5 (x0 + 2) x8.toNatClampNeg) = 0 →
  wp_X2_gather_186 x0 x3 x6 x7 x8 x9 (1 : Int32) x10 M5 Q K85 K195) ∧
  (¬ (mI M5 (x0 + 2) x8.toNatClampNeg) = 0 →
  wp_X2_gather_186 x0 x3 x6 x7 x8 x9 (0 : Int32) x10 M5 Q K85 K195)
def wp_X2_gather_99 (x0 : Nat) (x3 : Option Nat) (x6 : Int32) (x7 : Int32) (x8 : Int32) (x9 : Int32) (x10 : Int32) (M : Mem) (Q : Int32 → Mem → Prop) (K85 : Nat → Option Nat → Int32 → Int32 → Int32 → Int32 → Int32 → Mem → Prop) (K195 : Int32 → Mem → Prop) : Prop :=
  ∃ a1 : Nat, x3 = some a1 ∧ isA M a1 .long ∧
  ((Int32.ofNat (alen a1)) ≤ x10 →
  K195 x10 M) ∧
  (¬ (Int32.ofNat (alen a1)) ≤ x10 →
  (x7 ≤ x8 →
  wp_X2_gather_138 x0 a1 x6 x7 x8 x9 x10 M Q K85 K195) ∧
  (¬ x7 ≤ x8 →
  (x6 ≤ x9 →
  wp_X2_gather_158 x0 a1 x6 x7 x8 x9 x10 M Q K85 K195) ∧
  (¬ x6 ≤ x9 →
  inb x9 (alen (x0 + 3)) ∧
  inb x8 (alen (x0 + 1)) ∧
  ((mL M (x0 + 1) x8.toNatClampNeg) ≤ (mL M (x0 + 3) x9.toNatClampNeg) →
  wp_X2_gather_158 x0 a1 x6 x7 x8 x9 x10 M Q K85 K195) ∧
  (¬ (mL M (x0 + 1) x8.toNatClampNeg) ≤ (mL M (x0 + 3) x9.toNatClampNeg) →
  wp_X2_gather_138 x0 a1 x6 x7 x8 x9 x10 M Q K85 K195))))
def wp_X2_gather_85 (n : Nat) (x0 : Nat) (x3 : Option Nat) (x6 : Int32) (x7 : Int32) (x8 : Int32) (x9 : Int32) (x10 : Int32) (M : Mem) (Q : Int32 → Mem → Prop) (K195 : Int32 → Mem → Prop) : Prop := match n with
  | 0 => False
  | n + 1 =>
  (x8 < x7 →
  wp_X2_gather_99 x0 x3 x6 x7 x8 x9 x10 M Q (fun (x0 : Nat) (x3 : Option Nat) (x6 : Int32) (x7 : Int32) (x8 : Int32) (x9 : Int32) (x10 : Int32) (M : Mem) => wp_X2_gather_85 n x0 x3 x6 x7 x8 x9 x10 M Q K195) K195) ∧
  (¬ x8 < x7 →
  (x6 ≤ x9 →
  K195 x10 M) ∧
  (¬ x6 ≤ x9 →
  wp_X2_gather_99 x0 x3 x6 x7 x8 x9 x10 M Q (fun (x0 : Nat) (x3 : Option Nat) (x6 : Int32) (x7 : Int32) (x8 : Int32) (x9 : Int32) (x10 : Int32) (M : Mem) => wp_X2_gather_85 n x0 x3 x6 x7 x8 x9 x10 M Q K195) K195))
def wp_X2_gather (x0 : Nat) (x1 : Int32) (x2 : Int32) (x3 : Option Nat) (M : Mem) (Q : Int32 → Mem → Prop) : Prop :=
  isO M x0 2 ∧
  wp_X2_pieceAt x0 x1 M (fun (r9 : Option Nat) (M8 : Mem) =>
  wp_X2_pieceAt x0 (x2 - (1 : Int32)) M8 (fun (r11 : Option Nat) (M10 : Mem) =>
  (r9 = none →
  wp_X2_gather_26 M10 Q) ∧
  (∀ a12 : Nat, r9 = some a12 →
  (r11 = none →
  wp_X2_gather_26 M10 Q) ∧
  (∀ a13 : Nat, r11 = some a13 →
  isO M10 a13 0 ∧
  wp_J9_min_7cf53 ((mI M10 a13 4) + (mI M10 a13 5)) (mI M10 x0 5) M10 (fun (i16 : Int32) (M15 : Mem) =>
  wp_J9_min_7cf53 ((mI M15 a13 2) + (mI M15 a13 3)) (mI M15 x0 4) M15 (fun (i18 : Int32) (M17 : Mem) =>
  isO M17 a12 0 ∧
  ∀ i20 : Int32, i20 = mI M17 a12 2 →
  ∀ i21 : Int32, i21 = mI M17 a12 4 →
  ∃ k85, wp_X2_gather_85 k85 x0 x3 i16 i18 i20 i21 (0 : Int32) M17 Q (fun (x10 : Int32) (M : Mem) => wp_X2_gather_195 x10 M Q)))))))
def wp_X2_append_54  (M : Mem) (Q : Option Nat → Mem → Prop) : Prop :=
  Q none M
def wp_X2_append_128 (n : Nat) (x0 : Nat) (x1 : Option Nat) (x2 : Int32) (x3 : Int32) (x5 : Nat) (x6 : Int32) (M : Mem) (Q : Option Nat → Mem → Prop) (K171 : Nat → Int32 → Nat → Mem → Prop) : Prop := match n with
  | 0 => False
  | n + 1 =>
  (x3 ≤ x6 →
  K171 x0 x3 x5 M) ∧
  (¬ x3 ≤ x6 →
  ∃ a13 : Nat, x1 = some a13 ∧ isA M a13 .long ∧
  inb (x2 + x6) (alen a13) ∧
  inb ((mI M x0 4) + x6) (alen (x0 + 1)) ∧
  ∀ M14 : Mem, M14 = sL M (x0 + 1) ((mI M x0 4) + x6).toNatClampNeg (mL M a13 (x2 + x6).toNatClampNeg) →
  inb ((mI M14 x0 4) + x6) (alen (x0 + 2)) ∧
  ∀ M15 : Mem, M15 = sI M14 (x0 + 2) ((mI M14 x0 4) + x6).toNatClampNeg (0 : Int32) →
  ∀ i16 : Int32, i16 = x6 + (1 : Int32) →
  wp_X2_append_128 n x0 (some a13) x2 x3 x5 i16 M15 Q K171)
def wp_X2_append_171 (x0 : Nat) (x3 : Int32) (x5 : Nat) (M : Mem) (Q : Option Nat → Mem → Prop) : Prop :=
  ∀ M17 : Mem, M17 = sI M x0 4 ((mI M x0 4) + x3) →
  ∀ M18 : Mem, M18 = sI M17 x0 6 ((mI M17 x0 6) + (1 : Int32)) →
  Q (some x5) M18
def wp_X2_append_84 (x0 : Nat) (x1 : Option Nat) (x2 : Int32) (x3 : Int32) (M : Mem) (Q : Option Nat → Mem → Prop) : Prop :=
  inb (mI M x0 6) (alen (x0 + 4)) ∧
  ∀ r7 : Option Nat, r7 = mR M (x0 + 4) (mI M x0 6).toNatClampNeg →
  ∃ a8 : Nat, r7 = some a8 ∧ isO M a8 0 ∧
  ∀ M9 : Mem, M9 = sI M a8 2 (mI M x0 4) →
  ∀ M10 : Mem, M10 = sI M9 a8 3 x3 →
  ∀ M11 : Mem, M11 = sI M10 a8 4 (mI M10 x0 5) →
  ∀ M12 : Mem, M12 = sI M11 a8 5 (0 : Int32) →
  ∃ k128, wp_X2_append_128 k128 x0 x1 x2 x3 a8 (0 : Int32) M12 Q (fun (x0 : Nat) (x3 : Int32) (x5 : Nat) (M : Mem) => wp_X2_append_171 x0 x3 x5 M Q)
def wp_X2_append_21 (x0 : Nat) (x1 : Option Nat) (x2 : Int32) (x3 : Int32) (t0 : Int32) (M : Mem) (Q : Option Nat → Mem → Prop) : Prop :=
  (t0 = 0 →
  wp_X2_append_54 M Q) ∧
  (¬ t0 = 0 →
  (((Int32.ofNat (alen (x0 + 1))) - x3) < (mI M x0 4) →
  wp_X2_append_54 M Q) ∧
  (¬ ((Int32.ofNat (alen (x0 + 1))) - x3) < (mI M x0 4) →
  ((mI M x0 6) < (Int32.ofNat (alen (x0 + 4))) →
  inb (mI M x0 6) (alen (x0 + 4)) ∧
  ∀ r1 : Option Nat, r1 = mR M (x0 + 4) (mI M x0 6).toNatClampNeg →
  (r1 = none →
  mz M < ZMAX ∧
  ∀ (a3 : Nat) (M4 : Mem), a3 = mz M → M4 = nw M →
  wp_X0_init a3 M4 (fun (M5 : Mem) =>
  inb (mI M x0 6) (alen (x0 + 4)) ∧
  ∀ M6 : Mem, M6 = sR M5 (x0 + 4) (mI M x0 6).toNatClampNeg (some a3) →
  wp_X2_append_84 x0 x1 x2 x3 M6 Q)) ∧
  (∀ a2 : Nat, r1 = some a2 →
  wp_X2_append_84 x0 x1 x2 x3 M Q)) ∧
  (¬ (mI M x0 6) < (Int32.ofNat (alen (x0 + 4))) →
  wp_X2_append_54 M Q)))
def wp_X2_append_20 (x0 : Nat) (x1 : Option Nat) (x2 : Int32) (x3 : Int32) (M : Mem) (Q : Option Nat → Mem → Prop) : Prop :=
  wp_X2_append_21 x0 x1 x2 x3 (0 : Int32) M Q
def wp_X2_append (x0 : Nat) (x1 : Option Nat) (x2 : Int32) (x3 : Int32) (M : Mem) (Q : Option Nat → Mem → Prop) : Prop :=
  isO M x0 2 ∧
  (x2 < 0 →
  wp_X2_append_20 x0 x1 x2 x3 M Q) ∧
  (¬ x2 < 0 →
  (x3 ≤ 0 →
  wp_X2_append_20 x0 x1 x2 x3 M Q) ∧
  (¬ x3 ≤ 0 →
  ∃ a19 : Nat, x1 = some a19 ∧ isA M a19 .long ∧
  (((Int32.ofNat (alen a19)) - x3) < x2 →
  wp_X2_append_20 x0 (some a19) x2 x3 M Q) ∧
  (¬ ((Int32.ofNat (alen a19)) - x3) < x2 →
  wp_X2_append_21 x0 (some a19) x2 x3 (1 : Int32) M Q)))
def wp_X2_makePieces_49 (x6 : Int32) (M : Mem) (Q : Int32 → Mem → Prop) : Prop :=
  Q x6 M
def wp_X2_makePieces_85 (x0 : Nat) (x1 : Option Nat) (x2 : Int32) (x3 : Int32) (x4 : Int32) (x5 : Nat) (x6 : Int32) (x8 : Int32) (M : Mem) (Q : Int32 → Mem → Prop) (K6 : Nat → Option Nat → Int32 → Int32 → Int32 → Option Nat → Int32 → Int32 → Mem → Prop) (K49 : Int32 → Mem → Prop) (K95 : Int32 → Mem → Prop) : Prop :=
  ∀ i11 : Int32, i11 = x6 + (1 : Int32) →
  K6 x0 x1 x2 x3 x4 (some x5) i11 x8 M
def wp_X2_makePieces_95 (x6 : Int32) (M : Mem) (Q : Int32 → Mem → Prop) : Prop :=
  Q x6 M
def wp_X2_makePieces_6 (n : Nat) (x0 : Nat) (x1 : Option Nat) (x2 : Int32) (x3 : Int32) (x4 : Int32) (x5 : Option Nat) (x6 : Int32) (x7 : Int32) (M : Mem) (Q : Int32 → Mem → Prop) (K49 : Int32 → Mem → Prop) (K95 : Int32 → Mem → Prop) : Prop := match n with
  | 0 => False
  | n + 1 =>
  (x2 ≤ x7 →
  K95 x6 M) ∧
  (¬ x2 ≤ x7 →
  (x2 ≤ x6 →
  K95 x6 M) ∧
  (¬ x2 ≤ x6 →
  ∃ a1 : Nat, x5 = some a1 ∧ isO M a1 1 ∧
  wp_X1_endOfSpan a1 x1 x7 x2 x3 M (fun (i3 : Int32) (M2 : Mem) =>
  wp_X2_append x0 x1 x7 (i3 - x7) M2 (fun (r5 : Option Nat) (M4 : Mem) =>
  (r5 = none →
  K49 x6 M4) ∧
  (∀ a6 : Nat, r5 = some a6 →
  isO M4 a6 0 ∧
  wp_X0_beFlat a6 x4 M4 (fun (M8 : Mem) =>
  ((i3 - x7) ≤ (1 : Int32) →
  wp_X2_makePieces_85 x0 x1 x2 x3 x4 a1 x6 i3 M8 Q (fun (x0 : Nat) (x1 : Option Nat) (x2 : Int32) (x3 : Int32) (x4 : Int32) (x5 : Option Nat) (x6 : Int32) (x7 : Int32) (M : Mem) => wp_X2_makePieces_6 n x0 x1 x2 x3 x4 x5 x6 x7 M Q K49 K95) K49 K95) ∧
  (¬ (i3 - x7) ≤ (1 : Int32) →
  ∀ M9 : Mem, M9 = sI M8 a6 0 (1 : Int32) →
  wp_X1_tellLine a1 (some a6) x1 x7 x3 M9 (fun (M10 : Mem) =>
  wp_X2_makePieces_85 x0 x1 x2 x3 x4 a1 x6 i3 M10 Q (fun (x0 : Nat) (x1 : Option Nat) (x2 : Int32) (x3 : Int32) (x4 : Int32) (x5 : Option Nat) (x6 : Int32) (x7 : Int32) (M : Mem) => wp_X2_makePieces_6 n x0 x1 x2 x3 x4 x5 x6 x7 M Q K49 K95) K49 K95))))))))
def wp_X2_makePieces (x0 : Nat) (x1 : Option Nat) (x2 : Int32) (x3 : Int32) (x4 : Int32) (x5 : Option Nat) (M : Mem) (Q : Int32 → Mem → Prop) : Prop :=
  isO M x0 2 ∧
  ∃ k6, wp_X2_makePieces_6 k6 x0 x1 x2 x3 x4 x5 (0 : Int32) (0 : Int32) M Q (fun (x6 : Int32) (M : Mem) => wp_X2_makePieces_49 x6 M Q) (fun (x6 : Int32) (M : Mem) => wp_X2_makePieces_95 x6 M Q)
def wp_X2_turnRounded (x0 : Nat) (x1 : Option Nat) (M : Mem) (Q : Int32 → Mem → Prop) : Prop :=
  isO M x0 2 ∧
  ∃ a1 : Nat, x1 = some a1 ∧ isO M a1 0 ∧
  ((1 : Int64) ≤ (mL M a1 7) →
  ∀ M2 : Mem, M2 = sI M a1 0 (2 : Int32) →
  ∀ f3 : UInt64, alike64 f3 (FP.ddiv (FP.l2d (mL M2 a1 6)) (FP.l2d (mL M2 a1 7))) = true →
  ∀ M4 : Mem, M4 = sD M2 a1 9 f3 →
  ∀ f5 : UInt64, alike64 f5 (FP.ddiv (FP.l2d (mL M4 a1 8)) (FP.l2d (mL M4 a1 7))) = true →
  ∀ M6 : Mem, M6 = sD M4 a1 10 f5 →
  wp_X2_greatestMiss x0 (some a1) M6 (fun (i8 : Int32) (M7 : Mem) =>
  (i8 ≤ (mI M7 a1 1) →
  Q (1 : Int32) M7) ∧
  (¬ i8 ≤ (mI M7 a1 1) →
  ∀ M9 : Mem, M9 = sI M7 a1 0 (1 : Int32) →
  Q (0 : Int32) M9))) ∧
  (¬ (1 : Int64) ≤ (mL M a1 7) →
  Q (0 : Int32) M)
def wp_X2_roundPieces_35 (x0 : Nat) (x2 : Int32) (x3 : Int32) (M : Mem) (Q : Mem → Prop) (K2 : Nat → Int32 → Int32 → Mem → Prop) (K41 : Mem → Prop) : Prop :=
  ∀ i7 : Int32, i7 = x3 + (1 : Int32) →
  K2 x0 x2 i7 M
def wp_X2_roundPieces_41  (M : Mem) (Q : Mem → Prop) : Prop :=
  Q M
def wp_X2_roundPieces_2 (n : Nat) (x0 : Nat) (x2 : Int32) (x3 : Int32) (M : Mem) (Q : Mem → Prop) (K41 : Mem → Prop) : Prop := match n with
  | 0 => False
  | n + 1 =>
  (x2 ≤ x3 →
  K41 M) ∧
  (¬ x2 ≤ x3 →
  wp_X2_pieceAt x0 x3 M (fun (r2 : Option Nat) (M1 : Mem) =>
  (r2 = none →
  wp_X2_roundPieces_35 x0 x2 x3 M1 Q (fun (x0 : Nat) (x2 : Int32) (x3 : Int32) (M : Mem) => wp_X2_roundPieces_2 n x0 x2 x3 M Q K41) K41) ∧
  (∀ a3 : Nat, r2 = some a3 →
  isO M1 a3 0 ∧
  (¬ (mI M1 a3 0) = (1 : Int32) →
  wp_X2_roundPieces_35 x0 x2 x3 M1 Q (fun (x0 : Nat) (x2 : Int32) (x3 : Int32) (M : Mem) => wp_X2_roundPieces_2 n x0 x2 x3 M Q K41) K41) ∧
  ((mI M1 a3 0) = (1 : Int32) →
  wp_X2_turnRounded x0 (some a3) M1 (fun (i6 : Int32) (M5 : Mem) =>
  wp_X2_roundPieces_35 x0 x2 x3 M5 Q (fun (x0 : Nat) (x2 : Int32) (x3 : Int32) (M : Mem) => wp_X2_roundPieces_2 n x0 x2 x3 M Q K41) K41)))))
def wp_X2_roundPieces (x0 : Nat) (x1 : Int32) (x2 : Int32) (M : Mem) (Q : Mem → Prop) : Prop :=
  isO M x0 2 ∧
  ∃ k2, wp_X2_roundPieces_2 k2 x0 x2 x1 M Q (fun  (M : Mem) => wp_X2_roundPieces_41 M Q)
def wp_X2_takeOver_56  (M : Mem) (Q : Mem → Prop) : Prop :=
  Q M
def wp_X2_takeOver_67 (n : Nat) (x0 : Nat) (x1 : Nat) (x3 : Int32) (x4 : Int32) (x5 : Nat) (x6 : Nat) (x7 : Int32) (M : Mem) (Q : Mem → Prop) (K104 : Nat → Nat → Int32 → Int32 → Nat → Nat → Mem → Prop) : Prop := match n with
  | 0 => False
  | n + 1 =>
  isO M x5 0 ∧
  ((mI M x5 3) ≤ x7 →
  K104 x0 x1 x3 x4 x5 x6 M) ∧
  (¬ (mI M x5 3) ≤ x7 →
  wp_X2_isDropped x1 (some x5) x7 M (fun (i14 : Int32) (M13 : Mem) =>
  inb ((mI M x6 2) + x7) (alen (x0 + 2)) ∧
  (i14 = 0 ∨ i14 = 1) ∧
  ∀ M15 : Mem, M15 = sI M13 (x0 + 2) ((mI M x6 2) + x7).toNatClampNeg i14 →
  ∀ i16 : Int32, i16 = x7 + (1 : Int32) →
  wp_X2_takeOver_67 n x0 x1 x3 x4 x5 x6 i16 M15 Q K104))
def wp_X2_takeOver_107 (n : Nat) (x0 : Nat) (x1 : Nat) (x3 : Int32) (x4 : Int32) (x5 : Nat) (x6 : Nat) (x7 : Int32) (M : Mem) (Q : Mem → Prop) (K173 : Nat → Nat → Int32 → Int32 → Mem → Prop) : Prop := match n with
  | 0 => False
  | n + 1 =>
  ((mI M x5 5) ≤ x7 →
  K173 x0 x1 x3 x4 M) ∧
  (¬ (mI M x5 5) ≤ x7 →
  ((Int32.ofNat (alen (x0 + 3))) ≤ (mI M x0 5) →
  K173 x0 x1 x3 x4 M) ∧
  (¬ (Int32.ofNat (alen (x0 + 3))) ≤ (mI M x0 5) →
  wp_X2_lateOf x1 (some x5) x7 M (fun (j18 : Int64) (M17 : Mem) =>
  inb (mI M x0 5) (alen (x0 + 3)) ∧
  ∀ M19 : Mem, M19 = sL M17 (x0 + 3) (mI M x0 5).toNatClampNeg j18 →
  ∀ M20 : Mem, M20 = sI M19 x0 5 ((mI M19 x0 5) + (1 : Int32)) →
  ∀ M21 : Mem, M21 = sI M20 x6 5 ((mI M20 x6 5) + (1 : Int32)) →
  ∀ i22 : Int32, i22 = x7 + (1 : Int32) →
  wp_X2_takeOver_107 n x0 x1 x3 x4 x5 x6 i22 M21 Q K173)))
def wp_X2_takeOver_173 (x0 : Nat) (x1 : Nat) (x3 : Int32) (x4 : Int32) (M : Mem) (Q : Mem → Prop) (K3 : Nat → Option Nat → Int32 → Int32 → Mem → Prop) (K56 : Mem → Prop) (K179 : Mem → Prop) : Prop :=
  ∀ i23 : Int32, i23 = x4 + (1 : Int32) →
  K3 x0 (some x1) x3 i23 M
def wp_X2_takeOver_179  (M : Mem) (Q : Mem → Prop) : Prop :=
  Q M
def wp_X2_takeOver_104 (x0 : Nat) (x1 : Nat) (x3 : Int32) (x4 : Int32) (x5 : Nat) (x6 : Nat) (M : Mem) (Q : Mem → Prop) (K3 : Nat → Option Nat → Int32 → Int32 → Mem → Prop) (K56 : Mem → Prop) (K179 : Mem → Prop) : Prop :=
  ∃ k107, wp_X2_takeOver_107 k107 x0 x1 x3 x4 x5 x6 (0 : Int32) M Q (fun (x0 : Nat) (x1 : Nat) (x3 : Int32) (x4 : Int32) (M : Mem) => wp_X2_takeOver_173 x0 x1 x3 x4 M Q K3 K56 K179)
def wp_X2_takeOver_44 (x0 : Nat) (x1 : Nat) (x3 : Int32) (x4 : Int32) (x5 : Option Nat) (t0 : Option Nat) (M : Mem) (Q : Mem → Prop) (K3 : Nat → Option Nat → Int32 → Int32 → Mem → Prop) (K56 : Mem → Prop) (K179 : Mem → Prop) : Prop :=
  (x5 = none →
  K56 M) ∧
  (∀ a8 : Nat, x5 = some a8 →
  (t0 = none →
  K56 M) ∧
  (∀ a9 : Nat, t0 = some a9 →
  isO M a9 0 ∧
  wp_X0_beLike a9 (some a8) M (fun (M11 : Mem) =>
  ∃ k67, wp_X2_takeOver_67 k67 x0 x1 x3 x4 a8 a9 (0 : Int32) M11 Q (fun (x0 : Nat) (x1 : Nat) (x3 : Int32) (x4 : Int32) (x5 : Nat) (x6 : Nat) (M : Mem) => wp_X2_takeOver_104 x0 x1 x3 x4 x5 x6 M Q K3 K56 K179))))
def wp_X2_takeOver_3 (n : Nat) (x0 : Nat) (x1 : Option Nat) (x3 : Int32) (x4 : Int32) (M : Mem) (Q : Mem → Prop) (K56 : Mem → Prop) (K179 : Mem → Prop) : Prop := match n with
  | 0 => False
  | n + 1 =>
  (x3 ≤ x4 →
  K179 M) ∧
  (¬ x3 ≤ x4 →
  ∃ a1 : Nat, x1 = some a1 ∧ isO M a1 2 ∧
  wp_X2_pieceAt a1 x4 M (fun (r3 : Option Nat) (M2 : Mem) =>
  (r3 = none →
  wp_X2_takeOver_44 x0 a1 x3 x4 none none M2 Q (fun (x0 : Nat) (x1 : Option Nat) (x3 : Int32) (x4 : Int32) (M : Mem) => wp_X2_takeOver_3 n x0 x1 x3 x4 M Q K56 K179) K56 K179) ∧
  (∀ a4 : Nat, r3 = some a4 →
  isO M2 a4 0 ∧
  wp_X2_append x0 (some (a1 + 1)) (mI M2 a4 2) (mI M2 a4 3) M2 (fun (r7 : Option Nat) (M6 : Mem) =>
  wp_X2_takeOver_44 x0 a1 x3 x4 (some a4) r7 M6 Q (fun (x0 : Nat) (x1 : Option Nat) (x3 : Int32) (x4 : Int32) (M : Mem) => wp_X2_takeOver_3 n x0 x1 x3 x4 M Q K56 K179) K56 K179))))
def wp_X2_takeOver (x0 : Nat) (x1 : Option Nat) (x2 : Int32) (x3 : Int32) (M : Mem) (Q : Mem → Prop) : Prop :=
  isO M x0 2 ∧
  ∃ k3, wp_X2_takeOver_3 k3 x0 x1 x3 x2 M Q (fun  (M : Mem) => wp_X2_takeOver_56 M Q) (fun  (M : Mem) => wp_X2_takeOver_179 M Q)
def wp_X2_holds_37 (t0 : Int32) (M : Mem) (Q : Int32 → Mem → Prop) : Prop :=
  (t0 = 0 ∨ t0 = 1) ∧ Q t0 M
def wp_X2_holds_36  (M : Mem) (Q : Int32 → Mem → Prop) : Prop :=
  wp_X2_holds_37 (0 : Int32) M Q
def wp_X2_holds (x0 : Nat) (x1 : Int32) (x2 : Int64) (M : Mem) (Q : Int32 → Mem → Prop) : Prop :=
  isO M x0 2 ∧
  (x1 < 0 →
  wp_X2_holds_36 M Q) ∧
  (¬ x1 < 0 →
  ((mI M x0 4) ≤ x1 →
  wp_X2_holds_36 M Q) ∧
  (¬ (mI M x0 4) ≤ x1 →
  inb x1 (alen (x0 + 1)) ∧
  (¬ (mL M (x0 + 1) x1.toNatClampNeg) = x2 →
  wp_X2_holds_36 M Q) ∧
  ((mL M (x0 + 1) x1.toNatClampNeg) = x2 →
  inb x1 (alen (x0 + 2)) ∧
  (¬ (mI M (x0 + 2) x1.toNatClampNeg) = 0 →
  wp_X2_holds_36 M Q) ∧
  ((mI M (x0 + 2) x1.toNatClampNeg) = 0 →
  wp_X2_holds_37 (1 : Int32) M Q))))
def wp_X2_restore_32  (M : Mem) (Q : Int32 → Mem → Prop) : Prop :=
  Q (0 : Int32) M
def wp_X2_restore (x0 : Nat) (x1 : Int32) (x2 : Int64) (M : Mem) (Q : Int32 → Mem → Prop) : Prop :=
  isO M x0 2 ∧
  (x1 < 0 →
  wp_X2_restore_32 M Q) ∧
  (¬ x1 < 0 →
  ((mI M x0 4) ≤ x1 →
  wp_X2_restore_32 M Q) ∧
  (¬ (mI M x0 4) ≤ x1 →
  inb x1 (alen (x0 + 1)) ∧
  (¬ (mL M (x0 + 1) x1.toNatClampNeg) = x2 →
  wp_X2_restore_32 M Q) ∧
  ((mL M (x0 + 1) x1.toNatClampNeg) = x2 →
  inb x1 (alen (x0 + 2)) ∧
  (¬ (mI M (x0 + 2) x1.toNatClampNeg) = 0 →
  inb x1 (alen (x0 + 2)) ∧
  ∀ M1 : Mem, M1 = sI M (x0 + 2) x1.toNatClampNeg (0 : Int32) →
  Q (1 : Int32) M1) ∧
  ((mI M (x0 + 2) x1.toNatClampNeg) = 0 →
  wp_X2_restore_32 M Q))))
def wp_X2_markDropped_19  (M : Mem) (Q : Mem → Prop) : Prop :=
  Q M
def wp_X2_markDropped (x0 : Nat) (x1 : Int32) (M : Mem) (Q : Mem → Prop) : Prop :=
  isO M x0 2 ∧
  (x1 < 0 →
  wp_X2_markDropped_19 M Q) ∧
  (¬ x1 < 0 →
  ((mI M x0 4) ≤ x1 →
  wp_X2_markDropped_19 M Q) ∧
  (¬ (mI M x0 4) ≤ x1 →
  inb x1 (alen (x0 + 2)) ∧
  ∀ M1 : Mem, M1 = sI M (x0 + 2) x1.toNatClampNeg (1 : Int32) →
  wp_X2_markDropped_19 M1 Q))
def wp_X2_changeLate_62 (x0 : Nat) (x1 : Int32) (x2 : Int32) (x3 : Int32) (M : Mem) (Q : Mem → Prop) (K2 : Nat → Int32 → Int32 → Int32 → Mem → Prop) (K68 : Mem → Prop) : Prop :=
  ∀ i7 : Int32, i7 = x3 + (1 : Int32) →
  K2 x0 x1 x2 i7 M
def wp_X2_changeLate_68  (M : Mem) (Q : Mem → Prop) : Prop :=
  Q M
def wp_X2_changeLate_58 (x0 : Nat) (x1 : Int32) (x2 : Int32) (x3 : Int32) (t0 : Int32) (t1 : Int32) (t2 : Nat) (M : Mem) (Q : Mem → Prop) (K2 : Nat → Int32 → Int32 → Int32 → Mem → Prop) (K68 : Mem → Prop) : Prop :=
  ∀ M6 : Mem, M6 = sI M t2 4 (t1 + t0) →
  wp_X2_changeLate_62 x0 x1 x2 x3 M6 Q K2 K68
def wp_X2_changeLate_38 (x0 : Nat) (x1 : Int32) (x2 : Int32) (x3 : Int32) (x4 : Nat) (t0 : Int32) (t1 : Int32) (t2 : Nat) (M : Mem) (Q : Mem → Prop) (K2 : Nat → Int32 → Int32 → Int32 → Mem → Prop) (K68 : Mem → Prop) : Prop :=
  ∀ M5 : Mem, M5 = sI M t2 5 (t1 + t0) →
  (¬ x3 = x1 →
  wp_X2_changeLate_58 x0 x1 x2 x3 x2 (mI M5 x4 4) x4 M5 Q K2 K68) ∧
  (x3 = x1 →
  wp_X2_changeLate_58 x0 x1 x2 x3 (0 : Int32) (mI M5 x4 4) x4 M5 Q K2 K68)
def wp_X2_changeLate_2 (n : Nat) (x0 : Nat) (x1 : Int32) (x2 : Int32) (x3 : Int32) (M : Mem) (Q : Mem → Prop) (K68 : Mem → Prop) : Prop := match n with
  | 0 => False
  | n + 1 =>
  ((mI M x0 6) ≤ x3 →
  K68 M) ∧
  (¬ (mI M x0 6) ≤ x3 →
  wp_X2_pieceAt x0 x3 M (fun (r2 : Option Nat) (M1 : Mem) =>
  (r2 = none →
  wp_X2_changeLate_62 x0 x1 x2 x3 M1 Q (fun (x0 : Nat) (x1 : Int32) (x2 : Int32) (x3 : Int32) (M : Mem) => wp_X2_changeLate_2 n x0 x1 x2 x3 M Q K68) K68) ∧
  (∀ a3 : Nat, r2 = some a3 →
  isO M1 a3 0 ∧
  (¬ x3 = x1 →
  wp_X2_changeLate_38 x0 x1 x2 x3 a3 (0 : Int32) (mI M1 a3 5) a3 M1 Q (fun (x0 : Nat) (x1 : Int32) (x2 : Int32) (x3 : Int32) (M : Mem) => wp_X2_changeLate_2 n x0 x1 x2 x3 M Q K68) K68) ∧
  (x3 = x1 →
  wp_X2_changeLate_38 x0 x1 x2 x3 a3 x2 (mI M1 a3 5) a3 M1 Q (fun (x0 : Nat) (x1 : Int32) (x2 : Int32) (x3 : Int32) (M : Mem) => wp_X2_changeLate_2 n x0 x1 x2 x3 M Q K68) K68))))
def wp_X2_changeLate (x0 : Nat) (x1 : Int32) (x2 : Int32) (M : Mem) (Q : Mem → Prop) : Prop :=
  isO M x0 2 ∧
  ∃ k2, wp_X2_changeLate_2 k2 x0 x1 x2 x1 M Q (fun  (M : Mem) => wp_X2_changeLate_68 M Q)
def wp_X2_putLate_36  (M : Mem) (Q : Int32 → Mem → Prop) : Prop :=
  Q (0 : Int32) M
def wp_X2_putLate_44 (n : Nat) (x0 : Nat) (x1 : Int32) (x2 : Int32) (x3 : Int64) (x5 : Nat) (x6 : Int32) (M : Mem) (Q : Int32 → Mem → Prop) (K72 : Nat → Int32 → Int32 → Int64 → Nat → Mem → Prop) : Prop := match n with
  | 0 => False
  | n + 1 =>
  (x6 ≤ x2 →
  K72 x0 x1 x2 x3 x5 M) ∧
  (¬ x6 ≤ x2 →
  inb (x6 - (1 : Int32)) (alen (x0 + 3)) ∧
  inb x6 (alen (x0 + 3)) ∧
  ∀ M1 : Mem, M1 = sL M (x0 + 3) x6.toNatClampNeg (mL M (x0 + 3) (x6 - (1 : Int32)).toNatClampNeg) →
  ∀ i2 : Int32, i2 = x6 + (-1 : Int32) →
  wp_X2_putLate_44 n x0 x1 x2 x3 x5 i2 M1 Q K72)
def wp_X2_putLate_72 (x0 : Nat) (x1 : Int32) (x2 : Int32) (x3 : Int64) (x5 : Nat) (M : Mem) (Q : Int32 → Mem → Prop) : Prop :=
  inb x2 (alen (x0 + 3)) ∧
  ∀ M3 : Mem, M3 = sL M (x0 + 3) x2.toNatClampNeg x3 →
  ∀ M4 : Mem, M4 = sI M3 x0 5 ((mI M3 x0 5) + (1 : Int32)) →
  wp_X2_changeLate x0 x1 (1 : Int32) M4 (fun (M5 : Mem) =>
  isO M5 x5 0 ∧
  Q (mI M5 x5 5) M5)
def wp_X2_putLate (x0 : Nat) (x1 : Int32) (x2 : Int32) (x3 : Int64) (M : Mem) (Q : Int32 → Mem → Prop) : Prop :=
  isO M x0 2 ∧
  wp_X2_pieceAt x0 x1 M (fun (r8 : Option Nat) (M7 : Mem) =>
  (r8 = none →
  wp_X2_putLate_36 M7 Q) ∧
  (∀ a9 : Nat, r8 = some a9 →
  (x2 < 0 →
  wp_X2_putLate_36 M7 Q) ∧
  (¬ x2 < 0 →
  ((mI M7 x0 5) < x2 →
  wp_X2_putLate_36 M7 Q) ∧
  (¬ (mI M7 x0 5) < x2 →
  ((mI M7 x0 5) < (Int32.ofNat (alen (x0 + 3))) →
  ∀ i10 : Int32, i10 = mI M7 x0 5 →
  ∃ k44, wp_X2_putLate_44 k44 x0 x1 x2 x3 a9 i10 M7 Q (fun (x0 : Nat) (x1 : Int32) (x2 : Int32) (x3 : Int64) (x5 : Nat) (M : Mem) => wp_X2_putLate_72 x0 x1 x2 x3 x5 M Q)) ∧
  (¬ (mI M7 x0 5) < (Int32.ofNat (alen (x0 + 3))) →
  wp_X2_putLate_36 M7 Q)))))
def wp_X2_takeLate_12  (M : Mem) (Q : Mem → Prop) : Prop :=
  Q M
def wp_X2_takeLate_25 (n : Nat) (x0 : Nat) (x1 : Int32) (x3 : Int32) (M : Mem) (Q : Mem → Prop) (K53 : Nat → Int32 → Mem → Prop) : Prop := match n with
  | 0 => False
  | n + 1 =>
  ((mI M x0 5) ≤ x3 →
  K53 x0 x1 M) ∧
  (¬ (mI M x0 5) ≤ x3 →
  inb (x3 + (1 : Int32)) (alen (x0 + 3)) ∧
  inb x3 (alen (x0 + 3)) ∧
  ∀ M1 : Mem, M1 = sL M (x0 + 3) x3.toNatClampNeg (mL M (x0 + 3) (x3 + (1 : Int32)).toNatClampNeg) →
  ∀ i2 : Int32, i2 = x3 + (1 : Int32) →
  wp_X2_takeLate_25 n x0 x1 i2 M1 Q K53)
def wp_X2_takeLate_53 (x0 : Nat) (x1 : Int32) (M : Mem) (Q : Mem → Prop) : Prop :=
  wp_X2_changeLate x0 x1 (-1 : Int32) M (fun (M3 : Mem) =>
  Q M3)
def wp_X2_takeLate (x0 : Nat) (x1 : Int32) (x2 : Int32) (M : Mem) (Q : Mem → Prop) : Prop :=
  isO M x0 2 ∧
  (x2 < 0 →
  wp_X2_takeLate_12 M Q) ∧
  (¬ x2 < 0 →
  (x2 < (mI M x0 5) →
  ∀ M4 : Mem, M4 = sI M x0 5 ((mI M x0 5) - (1 : Int32)) →
  ∃ k25, wp_X2_takeLate_25 k25 x0 x1 x2 M4 Q (fun (x0 : Nat) (x1 : Int32) (M : Mem) => wp_X2_takeLate_53 x0 x1 M Q)) ∧
  (¬ x2 < (mI M x0 5) →
  wp_X2_takeLate_12 M Q))
def wp_X3_init (x0 : Nat) (M : Mem) (Q : Mem → Prop) : Prop :=
  isO M x0 3 ∧
  ¬ (34 : Int32) < 0 ∧ mz M < ZMAX ∧ shp (mz M) = .inl (.int, (34 : Int32).toNatClampNeg) ∧ (34 : Int32).toNatClampNeg * 8 ≤ 536870912 ∧
  ∀ (a1 : Nat) (M2 : Mem), a1 = mz M → M2 = nw M →
  ∀ M3 : Mem, M3 = sR M2 x0 0 (some a1) →
  ∀ M4 : Mem, M4 = sI M3 x0 1 (0 : Int32) →
  ∀ M5 : Mem, M5 = sI M4 x0 2 (0 : Int32) →
  ∀ M6 : Mem, M6 = sI M5 x0 3 (0 : Int32) →
  ∀ M7 : Mem, M7 = sI M6 x0 4 (0 : Int32) →
  ∀ M8 : Mem, M8 = sI M7 x0 5 (0 : Int32) →
  ∀ M9 : Mem, M9 = sI M8 x0 6 (0 : Int32) →
  Q M9
def wp_X3_tell_32  (M : Mem) (Q : Mem → Prop) : Prop :=
  Q M
def wp_X3_tell (x0 : Nat) (x1 : Int32) (M : Mem) (Q : Mem → Prop) : Prop :=
  isO M x0 3 ∧
  ((Int32.ofNat (alen (x0 + 1))) ≤ (mI M x0 1) →
  wp_X3_tell_32 M Q) ∧
  (¬ (Int32.ofNat (alen (x0 + 1))) ≤ (mI M x0 1) →
  inb (mI M x0 1) (alen (x0 + 1)) ∧
  ∀ M1 : Mem, M1 = sI M (x0 + 1) (mI M x0 1).toNatClampNeg x1 →
  ∀ M2 : Mem, M2 = sI M1 x0 1 ((mI M1 x0 1) + (1 : Int32)) →
  wp_X3_tell_32 M2 Q)
def wp_X3_descend_105 (x0 : Nat) (x1 : Nat) (x2 : Int32) (x3 : Int64) (x5 : Nat) (x6 : Int32) (x8 : Int32) (t0 : Int32) (t1 : Int32) (M : Mem) (Q : Int32 → Mem → Prop) (K53 : Nat → Nat → Int32 → Int64 → Nat → Int32 → Int32 → Int32 → Mem → Prop) (K111 : Nat → Int32 → Nat → Int32 → Int32 → Mem → Prop) : Prop :=
  ∀ i4 : Int32, i4 = t1 - t0 →
  K53 x0 x1 x2 x3 x5 x6 i4 x8 M
def wp_X3_descend_111 (x0 : Nat) (x2 : Int32) (x5 : Nat) (x6 : Int32) (x7 : Int32) (M : Mem) (Q : Int32 → Mem → Prop) : Prop :=
  wp_X3_tell x0 x2 M (fun (M5 : Mem) =>
  wp_X3_tell x0 x6 M5 (fun (M6 : Mem) =>
  wp_X3_tell x0 x7 M6 (fun (M7 : Mem) =>
  Q ((mI M7 x5 2) + x7) M7)))
def wp_X3_descend_91 (x0 : Nat) (x1 : Nat) (x2 : Int32) (x3 : Int64) (x5 : Nat) (x6 : Int32) (x7 : Int32) (t0 : Int32) (M : Mem) (Q : Int32 → Mem → Prop) (K53 : Nat → Nat → Int32 → Int64 → Nat → Int32 → Int32 → Int32 → Mem → Prop) (K111 : Nat → Int32 → Nat → Int32 → Int32 → Mem → Prop) : Prop :=
  (t0 = 0 →
  wp_X3_descend_105 x0 x1 x2 x3 x5 x6 t0 (0 : Int32) x7 M Q K53 K111) ∧
  (¬ t0 = 0 →
  wp_X3_descend_105 x0 x1 x2 x3 x5 x6 t0 (1 : Int32) x7 M Q K53 K111)
def wp_X3_descend_53 (n : Nat) (x0 : Nat) (x1 : Nat) (x2 : Int32) (x3 : Int64) (x5 : Nat) (x6 : Int32) (x7 : Int32) (x8 : Int32) (M : Mem) (Q : Int32 → Mem → Prop) (K111 : Nat → Int32 → Nat → Int32 → Int32 → Mem → Prop) : Prop := match n with
  | 0 => False
  | n + 1 =>
  (x7 ≤ 0 →
  K111 x0 x2 x5 x6 x7 M) ∧
  (¬ x7 ≤ 0 →
  (x8 = 0 →
  K111 x0 x2 x5 x6 x7 M) ∧
  (¬ x8 = 0 →
  ∀ M1 : Mem, M1 = sI M x0 2 ((mI M x0 2) + (1 : Int32)) →
  wp_X2_keyOf x1 (some x5) x7 M1 (fun (j3 : Int64) (M2 : Mem) =>
  (j3 ≤ x3 →
  wp_X3_descend_91 x0 x1 x2 x3 x5 x6 x7 (0 : Int32) M2 Q (fun (x0 : Nat) (x1 : Nat) (x2 : Int32) (x3 : Int64) (x5 : Nat) (x6 : Int32) (x7 : Int32) (x8 : Int32) (M : Mem) => wp_X3_descend_53 n x0 x1 x2 x3 x5 x6 x7 x8 M Q K111) K111) ∧
  (¬ j3 ≤ x3 →
  wp_X3_descend_91 x0 x1 x2 x3 x5 x6 x7 (1 : Int32) M2 Q (fun (x0 : Nat) (x1 : Nat) (x2 : Int32) (x3 : Int64) (x5 : Nat) (x6 : Int32) (x7 : Int32) (x8 : Int32) (M : Mem) => wp_X3_descend_53 n x0 x1 x2 x3 x5 x6 x7 x8 M Q K111) K111))))
def wp_X3_descend (x0 : Nat) (x1 : Option Nat) (x2 : Int32) (x3 : Int64) (M : Mem) (Q : Int32 → Mem → Prop) : Prop :=
  isO M x0 3 ∧
  ∃ a8 : Nat, x1 = some a8 ∧ isO M a8 2 ∧
  wp_X2_pieceAt a8 x2 M (fun (r10 : Option Nat) (M9 : Mem) =>
  (r10 = none →
  Q (0 : Int32) M9) ∧
  (∀ a11 : Nat, r10 = some a11 →
  wp_X2_keyOf a8 (some a11) (0 : Int32) M9 (fun (j13 : Int64) (M12 : Mem) =>
  isO M12 a11 0 ∧
  wp_X0_guessAway a11 (x3 - j13) M12 (fun (i16 : Int32) (M15 : Mem) =>
  wp_J9_min_7cf53 (i16 + (mI M15 a11 1)) ((mI M15 a11 3) - (1 : Int32)) M15 (fun (i18 : Int32) (M17 : Mem) =>
  ∃ k53, wp_X3_descend_53 k53 x0 a8 x2 x3 a11 i16 i18 (1 : Int32) M17 Q (fun (x0 : Nat) (x2 : Int32) (x5 : Nat) (x6 : Int32) (x7 : Int32) (M : Mem) => wp_X3_descend_111 x0 x2 x5 x6 x7 M Q))))))
def wp_X3_seekLate_100 (x0 : Nat) (x1 : Nat) (x2 : Int64) (x4 : Nat) (x5 : Int32) (x6 : Int32) (t0 : Int32) (t1 : Nat) (M : Mem) (Q : Mem → Prop) (K26 : Nat → Nat → Int64 → Nat → Int32 → Int32 → Mem → Prop) (K106 : Nat → Nat → Int32 → Mem → Prop) : Prop :=
  ∀ M5 : Mem, M5 = sI M t1 3 t0 →
  K26 x0 x1 x2 x4 x5 x6 M5
def wp_X3_seekLate_106 (x0 : Nat) (x4 : Nat) (x5 : Int32) (M : Mem) (Q : Mem → Prop) : Prop :=
  ∀ M6 : Mem, M6 = sI M x0 6 ((mI M x4 4) + x5) →
  Q M6
def wp_X3_seekLate_84 (x0 : Nat) (x1 : Nat) (x2 : Int64) (x4 : Nat) (x6 : Int32) (x7 : Int64) (t0 : Int32) (t1 : Int32) (M : Mem) (Q : Mem → Prop) (K26 : Nat → Nat → Int64 → Nat → Int32 → Int32 → Mem → Prop) (K106 : Nat → Nat → Int32 → Mem → Prop) : Prop :=
  ∀ i4 : Int32, i4 = t1 - t0 →
  (¬ x7 = x2 →
  wp_X3_seekLate_100 x0 x1 x2 x4 i4 x6 (0 : Int32) x0 M Q K26 K106) ∧
  (x7 = x2 →
  wp_X3_seekLate_100 x0 x1 x2 x4 i4 x6 (1 : Int32) x0 M Q K26 K106)
def wp_X3_seekLate_70 (x0 : Nat) (x1 : Nat) (x2 : Int64) (x4 : Nat) (x5 : Int32) (x7 : Int64) (t0 : Int32) (M : Mem) (Q : Mem → Prop) (K26 : Nat → Nat → Int64 → Nat → Int32 → Int32 → Mem → Prop) (K106 : Nat → Nat → Int32 → Mem → Prop) : Prop :=
  (t0 = 0 →
  wp_X3_seekLate_84 x0 x1 x2 x4 t0 x7 (0 : Int32) x5 M Q K26 K106) ∧
  (¬ t0 = 0 →
  wp_X3_seekLate_84 x0 x1 x2 x4 t0 x7 (1 : Int32) x5 M Q K26 K106)
def wp_X3_seekLate_26 (n : Nat) (x0 : Nat) (x1 : Nat) (x2 : Int64) (x4 : Nat) (x5 : Int32) (x6 : Int32) (M : Mem) (Q : Mem → Prop) (K106 : Nat → Nat → Int32 → Mem → Prop) : Prop := match n with
  | 0 => False
  | n + 1 =>
  (x5 ≤ 0 →
  K106 x0 x4 x5 M) ∧
  (¬ x5 ≤ 0 →
  (x6 = 0 →
  K106 x0 x4 x5 M) ∧
  (¬ x6 = 0 →
  ∀ M1 : Mem, M1 = sI M x0 2 ((mI M x0 2) + (1 : Int32)) →
  wp_X2_lateOf x1 (some x4) (x5 - (1 : Int32)) M1 (fun (j3 : Int64) (M2 : Mem) =>
  (j3 ≤ x2 →
  wp_X3_seekLate_70 x0 x1 x2 x4 x5 j3 (0 : Int32) M2 Q (fun (x0 : Nat) (x1 : Nat) (x2 : Int64) (x4 : Nat) (x5 : Int32) (x6 : Int32) (M : Mem) => wp_X3_seekLate_26 n x0 x1 x2 x4 x5 x6 M Q K106) K106) ∧
  (¬ j3 ≤ x2 →
  wp_X3_seekLate_70 x0 x1 x2 x4 x5 j3 (1 : Int32) M2 Q (fun (x0 : Nat) (x1 : Nat) (x2 : Int64) (x4 : Nat) (x5 : Int32) (x6 : Int32) (M : Mem) => wp_X3_seekLate_26 n x0 x1 x2 x4 x5 x6 M Q K106) K106))))
def wp_X3_seekLate (x0 : Nat) (x1 : Option Nat) (x2 : Int64) (M : Mem) (Q : Mem → Prop) : Prop :=
  isO M x0 3 ∧
  ∃ a7 : Nat, x1 = some a7 ∧ isO M a7 2 ∧
  wp_X2_pieceAt a7 (mI M x0 4) M (fun (r9 : Option Nat) (M8 : Mem) =>
  (r9 = none →
  Q M8) ∧
  (∀ a10 : Nat, r9 = some a10 →
  isO M8 a10 0 ∧
  ∀ i12 : Int32, i12 = mI M8 a10 5 →
  ∃ k26, wp_X3_seekLate_26 k26 x0 a7 x2 a10 i12 (1 : Int32) M8 Q (fun (x0 : Nat) (x4 : Nat) (x5 : Int32) (M : Mem) => wp_X3_seekLate_106 x0 x4 x5 M Q)))
def wp_X3_follow_26 (n : Nat) (x0 : Nat) (x1 : Int64) (x3 : Option Nat) (x4 : Option Nat) (x6 : Int32) (M : Mem) (Q : Mem → Prop) (K63 : Nat → Int64 → Option Nat → Mem → Prop) : Prop := match n with
  | 0 => False
  | n + 1 =>
  (x6 < 0 →
  K63 x0 x1 x3 M) ∧
  (¬ x6 < 0 →
  ∃ a1 : Nat, x4 = some a1 ∧ isA M a1 (.object "LeaningIndex$Tier") ∧
  ((Int32.ofNat (alen a1)) ≤ x6 →
  K63 x0 x1 x3 M) ∧
  (¬ (Int32.ofNat (alen a1)) ≤ x6 →
  inb x6 (alen a1) ∧
  ∀ r2 : Option Nat, r2 = zref true M a1 x6.toNatClampNeg →
  wp_X3_descend x0 r2 (mI M x0 4) x1 M (fun (i4 : Int32) (M3 : Mem) =>
  ∀ M5 : Mem, M5 = sI M3 x0 4 i4 →
  ∀ i6 : Int32, i6 = x6 + (-1 : Int32) →
  wp_X3_follow_26 n x0 x1 x3 (some a1) i6 M5 Q K63)))
def wp_X3_follow_113 (x0 : Nat) (M : Mem) (Q : Mem → Prop) : Prop :=
  wp_X3_tell x0 (mI M x0 3) M (fun (M16 : Mem) =>
  Q M16)
def wp_X3_follow_63 (x0 : Nat) (x1 : Int64) (x3 : Option Nat) (M : Mem) (Q : Mem → Prop) : Prop :=
  wp_X3_descend x0 x3 (mI M x0 4) x1 M (fun (i8 : Int32) (M7 : Mem) =>
  ∀ M9 : Mem, M9 = sI M7 x0 5 i8 →
  ∀ M10 : Mem, M10 = sI M9 x0 2 ((mI M9 x0 2) + (1 : Int32)) →
  ∃ a11 : Nat, x3 = some a11 ∧ isO M10 a11 2 ∧
  wp_X2_holds a11 (mI M10 x0 5) x1 M10 (fun (i13 : Int32) (M12 : Mem) =>
  (i13 = 0 →
  wp_X3_seekLate x0 (some a11) x1 M12 (fun (M14 : Mem) =>
  wp_X3_follow_113 x0 M14 Q)) ∧
  (¬ i13 = 0 →
  ∀ M15 : Mem, M15 = sI M12 x0 3 (1 : Int32) →
  wp_X3_follow_113 x0 M15 Q)))
def wp_X3_follow (x0 : Nat) (x1 : Int64) (x3 : Option Nat) (x4 : Option Nat) (x5 : Int32) (M : Mem) (Q : Mem → Prop) : Prop :=
  isO M x0 3 ∧
  ∀ M17 : Mem, M17 = sI M x0 1 (0 : Int32) →
  ∀ M18 : Mem, M18 = sI M17 x0 2 (0 : Int32) →
  ∀ M19 : Mem, M19 = sI M18 x0 3 (0 : Int32) →
  ∀ M20 : Mem, M20 = sI M19 x0 4 (0 : Int32) →
  ∀ i21 : Int32, i21 = x5 - (1 : Int32) →
  ∃ k26, wp_X3_follow_26 k26 x0 x1 x3 x4 i21 M20 Q (fun (x0 : Nat) (x1 : Int64) (x3 : Option Nat) (M : Mem) => wp_X3_follow_63 x0 x1 x3 M Q)
def wp_X3_tellsTheSame_15 (n : Nat) (x0 : Nat) (x1 : Nat) (x2 : Int32) (M : Mem) (Q : Int32 → Mem → Prop) (K38 : Mem → Prop) (K46 : Mem → Prop) : Prop := match n with
  | 0 => False
  | n + 1 =>
  ((mI M x0 1) ≤ x2 →
  K46 M) ∧
  (¬ (mI M x0 1) ≤ x2 →
  inb x2 (alen (x0 + 1)) ∧
  inb x2 (alen (x1 + 1)) ∧
  ((mI M (x0 + 1) x2.toNatClampNeg) = (mI M (x1 + 1) x2.toNatClampNeg) →
  ∀ i1 : Int32, i1 = x2 + (1 : Int32) →
  wp_X3_tellsTheSame_15 n x0 x1 i1 M Q K38 K46) ∧
  (¬ (mI M (x0 + 1) x2.toNatClampNeg) = (mI M (x1 + 1) x2.toNatClampNeg) →
  K38 M))
def wp_X3_tellsTheSame_38  (M : Mem) (Q : Int32 → Mem → Prop) : Prop :=
  Q (0 : Int32) M
def wp_X3_tellsTheSame_46  (M : Mem) (Q : Int32 → Mem → Prop) : Prop :=
  Q (1 : Int32) M
def wp_X3_tellsTheSame (x0 : Nat) (x1 : Option Nat) (M : Mem) (Q : Int32 → Mem → Prop) : Prop :=
  isO M x0 3 ∧
  ∃ a2 : Nat, x1 = some a2 ∧ isO M a2 3 ∧
  ((mI M x0 1) = (mI M a2 1) →
  ∃ k15, wp_X3_tellsTheSame_15 k15 x0 a2 (0 : Int32) M Q (fun  (M : Mem) => wp_X3_tellsTheSame_38 M Q) (fun  (M : Mem) => wp_X3_tellsTheSame_46 M Q)) ∧
  (¬ (mI M x0 1) = (mI M a2 1) →
  Q (0 : Int32) M)
def wp_X4_init_135 (n : Nat) (x0 : Nat) (x1 : Int32) (x2 : Int32) (M : Mem) (Q : Mem → Prop) (K168 : Mem → Prop) : Prop := match n with
  | 0 => False
  | n + 1 =>
  ((10 : Int32) ≤ x2 →
  K168 M) ∧
  (¬ (10 : Int32) ≤ x2 →
  ∀ r1 : Option Nat, r1 = mR M x0 5 →
  mz M < ZMAX ∧
  shp (mz M) = .inr 2 ∧
  ∀ (a2 : Nat) (M3 : Mem), a2 = mz M → M3 = nw M →
  wp_X2_init a2 x1 (0 : Int32) M3 (fun (M4 : Mem) =>
  ∃ a5 : Nat, r1 = some a5 ∧ isA M4 a5 (.object "LeaningIndex$Tier") ∧
  inb x2 (alen a5) ∧
  ∀ M6 : Mem, M6 = sR M4 a5 x2.toNatClampNeg (some a2) →
  ¬ (2 : Int32) = 0 ∧
  ∀ i7 : Int32, i7 = (x1 + (1 : Int32)) / (2 : Int32) →
  ∀ i8 : Int32, i8 = x2 + (1 : Int32) →
  wp_X4_init_135 n x0 i7 i8 M6 Q K168))
def wp_X4_init_168  (M : Mem) (Q : Mem → Prop) : Prop :=
  Q M
def wp_X4_init (x0 : Nat) (M : Mem) (Q : Mem → Prop) : Prop :=
  isO M x0 4 ∧
  ¬ (300 : Int32) < 0 ∧ mz M < ZMAX ∧ shp (mz M) = .inl (.long, (300 : Int32).toNatClampNeg) ∧ (300 : Int32).toNatClampNeg * 8 ≤ 536870912 ∧
  ∀ (a9 : Nat) (M10 : Mem), a9 = mz M → M10 = nw M →
  ∀ M11 : Mem, M11 = sR M10 x0 0 (some a9) →
  ∀ M12 : Mem, M12 = sI M11 x0 1 (0 : Int32) →
  ∀ M13 : Mem, M13 = sI M12 x0 2 (8 : Int32) →
  mz M13 < ZMAX ∧
  shp (mz M13) = .inr 2 ∧
  ∀ (a14 : Nat) (M15 : Mem), a14 = mz M13 → M15 = nw M13 →
  wp_X2_init a14 (600 : Int32) (300 : Int32) M15 (fun (M16 : Mem) =>
  ∀ M17 : Mem, M17 = sR M16 x0 3 (some a14) →
  mz M17 < ZMAX ∧
  shp (mz M17) = .inr 2 ∧
  ∀ (a18 : Nat) (M19 : Mem), a18 = mz M17 → M19 = nw M17 →
  wp_X2_init a18 (600 : Int32) (300 : Int32) M19 (fun (M20 : Mem) =>
  ∀ M21 : Mem, M21 = sR M20 x0 4 (some a18) →
  ¬ (10 : Int32) < 0 ∧ mz M21 < ZMAX ∧ shp (mz M21) = .inl (.object "LeaningIndex$Tier", (10 : Int32).toNatClampNeg) ∧ (10 : Int32).toNatClampNeg * 8 ≤ 536870912 ∧
  ∀ (a22 : Nat) (M23 : Mem), a22 = mz M21 → M23 = nw M21 →
  ∀ M24 : Mem, M24 = sR M23 x0 5 (some a22) →
  ∀ M25 : Mem, M25 = sI M24 x0 6 (0 : Int32) →
  ∀ M26 : Mem, M26 = sI M25 x0 7 (0 : Int32) →
  ∀ M27 : Mem, M27 = sI M26 x0 8 (0 : Int32) →
  ∀ M28 : Mem, M28 = sI M27 x0 9 (0 : Int32) →
  mz M28 < ZMAX ∧
  shp (mz M28) = .inr 3 ∧
  ∀ (a29 : Nat) (M30 : Mem), a29 = mz M28 → M30 = nw M28 →
  wp_X3_init a29 M30 (fun (M31 : Mem) =>
  ∀ M32 : Mem, M32 = sR M31 x0 10 (some a29) →
  mz M32 < ZMAX ∧
  shp (mz M32) = .inr 3 ∧
  ∀ (a33 : Nat) (M34 : Mem), a33 = mz M32 → M34 = nw M32 →
  wp_X3_init a33 M34 (fun (M35 : Mem) =>
  ∀ M36 : Mem, M36 = sR M35 x0 11 (some a33) →
  mz M36 < ZMAX ∧
  shp (mz M36) = .inr 1 ∧
  ∀ (a37 : Nat) (M38 : Mem), a37 = mz M36 → M38 = nw M36 →
  wp_X1_init a37 M38 (fun (M39 : Mem) =>
  ∀ M40 : Mem, M40 = sR M39 x0 12 (some a37) →
  ¬ (600 : Int32) < 0 ∧ mz M40 < ZMAX ∧ shp (mz M40) = .inl (.long, (600 : Int32).toNatClampNeg) ∧ (600 : Int32).toNatClampNeg * 8 ≤ 536870912 ∧
  ∀ (a41 : Nat) (M42 : Mem), a41 = mz M40 → M42 = nw M40 →
  ∀ M43 : Mem, M43 = sR M42 x0 13 (some a41) →
  ∃ k135, wp_X4_init_135 k135 x0 (600 : Int32) (0 : Int32) M43 Q (fun  (M : Mem) => wp_X4_init_168 M Q))))))
def wp_X4_isKey_21 (t0 : Int32) (M : Mem) (Q : Int32 → Mem → Prop) : Prop :=
  (t0 = 0 ∨ t0 = 1) ∧ Q t0 M
def wp_X4_isKey_20  (M : Mem) (Q : Int32 → Mem → Prop) : Prop :=
  wp_X4_isKey_21 (0 : Int32) M Q
def wp_X4_isKey (x0 : Int64) (M : Mem) (Q : Int32 → Mem → Prop) : Prop :=
  (x0 < (-1000000000000 : Int64) →
  wp_X4_isKey_20 M Q) ∧
  (¬ x0 < (-1000000000000 : Int64) →
  ((1000000000000 : Int64) < x0 →
  wp_X4_isKey_20 M Q) ∧
  (¬ (1000000000000 : Int64) < x0 →
  wp_X4_isKey_21 (1 : Int32) M Q))
def wp_X4_isAboveRow_28 (t0 : Int32) (M : Mem) (Q : Int32 → Mem → Prop) : Prop :=
  (t0 = 0 ∨ t0 = 1) ∧ Q t0 M
def wp_X4_isAboveRow_23  (M : Mem) (Q : Int32 → Mem → Prop) : Prop :=
  wp_X4_isAboveRow_28 (1 : Int32) M Q
def wp_X4_isAboveRow (x0 : Nat) (x1 : Int64) (M : Mem) (Q : Int32 → Mem → Prop) : Prop :=
  isO M x0 4 ∧
  ((mI M x0 1) = 0 →
  wp_X4_isAboveRow_23 M Q) ∧
  (¬ (mI M x0 1) = 0 →
  inb ((mI M x0 1) - (1 : Int32)) (alen 1) ∧
  (x1 ≤ (mL M 1 ((mI M x0 1) - (1 : Int32)).toNatClampNeg) →
  wp_X4_isAboveRow_28 (0 : Int32) M Q) ∧
  (¬ x1 ≤ (mL M 1 ((mI M x0 1) - (1 : Int32)).toNatClampNeg) →
  wp_X4_isAboveRow_23 M Q))
def wp_X4_load_15  (M : Mem) (Q : Int32 → Mem → Prop) : Prop :=
  Q (-2 : Int32) M
def wp_X4_load (x0 : Nat) (x1 : Int64) (M : Mem) (Q : Int32 → Mem → Prop) : Prop :=
  isO M x0 4 ∧
  wp_X4_isKey x1 M (fun (i2 : Int32) (M1 : Mem) =>
  (i2 = 0 →
  wp_X4_load_15 M1 Q) ∧
  (¬ i2 = 0 →
  wp_X4_isAboveRow x0 x1 M1 (fun (i4 : Int32) (M3 : Mem) =>
  (¬ i4 = 0 →
  ((mI M3 x0 1) < (300 : Int32) →
  inb (mI M3 x0 1) (alen 1) ∧
  ∀ M5 : Mem, M5 = sL M3 1 (mI M3 x0 1).toNatClampNeg x1 →
  ∀ M6 : Mem, M6 = sI M5 x0 1 ((mI M5 x0 1) + (1 : Int32)) →
  Q (mI M6 x0 1) M6) ∧
  (¬ (mI M3 x0 1) < (300 : Int32) →
  Q (-3 : Int32) M3)) ∧
  (i4 = 0 →
  wp_X4_load_15 M3 Q))))
def wp_X4_fill_27  (M : Mem) (Q : Int32 → Mem → Prop) : Prop :=
  Q (-2 : Int32) M
def wp_X4_fill_68 (n : Nat) (x0 : Nat) (x1 : Int64) (x3 : Int64) (x5 : Int32) (x6 : Int32) (M : Mem) (Q : Int32 → Mem → Prop) (K100 : Nat → Int32 → Mem → Prop) : Prop := match n with
  | 0 => False
  | n + 1 =>
  (x5 ≤ x6 →
  K100 x0 x5 M) ∧
  (¬ x5 ≤ x6 →
  inb ((mI M x0 1) + x6) (alen 1) ∧
  ∀ M1 : Mem, M1 = sL M 1 ((mI M x0 1) + x6).toNatClampNeg (x1 + (x6.toInt64 * x3)) →
  ∀ i2 : Int32, i2 = x6 + (1 : Int32) →
  wp_X4_fill_68 n x0 x1 x3 x5 i2 M1 Q K100)
def wp_X4_fill_100 (x0 : Nat) (x5 : Int32) (M : Mem) (Q : Int32 → Mem → Prop) : Prop :=
  ∀ M3 : Mem, M3 = sI M x0 1 ((mI M x0 1) + x5) →
  Q (mI M3 x0 1) M3
def wp_X4_fill (x0 : Nat) (x1 : Int64) (x3 : Int64) (x5 : Int32) (M : Mem) (Q : Int32 → Mem → Prop) : Prop :=
  isO M x0 4 ∧
  (x5 < (1 : Int32) →
  wp_X4_fill_27 M Q) ∧
  (¬ x5 < (1 : Int32) →
  (x3 < (1 : Int64) →
  wp_X4_fill_27 M Q) ∧
  (¬ x3 < (1 : Int64) →
  wp_X4_isKey x1 M (fun (i5 : Int32) (M4 : Mem) =>
  (i5 = 0 →
  wp_X4_fill_27 M4 Q) ∧
  (¬ i5 = 0 →
  wp_X4_isAboveRow x0 x1 M4 (fun (i7 : Int32) (M6 : Mem) =>
  (¬ i7 = 0 →
  ¬ x3 = 0 ∧
  (((x5 - (1 : Int32)).toInt64) ≤ (((1000000000000 : Int64) - x1) / x3) →
  (x5 ≤ ((300 : Int32) - (mI M6 x0 1)) →
  ∃ k68, wp_X4_fill_68 k68 x0 x1 x3 x5 (0 : Int32) M6 Q (fun (x0 : Nat) (x5 : Int32) (M : Mem) => wp_X4_fill_100 x0 x5 M Q)) ∧
  (¬ x5 ≤ ((300 : Int32) - (mI M6 x0 1)) →
  Q (-3 : Int32) M6)) ∧
  (¬ ((x5 - (1 : Int32)).toInt64) ≤ (((1000000000000 : Int64) - x1) / x3) →
  Q (-2 : Int32) M6)) ∧
  (i7 = 0 →
  wp_X4_fill_27 M6 Q))))))
def wp_X4_wipe (x0 : Nat) (M : Mem) (Q : Int32 → Mem → Prop) : Prop :=
  isO M x0 4 ∧
  ∀ i1 : Int32, i1 = mI M x0 1 →
  ∀ M2 : Mem, M2 = sI M x0 1 (0 : Int32) →
  Q i1 M2
def wp_X4_isMargin_15 (t0 : Int32) (M : Mem) (Q : Int32 → Mem → Prop) : Prop :=
  (t0 = 0 ∨ t0 = 1) ∧ Q t0 M
def wp_X4_isMargin_14  (M : Mem) (Q : Int32 → Mem → Prop) : Prop :=
  wp_X4_isMargin_15 (0 : Int32) M Q
def wp_X4_isMargin (x0 : Int32) (M : Mem) (Q : Int32 → Mem → Prop) : Prop :=
  (x0 < 0 →
  wp_X4_isMargin_14 M Q) ∧
  (¬ x0 < 0 →
  ((40 : Int32) < x0 →
  wp_X4_isMargin_14 M Q) ∧
  (¬ (40 : Int32) < x0 →
  wp_X4_isMargin_15 (1 : Int32) M Q))
def wp_X4_margin (x0 : Nat) (x1 : Int32) (M : Mem) (Q : Int32 → Mem → Prop) : Prop :=
  isO M x0 4 ∧
  wp_X4_isMargin x1 M (fun (i2 : Int32) (M1 : Mem) =>
  (¬ i2 = 0 →
  ∀ i3 : Int32, i3 = mI M1 x0 2 →
  ∀ M4 : Mem, M4 = sI M1 x0 2 x1 →
  Q i3 M4) ∧
  (i2 = 0 →
  Q (-2 : Int32) M1))
def wp_X4_few_14 (n : Nat) (x0 : Nat) (x1 : Int32) (x2 : Int32) (x3 : Int32) (M : Mem) (Q : Int32 → Mem → Prop) (K54 : Int32 → Mem → Prop) : Prop := match n with
  | 0 => False
  | n + 1 =>
  ((mI M x0 1) ≤ x3 →
  K54 x2 M) ∧
  (¬ (mI M x0 1) ≤ x3 →
  ((mI M x0 1) ≤ x2 →
  K54 x2 M) ∧
  (¬ (mI M x0 1) ≤ x2 →
  wp_X1_endOfSpan 17 (some 1) x3 (mI M x0 1) x1 M (fun (i2 : Int32) (M1 : Mem) =>
  ∀ i3 : Int32, i3 = x2 + (1 : Int32) →
  wp_X4_few_14 n x0 x1 i3 i2 M1 Q K54)))
def wp_X4_few_54 (x2 : Int32) (M : Mem) (Q : Int32 → Mem → Prop) : Prop :=
  Q x2 M
def wp_X4_few (x0 : Nat) (x1 : Int32) (M : Mem) (Q : Int32 → Mem → Prop) : Prop :=
  isO M x0 4 ∧
  wp_X4_isMargin x1 M (fun (i5 : Int32) (M4 : Mem) =>
  (¬ i5 = 0 →
  ∃ k14, wp_X4_few_14 k14 x0 x1 (0 : Int32) (0 : Int32) M4 Q (fun (x2 : Int32) (M : Mem) => wp_X4_few_54 x2 M Q)) ∧
  (i5 = 0 →
  Q (-2 : Int32) M4))
def wp_X4_passes_30  (M : Mem) (Q : Int32 → Mem → Prop) : Prop :=
  Q (-2 : Int32) M
def wp_X4_passes_57 (t0 : Int32) (M : Mem) (Q : Int32 → Mem → Prop) : Prop :=
  Q t0 M
def wp_X4_passes (x0 : Nat) (x1 : Int32) (x2 : Int32) (x3 : Int32) (x4 : Int32) (M : Mem) (Q : Int32 → Mem → Prop) : Prop :=
  isO M x0 4 ∧
  wp_X4_isMargin x4 M (fun (i2 : Int32) (M1 : Mem) =>
  (i2 = 0 →
  wp_X4_passes_30 M1 Q) ∧
  (¬ i2 = 0 →
  (x1 < 0 →
  wp_X4_passes_30 M1 Q) ∧
  (¬ x1 < 0 →
  (x2 ≤ x1 →
  wp_X4_passes_30 M1 Q) ∧
  (¬ x2 ≤ x1 →
  (x3 ≤ x2 →
  wp_X4_passes_30 M1 Q) ∧
  (¬ x3 ≤ x2 →
  (x3 < (mI M1 x0 1) →
  wp_X1_passThree 17 (some 1) x1 x2 x3 x4 M1 (fun (i4 : Int32) (M3 : Mem) =>
  (i4 = 0 →
  wp_X4_passes_57 (0 : Int32) M3 Q) ∧
  (¬ i4 = 0 →
  wp_X4_passes_57 (1 : Int32) M3 Q))) ∧
  (¬ x3 < (mI M1 x0 1) →
  wp_X4_passes_30 M1 Q))))))
def wp_X4_oneOfTwoThatBar_15 (n : Nat) (x0 : Nat) (x2 : Int32) (x3 : Int32) (x4 : Int32) (x5 : Int32) (M : Mem) (Q : Int32 → Mem → Prop) (K44 : Int32 → Int32 → Int32 → Mem → Prop) (K62 : Nat → Int32 → Int32 → Int32 → Mem → Prop) : Prop := match n with
  | 0 => False
  | n + 1 =>
  (x2 ≤ x5 →
  K62 x0 x2 x3 x4 M) ∧
  (¬ x2 ≤ x5 →
  wp_X1_passThree 17 (some 1) x4 x5 x2 (mI M x0 2) M (fun (i3 : Int32) (M2 : Mem) =>
  (¬ i3 = 0 →
  ∀ i4 : Int32, i4 = x5 + (1 : Int32) →
  wp_X4_oneOfTwoThatBar_15 n x0 x2 x3 x4 i4 M2 Q K44 K62) ∧
  (i3 = 0 →
  K44 x3 x4 x5 M2)))
def wp_X4_oneOfTwoThatBar_55 (t0 : Int32) (M : Mem) (Q : Int32 → Mem → Prop) : Prop :=
  Q t0 M
def wp_X4_oneOfTwoThatBar_62 (x0 : Nat) (x2 : Int32) (x3 : Int32) (x4 : Int32) (M : Mem) (Q : Int32 → Mem → Prop) (K3 : Nat → Int32 → Int32 → Int32 → Mem → Prop) (K44 : Int32 → Int32 → Int32 → Mem → Prop) (K68 : Mem → Prop) : Prop :=
  ∀ i5 : Int32, i5 = x4 + (1 : Int32) →
  K3 x0 x2 x3 i5 M
def wp_X4_oneOfTwoThatBar_68  (M : Mem) (Q : Int32 → Mem → Prop) : Prop :=
  Q (-1 : Int32) M
def wp_X4_oneOfTwoThatBar_3 (n : Nat) (x0 : Nat) (x2 : Int32) (x3 : Int32) (x4 : Int32) (M : Mem) (Q : Int32 → Mem → Prop) (K44 : Int32 → Int32 → Int32 → Mem → Prop) (K68 : Mem → Prop) : Prop := match n with
  | 0 => False
  | n + 1 =>
  (x2 ≤ x4 →
  K68 M) ∧
  (¬ x2 ≤ x4 →
  ∀ i1 : Int32, i1 = x4 + (1 : Int32) →
  ∃ k15, wp_X4_oneOfTwoThatBar_15 k15 x0 x2 x3 x4 i1 M Q (fun (x3 : Int32) (x4 : Int32) (x5 : Int32) (M : Mem) => K44 x3 x4 x5 M) (fun (x0 : Nat) (x2 : Int32) (x3 : Int32) (x4 : Int32) (M : Mem) => wp_X4_oneOfTwoThatBar_62 x0 x2 x3 x4 M Q (fun (x0 : Nat) (x2 : Int32) (x3 : Int32) (x4 : Int32) (M : Mem) => wp_X4_oneOfTwoThatBar_3 n x0 x2 x3 x4 M Q K44 K68) K44 K68))
def wp_X4_oneOfTwoThatBar_44 (x3 : Int32) (x4 : Int32) (x5 : Int32) (M : Mem) (Q : Int32 → Mem → Prop) : Prop :=
  (x3 = 0 →
  wp_X4_oneOfTwoThatBar_55 x5 M Q) ∧
  (¬ x3 = 0 →
  wp_X4_oneOfTwoThatBar_55 x4 M Q)
def wp_X4_oneOfTwoThatBar (x0 : Nat) (x1 : Int32) (x2 : Int32) (x3 : Int32) (M : Mem) (Q : Int32 → Mem → Prop) : Prop :=
  isO M x0 4 ∧
  ∃ k3, wp_X4_oneOfTwoThatBar_3 k3 x0 x2 x3 x1 M Q (fun (x3 : Int32) (x4 : Int32) (x5 : Int32) (M : Mem) => wp_X4_oneOfTwoThatBar_44 x3 x4 x5 M Q) (fun  (M : Mem) => wp_X4_oneOfTwoThatBar_68 M Q)
def wp_X4_span_23  (M : Mem) (Q : Int32 → Mem → Prop) : Prop :=
  Q (-1 : Int32) M
def wp_X4_span_34 (n : Nat) (x0 : Nat) (x1 : Int32) (x2 : Int32) (x4 : Int32) (x5 : Int32) (x6 : Int32) (M : Mem) (Q : Int32 → Mem → Prop) (K82 : Nat → Int32 → Int32 → Int32 → Mem → Prop) : Prop := match n with
  | 0 => False
  | n + 1 =>
  (x1 ≤ x6 →
  K82 x0 x2 x4 x5 M) ∧
  (¬ x1 ≤ x6 →
  ((mI M x0 1) ≤ x5 →
  K82 x0 x2 x4 x5 M) ∧
  (¬ (mI M x0 1) ≤ x5 →
  wp_X1_endOfSpan 17 (some 1) x5 (mI M x0 1) (mI M x0 2) M (fun (i2 : Int32) (M1 : Mem) =>
  ∀ i3 : Int32, i3 = x6 + (1 : Int32) →
  wp_X4_span_34 n x0 x1 x2 x5 i2 i3 M1 Q K82)))
def wp_X4_span_145 (t0 : Int32) (t1 : Int32) (t2 : Int32) (t3 : Nat) (M : Mem) (Q : Int32 → Mem → Prop) : Prop :=
  wp_X4_oneOfTwoThatBar t3 t2 t1 t0 M (fun (i7 : Int32) (M6 : Mem) =>
  Q i7 M6)
def wp_X4_span_82 (x0 : Nat) (x2 : Int32) (x4 : Int32) (x5 : Int32) (M : Mem) (Q : Int32 → Mem → Prop) : Prop :=
  (x5 < (mI M x0 1) →
  (¬ x2 = 0 →
  (¬ x2 = (1 : Int32) →
  (¬ x2 = (2 : Int32) →
  wp_X4_span_145 (0 : Int32) x5 x4 x0 M Q) ∧
  (x2 = (2 : Int32) →
  wp_X4_span_145 (1 : Int32) x5 x4 x0 M Q)) ∧
  (x2 = (1 : Int32) →
  wp_X1_endOfSpan 17 (some 1) x5 (mI M x0 1) (mI M x0 2) M (fun (i5 : Int32) (M4 : Mem) =>
  Q (i5 - x5) M4))) ∧
  (x2 = 0 →
  Q x5 M)) ∧
  (¬ x5 < (mI M x0 1) →
  Q (-1 : Int32) M)
def wp_X4_span_9 (x0 : Nat) (x1 : Int32) (x2 : Int32) (t0 : Int32) (M : Mem) (Q : Int32 → Mem → Prop) : Prop :=
  (x1 < 0 →
  wp_X4_span_23 M Q) ∧
  (¬ x1 < 0 →
  (x2 < 0 →
  wp_X4_span_23 M Q) ∧
  (¬ x2 < 0 →
  (x2 ≤ t0 →
  ∃ k34, wp_X4_span_34 k34 x0 x1 x2 (0 : Int32) (0 : Int32) (0 : Int32) M Q (fun (x0 : Nat) (x2 : Int32) (x4 : Int32) (x5 : Int32) (M : Mem) => wp_X4_span_82 x0 x2 x4 x5 M Q)) ∧
  (¬ x2 ≤ t0 →
  wp_X4_span_23 M Q)))
def wp_X4_span (x0 : Nat) (x1 : Int32) (x2 : Int32) (M : Mem) (Q : Int32 → Mem → Prop) : Prop :=
  isO M x0 4 ∧
  (x1 ≤ 0 →
  wp_X4_span_9 x0 x1 x2 (1 : Int32) M Q) ∧
  (¬ x1 ≤ 0 →
  wp_X4_span_9 x0 x1 x2 (3 : Int32) M Q)
def wp_X4_isKindToMake_22 (t0 : Int32) (M : Mem) (Q : Int32 → Mem → Prop) : Prop :=
  (t0 = 0 ∨ t0 = 1) ∧ Q t0 M
def wp_X4_isKindToMake_17  (M : Mem) (Q : Int32 → Mem → Prop) : Prop :=
  wp_X4_isKindToMake_22 (1 : Int32) M Q
def wp_X4_isKindToMake_21  (M : Mem) (Q : Int32 → Mem → Prop) : Prop :=
  wp_X4_isKindToMake_22 (0 : Int32) M Q
def wp_X4_isKindToMake (x0 : Nat) (x1 : Int32) (M : Mem) (Q : Int32 → Mem → Prop) : Prop :=
  isO M x0 4 ∧
  (x1 = (1 : Int32) →
  wp_X4_isKindToMake_17 M Q) ∧
  (¬ x1 = (1 : Int32) →
  (¬ x1 = (2 : Int32) →
  wp_X4_isKindToMake_21 M Q) ∧
  (x1 = (2 : Int32) →
  ((mI M x0 2) ≤ 0 →
  wp_X4_isKindToMake_21 M Q) ∧
  (¬ (mI M x0 2) ≤ 0 →
  wp_X4_isKindToMake_17 M Q)))
def wp_X4_makeLayers_10 (n : Nat) (x0 : Nat) (x1 : Option Nat) (M : Mem) (Q : Mem → Prop) (K87 : Mem → Prop) : Prop := match n with
  | 0 => False
  | n + 1 =>
  ∃ a1 : Nat, x1 = some a1 ∧ isO M a1 2 ∧
  ((mI M a1 6) ≤ (1 : Int32) →
  K87 M) ∧
  (¬ (mI M a1 6) ≤ (1 : Int32) →
  ((10 : Int32) ≤ (mI M x0 6) →
  K87 M) ∧
  (¬ (10 : Int32) ≤ (mI M x0 6) →
  wp_X2_firstKeys a1 (some 18) M (fun (i3 : Int32) (M2 : Mem) =>
  inb (mI M2 x0 6) (alen 12) ∧
  ∀ r4 : Option Nat, r4 = zref true M2 12 (mI M2 x0 6).toNatClampNeg →
  ∃ a5 : Nat, r4 = some a5 ∧ isO M2 a5 2 ∧
  wp_X2_empty a5 M2 (fun (M6 : Mem) =>
  wp_X2_makePieces a5 (some 18) i3 (mI M6 x0 2) (mI M6 x0 2) (some 17) M6 (fun (i8 : Int32) (M7 : Mem) =>
  ∀ M9 : Mem, M9 = sI M7 x0 6 ((mI M7 x0 6) + (1 : Int32)) →
  wp_X4_makeLayers_10 n x0 (some a5) M9 Q K87)))))
def wp_X4_makeLayers_87  (M : Mem) (Q : Mem → Prop) : Prop :=
  Q M
def wp_X4_makeLayers (x0 : Nat) (M : Mem) (Q : Mem → Prop) : Prop :=
  isO M x0 4 ∧
  ∀ M10 : Mem, M10 = sI M x0 6 (0 : Int32) →
  ∀ r11 : Option Nat, r11 = mR M10 x0 3 →
  ∃ k10, wp_X4_makeLayers_10 k10 x0 r11 M10 Q (fun  (M : Mem) => wp_X4_makeLayers_87 M Q)
def wp_X4_replace_83 (x0 : Nat) (x2 : Int32) (x6 : Int32) (M : Mem) (Q : Int32 → Mem → Prop) : Prop :=
  ∀ r8 : Option Nat, r8 = mR M x0 4 →
  ∀ r9 : Option Nat, r9 = mR M x0 3 →
  ∀ r10 : Option Nat, r10 = mR M x0 3 →
  ∃ a11 : Nat, r10 = some a11 ∧ isO M a11 2 ∧
  ∃ a12 : Nat, r8 = some a12 ∧ isO M a12 2 ∧
  wp_X2_takeOver a12 r9 x2 (mI M a11 6) M (fun (M13 : Mem) =>
  ∀ r14 : Option Nat, r14 = mR M13 x0 3 →
  ∀ r15 : Option Nat, r15 = mR M13 x0 4 →
  ∀ M16 : Mem, M16 = sR M13 x0 3 r15 →
  ∀ M17 : Mem, M17 = sR M16 x0 4 r14 →
  ∀ M18 : Mem, M18 = sI M17 x0 8 ((mI M17 x0 8) + x6) →
  wp_X4_makeLayers x0 M18 (fun (M19 : Mem) =>
  Q x6 M19))
def wp_X4_replace_39 (x0 : Nat) (x1 : Int32) (x2 : Int32) (x3 : Int32) (x4 : Int32) (t0 : Int32) (M : Mem) (Q : Int32 → Mem → Prop) : Prop :=
  ∀ r1 : Option Nat, r1 = mR M x0 4 →
  ∃ a2 : Nat, r1 = some a2 ∧ isO M a2 2 ∧
  wp_X2_makePieces a2 (some 18) x3 t0 (mI M x0 2) (some 17) M (fun (i4 : Int32) (M3 : Mem) =>
  (¬ x4 = (2 : Int32) →
  wp_X4_replace_83 x0 x2 i4 M3 Q) ∧
  (x4 = (2 : Int32) →
  ∀ r5 : Option Nat, r5 = mR M3 x0 4 →
  ∃ a6 : Nat, r5 = some a6 ∧ isO M3 a6 2 ∧
  wp_X2_roundPieces a6 x1 (x1 + i4) M3 (fun (M7 : Mem) =>
  wp_X4_replace_83 x0 x2 i4 M7 Q)))
def wp_X4_replace (x0 : Nat) (x1 : Int32) (x2 : Int32) (x3 : Int32) (x4 : Int32) (M : Mem) (Q : Int32 → Mem → Prop) : Prop :=
  isO M x0 4 ∧
  ∀ r20 : Option Nat, r20 = mR M x0 4 →
  ∃ a21 : Nat, r20 = some a21 ∧ isO M a21 2 ∧
  wp_X2_empty a21 M (fun (M22 : Mem) =>
  ∀ r23 : Option Nat, r23 = mR M22 x0 4 →
  ∀ r24 : Option Nat, r24 = mR M22 x0 3 →
  ∃ a25 : Nat, r23 = some a25 ∧ isO M22 a25 2 ∧
  wp_X2_takeOver a25 r24 (0 : Int32) x1 M22 (fun (M26 : Mem) =>
  (¬ x4 = (2 : Int32) →
  wp_X4_replace_39 x0 x1 x2 x3 x4 (mI M26 x0 2) M26 Q) ∧
  (x4 = (2 : Int32) →
  wp_X4_replace_39 x0 x1 x2 x3 x4 ((mI M26 x0 2) - (1 : Int32)) M26 Q)))
def wp_X4_build_15  (M : Mem) (Q : Int32 → Mem → Prop) : Prop :=
  Q (-2 : Int32) M
def wp_X4_build (x0 : Nat) (x1 : Int32) (M : Mem) (Q : Int32 → Mem → Prop) : Prop :=
  isO M x0 4 ∧
  wp_X4_isKindToMake x0 x1 M (fun (i2 : Int32) (M1 : Mem) =>
  (i2 = 0 →
  wp_X4_build_15 M1 Q) ∧
  (¬ i2 = 0 →
  (¬ (mI M1 x0 1) = 0 →
  ¬ (0 : Int32) < 0 ∧ ¬ (0 : Int32) < 0 ∧ ¬ (mI M1 x0 1) < 0 ∧ (0 : Int32).toNatClampNeg + (mI M1 x0 1).toNatClampNeg ≤ alen 1 ∧ (0 : Int32).toNatClampNeg + (mI M1 x0 1).toNatClampNeg ≤ alen 18 ∧
  ∀ M3 : Mem, M3 = cpL M1 1 (0 : Int32).toNatClampNeg 18 (0 : Int32).toNatClampNeg (mI M1 x0 1).toNatClampNeg →
  ∀ M4 : Mem, M4 = sI M3 x0 7 (mI M3 x0 1) →
  ∀ r5 : Option Nat, r5 = mR M4 x0 3 →
  ∃ a6 : Nat, r5 = some a6 ∧ isO M4 a6 2 ∧
  wp_X4_replace x0 (0 : Int32) (mI M4 a6 6) (mI M4 x0 1) x1 M4 (fun (i8 : Int32) (M7 : Mem) =>
  Q i8 M7)) ∧
  ((mI M1 x0 1) = 0 →
  wp_X4_build_15 M1 Q)))
def wp_X4_hasIndex_15 (t0 : Int32) (M : Mem) (Q : Int32 → Mem → Prop) : Prop :=
  (t0 = 0 ∨ t0 = 1) ∧ Q t0 M
def wp_X4_hasIndex (x0 : Nat) (M : Mem) (Q : Int32 → Mem → Prop) : Prop :=
  isO M x0 4 ∧
  ∀ r1 : Option Nat, r1 = mR M x0 3 →
  ∃ a2 : Nat, r1 = some a2 ∧ isO M a2 2 ∧
  ((mI M a2 6) ≤ 0 →
  wp_X4_hasIndex_15 (0 : Int32) M Q) ∧
  (¬ (mI M a2 6) ≤ 0 →
  wp_X4_hasIndex_15 (1 : Int32) M Q)
def wp_X4_gatherAll (x0 : Nat) (M : Mem) (Q : Int32 → Mem → Prop) : Prop :=
  isO M x0 4 ∧
  ∀ r1 : Option Nat, r1 = mR M x0 3 →
  ∀ r2 : Option Nat, r2 = mR M x0 3 →
  ∃ a3 : Nat, r2 = some a3 ∧ isO M a3 2 ∧
  ∃ a4 : Nat, r1 = some a4 ∧ isO M a4 2 ∧
  wp_X2_gather a4 (0 : Int32) (mI M a3 6) (some 18) M (fun (i6 : Int32) (M5 : Mem) =>
  Q i6 M5)
def wp_X4_again (x0 : Nat) (x1 : Int32) (M : Mem) (Q : Int32 → Mem → Prop) : Prop :=
  isO M x0 4 ∧
  wp_X4_hasIndex x0 M (fun (i2 : Int32) (M1 : Mem) =>
  (¬ i2 = 0 →
  wp_X4_isKindToMake x0 x1 M1 (fun (i4 : Int32) (M3 : Mem) =>
  (¬ i4 = 0 →
  ∀ r5 : Option Nat, r5 = mR M3 x0 3 →
  ∃ a6 : Nat, r5 = some a6 ∧ isO M3 a6 2 ∧
  wp_X4_gatherAll x0 M3 (fun (i8 : Int32) (M7 : Mem) =>
  wp_X4_replace x0 (0 : Int32) (mI M3 a6 6) i8 x1 M7 (fun (i10 : Int32) (M9 : Mem) =>
  Q i10 M9))) ∧
  (i4 = 0 →
  Q (-2 : Int32) M3))) ∧
  (i2 = 0 →
  Q (-1 : Int32) M1))
def wp_X4_clear (x0 : Nat) (M : Mem) (Q : Int32 → Mem → Prop) : Prop :=
  isO M x0 4 ∧
  ∀ i1 : Int32, i1 = mI M x0 7 →
  ∀ r2 : Option Nat, r2 = mR M x0 3 →
  ∃ a3 : Nat, r2 = some a3 ∧ isO M a3 2 ∧
  wp_X2_empty a3 M (fun (M4 : Mem) =>
  ∀ M5 : Mem, M5 = sI M4 x0 6 (0 : Int32) →
  ∀ M6 : Mem, M6 = sI M5 x0 7 (0 : Int32) →
  Q i1 M6)
def wp_X4_round_42 (t0 : Int32) (M : Mem) (Q : Int32 → Mem → Prop) : Prop :=
  Q t0 M
def wp_X4_round (x0 : Nat) (x1 : Int32) (M : Mem) (Q : Int32 → Mem → Prop) : Prop :=
  isO M x0 4 ∧
  ∀ r1 : Option Nat, r1 = mR M x0 3 →
  ∃ a2 : Nat, r1 = some a2 ∧ isO M a2 2 ∧
  wp_X2_pieceAt a2 x1 M (fun (r4 : Option Nat) (M3 : Mem) =>
  (r4 = none →
  Q (-1 : Int32) M3) ∧
  (∀ a5 : Nat, r4 = some a5 →
  isO M3 a5 0 ∧
  ((mI M3 a5 0) = (1 : Int32) →
  ∀ r7 : Option Nat, r7 = mR M3 x0 3 →
  ∃ a8 : Nat, r7 = some a8 ∧ isO M3 a8 2 ∧
  wp_X2_turnRounded a8 (some a5) M3 (fun (i10 : Int32) (M9 : Mem) =>
  (i10 = 0 →
  wp_X4_round_42 (0 : Int32) M9 Q) ∧
  (¬ i10 = 0 →
  wp_X4_round_42 (1 : Int32) M9 Q))) ∧
  (¬ (mI M3 a5 0) = (1 : Int32) →
  Q (-2 : Int32) M3)))
def wp_X4_merge_17  (M : Mem) (Q : Int32 → Mem → Prop) : Prop :=
  Q (-1 : Int32) M
def wp_X4_merge (x0 : Nat) (x1 : Int32) (M : Mem) (Q : Int32 → Mem → Prop) : Prop :=
  isO M x0 4 ∧
  (x1 < 0 →
  wp_X4_merge_17 M Q) ∧
  (¬ x1 < 0 →
  ∀ r1 : Option Nat, r1 = mR M x0 3 →
  ∃ a2 : Nat, r1 = some a2 ∧ isO M a2 2 ∧
  (x1 < ((mI M a2 6) - (1 : Int32)) →
  ∀ r3 : Option Nat, r3 = mR M x0 3 →
  ∃ a4 : Nat, r3 = some a4 ∧ isO M a4 2 ∧
  wp_X2_gather a4 x1 (x1 + (2 : Int32)) (some 18) M (fun (i6 : Int32) (M5 : Mem) =>
  wp_X4_replace x0 x1 (x1 + (2 : Int32)) i6 (1 : Int32) M5 (fun (i8 : Int32) (M7 : Mem) =>
  Q i8 M7))) ∧
  (¬ x1 < ((mI M a2 6) - (1 : Int32)) →
  wp_X4_merge_17 M Q))
def wp_X4_find (x0 : Nat) (x1 : Int64) (M : Mem) (Q : Int32 → Mem → Prop) : Prop :=
  isO M x0 4 ∧
  wp_X4_hasIndex x0 M (fun (i2 : Int32) (M1 : Mem) =>
  (¬ i2 = 0 →
  wp_X4_isKey x1 M1 (fun (i4 : Int32) (M3 : Mem) =>
  (¬ i4 = 0 →
  ∀ r5 : Option Nat, r5 = mR M3 x0 3 →
  wp_X3_follow 13 x1 r5 (some 12) (mI M3 x0 6) M3 (fun (M6 : Mem) =>
  Q (mI M6 13 3) M6)) ∧
  (i4 = 0 →
  Q (-2 : Int32) M3))) ∧
  (i2 = 0 →
  Q (-1 : Int32) M1))
def wp_X4_insert_72  (M : Mem) (Q : Int32 → Mem → Prop) : Prop :=
  Q (-3 : Int32) M
def wp_X4_insert_169  (M : Mem) (Q : Int32 → Mem → Prop) : Prop :=
  Q (1 : Int32) M
def wp_X4_insert (x0 : Nat) (x1 : Int64) (M : Mem) (Q : Int32 → Mem → Prop) : Prop :=
  isO M x0 4 ∧
  wp_X4_hasIndex x0 M (fun (i2 : Int32) (M1 : Mem) =>
  (¬ i2 = 0 →
  wp_X4_isKey x1 M1 (fun (i4 : Int32) (M3 : Mem) =>
  (¬ i4 = 0 →
  ∀ r5 : Option Nat, r5 = mR M3 x0 3 →
  wp_X3_follow 15 x1 r5 (some 12) (mI M3 x0 6) M3 (fun (M6 : Mem) =>
  (¬ (mI M6 15 3) = (1 : Int32) →
  ((300 : Int32) ≤ (mI M6 x0 7) →
  wp_X4_insert_72 M6 Q) ∧
  (¬ (300 : Int32) ≤ (mI M6 x0 7) →
  ∀ r7 : Option Nat, r7 = mR M6 x0 3 →
  ∃ a8 : Nat, r7 = some a8 ∧ isO M6 a8 2 ∧
  wp_X2_isFull a8 M6 (fun (i10 : Int32) (M9 : Mem) =>
  (i10 = 0 →
  ∀ M11 : Mem, M11 = sI M9 x0 7 ((mI M9 x0 7) + (1 : Int32)) →
  ∀ r12 : Option Nat, r12 = mR M11 x0 3 →
  ∃ a13 : Nat, r12 = some a13 ∧ isO M11 a13 2 ∧
  wp_X2_restore a13 (mI M11 15 5) x1 M11 (fun (i15 : Int32) (M14 : Mem) =>
  (i15 = 0 →
  ∀ i16 : Int32, i16 = mI M14 15 4 →
  ∀ r17 : Option Nat, r17 = mR M14 x0 3 →
  ∃ a18 : Nat, r17 = some a18 ∧ isO M14 a18 2 ∧
  wp_X2_putLate a18 i16 (mI M14 15 6) x1 M14 (fun (i20 : Int32) (M19 : Mem) =>
  (i20 ≤ (15 : Int32) →
  wp_X4_insert_169 M19 Q) ∧
  (¬ i20 ≤ (15 : Int32) →
  ∀ M21 : Mem, M21 = sI M19 x0 9 ((mI M19 x0 9) + (1 : Int32)) →
  ∀ r22 : Option Nat, r22 = mR M21 x0 3 →
  ∃ a23 : Nat, r22 = some a23 ∧ isO M21 a23 2 ∧
  wp_X2_gather a23 i16 (i16 + (1 : Int32)) (some 18) M21 (fun (i25 : Int32) (M24 : Mem) =>
  wp_X4_replace x0 i16 (i16 + (1 : Int32)) i25 (1 : Int32) M24 (fun (i27 : Int32) (M26 : Mem) =>
  wp_X4_insert_169 M26 Q))))) ∧
  (¬ i15 = 0 →
  Q (1 : Int32) M14))) ∧
  (¬ i10 = 0 →
  wp_X4_insert_72 M9 Q)))) ∧
  ((mI M6 15 3) = (1 : Int32) →
  Q (0 : Int32) M6))) ∧
  (i4 = 0 →
  Q (-2 : Int32) M3))) ∧
  (i2 = 0 →
  Q (-1 : Int32) M1))
def wp_X4_drop_109 (x0 : Nat) (M : Mem) (Q : Int32 → Mem → Prop) : Prop :=
  ∀ M1 : Mem, M1 = sI M x0 7 ((mI M x0 7) - (1 : Int32)) →
  Q (1 : Int32) M1
def wp_X4_drop (x0 : Nat) (x1 : Int64) (M : Mem) (Q : Int32 → Mem → Prop) : Prop :=
  isO M x0 4 ∧
  wp_X4_hasIndex x0 M (fun (i3 : Int32) (M2 : Mem) =>
  (¬ i3 = 0 →
  wp_X4_isKey x1 M2 (fun (i5 : Int32) (M4 : Mem) =>
  (¬ i5 = 0 →
  ∀ r6 : Option Nat, r6 = mR M4 x0 3 →
  wp_X3_follow 15 x1 r6 (some 12) (mI M4 x0 6) M4 (fun (M7 : Mem) =>
  (¬ (mI M7 15 3) = 0 →
  ∀ r8 : Option Nat, r8 = mR M7 x0 3 →
  ∃ a9 : Nat, r8 = some a9 ∧ isO M7 a9 2 ∧
  wp_X2_holds a9 (mI M7 15 5) x1 M7 (fun (i11 : Int32) (M10 : Mem) =>
  (i11 = 0 →
  ∀ r12 : Option Nat, r12 = mR M10 x0 3 →
  ∃ a13 : Nat, r12 = some a13 ∧ isO M10 a13 2 ∧
  wp_X2_takeLate a13 (mI M10 15 4) ((mI M10 15 6) - (1 : Int32)) M10 (fun (M14 : Mem) =>
  wp_X4_drop_109 x0 M14 Q)) ∧
  (¬ i11 = 0 →
  ∀ r15 : Option Nat, r15 = mR M10 x0 3 →
  ∃ a16 : Nat, r15 = some a16 ∧ isO M10 a16 2 ∧
  wp_X2_markDropped a16 (mI M10 15 5) M10 (fun (M17 : Mem) =>
  wp_X4_drop_109 x0 M17 Q)))) ∧
  ((mI M7 15 3) = 0 →
  Q (0 : Int32) M7))) ∧
  (i5 = 0 →
  Q (-2 : Int32) M4))) ∧
  (i3 = 0 →
  Q (-1 : Int32) M2))
def wp_X4_at_26 (t0 : Int64) (M : Mem) (Q : Int64 → Mem → Prop) : Prop :=
  Q t0 M
def wp_X4_at_23  (M : Mem) (Q : Int64 → Mem → Prop) : Prop :=
  wp_X4_at_26 (-9223372036854775808 : Int64) M Q
def wp_X4_at (x0 : Nat) (x1 : Int32) (M : Mem) (Q : Int64 → Mem → Prop) : Prop :=
  isO M x0 4 ∧
  wp_X4_gatherAll x0 M (fun (i2 : Int32) (M1 : Mem) =>
  (x1 < 0 →
  wp_X4_at_23 M1 Q) ∧
  (¬ x1 < 0 →
  (i2 ≤ x1 →
  wp_X4_at_23 M1 Q) ∧
  (¬ i2 ≤ x1 →
  inb x1 (alen 18) ∧
  wp_X4_at_26 (mL M1 18 x1.toNatClampNeg) M1 Q)))
def wp_X4_countBelow_8 (n : Nat) (x0 : Nat) (x1 : Int64) (x3 : Int32) (x4 : Int32) (M : Mem) (Q : Int32 → Mem → Prop) (K32 : Int32 → Mem → Prop) : Prop := match n with
  | 0 => False
  | n + 1 =>
  (x3 ≤ x4 →
  K32 x4 M) ∧
  (¬ x3 ≤ x4 →
  inb x4 (alen 18) ∧
  (x1 ≤ (mL M 18 x4.toNatClampNeg) →
  K32 x4 M) ∧
  (¬ x1 ≤ (mL M 18 x4.toNatClampNeg) →
  ∀ i1 : Int32, i1 = x4 + (1 : Int32) →
  wp_X4_countBelow_8 n x0 x1 x3 i1 M Q K32))
def wp_X4_countBelow_32 (x4 : Int32) (M : Mem) (Q : Int32 → Mem → Prop) : Prop :=
  Q x4 M
def wp_X4_countBelow (x0 : Nat) (x1 : Int64) (M : Mem) (Q : Int32 → Mem → Prop) : Prop :=
  isO M x0 4 ∧
  wp_X4_gatherAll x0 M (fun (i3 : Int32) (M2 : Mem) =>
  ∃ k8, wp_X4_countBelow_8 k8 x0 x1 i3 (0 : Int32) M2 Q (fun (x4 : Int32) (M : Mem) => wp_X4_countBelow_32 x4 M Q))
def wp_X4_below (x0 : Nat) (x1 : Int64) (M : Mem) (Q : Int32 → Mem → Prop) : Prop :=
  isO M x0 4 ∧
  wp_X4_hasIndex x0 M (fun (i2 : Int32) (M1 : Mem) =>
  (¬ i2 = 0 →
  wp_X4_isKey x1 M1 (fun (i4 : Int32) (M3 : Mem) =>
  (¬ i4 = 0 →
  wp_X4_countBelow x0 x1 M3 (fun (i6 : Int32) (M5 : Mem) =>
  Q i6 M5)) ∧
  (i4 = 0 →
  Q (-2 : Int32) M3))) ∧
  (i2 = 0 →
  Q (-1 : Int32) M1))
def wp_X4_above_8 (n : Nat) (x0 : Nat) (x1 : Int64) (x3 : Int32) (x4 : Int32) (M : Mem) (Q : Int64 → Mem → Prop) (K26 : Nat → Int32 → Mem → Prop) (K40 : Mem → Prop) : Prop := match n with
  | 0 => False
  | n + 1 =>
  (x3 ≤ x4 →
  K40 M) ∧
  (¬ x3 ≤ x4 →
  inb x4 (alen 18) ∧
  ((mL M 18 x4.toNatClampNeg) ≤ x1 →
  ∀ i1 : Int32, i1 = x4 + (1 : Int32) →
  wp_X4_above_8 n x0 x1 x3 i1 M Q K26 K40) ∧
  (¬ (mL M 18 x4.toNatClampNeg) ≤ x1 →
  K26 x0 x4 M))
def wp_X4_above_26 (x0 : Nat) (x4 : Int32) (M : Mem) (Q : Int64 → Mem → Prop) : Prop :=
  inb x4 (alen 18) ∧
  Q (mL M 18 x4.toNatClampNeg) M
def wp_X4_above_40  (M : Mem) (Q : Int64 → Mem → Prop) : Prop :=
  Q (-9223372036854775808 : Int64) M
def wp_X4_above (x0 : Nat) (x1 : Int64) (M : Mem) (Q : Int64 → Mem → Prop) : Prop :=
  isO M x0 4 ∧
  wp_X4_gatherAll x0 M (fun (i3 : Int32) (M2 : Mem) =>
  ∃ k8, wp_X4_above_8 k8 x0 x1 i3 (0 : Int32) M2 Q (fun (x0 : Nat) (x4 : Int32) (M : Mem) => wp_X4_above_26 x0 x4 M Q) (fun  (M : Mem) => wp_X4_above_40 M Q))
def wp_X4_between_23  (M : Mem) (Q : Int32 → Mem → Prop) : Prop :=
  Q (-2 : Int32) M
def wp_X4_between_47 (t0 : Int32) (M : Mem) (Q : Int32 → Mem → Prop) : Prop :=
  Q t0 M
def wp_X4_between (x0 : Nat) (x1 : Int64) (x3 : Int64) (M : Mem) (Q : Int32 → Mem → Prop) : Prop :=
  isO M x0 4 ∧
  wp_X4_hasIndex x0 M (fun (i2 : Int32) (M1 : Mem) =>
  (¬ i2 = 0 →
  wp_X4_isKey x1 M1 (fun (i4 : Int32) (M3 : Mem) =>
  (i4 = 0 →
  wp_X4_between_23 M3 Q) ∧
  (¬ i4 = 0 →
  wp_X4_isKey x3 M3 (fun (i6 : Int32) (M5 : Mem) =>
  (¬ i6 = 0 →
  (x3 ≤ x1 →
  wp_X4_between_47 (0 : Int32) M5 Q) ∧
  (¬ x3 ≤ x1 →
  wp_X4_countBelow x0 x3 M5 (fun (i8 : Int32) (M7 : Mem) =>
  wp_X4_countBelow x0 x1 M7 (fun (i10 : Int32) (M9 : Mem) =>
  wp_X4_between_47 (i8 - i10) M9 Q)))) ∧
  (i6 = 0 →
  wp_X4_between_23 M5 Q))))) ∧
  (i2 = 0 →
  Q (-1 : Int32) M1))
def wp_X4_layers_15 (t0 : Int32) (M : Mem) (Q : Int32 → Mem → Prop) : Prop :=
  Q t0 M
def wp_X4_layers (x0 : Nat) (M : Mem) (Q : Int32 → Mem → Prop) : Prop :=
  isO M x0 4 ∧
  wp_X4_hasIndex x0 M (fun (i2 : Int32) (M1 : Mem) =>
  (i2 = 0 →
  wp_X4_layers_15 (-1 : Int32) M1 Q) ∧
  (¬ i2 = 0 →
  wp_X4_layers_15 (mI M1 x0 6) M1 Q))
def wp_X4_tierOf_20  (M : Mem) (Q : Option Nat → Mem → Prop) : Prop :=
  Q none M
def wp_X4_tierOf_40 (t0 : Option Nat) (M : Mem) (Q : Option Nat → Mem → Prop) : Prop :=
  Q t0 M
def wp_X4_tierOf (x0 : Nat) (x1 : Int32) (M : Mem) (Q : Option Nat → Mem → Prop) : Prop :=
  isO M x0 4 ∧
  wp_X4_hasIndex x0 M (fun (i2 : Int32) (M1 : Mem) =>
  (i2 = 0 →
  wp_X4_tierOf_20 M1 Q) ∧
  (¬ i2 = 0 →
  (x1 < (-1 : Int32) →
  wp_X4_tierOf_20 M1 Q) ∧
  (¬ x1 < (-1 : Int32) →
  (x1 < (mI M1 x0 6) →
  (¬ x1 = (-1 : Int32) →
  inb x1 (alen 12) ∧
  ∀ r3 : Option Nat, r3 = zref true M1 12 x1.toNatClampNeg →
  wp_X4_tierOf_40 r3 M1 Q) ∧
  (x1 = (-1 : Int32) →
  ∀ r4 : Option Nat, r4 = mR M1 x0 3 →
  wp_X4_tierOf_40 r4 M1 Q)) ∧
  (¬ x1 < (mI M1 x0 6) →
  wp_X4_tierOf_20 M1 Q))))
def wp_X4_pieces_18 (t0 : Int32) (M : Mem) (Q : Int32 → Mem → Prop) : Prop :=
  Q t0 M
def wp_X4_pieces (x0 : Nat) (x1 : Int32) (M : Mem) (Q : Int32 → Mem → Prop) : Prop :=
  isO M x0 4 ∧
  wp_X4_tierOf x0 x1 M (fun (r2 : Option Nat) (M1 : Mem) =>
  (r2 = none →
  wp_X4_pieces_18 (-1 : Int32) M1 Q) ∧
  (∀ a3 : Nat, r2 = some a3 →
  isO M1 a3 2 ∧
  wp_X4_pieces_18 (mI M1 a3 6) M1 Q))
def wp_X4_piece_34  (M : Mem) (Q : Int32 → Mem → Prop) : Prop :=
  Q (-1 : Int32) M
def wp_X4_piece_22 (x3 : Int32) (x4 : Option Nat) (t0 : Option Nat) (M : Mem) (Q : Int32 → Mem → Prop) : Prop :=
  (x4 = none →
  wp_X4_piece_34 M Q) ∧
  (∀ a1 : Nat, x4 = some a1 →
  (t0 = none →
  wp_X4_piece_34 M Q) ∧
  (∀ a2 : Nat, t0 = some a2 →
  (x3 = 0 →
  isO M a2 0 ∧
  Q (mI M a2 0) M) ∧
  (x3 = 1 →
  isO M a2 0 ∧
  Q (mI M a2 3) M) ∧
  (x3 = 2 →
  isO M a1 2 ∧
  wp_X2_countDropped a1 (some a2) M (fun (i7 : Int32) (M6 : Mem) =>
  Q i7 M6)) ∧
  (x3 = 3 →
  isO M a2 0 ∧
  Q (mI M a2 5) M) ∧
  (x3 = 4 →
  isO M a2 0 ∧
  Q (mI M a2 1) M) ∧
  (x3 = 5 →
  isO M a1 2 ∧
  wp_X2_greatestMiss a1 (some a2) M (fun (i12 : Int32) (M11 : Mem) =>
  Q i12 M11)) ∧
  (¬ x3 = 0 → ¬ x3 = 1 → ¬ x3 = 2 → ¬ x3 = 3 → ¬ x3 = 4 → ¬ x3 = 5 →
  Q (-1 : Int32) M)))
def wp_X4_piece (x0 : Nat) (x1 : Int32) (x2 : Int32) (x3 : Int32) (M : Mem) (Q : Int32 → Mem → Prop) : Prop :=
  isO M x0 4 ∧
  wp_X4_tierOf x0 x1 M (fun (r14 : Option Nat) (M13 : Mem) =>
  (r14 = none →
  wp_X4_piece_22 x3 none none M13 Q) ∧
  (∀ a15 : Nat, r14 = some a15 →
  isO M13 a15 2 ∧
  wp_X2_pieceAt a15 x2 M13 (fun (r18 : Option Nat) (M17 : Mem) =>
  wp_X4_piece_22 x3 (some a15) r18 M17 Q)))
def wp_X4_line_34  (M : Mem) (Q : Int64 → Mem → Prop) : Prop :=
  Q (-9223372036854775808 : Int64) M
def wp_X4_line_22 (x3 : Int32) (x4 : Option Nat) (t0 : Option Nat) (M : Mem) (Q : Int64 → Mem → Prop) : Prop :=
  (x4 = none →
  wp_X4_line_34 M Q) ∧
  (∀ a1 : Nat, x4 = some a1 →
  (t0 = none →
  wp_X4_line_34 M Q) ∧
  (∀ a2 : Nat, t0 = some a2 →
  (x3 = 0 →
  isO M a2 0 ∧
  Q (mL M a2 6) M) ∧
  (x3 = 1 →
  isO M a2 0 ∧
  Q (mL M a2 7) M) ∧
  (x3 = 2 →
  isO M a2 0 ∧
  Q (mL M a2 8) M) ∧
  (x3 = 3 →
  isO M a1 2 ∧
  wp_X2_keyOf a1 (some a2) (0 : Int32) M (fun (j8 : Int64) (M7 : Mem) =>
  Q j8 M7)) ∧
  (x3 = 4 →
  isO M a2 0 ∧
  isO M a1 2 ∧
  wp_X2_keyOf a1 (some a2) ((mI M a2 3) - (1 : Int32)) M (fun (j12 : Int64) (M11 : Mem) =>
  Q j12 M11)) ∧
  (¬ x3 = 0 → ¬ x3 = 1 → ¬ x3 = 2 → ¬ x3 = 3 → ¬ x3 = 4 →
  Q (-9223372036854775808 : Int64) M)))
def wp_X4_line (x0 : Nat) (x1 : Int32) (x2 : Int32) (x3 : Int32) (M : Mem) (Q : Int64 → Mem → Prop) : Prop :=
  isO M x0 4 ∧
  wp_X4_tierOf x0 x1 M (fun (r14 : Option Nat) (M13 : Mem) =>
  (r14 = none →
  wp_X4_line_22 x3 none none M13 Q) ∧
  (∀ a15 : Nat, r14 = some a15 →
  isO M13 a15 2 ∧
  wp_X2_pieceAt a15 x2 M13 (fun (r18 : Option Nat) (M17 : Mem) =>
  wp_X4_line_22 x3 (some a15) r18 M17 Q)))
def wp_X4_guess_34  (M : Mem) (Q : Int32 → Mem → Prop) : Prop :=
  Q (-1 : Int32) M
def wp_X4_guess_63 (t0 : Int32) (M : Mem) (Q : Int32 → Mem → Prop) : Prop :=
  Q t0 M
def wp_X4_guess_22 (x3 : Int64) (x5 : Option Nat) (t0 : Option Nat) (M : Mem) (Q : Int32 → Mem → Prop) : Prop :=
  (x5 = none →
  wp_X4_guess_34 M Q) ∧
  (∀ a1 : Nat, x5 = some a1 →
  (t0 = none →
  wp_X4_guess_34 M Q) ∧
  (∀ a2 : Nat, t0 = some a2 →
  wp_X4_isKey x3 M (fun (i4 : Int32) (M3 : Mem) =>
  (i4 = 0 →
  wp_X4_guess_63 (-2 : Int32) M3 Q) ∧
  (¬ i4 = 0 →
  isO M3 a1 2 ∧
  wp_X2_keyOf a1 (some a2) (0 : Int32) M3 (fun (j7 : Int64) (M6 : Mem) =>
  isO M6 a2 0 ∧
  wp_X0_guessAway a2 (x3 - j7) M6 (fun (i10 : Int32) (M9 : Mem) =>
  wp_X4_guess_63 i10 M9 Q))))))
def wp_X4_guess (x0 : Nat) (x1 : Int32) (x2 : Int32) (x3 : Int64) (M : Mem) (Q : Int32 → Mem → Prop) : Prop :=
  isO M x0 4 ∧
  wp_X4_tierOf x0 x1 M (fun (r12 : Option Nat) (M11 : Mem) =>
  (r12 = none →
  wp_X4_guess_22 x3 none none M11 Q) ∧
  (∀ a13 : Nat, r12 = some a13 →
  isO M11 a13 2 ∧
  wp_X2_pieceAt a13 x2 M11 (fun (r16 : Option Nat) (M15 : Mem) =>
  wp_X4_guess_22 x3 (some a13) r16 M15 Q)))
def wp_X4_bitsOf_24 (n : Nat) (x0 : UInt64) (x2 : UInt64) (x4 : Int32) (M : Mem) (Q : Int64 → Mem → Prop) (K52 : UInt64 → UInt64 → Int32 → Mem → Prop) : Prop := match n with
  | 0 => False
  | n + 1 =>
  ((Op.cmpValue (FP.dcmp x2 (4611686018427387904 : UInt64)) CmpOp.l) < 0 →
  K52 x0 x2 x4 M) ∧
  (¬ (Op.cmpValue (FP.dcmp x2 (4611686018427387904 : UInt64)) CmpOp.l) < 0 →
  ((1023 : Int32) ≤ x4 →
  K52 x0 x2 x4 M) ∧
  (¬ (1023 : Int32) ≤ x4 →
  ∀ f1 : UInt64, alike64 f1 (FP.ddiv x2 (4611686018427387904 : UInt64)) = true →
  ∀ i2 : Int32, i2 = x4 + (1 : Int32) →
  wp_X4_bitsOf_24 n x0 f1 i2 M Q K52))
def wp_X4_bitsOf_52 (n : Nat) (x0 : UInt64) (x2 : UInt64) (x4 : Int32) (M : Mem) (Q : Int64 → Mem → Prop) (K78 : UInt64 → UInt64 → Int32 → Mem → Prop) : Prop := match n with
  | 0 => False
  | n + 1 =>
  (0 ≤ (Op.cmpValue (FP.dcmp x2 FP.dconst1) CmpOp.g) →
  K78 x0 x2 x4 M) ∧
  (¬ 0 ≤ (Op.cmpValue (FP.dcmp x2 FP.dconst1) CmpOp.g) →
  (x4 ≤ (-1022 : Int32) →
  K78 x0 x2 x4 M) ∧
  (¬ x4 ≤ (-1022 : Int32) →
  ∀ f3 : UInt64, alike64 f3 (FP.dmul x2 (4611686018427387904 : UInt64)) = true →
  ∀ i4 : Int32, i4 = x4 + (-1 : Int32) →
  wp_X4_bitsOf_52 n x0 f3 i4 M Q K78))
def wp_X4_bitsOf_120 (t0 : Int64) (M : Mem) (Q : Int64 → Mem → Prop) : Prop :=
  Q t0 M
def wp_X4_bitsOf_78 (x0 : UInt64) (x2 : UInt64) (x4 : Int32) (M : Mem) (Q : Int64 → Mem → Prop) : Prop :=
  ∀ f5 : UInt64, alike64 f5 (FP.dsub x2 FP.dconst1) = true →
  ∀ f6 : UInt64, alike64 f6 (FP.dmul f5 (4841369599423283200 : UInt64)) = true →
  ∀ j7 : Int64, j7 = FP.d2l f6 →
  ∀ j8 : Int64, j8 = ((x4.toInt64 + (1023 : Int64)) <<< ((52 : Int32).toInt64 &&& 63)) ||| j7 →
  (0 ≤ (Op.cmpValue (FP.dcmp x0 FP.dconst0) CmpOp.g) →
  wp_X4_bitsOf_120 j8 M Q) ∧
  (¬ 0 ≤ (Op.cmpValue (FP.dcmp x0 FP.dconst0) CmpOp.g) →
  wp_X4_bitsOf_120 (j8 ||| (-9223372036854775808 : Int64)) M Q)
def wp_X4_bitsOf_20 (x0 : UInt64) (t0 : UInt64) (M : Mem) (Q : Int64 → Mem → Prop) : Prop :=
  ∃ k24, wp_X4_bitsOf_24 k24 x0 t0 (0 : Int32) M Q (fun (x0 : UInt64) (x2 : UInt64) (x4 : Int32) (M : Mem) => ∃ k52, wp_X4_bitsOf_52 k52 x0 x2 x4 M Q (fun (x0 : UInt64) (x2 : UInt64) (x4 : Int32) (M : Mem) => wp_X4_bitsOf_78 x0 x2 x4 M Q))
def wp_X4_bitsOf (x0 : UInt64) (M : Mem) (Q : Int64 → Mem → Prop) : Prop :=
  (¬ (Op.cmpValue (FP.dcmp x0 FP.dconst0) CmpOp.l) = 0 →
  (0 ≤ (Op.cmpValue (FP.dcmp x0 FP.dconst0) CmpOp.g) →
  wp_X4_bitsOf_20 x0 x0 M Q) ∧
  (¬ 0 ≤ (Op.cmpValue (FP.dcmp x0 FP.dconst0) CmpOp.g) →
  wp_X4_bitsOf_20 x0 (FP.dneg x0) M Q)) ∧
  ((Op.cmpValue (FP.dcmp x0 FP.dconst0) CmpOp.l) = 0 →
  Q (0 : Int64) M)
def wp_X4_bits_30  (M : Mem) (Q : Int64 → Mem → Prop) : Prop :=
  Q (0 : Int64) M
def wp_X4_bits_47 (t0 : UInt64) (M : Mem) (Q : Int64 → Mem → Prop) : Prop :=
  wp_X4_bitsOf t0 M (fun (j2 : Int64) (M1 : Mem) =>
  Q j2 M1)
def wp_X4_bits (x0 : Nat) (x1 : Int32) (x2 : Int32) (M : Mem) (Q : Int64 → Mem → Prop) : Prop :=
  isO M x0 4 ∧
  ∀ r3 : Option Nat, r3 = mR M x0 3 →
  ∃ a4 : Nat, r3 = some a4 ∧ isO M a4 2 ∧
  wp_X2_pieceAt a4 x1 M (fun (r6 : Option Nat) (M5 : Mem) =>
  (r6 = none →
  wp_X4_bits_30 M5 Q) ∧
  (∀ a7 : Nat, r6 = some a7 →
  isO M5 a7 0 ∧
  (¬ (mI M5 a7 0) = (2 : Int32) →
  wp_X4_bits_30 M5 Q) ∧
  ((mI M5 a7 0) = (2 : Int32) →
  (x2 < 0 →
  wp_X4_bits_30 M5 Q) ∧
  (¬ x2 < 0 →
  (x2 ≤ (1 : Int32) →
  (¬ x2 = 0 →
  wp_X4_bits_47 (mD M5 a7 10) M5 Q) ∧
  (x2 = 0 →
  wp_X4_bits_47 (mD M5 a7 9) M5 Q)) ∧
  (¬ x2 ≤ (1 : Int32) →
  wp_X4_bits_30 M5 Q)))))
def wp_X4_key_46 (t0 : Int64) (M : Mem) (Q : Int64 → Mem → Prop) : Prop :=
  Q t0 M
def wp_X4_key (x0 : Nat) (x1 : Int32) (x2 : Int32) (x3 : Int32) (M : Mem) (Q : Int64 → Mem → Prop) : Prop :=
  isO M x0 4 ∧
  ∀ r1 : Option Nat, r1 = mR M x0 3 →
  ∃ a2 : Nat, r1 = some a2 ∧ isO M a2 2 ∧
  wp_X2_pieceAt a2 x1 M (fun (r4 : Option Nat) (M3 : Mem) =>
  (r4 = none →
  Q (-9223372036854775808 : Int64) M3) ∧
  (∀ a5 : Nat, r4 = some a5 →
  (x3 = 0 →
  ∀ r6 : Option Nat, r6 = mR M3 x0 3 →
  ∃ a7 : Nat, r6 = some a7 ∧ isO M3 a7 2 ∧
  wp_X2_keyOf a7 (some a5) x2 M3 (fun (j9 : Int64) (M8 : Mem) =>
  wp_X4_key_46 j9 M8 Q)) ∧
  (¬ x3 = 0 →
  ∀ r10 : Option Nat, r10 = mR M3 x0 3 →
  ∃ a11 : Nat, r10 = some a11 ∧ isO M3 a11 2 ∧
  wp_X2_lateOf a11 (some a5) x2 M3 (fun (j13 : Int64) (M12 : Mem) =>
  wp_X4_key_46 j13 M12 Q))))
def wp_X4_looks (x0 : Nat) (M : Mem) (Q : Int32 → Mem → Prop) : Prop :=
  isO M x0 4 ∧
  Q (mI M 13 2) M
def wp_X4_told_29 (t0 : Int32) (M : Mem) (Q : Int32 → Mem → Prop) : Prop :=
  Q t0 M
def wp_X4_told_27  (M : Mem) (Q : Int32 → Mem → Prop) : Prop :=
  wp_X4_told_29 (-2 : Int32) M Q
def wp_X4_told (x0 : Nat) (x1 : Int32) (M : Mem) (Q : Int32 → Mem → Prop) : Prop :=
  isO M x0 4 ∧
  (x1 < 0 →
  wp_X4_told_27 M Q) ∧
  (¬ x1 < 0 →
  ((mI M 13 1) ≤ x1 →
  wp_X4_told_27 M Q) ∧
  (¬ (mI M 13 1) ≤ x1 →
  inb x1 (alen (13 + 1)) ∧
  wp_X4_told_29 (mI M (13 + 1) x1.toNatClampNeg) M Q))
def wp_X4_check_26  (M : Mem) (Q : Int32 → Mem → Prop) : Prop :=
  Q (-2 : Int32) M
def wp_X4_check_77 (t0 : Int32) (t1 : Int32) (M : Mem) (Q : Int32 → Mem → Prop) : Prop :=
  Q (t1 + t0) M
def wp_X4_check (x0 : Nat) (x1 : Int64) (M : Mem) (Q : Int32 → Mem → Prop) : Prop :=
  isO M x0 4 ∧
  wp_X4_hasIndex x0 M (fun (i2 : Int32) (M1 : Mem) =>
  (¬ i2 = 0 →
  wp_X4_isKey x1 M1 (fun (i4 : Int32) (M3 : Mem) =>
  (i4 = 0 →
  wp_X4_check_26 M3 Q) ∧
  (¬ i4 = 0 →
  (¬ (mI M3 13 1) = 0 →
  ∀ r5 : Option Nat, r5 = mR M3 x0 3 →
  wp_X3_follow 15 x1 r5 (some 12) (mI M3 x0 6) M3 (fun (M6 : Mem) =>
  wp_X3_tellsTheSame 15 (some 13) M6 (fun (i8 : Int32) (M7 : Mem) =>
  (i8 = 0 →
  wp_X4_check_77 (0 : Int32) ((2 : Int32) * (mI M6 15 3)) M7 Q) ∧
  (¬ i8 = 0 →
  wp_X4_check_77 (1 : Int32) ((2 : Int32) * (mI M6 15 3)) M7 Q)))) ∧
  ((mI M3 13 1) = 0 →
  wp_X4_check_26 M3 Q)))) ∧
  (i2 = 0 →
  Q (-1 : Int32) M1))
def wp_X4_count (x0 : Nat) (x1 : Int32) (M : Mem) (Q : Int32 → Mem → Prop) : Prop :=
  isO M x0 4 ∧
  (x1 = 0 →
  Q (mI M x0 1) M) ∧
  (x1 = 1 →
  Q (mI M x0 2) M) ∧
  (x1 = 2 →
  Q (mI M x0 7) M) ∧
  (x1 = 3 →
  Q (mI M x0 8) M) ∧
  (x1 = 4 →
  Q (mI M x0 9) M) ∧
  (¬ x1 = 0 → ¬ x1 = 1 → ¬ x1 = 2 → ¬ x1 = 3 → ¬ x1 = 4 →
  Q (-1 : Int32) M)
def wp_X5_init (x0 : Nat) (M : Mem) (Q : Mem → Prop) : Prop :=
  isO M x0 5 ∧
  ¬ (300 : Int32) < 0 ∧ mz M < ZMAX ∧ shp (mz M) = .inl (.long, (300 : Int32).toNatClampNeg) ∧ (300 : Int32).toNatClampNeg * 8 ≤ 536870912 ∧
  ∀ (a1 : Nat) (M2 : Mem), a1 = mz M → M2 = nw M →
  ∀ M3 : Mem, M3 = sR M2 x0 0 (some a1) →
  ∀ M4 : Mem, M4 = sI M3 x0 1 (0 : Int32) →
  ∀ M5 : Mem, M5 = sI M4 x0 2 (8 : Int32) →
  ¬ (5000 : Int32) < 0 ∧ mz M5 < ZMAX ∧ shp (mz M5) = .inl (.long, (5000 : Int32).toNatClampNeg) ∧ (5000 : Int32).toNatClampNeg * 8 ≤ 536870912 ∧
  ∀ (a6 : Nat) (M7 : Mem), a6 = mz M5 → M7 = nw M5 →
  ∀ M8 : Mem, M8 = sR M7 x0 3 (some a6) →
  ∀ M9 : Mem, M9 = sL M8 x0 4 (0 : Int64) →
  ∀ M10 : Mem, M10 = sL M9 x0 5 (0 : Int64) →
  ∀ M11 : Mem, M11 = sL M10 x0 6 (0 : Int64) →
  ∀ M12 : Mem, M12 = sL M11 x0 7 (0 : Int64) →
  ∀ M13 : Mem, M13 = sI M12 x0 8 (0 : Int32) →
  ∀ M14 : Mem, M14 = sI M13 x0 9 (0 : Int32) →
  ¬ (20 : Int32) < 0 ∧ mz M14 < ZMAX ∧ shp (mz M14) = .inl (.int, (20 : Int32).toNatClampNeg) ∧ (20 : Int32).toNatClampNeg * 8 ≤ 536870912 ∧
  ∀ (a15 : Nat) (M16 : Mem), a15 = mz M14 → M16 = nw M14 →
  ∀ M17 : Mem, M17 = sR M16 x0 10 (some a15) →
  ¬ (20 : Int32) < 0 ∧ mz M17 < ZMAX ∧ shp (mz M17) = .inl (.int, (20 : Int32).toNatClampNeg) ∧ (20 : Int32).toNatClampNeg * 8 ≤ 536870912 ∧
  ∀ (a18 : Nat) (M19 : Mem), a18 = mz M17 → M19 = nw M17 →
  ∀ M20 : Mem, M20 = sR M19 x0 11 (some a18) →
  ¬ (10000 : Int32) < 0 ∧ mz M20 < ZMAX ∧ shp (mz M20) = .inl (.int, (10000 : Int32).toNatClampNeg) ∧ (10000 : Int32).toNatClampNeg * 8 ≤ 536870912 ∧
  ∀ (a21 : Nat) (M22 : Mem), a21 = mz M20 → M22 = nw M20 →
  ∀ M23 : Mem, M23 = sR M22 x0 12 (some a21) →
  ¬ (10000 : Int32) < 0 ∧ mz M23 < ZMAX ∧ shp (mz M23) = .inl (.int, (10000 : Int32).toNatClampNeg) ∧ (10000 : Int32).toNatClampNeg * 8 ≤ 536870912 ∧
  ∀ (a24 : Nat) (M25 : Mem), a24 = mz M23 → M25 = nw M23 →
  ∀ M26 : Mem, M26 = sR M25 x0 13 (some a24) →
  ¬ (10000 : Int32) < 0 ∧ mz M26 < ZMAX ∧ shp (mz M26) = .inl (.int, (10000 : Int32).toNatClampNeg) ∧ (10000 : Int32).toNatClampNeg * 8 ≤ 536870912 ∧
  ∀ (a27 : Nat) (M28 : Mem), a27 = mz M26 → M28 = nw M26 →
  ∀ M29 : Mem, M29 = sR M28 x0 14 (some a27) →
  ¬ (10000 : Int32) < 0 ∧ mz M29 < ZMAX ∧ shp (mz M29) = .inl (.int, (10000 : Int32).toNatClampNeg) ∧ (10000 : Int32).toNatClampNeg * 8 ≤ 536870912 ∧
  ∀ (a30 : Nat) (M31 : Mem), a30 = mz M29 → M31 = nw M29 →
  ∀ M32 : Mem, M32 = sR M31 x0 15 (some a30) →
  ¬ (10000 : Int32) < 0 ∧ mz M32 < ZMAX ∧ shp (mz M32) = .inl (.int, (10000 : Int32).toNatClampNeg) ∧ (10000 : Int32).toNatClampNeg * 8 ≤ 536870912 ∧
  ∀ (a33 : Nat) (M34 : Mem), a33 = mz M32 → M34 = nw M32 →
  ∀ M35 : Mem, M35 = sR M34 x0 16 (some a33) →
  ¬ (10000 : Int32) < 0 ∧ mz M35 < ZMAX ∧ shp (mz M35) = .inl (.long, (10000 : Int32).toNatClampNeg) ∧ (10000 : Int32).toNatClampNeg * 8 ≤ 536870912 ∧
  ∀ (a36 : Nat) (M37 : Mem), a36 = mz M35 → M37 = nw M35 →
  ∀ M38 : Mem, M38 = sR M37 x0 17 (some a36) →
  ¬ (10000 : Int32) < 0 ∧ mz M38 < ZMAX ∧ shp (mz M38) = .inl (.long, (10000 : Int32).toNatClampNeg) ∧ (10000 : Int32).toNatClampNeg * 8 ≤ 536870912 ∧
  ∀ (a39 : Nat) (M40 : Mem), a39 = mz M38 → M40 = nw M38 →
  ∀ M41 : Mem, M41 = sR M40 x0 18 (some a39) →
  ¬ (10000 : Int32) < 0 ∧ mz M41 < ZMAX ∧ shp (mz M41) = .inl (.long, (10000 : Int32).toNatClampNeg) ∧ (10000 : Int32).toNatClampNeg * 8 ≤ 536870912 ∧
  ∀ (a42 : Nat) (M43 : Mem), a42 = mz M41 → M43 = nw M41 →
  ∀ M44 : Mem, M44 = sR M43 x0 19 (some a42) →
  ¬ (12000 : Int32) < 0 ∧ mz M44 < ZMAX ∧ shp (mz M44) = .inl (.long, (12000 : Int32).toNatClampNeg) ∧ (12000 : Int32).toNatClampNeg * 8 ≤ 536870912 ∧
  ∀ (a45 : Nat) (M46 : Mem), a45 = mz M44 → M46 = nw M44 →
  ∀ M47 : Mem, M47 = sR M46 x0 20 (some a45) →
  ¬ (160000 : Int32) < 0 ∧ mz M47 < ZMAX ∧ shp (mz M47) = .inl (.long, (160000 : Int32).toNatClampNeg) ∧ (160000 : Int32).toNatClampNeg * 8 ≤ 536870912 ∧
  ∀ (a48 : Nat) (M49 : Mem), a48 = mz M47 → M49 = nw M47 →
  ∀ M50 : Mem, M50 = sR M49 x0 21 (some a48) →
  ¬ (12000 : Int32) < 0 ∧ mz M50 < ZMAX ∧ shp (mz M50) = .inl (.boolean, (12000 : Int32).toNatClampNeg) ∧ (12000 : Int32).toNatClampNeg * 8 ≤ 536870912 ∧
  ∀ (a51 : Nat) (M52 : Mem), a51 = mz M50 → M52 = nw M50 →
  ∀ M53 : Mem, M53 = sR M52 x0 22 (some a51) →
  ∀ M54 : Mem, M54 = sI M53 x0 23 (0 : Int32) →
  ∀ M55 : Mem, M55 = sI M54 x0 24 (0 : Int32) →
  ∀ M56 : Mem, M56 = sI M55 x0 25 (0 : Int32) →
  ∀ M57 : Mem, M57 = sI M56 x0 26 (0 : Int32) →
  ¬ (5000 : Int32) < 0 ∧ mz M57 < ZMAX ∧ shp (mz M57) = .inl (.int, (5000 : Int32).toNatClampNeg) ∧ (5000 : Int32).toNatClampNeg * 8 ≤ 536870912 ∧
  ∀ (a58 : Nat) (M59 : Mem), a58 = mz M57 → M59 = nw M57 →
  ∀ M60 : Mem, M60 = sR M59 x0 27 (some a58) →
  ¬ (5000 : Int32) < 0 ∧ mz M60 < ZMAX ∧ shp (mz M60) = .inl (.int, (5000 : Int32).toNatClampNeg) ∧ (5000 : Int32).toNatClampNeg * 8 ≤ 536870912 ∧
  ∀ (a61 : Nat) (M62 : Mem), a61 = mz M60 → M62 = nw M60 →
  ∀ M63 : Mem, M63 = sR M62 x0 28 (some a61) →
  ¬ (5000 : Int32) < 0 ∧ mz M63 < ZMAX ∧ shp (mz M63) = .inl (.int, (5000 : Int32).toNatClampNeg) ∧ (5000 : Int32).toNatClampNeg * 8 ≤ 536870912 ∧
  ∀ (a64 : Nat) (M65 : Mem), a64 = mz M63 → M65 = nw M63 →
  ∀ M66 : Mem, M66 = sR M65 x0 29 (some a64) →
  ¬ (5000 : Int32) < 0 ∧ mz M66 < ZMAX ∧ shp (mz M66) = .inl (.int, (5000 : Int32).toNatClampNeg) ∧ (5000 : Int32).toNatClampNeg * 8 ≤ 536870912 ∧
  ∀ (a67 : Nat) (M68 : Mem), a67 = mz M66 → M68 = nw M66 →
  ∀ M69 : Mem, M69 = sR M68 x0 30 (some a67) →
  ¬ (5000 : Int32) < 0 ∧ mz M69 < ZMAX ∧ shp (mz M69) = .inl (.long, (5000 : Int32).toNatClampNeg) ∧ (5000 : Int32).toNatClampNeg * 8 ≤ 536870912 ∧
  ∀ (a70 : Nat) (M71 : Mem), a70 = mz M69 → M71 = nw M69 →
  ∀ M72 : Mem, M72 = sR M71 x0 31 (some a70) →
  ¬ (5000 : Int32) < 0 ∧ mz M72 < ZMAX ∧ shp (mz M72) = .inl (.long, (5000 : Int32).toNatClampNeg) ∧ (5000 : Int32).toNatClampNeg * 8 ≤ 536870912 ∧
  ∀ (a73 : Nat) (M74 : Mem), a73 = mz M72 → M74 = nw M72 →
  ∀ M75 : Mem, M75 = sR M74 x0 32 (some a73) →
  ¬ (5000 : Int32) < 0 ∧ mz M75 < ZMAX ∧ shp (mz M75) = .inl (.long, (5000 : Int32).toNatClampNeg) ∧ (5000 : Int32).toNatClampNeg * 8 ≤ 536870912 ∧
  ∀ (a76 : Nat) (M77 : Mem), a76 = mz M75 → M77 = nw M75 →
  ∀ M78 : Mem, M78 = sR M77 x0 33 (some a76) →
  ¬ (6000 : Int32) < 0 ∧ mz M78 < ZMAX ∧ shp (mz M78) = .inl (.long, (6000 : Int32).toNatClampNeg) ∧ (6000 : Int32).toNatClampNeg * 8 ≤ 536870912 ∧
  ∀ (a79 : Nat) (M80 : Mem), a79 = mz M78 → M80 = nw M78 →
  ∀ M81 : Mem, M81 = sR M80 x0 34 (some a79) →
  ¬ (80000 : Int32) < 0 ∧ mz M81 < ZMAX ∧ shp (mz M81) = .inl (.long, (80000 : Int32).toNatClampNeg) ∧ (80000 : Int32).toNatClampNeg * 8 ≤ 536870912 ∧
  ∀ (a82 : Nat) (M83 : Mem), a82 = mz M81 → M83 = nw M81 →
  ∀ M84 : Mem, M84 = sR M83 x0 35 (some a82) →
  ¬ (6000 : Int32) < 0 ∧ mz M84 < ZMAX ∧ shp (mz M84) = .inl (.boolean, (6000 : Int32).toNatClampNeg) ∧ (6000 : Int32).toNatClampNeg * 8 ≤ 536870912 ∧
  ∀ (a85 : Nat) (M86 : Mem), a85 = mz M84 → M86 = nw M84 →
  ∀ M87 : Mem, M87 = sR M86 x0 36 (some a85) →
  ¬ (64 : Int32) < 0 ∧ mz M87 < ZMAX ∧ shp (mz M87) = .inl (.int, (64 : Int32).toNatClampNeg) ∧ (64 : Int32).toNatClampNeg * 8 ≤ 536870912 ∧
  ∀ (a88 : Nat) (M89 : Mem), a88 = mz M87 → M89 = nw M87 →
  ∀ M90 : Mem, M90 = sR M89 x0 37 (some a88) →
  ¬ (64 : Int32) < 0 ∧ mz M90 < ZMAX ∧ shp (mz M90) = .inl (.int, (64 : Int32).toNatClampNeg) ∧ (64 : Int32).toNatClampNeg * 8 ≤ 536870912 ∧
  ∀ (a91 : Nat) (M92 : Mem), a91 = mz M90 → M92 = nw M90 →
  ∀ M93 : Mem, M93 = sR M92 x0 38 (some a91) →
  ∀ M94 : Mem, M94 = sI M93 x0 39 (0 : Int32) →
  ∀ M95 : Mem, M95 = sI M94 x0 40 (0 : Int32) →
  ∀ M96 : Mem, M96 = sI M95 x0 41 (0 : Int32) →
  ∀ M97 : Mem, M97 = sI M96 x0 42 (0 : Int32) →
  ∀ M98 : Mem, M98 = sI M97 x0 43 (0 : Int32) →
  ∀ M99 : Mem, M99 = sI M98 x0 44 (0 : Int32) →
  ∀ M100 : Mem, M100 = sI M99 x0 45 (0 : Int32) →
  ∀ M101 : Mem, M101 = sI M100 x0 46 (0 : Int32) →
  Q M101
def wp_X5_isKey_21 (t0 : Int32) (M : Mem) (Q : Int32 → Mem → Prop) : Prop :=
  (t0 = 0 ∨ t0 = 1) ∧ Q t0 M
def wp_X5_isKey_20  (M : Mem) (Q : Int32 → Mem → Prop) : Prop :=
  wp_X5_isKey_21 (0 : Int32) M Q
def wp_X5_isKey (x0 : Nat) (x1 : Int64) (M : Mem) (Q : Int32 → Mem → Prop) : Prop :=
  isO M x0 5 ∧
  (x1 < (-1000000000000 : Int64) →
  wp_X5_isKey_20 M Q) ∧
  (¬ x1 < (-1000000000000 : Int64) →
  ((1000000000000 : Int64) < x1 →
  wp_X5_isKey_20 M Q) ∧
  (¬ (1000000000000 : Int64) < x1 →
  wp_X5_isKey_21 (1 : Int32) M Q))
def wp_X5_load_31  (M : Mem) (Q : Int32 → Mem → Prop) : Prop :=
  Q (-2 : Int32) M
def wp_X5_load_34 (x0 : Nat) (x1 : Int64) (M : Mem) (Q : Int32 → Mem → Prop) : Prop :=
  (¬ (mI M x0 1) = (300 : Int32) →
  inb (mI M x0 1) (alen 70) ∧
  ∀ M1 : Mem, M1 = sL M 70 (mI M x0 1).toNatClampNeg x1 →
  ∀ M2 : Mem, M2 = sI M1 x0 1 ((mI M1 x0 1) + (1 : Int32)) →
  Q (mI M2 x0 1) M2) ∧
  ((mI M x0 1) = (300 : Int32) →
  Q (-3 : Int32) M)
def wp_X5_load (x0 : Nat) (x1 : Int64) (M : Mem) (Q : Int32 → Mem → Prop) : Prop :=
  isO M x0 5 ∧
  wp_X5_isKey x0 x1 M (fun (i4 : Int32) (M3 : Mem) =>
  (i4 = 0 →
  wp_X5_load_31 M3 Q) ∧
  (¬ i4 = 0 →
  ((mI M3 x0 1) ≤ 0 →
  wp_X5_load_34 x0 x1 M3 Q) ∧
  (¬ (mI M3 x0 1) ≤ 0 →
  inb ((mI M3 x0 1) - (1 : Int32)) (alen 70) ∧
  ((mL M3 70 ((mI M3 x0 1) - (1 : Int32)).toNatClampNeg) < x1 →
  wp_X5_load_34 x0 x1 M3 Q) ∧
  (¬ (mL M3 70 ((mI M3 x0 1) - (1 : Int32)).toNatClampNeg) < x1 →
  wp_X5_load_31 M3 Q))))
def wp_X5_fill_43  (M : Mem) (Q : Int32 → Mem → Prop) : Prop :=
  Q (-2 : Int32) M
def wp_X5_fill_93 (n : Nat) (x0 : Nat) (x1 : Int64) (x3 : Int64) (x5 : Int32) (x6 : Int32) (M : Mem) (Q : Int32 → Mem → Prop) (K132 : Nat → Mem → Prop) : Prop := match n with
  | 0 => False
  | n + 1 =>
  (x5 ≤ x6 →
  K132 x0 M) ∧
  (¬ x5 ≤ x6 →
  inb (mI M x0 1) (alen 70) ∧
  ∀ M1 : Mem, M1 = sL M 70 (mI M x0 1).toNatClampNeg (x1 + (x3 * x6.toInt64)) →
  ∀ M2 : Mem, M2 = sI M1 x0 1 ((mI M1 x0 1) + (1 : Int32)) →
  ∀ i3 : Int32, i3 = x6 + (1 : Int32) →
  wp_X5_fill_93 n x0 x1 x3 x5 i3 M2 Q K132)
def wp_X5_fill_132 (x0 : Nat) (M : Mem) (Q : Int32 → Mem → Prop) : Prop :=
  Q (mI M x0 1) M
def wp_X5_fill_71 (x0 : Nat) (x1 : Int64) (x3 : Int64) (x5 : Int32) (M : Mem) (Q : Int32 → Mem → Prop) : Prop :=
  ((((mI M x0 1).toInt64) + x5.toInt64) ≤ (300 : Int64) →
  ∃ k93, wp_X5_fill_93 k93 x0 x1 x3 x5 (0 : Int32) M Q (fun (x0 : Nat) (M : Mem) => wp_X5_fill_132 x0 M Q)) ∧
  (¬ (((mI M x0 1).toInt64) + x5.toInt64) ≤ (300 : Int64) →
  Q (-3 : Int32) M)
def wp_X5_fill_46 (x0 : Nat) (x1 : Int64) (x3 : Int64) (x5 : Int32) (M : Mem) (Q : Int32 → Mem → Prop) : Prop :=
  (x5 ≤ (1 : Int32) →
  wp_X5_fill_71 x0 x1 x3 x5 M Q) ∧
  (¬ x5 ≤ (1 : Int32) →
  ¬ ((x5 - (1 : Int32)).toInt64) = 0 ∧
  (x3 ≤ (((1000000000000 : Int64) - x1) / ((x5 - (1 : Int32)).toInt64)) →
  wp_X5_fill_71 x0 x1 x3 x5 M Q) ∧
  (¬ x3 ≤ (((1000000000000 : Int64) - x1) / ((x5 - (1 : Int32)).toInt64)) →
  Q (-2 : Int32) M))
def wp_X5_fill (x0 : Nat) (x1 : Int64) (x3 : Int64) (x5 : Int32) (M : Mem) (Q : Int32 → Mem → Prop) : Prop :=
  isO M x0 5 ∧
  (x5 < (1 : Int32) →
  wp_X5_fill_43 M Q) ∧
  (¬ x5 < (1 : Int32) →
  (x3 < (1 : Int64) →
  wp_X5_fill_43 M Q) ∧
  (¬ x3 < (1 : Int64) →
  wp_X5_isKey x0 x1 M (fun (i5 : Int32) (M4 : Mem) =>
  (i5 = 0 →
  wp_X5_fill_43 M4 Q) ∧
  (¬ i5 = 0 →
  ((mI M4 x0 1) ≤ 0 →
  wp_X5_fill_46 x0 x1 x3 x5 M4 Q) ∧
  (¬ (mI M4 x0 1) ≤ 0 →
  inb ((mI M4 x0 1) - (1 : Int32)) (alen 70) ∧
  ((mL M4 70 ((mI M4 x0 1) - (1 : Int32)).toNatClampNeg) < x1 →
  wp_X5_fill_46 x0 x1 x3 x5 M4 Q) ∧
  (¬ (mL M4 70 ((mI M4 x0 1) - (1 : Int32)).toNatClampNeg) < x1 →
  wp_X5_fill_43 M4 Q))))))
def wp_X5_wipe (x0 : Nat) (M : Mem) (Q : Int32 → Mem → Prop) : Prop :=
  isO M x0 5 ∧
  ∀ i1 : Int32, i1 = mI M x0 1 →
  ∀ M2 : Mem, M2 = sI M x0 1 (0 : Int32) →
  Q i1 M2
def wp_X5_margin_10  (M : Mem) (Q : Int32 → Mem → Prop) : Prop :=
  Q (-2 : Int32) M
def wp_X5_margin (x0 : Nat) (x1 : Int32) (M : Mem) (Q : Int32 → Mem → Prop) : Prop :=
  isO M x0 5 ∧
  (x1 < 0 →
  wp_X5_margin_10 M Q) ∧
  (¬ x1 < 0 →
  (x1 ≤ (40 : Int32) →
  ∀ i1 : Int32, i1 = mI M x0 2 →
  ∀ M2 : Mem, M2 = sI M x0 2 x1 →
  Q i1 M2) ∧
  (¬ x1 ≤ (40 : Int32) →
  wp_X5_margin_10 M Q))
def wp_X5_pair_126  (M : Mem) (Q : Mem → Prop) : Prop :=
  Q M
def wp_X5_pair_114 (x0 : Nat) (x5 : Int64) (x9 : Int64) (M : Mem) (Q : Mem → Prop) : Prop :=
  ∀ M4 : Mem, M4 = sL M x0 6 x9 →
  ∀ M5 : Mem, M5 = sL M4 x0 7 x5 →
  wp_X5_pair_126 M5 Q
def wp_X5_pair_87 (x0 : Nat) (x5 : Int64) (x9 : Int64) (M : Mem) (Q : Mem → Prop) : Prop :=
  ((mL M x0 7) = (0 : Int64) →
  wp_X5_pair_114 x0 x5 x9 M Q) ∧
  (¬ (mL M x0 7) = (0 : Int64) →
  ((x9 * (mL M x0 7)) ≤ ((mL M x0 6) * x5) →
  wp_X5_pair_126 M Q) ∧
  (¬ (x9 * (mL M x0 7)) ≤ ((mL M x0 6) * x5) →
  wp_X5_pair_114 x0 x5 x9 M Q))
def wp_X5_pair_70 (x0 : Nat) (x1 : Int32) (x5 : Int64) (x7 : Int64) (x9 : Int64) (M : Mem) (Q : Mem → Prop) : Prop :=
  ∀ M1 : Mem, M1 = sL M x0 4 x7 →
  ∀ M2 : Mem, M2 = sL M1 x0 5 x5 →
  ∀ M3 : Mem, M3 = sI M2 x0 8 x1 →
  wp_X5_pair_87 x0 x5 x9 M3 Q
def wp_X5_pair (x0 : Nat) (x1 : Int32) (x2 : Int32) (x3 : Int32) (x4 : Int32) (M : Mem) (Q : Mem → Prop) : Prop :=
  isO M x0 5 ∧
  inb x2 (alen 71) ∧
  inb x1 (alen 71) ∧
  ∀ j6 : Int64, j6 = (mL M 71 x2.toNatClampNeg) - (mL M 71 x1.toNatClampNeg) →
  ∀ j7 : Int64, j7 = ((x2 - x1).toInt64) + ((2 : Int64) * x4.toInt64) →
  ∀ j8 : Int64, j8 = ((x2 - x1).toInt64) - ((2 : Int64) * x4.toInt64) →
  ((mL M x0 5) = (0 : Int64) →
  wp_X5_pair_70 x0 x1 j6 j7 j8 M Q) ∧
  (¬ (mL M x0 5) = (0 : Int64) →
  (((mL M x0 4) * j6) ≤ (j7 * (mL M x0 5)) →
  wp_X5_pair_87 x0 j6 j8 M Q) ∧
  (¬ ((mL M x0 4) * j6) ≤ (j7 * (mL M x0 5)) →
  wp_X5_pair_70 x0 x1 j6 j7 j8 M Q))
def wp_X5_fits_36 (t0 : Int32) (M : Mem) (Q : Int32 → Mem → Prop) : Prop :=
  (t0 = 0 ∨ t0 = 1) ∧ Q t0 M
def wp_X5_fits_31  (M : Mem) (Q : Int32 → Mem → Prop) : Prop :=
  wp_X5_fits_36 (1 : Int32) M Q
def wp_X5_fits (x0 : Nat) (M : Mem) (Q : Int32 → Mem → Prop) : Prop :=
  isO M x0 5 ∧
  ((mL M x0 5) = (0 : Int64) →
  wp_X5_fits_31 M Q) ∧
  (¬ (mL M x0 5) = (0 : Int64) →
  (((mL M x0 4) * (mL M x0 7)) < ((mL M x0 6) * (mL M x0 5)) →
  wp_X5_fits_36 (0 : Int32) M Q) ∧
  (¬ ((mL M x0 4) * (mL M x0 7)) < ((mL M x0 6) * (mL M x0 5)) →
  wp_X5_fits_31 M Q))
def wp_X5_passed_24 (n : Nat) (x0 : Nat) (x1 : Int32) (x2 : Int32) (x3 : Int32) (x4 : Int32) (x5 : Int32) (M : Mem) (Q : Int32 → Mem → Prop) (K47 : Nat → Int32 → Int32 → Int32 → Int32 → Mem → Prop) : Prop := match n with
  | 0 => False
  | n + 1 =>
  (x4 ≤ x5 →
  K47 x0 x1 x2 x3 x4 M) ∧
  (¬ x4 ≤ x5 →
  wp_X5_pair x0 x5 x4 x1 x3 M (fun (M1 : Mem) =>
  ∀ i2 : Int32, i2 = x5 + (1 : Int32) →
  wp_X5_passed_24 n x0 x1 x2 x3 x4 i2 M1 Q K47))
def wp_X5_passed_47 (x0 : Nat) (x1 : Int32) (x2 : Int32) (x3 : Int32) (x4 : Int32) (M : Mem) (Q : Int32 → Mem → Prop) (K15 : Nat → Int32 → Int32 → Int32 → Int32 → Mem → Prop) (K53 : Nat → Mem → Prop) : Prop :=
  ∀ i3 : Int32, i3 = x4 + (1 : Int32) →
  K15 x0 x1 x2 x3 i3 M
def wp_X5_passed_53 (x0 : Nat) (M : Mem) (Q : Int32 → Mem → Prop) : Prop :=
  wp_X5_fits x0 M (fun (i5 : Int32) (M4 : Mem) =>
  (i5 = 0 ∨ i5 = 1) ∧ Q i5 M4)
def wp_X5_passed_15 (n : Nat) (x0 : Nat) (x1 : Int32) (x2 : Int32) (x3 : Int32) (x4 : Int32) (M : Mem) (Q : Int32 → Mem → Prop) (K53 : Nat → Mem → Prop) : Prop := match n with
  | 0 => False
  | n + 1 =>
  (x2 ≤ x4 →
  K53 x0 M) ∧
  (¬ x2 ≤ x4 →
  ∃ k24, wp_X5_passed_24 k24 x0 x1 x2 x3 x4 x1 M Q (fun (x0 : Nat) (x1 : Int32) (x2 : Int32) (x3 : Int32) (x4 : Int32) (M : Mem) => wp_X5_passed_47 x0 x1 x2 x3 x4 M Q (fun (x0 : Nat) (x1 : Int32) (x2 : Int32) (x3 : Int32) (x4 : Int32) (M : Mem) => wp_X5_passed_15 n x0 x1 x2 x3 x4 M Q K53) K53))
def wp_X5_passed (x0 : Nat) (x1 : Int32) (x2 : Int32) (x3 : Int32) (M : Mem) (Q : Int32 → Mem → Prop) : Prop :=
  isO M x0 5 ∧
  ∀ M6 : Mem, M6 = sL M x0 5 (0 : Int64) →
  ∀ M7 : Mem, M7 = sL M6 x0 7 (0 : Int64) →
  ∀ i8 : Int32, i8 = x1 + (1 : Int32) →
  ∃ k15, wp_X5_passed_15 k15 x0 x1 x2 x3 i8 M7 Q (fun (x0 : Nat) (M : Mem) => wp_X5_passed_53 x0 M Q)
def wp_X5_spanEnd_32 (n : Nat) (x0 : Nat) (x1 : Int32) (x2 : Int32) (x3 : Int32) (x4 : Int32) (x6 : Int32) (M : Mem) (Q : Int32 → Mem → Prop) (K55 : Nat → Int32 → Int32 → Int32 → Int32 → Mem → Prop) : Prop := match n with
  | 0 => False
  | n + 1 =>
  (x4 ≤ x6 →
  K55 x0 x1 x2 x3 x4 M) ∧
  (¬ x4 ≤ x6 →
  wp_X5_pair x0 x6 x4 x1 x3 M (fun (M1 : Mem) =>
  ∀ i2 : Int32, i2 = x6 + (1 : Int32) →
  wp_X5_spanEnd_32 n x0 x1 x2 x3 x4 i2 M1 Q K55))
def wp_X5_spanEnd_73 (x0 : Nat) (x1 : Int32) (x2 : Int32) (x3 : Int32) (x5 : Int32) (t0 : Int32) (t1 : Int32) (M : Mem) (Q : Int32 → Mem → Prop) (K18 : Nat → Int32 → Int32 → Int32 → Int32 → Int32 → Mem → Prop) (K79 : Int32 → Mem → Prop) : Prop :=
  ∀ i5 : Int32, i5 = t1 + t0 →
  K18 x0 x1 x2 x3 i5 x5 M
def wp_X5_spanEnd_79 (x4 : Int32) (M : Mem) (Q : Int32 → Mem → Prop) : Prop :=
  Q x4 M
def wp_X5_spanEnd_55 (x0 : Nat) (x1 : Int32) (x2 : Int32) (x3 : Int32) (x4 : Int32) (M : Mem) (Q : Int32 → Mem → Prop) (K18 : Nat → Int32 → Int32 → Int32 → Int32 → Int32 → Mem → Prop) (K79 : Int32 → Mem → Prop) : Prop :=
  wp_X5_fits x0 M (fun (i4 : Int32) (M3 : Mem) =>
  (i4 = 0 →
  wp_X5_spanEnd_73 x0 x1 x2 x3 i4 (0 : Int32) x4 M3 Q K18 K79) ∧
  (¬ i4 = 0 →
  wp_X5_spanEnd_73 x0 x1 x2 x3 i4 (1 : Int32) x4 M3 Q K18 K79))
def wp_X5_spanEnd_18 (n : Nat) (x0 : Nat) (x1 : Int32) (x2 : Int32) (x3 : Int32) (x4 : Int32) (x5 : Int32) (M : Mem) (Q : Int32 → Mem → Prop) (K79 : Int32 → Mem → Prop) : Prop := match n with
  | 0 => False
  | n + 1 =>
  (x2 ≤ x4 →
  K79 x4 M) ∧
  (¬ x2 ≤ x4 →
  (x5 = 0 →
  K79 x4 M) ∧
  (¬ x5 = 0 →
  ∃ k32, wp_X5_spanEnd_32 k32 x0 x1 x2 x3 x4 x1 M Q (fun (x0 : Nat) (x1 : Int32) (x2 : Int32) (x3 : Int32) (x4 : Int32) (M : Mem) => wp_X5_spanEnd_55 x0 x1 x2 x3 x4 M Q (fun (x0 : Nat) (x1 : Int32) (x2 : Int32) (x3 : Int32) (x4 : Int32) (x5 : Int32) (M : Mem) => wp_X5_spanEnd_18 n x0 x1 x2 x3 x4 x5 M Q K79) K79)))
def wp_X5_spanEnd (x0 : Nat) (x1 : Int32) (x2 : Int32) (x3 : Int32) (M : Mem) (Q : Int32 → Mem → Prop) : Prop :=
  isO M x0 5 ∧
  ∀ M6 : Mem, M6 = sL M x0 5 (0 : Int64) →
  ∀ M7 : Mem, M7 = sL M6 x0 7 (0 : Int64) →
  ∀ i8 : Int32, i8 = x1 + (1 : Int32) →
  ∃ k18, wp_X5_spanEnd_18 k18 x0 x1 x2 x3 i8 (1 : Int32) M7 Q (fun (x4 : Int32) (M : Mem) => wp_X5_spanEnd_79 x4 M Q)
def wp_X5_take_2 (n : Nat) (x0 : Nat) (x1 : Int32) (M : Mem) (Q : Mem → Prop) (K28 : Mem → Prop) : Prop := match n with
  | 0 => False
  | n + 1 =>
  ((mI M x0 1) ≤ x1 →
  K28 M) ∧
  (¬ (mI M x0 1) ≤ x1 →
  inb x1 (alen 70) ∧
  inb x1 (alen 71) ∧
  ∀ M1 : Mem, M1 = sL M 71 x1.toNatClampNeg (mL M 70 x1.toNatClampNeg) →
  ∀ i2 : Int32, i2 = x1 + (1 : Int32) →
  wp_X5_take_2 n x0 i2 M1 Q K28)
def wp_X5_take_28  (M : Mem) (Q : Mem → Prop) : Prop :=
  Q M
def wp_X5_take (x0 : Nat) (M : Mem) (Q : Mem → Prop) : Prop :=
  isO M x0 5 ∧
  ∃ k2, wp_X5_take_2 k2 x0 (0 : Int32) M Q (fun  (M : Mem) => wp_X5_take_28 M Q)
def wp_X5_few_10  (M : Mem) (Q : Int32 → Mem → Prop) : Prop :=
  Q (-2 : Int32) M
def wp_X5_few_21 (n : Nat) (x0 : Nat) (x1 : Int32) (x2 : Int32) (x3 : Int32) (M : Mem) (Q : Int32 → Mem → Prop) (K46 : Int32 → Mem → Prop) : Prop := match n with
  | 0 => False
  | n + 1 =>
  ((mI M x0 1) ≤ x3 →
  K46 x2 M) ∧
  (¬ (mI M x0 1) ≤ x3 →
  ∀ i1 : Int32, i1 = x2 + (1 : Int32) →
  wp_X5_spanEnd x0 x3 (mI M x0 1) x1 M (fun (i3 : Int32) (M2 : Mem) =>
  wp_X5_few_21 n x0 x1 i1 i3 M2 Q K46))
def wp_X5_few_46 (x2 : Int32) (M : Mem) (Q : Int32 → Mem → Prop) : Prop :=
  Q x2 M
def wp_X5_few (x0 : Nat) (x1 : Int32) (M : Mem) (Q : Int32 → Mem → Prop) : Prop :=
  isO M x0 5 ∧
  (x1 < 0 →
  wp_X5_few_10 M Q) ∧
  (¬ x1 < 0 →
  (x1 ≤ (40 : Int32) →
  wp_X5_take x0 M (fun (M4 : Mem) =>
  ∃ k21, wp_X5_few_21 k21 x0 x1 (0 : Int32) (0 : Int32) M4 Q (fun (x2 : Int32) (M : Mem) => wp_X5_few_46 x2 M Q))) ∧
  (¬ x1 ≤ (40 : Int32) →
  wp_X5_few_10 M Q))
def wp_X5_three (x0 : Nat) (x1 : Int32) (x2 : Int32) (x3 : Int32) (x4 : Int32) (M : Mem) (Q : Int32 → Mem → Prop) : Prop :=
  isO M x0 5 ∧
  wp_X5_take x0 M (fun (M1 : Mem) =>
  ∀ M2 : Mem, M2 = sL M1 x0 5 (0 : Int64) →
  ∀ M3 : Mem, M3 = sL M2 x0 7 (0 : Int64) →
  wp_X5_pair x0 x1 x2 (0 : Int32) x4 M3 (fun (M4 : Mem) =>
  wp_X5_pair x0 x1 x3 (0 : Int32) x4 M4 (fun (M5 : Mem) =>
  wp_X5_pair x0 x2 x3 (0 : Int32) x4 M5 (fun (M6 : Mem) =>
  wp_X5_fits x0 M6 (fun (i8 : Int32) (M7 : Mem) =>
  (i8 = 0 ∨ i8 = 1) ∧ Q i8 M7)))))
def wp_X5_passes_34  (M : Mem) (Q : Int32 → Mem → Prop) : Prop :=
  Q (-2 : Int32) M
def wp_X5_passes_54 (t0 : Int32) (M : Mem) (Q : Int32 → Mem → Prop) : Prop :=
  Q t0 M
def wp_X5_passes (x0 : Nat) (x1 : Int32) (x2 : Int32) (x3 : Int32) (x4 : Int32) (M : Mem) (Q : Int32 → Mem → Prop) : Prop :=
  isO M x0 5 ∧
  (x4 < 0 →
  wp_X5_passes_34 M Q) ∧
  (¬ x4 < 0 →
  ((40 : Int32) < x4 →
  wp_X5_passes_34 M Q) ∧
  (¬ (40 : Int32) < x4 →
  (x1 < 0 →
  wp_X5_passes_34 M Q) ∧
  (¬ x1 < 0 →
  (x2 ≤ x1 →
  wp_X5_passes_34 M Q) ∧
  (¬ x2 ≤ x1 →
  (x3 ≤ x2 →
  wp_X5_passes_34 M Q) ∧
  (¬ x3 ≤ x2 →
  (x3 < (mI M x0 1) →
  wp_X5_three x0 x1 x2 x3 x4 M (fun (i2 : Int32) (M1 : Mem) =>
  (i2 = 0 →
  wp_X5_passes_54 (0 : Int32) M1 Q) ∧
  (¬ i2 = 0 →
  wp_X5_passes_54 (1 : Int32) M1 Q))) ∧
  (¬ x3 < (mI M x0 1) →
  wp_X5_passes_34 M Q))))))
def wp_X5_span_12 (n : Nat) (x0 : Nat) (x1 : Int32) (x2 : Int32) (x3 : Int32) (x4 : Int32) (x5 : Int32) (M : Mem) (Q : Int32 → Mem → Prop) (K52 : Nat → Int32 → Int32 → Int32 → Int32 → Mem → Prop) : Prop := match n with
  | 0 => False
  | n + 1 =>
  (x1 ≤ x5 →
  K52 x0 x1 x2 x3 x4 M) ∧
  (¬ x1 ≤ x5 →
  ((mI M x0 1) ≤ x4 →
  K52 x0 x1 x2 x3 x4 M) ∧
  (¬ (mI M x0 1) ≤ x4 →
  wp_X5_spanEnd x0 x4 (mI M x0 1) (mI M x0 2) M (fun (i2 : Int32) (M1 : Mem) =>
  ∀ i3 : Int32, i3 = x5 + (1 : Int32) →
  wp_X5_span_12 n x0 x1 x2 x4 i2 i3 M1 Q K52)))
def wp_X5_span_82  (M : Mem) (Q : Int32 → Mem → Prop) : Prop :=
  Q (-1 : Int32) M
def wp_X5_span_130 (n : Nat) (x0 : Nat) (x2 : Int32) (x4 : Int32) (x6 : Int32) (x7 : Int32) (M : Mem) (Q : Int32 → Mem → Prop) (K154 : Int32 → Int32 → Int32 → Mem → Prop) (K173 : Nat → Int32 → Int32 → Int32 → Mem → Prop) : Prop := match n with
  | 0 => False
  | n + 1 =>
  (x4 ≤ x7 →
  K173 x0 x2 x4 x6 M) ∧
  (¬ x4 ≤ x7 →
  wp_X5_three x0 x6 x7 x4 (mI M x0 2) M (fun (i8 : Int32) (M7 : Mem) =>
  (¬ i8 = 0 →
  ∀ i9 : Int32, i9 = x7 + (1 : Int32) →
  wp_X5_span_130 n x0 x2 x4 x6 i9 M7 Q K154 K173) ∧
  (i8 = 0 →
  K154 x2 x6 x7 M7)))
def wp_X5_span_166 (t0 : Int32) (M : Mem) (Q : Int32 → Mem → Prop) : Prop :=
  Q t0 M
def wp_X5_span_173 (x0 : Nat) (x2 : Int32) (x4 : Int32) (x6 : Int32) (M : Mem) (Q : Int32 → Mem → Prop) (K117 : Nat → Int32 → Int32 → Int32 → Mem → Prop) (K154 : Int32 → Int32 → Int32 → Mem → Prop) (K179 : Mem → Prop) : Prop :=
  ∀ i10 : Int32, i10 = x6 + (1 : Int32) →
  K117 x0 x2 x4 i10 M
def wp_X5_span_179  (M : Mem) (Q : Int32 → Mem → Prop) : Prop :=
  Q (-1 : Int32) M
def wp_X5_span_117 (n : Nat) (x0 : Nat) (x2 : Int32) (x4 : Int32) (x6 : Int32) (M : Mem) (Q : Int32 → Mem → Prop) (K154 : Int32 → Int32 → Int32 → Mem → Prop) (K179 : Mem → Prop) : Prop := match n with
  | 0 => False
  | n + 1 =>
  (x4 ≤ x6 →
  K179 M) ∧
  (¬ x4 ≤ x6 →
  ∀ i6 : Int32, i6 = x6 + (1 : Int32) →
  ∃ k130, wp_X5_span_130 k130 x0 x2 x4 x6 i6 M Q (fun (x2 : Int32) (x6 : Int32) (x7 : Int32) (M : Mem) => K154 x2 x6 x7 M) (fun (x0 : Nat) (x2 : Int32) (x4 : Int32) (x6 : Int32) (M : Mem) => wp_X5_span_173 x0 x2 x4 x6 M Q (fun (x0 : Nat) (x2 : Int32) (x4 : Int32) (x6 : Int32) (M : Mem) => wp_X5_span_117 n x0 x2 x4 x6 M Q K154 K179) K154 K179))
def wp_X5_span_154 (x2 : Int32) (x6 : Int32) (x7 : Int32) (M : Mem) (Q : Int32 → Mem → Prop) : Prop :=
  (¬ x2 = (2 : Int32) →
  wp_X5_span_166 x7 M Q) ∧
  (x2 = (2 : Int32) →
  wp_X5_span_166 x6 M Q)
def wp_X5_span_79 (x0 : Nat) (x2 : Int32) (x3 : Int32) (x4 : Int32) (t0 : Int32) (t1 : Int32) (M : Mem) (Q : Int32 → Mem → Prop) : Prop :=
  (t1 ≤ t0 →
  (¬ x2 = 0 →
  (¬ x2 = (1 : Int32) →
  ∃ k117, wp_X5_span_117 k117 x0 x2 x4 x3 M Q (fun (x2 : Int32) (x6 : Int32) (x7 : Int32) (M : Mem) => wp_X5_span_154 x2 x6 x7 M Q) (fun  (M : Mem) => wp_X5_span_179 M Q)) ∧
  (x2 = (1 : Int32) →
  wp_X5_spanEnd x0 x4 (mI M x0 1) (mI M x0 2) M (fun (i5 : Int32) (M4 : Mem) =>
  Q (i5 - x4) M4))) ∧
  (x2 = 0 →
  Q x4 M)) ∧
  (¬ t1 ≤ t0 →
  wp_X5_span_82 M Q)
def wp_X5_span_52 (x0 : Nat) (x1 : Int32) (x2 : Int32) (x3 : Int32) (x4 : Int32) (M : Mem) (Q : Int32 → Mem → Prop) : Prop :=
  (x1 < 0 →
  wp_X5_span_82 M Q) ∧
  (¬ x1 < 0 →
  ((mI M x0 1) ≤ x4 →
  wp_X5_span_82 M Q) ∧
  (¬ (mI M x0 1) ≤ x4 →
  (x2 < 0 →
  wp_X5_span_82 M Q) ∧
  (¬ x2 < 0 →
  (x1 ≤ 0 →
  wp_X5_span_79 x0 x2 x3 x4 (1 : Int32) x2 M Q) ∧
  (¬ x1 ≤ 0 →
  wp_X5_span_79 x0 x2 x3 x4 (3 : Int32) x2 M Q))))
def wp_X5_span (x0 : Nat) (x1 : Int32) (x2 : Int32) (M : Mem) (Q : Int32 → Mem → Prop) : Prop :=
  isO M x0 5 ∧
  wp_X5_take x0 M (fun (M11 : Mem) =>
  ∃ k12, wp_X5_span_12 k12 x0 x1 x2 (0 : Int32) (0 : Int32) (0 : Int32) M11 Q (fun (x0 : Nat) (x1 : Int32) (x2 : Int32) (x3 : Int32) (x4 : Int32) (M : Mem) => wp_X5_span_52 x0 x1 x2 x3 x4 M Q))
def wp_X5_pieces (x0 : Nat) (M : Mem) (Q : Int32 → Mem → Prop) : Prop :=
  isO M x0 5 ∧
  inb (0 : Int32) (alen 73) ∧
  Q (mI M 73 (0 : Int32).toNatClampNeg) M
def wp_X5_divisor_6 (n : Nat) (x5 : Int64) (x7 : Int64) (M : Mem) (Q : Int64 → Mem → Prop) (K31 : Int64 → Mem → Prop) : Prop := match n with
  | 0 => False
  | n + 1 =>
  (x7 = (0 : Int64) →
  K31 x5 M) ∧
  (¬ x7 = (0 : Int64) →
  ¬ x7 = 0 ∧
  ∀ j1 : Int64, j1 = x5 - x5 / x7 * x7 →
  wp_X5_divisor_6 n x7 j1 M Q K31)
def wp_X5_divisor_31 (x5 : Int64) (M : Mem) (Q : Int64 → Mem → Prop) : Prop :=
  Q x5 M
def wp_X5_divisor (x0 : Nat) (x1 : Int64) (x3 : Int64) (M : Mem) (Q : Int64 → Mem → Prop) : Prop :=
  isO M x0 5 ∧
  ∃ k6, wp_X5_divisor_6 k6 x1 x3 M Q (fun (x5 : Int64) (M : Mem) => wp_X5_divisor_31 x5 M Q)
def wp_X5_guessOf_107 (t0 : Int32) (M : Mem) (Q : Int32 → Mem → Prop) : Prop :=
  Q t0 M
def wp_X5_guessOf_174 (t0 : Int32) (M : Mem) (Q : Int32 → Mem → Prop) : Prop :=
  Q t0 M
def wp_X5_guessOf (x0 : Nat) (x1 : Int32) (x2 : Int64) (M : Mem) (Q : Int32 → Mem → Prop) : Prop :=
  isO M x0 5 ∧
  inb x1 (alen 76) ∧
  ∀ i1 : Int32, i1 = (mI M 76 x1.toNatClampNeg) - (1 : Int32) →
  inb x1 (alen 74) ∧
  (¬ (mI M 74 x1.toNatClampNeg) = 0 →
  inb x1 (alen 74) ∧
  (¬ (mI M 74 x1.toNatClampNeg) = (2 : Int32) →
  inb x1 (alen 81) ∧
  inb x1 (alen 79) ∧
  inb x1 (alen 75) ∧
  inb (mI M 75 x1.toNatClampNeg) (alen 82) ∧
  ∀ j2 : Int64, j2 = (mL M 81 x1.toNatClampNeg) + ((mL M 79 x1.toNatClampNeg) * (x2 - (mL M 82 (mI M 75 x1.toNatClampNeg).toNatClampNeg))) →
  ((0 : Int64) ≤ j2 →
  inb x1 (alen 80) ∧
  ¬ (mL M 80 x1.toNatClampNeg) = 0 ∧
  ∀ j3 : Int64, j3 = j2 / (mL M 80 x1.toNatClampNeg) →
  (j3 ≤ i1.toInt64 →
  wp_X5_guessOf_174 j3.toInt32 M Q) ∧
  (¬ j3 ≤ i1.toInt64 →
  wp_X5_guessOf_174 i1 M Q)) ∧
  (¬ (0 : Int64) ≤ j2 →
  Q (0 : Int32) M)) ∧
  ((mI M 74 x1.toNatClampNeg) = (2 : Int32) →
  inb x1 (alen 81) ∧
  inb x1 (alen 80) ∧
  ∀ f4 : UInt64, alike64 f4 (FP.ddiv (FP.l2d (mL M 81 x1.toNatClampNeg)) (FP.l2d (mL M 80 x1.toNatClampNeg))) = true →
  inb x1 (alen 79) ∧
  inb x1 (alen 80) ∧
  ∀ f5 : UInt64, alike64 f5 (FP.ddiv (FP.l2d (mL M 79 x1.toNatClampNeg)) (FP.l2d (mL M 80 x1.toNatClampNeg))) = true →
  inb x1 (alen 75) ∧
  inb (mI M 75 x1.toNatClampNeg) (alen 82) ∧
  ∀ f6 : UInt64, alike64 f6 (FP.dmul f5 (FP.l2d (x2 - (mL M 82 (mI M 75 x1.toNatClampNeg).toNatClampNeg)))) = true →
  ∀ f7 : UInt64, alike64 f7 (FP.dadd f4 f6) = true →
  ((Op.cmpValue (FP.dcmp f7 (FP.i2d i1)) CmpOp.l) < 0 →
  ((Op.cmpValue (FP.dcmp f7 FP.dconst0) CmpOp.l) ≤ 0 →
  wp_X5_guessOf_107 (0 : Int32) M Q) ∧
  (¬ (Op.cmpValue (FP.dcmp f7 FP.dconst0) CmpOp.l) ≤ 0 →
  wp_X5_guessOf_107 (FP.d2i f7) M Q)) ∧
  (¬ (Op.cmpValue (FP.dcmp f7 (FP.i2d i1)) CmpOp.l) < 0 →
  wp_X5_guessOf_107 i1 M Q))) ∧
  ((mI M 74 x1.toNatClampNeg) = 0 →
  Q (0 : Int32) M)
def wp_X5_miss_61 (x0 : Nat) (x1 : Int32) (x3 : Int32) (t0 : Int32) (M : Mem) (Q : Int32 → Mem → Prop) (K4 : Nat → Int32 → Int32 → Int32 → Mem → Prop) (K68 : Int32 → Mem → Prop) : Prop :=
  ∀ i4 : Int32, i4 = x3 + (1 : Int32) →
  K4 x0 x1 t0 i4 M
def wp_X5_miss_68 (x2 : Int32) (M : Mem) (Q : Int32 → Mem → Prop) : Prop :=
  Q x2 M
def wp_X5_miss_4 (n : Nat) (x0 : Nat) (x1 : Int32) (x2 : Int32) (x3 : Int32) (M : Mem) (Q : Int32 → Mem → Prop) (K68 : Int32 → Mem → Prop) : Prop := match n with
  | 0 => False
  | n + 1 =>
  inb x1 (alen 76) ∧
  ((mI M 76 x1.toNatClampNeg) ≤ x3 →
  K68 x2 M) ∧
  (¬ (mI M 76 x1.toNatClampNeg) ≤ x3 →
  inb x1 (alen 75) ∧
  inb ((mI M 75 x1.toNatClampNeg) + x3) (alen 82) ∧
  wp_X5_guessOf x0 x1 (mL M 82 ((mI M 75 x1.toNatClampNeg) + x3).toNatClampNeg) M (fun (i2 : Int32) (M1 : Mem) =>
  ∀ i3 : Int32, i3 = i2 - x3 →
  (i3 ≤ x2 →
  ((-i3) ≤ x2 →
  wp_X5_miss_61 x0 x1 x3 x2 M1 Q (fun (x0 : Nat) (x1 : Int32) (x2 : Int32) (x3 : Int32) (M : Mem) => wp_X5_miss_4 n x0 x1 x2 x3 M Q K68) K68) ∧
  (¬ (-i3) ≤ x2 →
  wp_X5_miss_61 x0 x1 x3 (-i3) M1 Q (fun (x0 : Nat) (x1 : Int32) (x2 : Int32) (x3 : Int32) (M : Mem) => wp_X5_miss_4 n x0 x1 x2 x3 M Q K68) K68)) ∧
  (¬ i3 ≤ x2 →
  wp_X5_miss_61 x0 x1 x3 i3 M1 Q (fun (x0 : Nat) (x1 : Int32) (x2 : Int32) (x3 : Int32) (M : Mem) => wp_X5_miss_4 n x0 x1 x2 x3 M Q K68) K68)))
def wp_X5_miss (x0 : Nat) (x1 : Int32) (M : Mem) (Q : Int32 → Mem → Prop) : Prop :=
  isO M x0 5 ∧
  ∃ k4, wp_X5_miss_4 k4 x0 x1 (0 : Int32) (0 : Int32) M Q (fun (x2 : Int32) (M : Mem) => wp_X5_miss_68 x2 M Q)
def wp_X5_lean_77 (n : Nat) (x0 : Nat) (x1 : Int32) (x2 : Int32) (x3 : Int32) (x4 : Int32) (x5 : Int32) (x6 : Int32) (x7 : Int32) (M : Mem) (Q : Mem → Prop) (K121 : Nat → Int32 → Int32 → Int32 → Int32 → Int32 → Mem → Prop) : Prop := match n with
  | 0 => False
  | n + 1 =>
  (x3 ≤ x7 →
  K121 x0 x1 x2 x3 x4 x5 M) ∧
  (¬ x3 ≤ x7 →
  inb x7 (alen 71) ∧
  inb ((x6 + x7) - x2) (alen 82) ∧
  ∀ M9 : Mem, M9 = sL M 82 ((x6 + x7) - x2).toNatClampNeg (mL M 71 x7.toNatClampNeg) →
  inb ((x6 + x7) - x2) (alen 84) ∧
  ∀ M10 : Mem, M10 = sI M9 84 ((x6 + x7) - x2).toNatClampNeg (0 : Int32) →
  ∀ i11 : Int32, i11 = x7 + (1 : Int32) →
  wp_X5_lean_77 n x0 x1 x2 x3 x4 x5 x6 i11 M10 Q K121)
def wp_X5_lean_251  (M : Mem) (Q : Mem → Prop) : Prop :=
  Q M
def wp_X5_lean_121 (x0 : Nat) (x1 : Int32) (x2 : Int32) (x3 : Int32) (x4 : Int32) (x5 : Int32) (M : Mem) (Q : Mem → Prop) : Prop :=
  (¬ (x3 - x2) = (1 : Int32) →
  wp_X5_passed x0 x2 x3 x4 M (fun (i13 : Int32) (M12 : Mem) =>
  wp_X5_divisor x0 (mL M12 x0 4) (mL M12 x0 5) M12 (fun (j15 : Int64) (M14 : Mem) =>
  ¬ j15 = 0 ∧
  inb x1 (alen 79) ∧
  ∀ M16 : Mem, M16 = sL M14 79 x1.toNatClampNeg ((mL M14 x0 4) / j15) →
  ¬ j15 = 0 ∧
  inb x1 (alen 80) ∧
  ∀ M17 : Mem, M17 = sL M16 80 x1.toNatClampNeg ((mL M16 x0 5) / j15) →
  inb x1 (alen 80) ∧
  inb x1 (alen 79) ∧
  inb (mI M17 x0 8) (alen 71) ∧
  inb x2 (alen 71) ∧
  inb x1 (alen 81) ∧
  ∀ M18 : Mem, M18 = sL M17 81 x1.toNatClampNeg (((mL M17 80 x1.toNatClampNeg) * ((((mI M17 x0 8) - x2) - x4).toInt64)) - ((mL M17 79 x1.toNatClampNeg) * ((mL M17 71 (mI M17 x0 8).toNatClampNeg) - (mL M17 71 x2.toNatClampNeg)))) →
  (¬ x5 = (2 : Int32) →
  wp_X5_lean_251 M18 Q) ∧
  (x5 = (2 : Int32) →
  wp_X5_miss x0 x1 M18 (fun (i20 : Int32) (M19 : Mem) =>
  (i20 ≤ (mI M19 x0 2) →
  wp_X5_lean_251 M19 Q) ∧
  (¬ i20 ≤ (mI M19 x0 2) →
  inb x1 (alen 74) ∧
  ∀ M21 : Mem, M21 = sI M19 74 x1.toNatClampNeg (1 : Int32) →
  wp_X5_lean_251 M21 Q)))))) ∧
  ((x3 - x2) = (1 : Int32) →
  Q M)
def wp_X5_lean_18 (x0 : Nat) (x1 : Int32) (x2 : Int32) (x3 : Int32) (x4 : Int32) (x5 : Int32) (x6 : Int32) (t0 : Int32) (t1 : Int32) (t2 : Nat) (M : Mem) (Q : Mem → Prop) : Prop :=
  inb t1 (alen t2) ∧
  ∀ M1 : Mem, M1 = sI M t2 t1.toNatClampNeg t0 →
  inb x1 (alen 75) ∧
  ∀ M2 : Mem, M2 = sI M1 75 x1.toNatClampNeg x6 →
  inb x1 (alen 76) ∧
  ∀ M3 : Mem, M3 = sI M2 76 x1.toNatClampNeg (x3 - x2) →
  inb x1 (alen 77) ∧
  ∀ M4 : Mem, M4 = sI M3 77 x1.toNatClampNeg (mI M3 x0 2) →
  inb x1 (alen 78) ∧
  ∀ M5 : Mem, M5 = sI M4 78 x1.toNatClampNeg (0 : Int32) →
  inb x1 (alen 79) ∧
  ∀ M6 : Mem, M6 = sL M5 79 x1.toNatClampNeg (0 : Int64) →
  inb x1 (alen 80) ∧
  ∀ M7 : Mem, M7 = sL M6 80 x1.toNatClampNeg (1 : Int64) →
  inb x1 (alen 81) ∧
  ∀ M8 : Mem, M8 = sL M7 81 x1.toNatClampNeg (0 : Int64) →
  ∃ k77, wp_X5_lean_77 k77 x0 x1 x2 x3 x4 x5 x6 x2 M8 Q (fun (x0 : Nat) (x1 : Int32) (x2 : Int32) (x3 : Int32) (x4 : Int32) (x5 : Int32) (M : Mem) => wp_X5_lean_121 x0 x1 x2 x3 x4 x5 M Q)
def wp_X5_lean (x0 : Nat) (x1 : Int32) (x2 : Int32) (x3 : Int32) (x4 : Int32) (x5 : Int32) (x6 : Int32) (M : Mem) (Q : Mem → Prop) : Prop :=
  isO M x0 5 ∧
  (¬ (x3 - x2) = (1 : Int32) →
  wp_X5_lean_18 x0 x1 x2 x3 x4 x5 x6 x5 x1 74 M Q) ∧
  ((x3 - x2) = (1 : Int32) →
  wp_X5_lean_18 x0 x1 x2 x3 x4 x5 x6 (0 : Int32) x1 74 M Q)
def wp_X5_make_27 (n : Nat) (x0 : Nat) (x1 : Int32) (x2 : Int32) (x3 : Int32) (x4 : Int32) (x5 : Int32) (x6 : Int32) (x7 : Int32) (M : Mem) (Q : Int32 → Mem → Prop) (K74 : Int32 → Mem → Prop) : Prop := match n with
  | 0 => False
  | n + 1 =>
  (x1 ≤ x6 →
  K74 x7 M) ∧
  (¬ x1 ≤ x6 →
  wp_X5_spanEnd x0 x6 x1 x5 M (fun (i2 : Int32) (M1 : Mem) =>
  wp_X5_lean x0 (x2 + x7) x6 i2 x5 x4 (x3 + x6) M1 (fun (M3 : Mem) =>
  ∀ i4 : Int32, i4 = x7 + (1 : Int32) →
  wp_X5_make_27 n x0 x1 x2 x3 x4 x5 i2 i4 M3 Q K74)))
def wp_X5_make_74 (x7 : Int32) (M : Mem) (Q : Int32 → Mem → Prop) : Prop :=
  Q x7 M
def wp_X5_make_19 (x0 : Nat) (x1 : Int32) (x2 : Int32) (x3 : Int32) (x4 : Int32) (t0 : Int32) (M : Mem) (Q : Int32 → Mem → Prop) : Prop :=
  ∃ k27, wp_X5_make_27 k27 x0 x1 x2 x3 x4 t0 (0 : Int32) (0 : Int32) M Q (fun (x7 : Int32) (M : Mem) => wp_X5_make_74 x7 M Q)
def wp_X5_make (x0 : Nat) (x1 : Int32) (x2 : Int32) (x3 : Int32) (x4 : Int32) (M : Mem) (Q : Int32 → Mem → Prop) : Prop :=
  isO M x0 5 ∧
  (¬ x4 = (2 : Int32) →
  wp_X5_make_19 x0 x1 x2 x3 x4 (mI M x0 2) M Q) ∧
  (x4 = (2 : Int32) →
  wp_X5_make_19 x0 x1 x2 x3 x4 ((mI M x0 2) - (1 : Int32)) M Q)
def wp_X5_layersAnew_50 (n : Nat) (x0 : Nat) (x1 : Int32) (x2 : Int32) (M : Mem) (Q : Mem → Prop) (K88 : Nat → Int32 → Mem → Prop) : Prop := match n with
  | 0 => False
  | n + 1 =>
  (x1 ≤ x2 →
  K88 x0 x1 M) ∧
  (¬ x1 ≤ x2 →
  inb (mI M x0 9) (alen 72) ∧
  inb ((mI M 72 (mI M x0 9).toNatClampNeg) + x2) (alen 75) ∧
  inb (mI M 75 ((mI M 72 (mI M x0 9).toNatClampNeg) + x2).toNatClampNeg) (alen 82) ∧
  inb x2 (alen 71) ∧
  ∀ M2 : Mem, M2 = sL M 71 x2.toNatClampNeg (mL M 82 (mI M 75 ((mI M 72 (mI M x0 9).toNatClampNeg) + x2).toNatClampNeg).toNatClampNeg) →
  ∀ i3 : Int32, i3 = x2 + (1 : Int32) →
  wp_X5_layersAnew_50 n x0 x1 i3 M2 Q K88)
def wp_X5_layersAnew_88 (x0 : Nat) (x1 : Int32) (M : Mem) (Q : Mem → Prop) (K5 : Nat → Mem → Prop) (K168 : Mem → Prop) : Prop :=
  inb (mI M x0 9) (alen 73) ∧
  ∀ i4 : Int32, i4 = (mI M 73 (mI M x0 9).toNatClampNeg) - (1 : Int32) →
  inb (mI M x0 9) (alen 73) ∧
  ∀ i5 : Int32, i5 = mI M 73 (mI M x0 9).toNatClampNeg →
  inb i4 (alen 75) ∧
  inb i4 (alen 76) ∧
  wp_X5_make x0 x1 i5 ((mI M 75 i4.toNatClampNeg) + (mI M 76 i4.toNatClampNeg)) (1 : Int32) M (fun (i7 : Int32) (M6 : Mem) =>
  ∀ M8 : Mem, M8 = sI M6 x0 9 ((mI M6 x0 9) + (1 : Int32)) →
  inb (mI M8 x0 9) (alen 72) ∧
  ∀ M9 : Mem, M9 = sI M8 72 (mI M8 x0 9).toNatClampNeg i5 →
  inb (mI M9 x0 9) (alen 73) ∧
  ∀ M10 : Mem, M10 = sI M9 73 (mI M9 x0 9).toNatClampNeg (i5 + i7) →
  K5 x0 M10)
def wp_X5_layersAnew_168  (M : Mem) (Q : Mem → Prop) : Prop :=
  Q M
def wp_X5_layersAnew_5 (n : Nat) (x0 : Nat) (M : Mem) (Q : Mem → Prop) (K168 : Mem → Prop) : Prop := match n with
  | 0 => False
  | n + 1 =>
  inb (mI M x0 9) (alen 73) ∧
  inb (mI M x0 9) (alen 72) ∧
  (((mI M 73 (mI M x0 9).toNatClampNeg) - (mI M 72 (mI M x0 9).toNatClampNeg)) ≤ (1 : Int32) →
  K168 M) ∧
  (¬ ((mI M 73 (mI M x0 9).toNatClampNeg) - (mI M 72 (mI M x0 9).toNatClampNeg)) ≤ (1 : Int32) →
  inb (mI M x0 9) (alen 73) ∧
  inb (mI M x0 9) (alen 72) ∧
  ∀ i1 : Int32, i1 = (mI M 73 (mI M x0 9).toNatClampNeg) - (mI M 72 (mI M x0 9).toNatClampNeg) →
  ∃ k50, wp_X5_layersAnew_50 k50 x0 i1 (0 : Int32) M Q (fun (x0 : Nat) (x1 : Int32) (M : Mem) => wp_X5_layersAnew_88 x0 x1 M Q (fun (x0 : Nat) (M : Mem) => wp_X5_layersAnew_5 n x0 M Q K168) K168))
def wp_X5_layersAnew (x0 : Nat) (M : Mem) (Q : Mem → Prop) : Prop :=
  isO M x0 5 ∧
  ∀ M11 : Mem, M11 = sI M x0 9 (0 : Int32) →
  ∃ k5, wp_X5_layersAnew_5 k5 x0 M11 Q (fun  (M : Mem) => wp_X5_layersAnew_168 M Q)
def wp_X5_isThere_21 (t0 : Int32) (M : Mem) (Q : Int32 → Mem → Prop) : Prop :=
  (t0 = 0 ∨ t0 = 1) ∧ Q t0 M
def wp_X5_isThere (x0 : Nat) (x1 : Int32) (x2 : Int32) (M : Mem) (Q : Int32 → Mem → Prop) : Prop :=
  isO M x0 5 ∧
  inb x1 (alen 75) ∧
  inb ((mI M 75 x1.toNatClampNeg) + x2) (alen 84) ∧
  (¬ (mI M 84 ((mI M 75 x1.toNatClampNeg) + x2).toNatClampNeg) = 0 →
  wp_X5_isThere_21 (0 : Int32) M Q) ∧
  ((mI M 84 ((mI M 75 x1.toNatClampNeg) + x2).toNatClampNeg) = 0 →
  wp_X5_isThere_21 (1 : Int32) M Q)
def wp_X5_gather_168 (x0 : Nat) (x1 : Int32) (x2 : Int32) (t0 : Int32) (t1 : Int32) (M : Mem) (Q : Mem → Prop) (K4 : Nat → Int32 → Int32 → Int32 → Mem → Prop) (K173 : Mem → Prop) : Prop :=
  ∀ i6 : Int32, i6 = t1 + t0 →
  K4 x0 x1 x2 i6 M
def wp_X5_gather_173  (M : Mem) (Q : Mem → Prop) : Prop :=
  Q M
def wp_X5_gather_155 (x0 : Nat) (x1 : Int32) (x3 : Int32) (x4 : Int32) (t0 : Int32) (t1 : Int32) (M : Mem) (Q : Mem → Prop) (K4 : Nat → Int32 → Int32 → Int32 → Mem → Prop) (K173 : Mem → Prop) : Prop :=
  ∀ i5 : Int32, i5 = t1 + t0 →
  (x4 = 0 →
  wp_X5_gather_168 x0 x1 i5 (1 : Int32) x3 M Q K4 K173) ∧
  (¬ x4 = 0 →
  wp_X5_gather_168 x0 x1 i5 (0 : Int32) x3 M Q K4 K173)
def wp_X5_gather_144 (x0 : Nat) (x1 : Int32) (x2 : Int32) (x3 : Int32) (x4 : Int32) (M : Mem) (Q : Mem → Prop) (K4 : Nat → Int32 → Int32 → Int32 → Mem → Prop) (K173 : Mem → Prop) : Prop :=
  (x4 = 0 →
  wp_X5_gather_155 x0 x1 x3 x4 (0 : Int32) x2 M Q K4 K173) ∧
  (¬ x4 = 0 →
  wp_X5_gather_155 x0 x1 x3 x4 (1 : Int32) x2 M Q K4 K173)
def wp_X5_gather_133 (x0 : Nat) (x1 : Int32) (x2 : Int32) (x3 : Int32) (x4 : Int32) (t0 : Int64) (t1 : Int32) (t2 : Nat) (M : Mem) (Q : Mem → Prop) (K4 : Nat → Int32 → Int32 → Int32 → Mem → Prop) (K173 : Mem → Prop) : Prop :=
  inb t1 (alen t2) ∧
  ∀ M3 : Mem, M3 = sL M t2 t1.toNatClampNeg t0 →
  ∀ M4 : Mem, M4 = sI M3 x0 26 ((mI M3 x0 26) + (1 : Int32)) →
  wp_X5_gather_144 x0 x1 x2 x3 x4 M4 Q K4 K173
def wp_X5_gather_93 (x0 : Nat) (x1 : Int32) (x2 : Int32) (x3 : Int32) (x4 : Int32) (M : Mem) (Q : Mem → Prop) (K4 : Nat → Int32 → Int32 → Int32 → Mem → Prop) (K173 : Mem → Prop) : Prop :=
  (x4 = 0 →
  inb (((16 : Int32) * x1) + x3) (alen 83) ∧
  wp_X5_gather_133 x0 x1 x2 x3 x4 (mL M 83 (((16 : Int32) * x1) + x3).toNatClampNeg) (mI M x0 26) 71 M Q K4 K173) ∧
  (¬ x4 = 0 →
  inb x1 (alen 75) ∧
  inb ((mI M 75 x1.toNatClampNeg) + x2) (alen 82) ∧
  wp_X5_gather_133 x0 x1 x2 x3 x4 (mL M 82 ((mI M 75 x1.toNatClampNeg) + x2).toNatClampNeg) (mI M x0 26) 71 M Q K4 K173)
def wp_X5_gather_77 (x0 : Nat) (x1 : Int32) (x2 : Int32) (x3 : Int32) (t0 : Int32) (M : Mem) (Q : Mem → Prop) (K4 : Nat → Int32 → Int32 → Int32 → Mem → Prop) (K173 : Mem → Prop) : Prop :=
  (t0 = 0 →
  wp_X5_gather_93 x0 x1 x2 x3 t0 M Q K4 K173) ∧
  (¬ t0 = 0 →
  wp_X5_isThere x0 x1 x2 M (fun (i2 : Int32) (M1 : Mem) =>
  (i2 = 0 →
  wp_X5_gather_144 x0 x1 x2 x3 t0 M1 Q K4 K173) ∧
  (¬ i2 = 0 →
  wp_X5_gather_93 x0 x1 x2 x3 t0 M1 Q K4 K173)))
def wp_X5_gather_72 (x0 : Nat) (x1 : Int32) (x2 : Int32) (x3 : Int32) (M : Mem) (Q : Mem → Prop) (K4 : Nat → Int32 → Int32 → Int32 → Mem → Prop) (K173 : Mem → Prop) : Prop :=
  wp_X5_gather_77 x0 x1 x2 x3 (1 : Int32) M Q K4 K173
def wp_X5_gather_76 (x0 : Nat) (x1 : Int32) (x2 : Int32) (x3 : Int32) (M : Mem) (Q : Mem → Prop) (K4 : Nat → Int32 → Int32 → Int32 → Mem → Prop) (K173 : Mem → Prop) : Prop :=
  wp_X5_gather_77 x0 x1 x2 x3 (0 : Int32) M Q K4 K173
def wp_X5_gather_24 (x0 : Nat) (x1 : Int32) (x2 : Int32) (x3 : Int32) (M : Mem) (Q : Mem → Prop) (K4 : Nat → Int32 → Int32 → Int32 → Mem → Prop) (K173 : Mem → Prop) : Prop :=
  inb x1 (alen 78) ∧
  (x3 = (mI M 78 x1.toNatClampNeg) →
  wp_X5_gather_72 x0 x1 x2 x3 M Q K4 K173) ∧
  (¬ x3 = (mI M 78 x1.toNatClampNeg) →
  inb x1 (alen 76) ∧
  ((mI M 76 x1.toNatClampNeg) ≤ x2 →
  wp_X5_gather_76 x0 x1 x2 x3 M Q K4 K173) ∧
  (¬ (mI M 76 x1.toNatClampNeg) ≤ x2 →
  inb x1 (alen 75) ∧
  inb ((mI M 75 x1.toNatClampNeg) + x2) (alen 82) ∧
  inb (((16 : Int32) * x1) + x3) (alen 83) ∧
  ((mL M 83 (((16 : Int32) * x1) + x3).toNatClampNeg) ≤ (mL M 82 ((mI M 75 x1.toNatClampNeg) + x2).toNatClampNeg) →
  wp_X5_gather_76 x0 x1 x2 x3 M Q K4 K173) ∧
  (¬ (mL M 83 (((16 : Int32) * x1) + x3).toNatClampNeg) ≤ (mL M 82 ((mI M 75 x1.toNatClampNeg) + x2).toNatClampNeg) →
  wp_X5_gather_72 x0 x1 x2 x3 M Q K4 K173)))
def wp_X5_gather_4 (n : Nat) (x0 : Nat) (x1 : Int32) (x2 : Int32) (x3 : Int32) (M : Mem) (Q : Mem → Prop) (K173 : Mem → Prop) : Prop := match n with
  | 0 => False
  | n + 1 =>
  inb x1 (alen 76) ∧
  (x2 < (mI M 76 x1.toNatClampNeg) →
  wp_X5_gather_24 x0 x1 x2 x3 M Q (fun (x0 : Nat) (x1 : Int32) (x2 : Int32) (x3 : Int32) (M : Mem) => wp_X5_gather_4 n x0 x1 x2 x3 M Q K173) K173) ∧
  (¬ x2 < (mI M 76 x1.toNatClampNeg) →
  inb x1 (alen 78) ∧
  ((mI M 78 x1.toNatClampNeg) ≤ x3 →
  K173 M) ∧
  (¬ (mI M 78 x1.toNatClampNeg) ≤ x3 →
  wp_X5_gather_24 x0 x1 x2 x3 M Q (fun (x0 : Nat) (x1 : Int32) (x2 : Int32) (x3 : Int32) (M : Mem) => wp_X5_gather_4 n x0 x1 x2 x3 M Q K173) K173))
def wp_X5_gather (x0 : Nat) (x1 : Int32) (M : Mem) (Q : Mem → Prop) : Prop :=
  isO M x0 5 ∧
  ∃ k4, wp_X5_gather_4 k4 x0 x1 (0 : Int32) (0 : Int32) M Q (fun  (M : Mem) => wp_X5_gather_173 M Q)
def wp_X5_replace_128 (n : Nat) (x0 : Nat) (x1 : Int32) (x2 : Int32) (x3 : Int32) (x4 : Int32) (x5 : Int32) (x6 : Int32) (x7 : Int32) (x8 : Int32) (M : Mem) (Q : Mem → Prop) (K172 : Nat → Int32 → Int32 → Int32 → Int32 → Int32 → Int32 → Int32 → Mem → Prop) : Prop := match n with
  | 0 => False
  | n + 1 =>
  inb x7 (alen 78) ∧
  ((mI M 78 x7.toNatClampNeg) ≤ x8 →
  K172 x0 x1 x2 x3 x4 x5 x6 x7 M) ∧
  (¬ (mI M 78 x7.toNatClampNeg) ≤ x8 →
  inb (((16 : Int32) * x7) + x8) (alen 83) ∧
  inb (((16 : Int32) * x6) + x8) (alen 93) ∧
  ∀ M9 : Mem, M9 = sL M 93 (((16 : Int32) * x6) + x8).toNatClampNeg (mL M 83 (((16 : Int32) * x7) + x8).toNatClampNeg) →
  ∀ i10 : Int32, i10 = x8 + (1 : Int32) →
  wp_X5_replace_128 n x0 x1 x2 x3 x4 x5 x6 x7 i10 M9 Q K172)
def wp_X5_replace_175 (n : Nat) (x0 : Nat) (x1 : Int32) (x2 : Int32) (x3 : Int32) (x4 : Int32) (x5 : Int32) (x6 : Int32) (x7 : Int32) (x8 : Int32) (M : Mem) (Q : Mem → Prop) (K240 : Nat → Int32 → Int32 → Int32 → Int32 → Int32 → Int32 → Mem → Prop) : Prop := match n with
  | 0 => False
  | n + 1 =>
  inb x7 (alen 76) ∧
  ((mI M 76 x7.toNatClampNeg) ≤ x8 →
  K240 x0 x1 x2 x3 x4 x5 x6 M) ∧
  (¬ (mI M 76 x7.toNatClampNeg) ≤ x8 →
  inb x7 (alen 75) ∧
  inb ((mI M 75 x7.toNatClampNeg) + x8) (alen 82) ∧
  inb x5 (alen 92) ∧
  ∀ M11 : Mem, M11 = sL M 92 x5.toNatClampNeg (mL M 82 ((mI M 75 x7.toNatClampNeg) + x8).toNatClampNeg) →
  inb x7 (alen 75) ∧
  inb ((mI M11 75 x7.toNatClampNeg) + x8) (alen 84) ∧
  inb x5 (alen 94) ∧
  (mI M11 84 ((mI M11 75 x7.toNatClampNeg) + x8).toNatClampNeg = 0 ∨ mI M11 84 ((mI M11 75 x7.toNatClampNeg) + x8).toNatClampNeg = 1) ∧
  ∀ M12 : Mem, M12 = sI M11 94 x5.toNatClampNeg (mI M11 84 ((mI M11 75 x7.toNatClampNeg) + x8).toNatClampNeg) →
  ∀ i13 : Int32, i13 = x5 + (1 : Int32) →
  ∀ i14 : Int32, i14 = x8 + (1 : Int32) →
  wp_X5_replace_175 n x0 x1 x2 x3 x4 i13 x6 x7 i14 M12 Q K240)
def wp_X5_replace_240 (x0 : Nat) (x1 : Int32) (x2 : Int32) (x3 : Int32) (x4 : Int32) (x5 : Int32) (x6 : Int32) (M : Mem) (Q : Mem → Prop) (K14 : Nat → Int32 → Int32 → Int32 → Int32 → Int32 → Int32 → Mem → Prop) (K246 : Nat → Int32 → Int32 → Int32 → Mem → Prop) : Prop :=
  ∀ i15 : Int32, i15 = x6 + (1 : Int32) →
  K14 x0 x1 x2 x3 x4 x5 i15 M
def wp_X5_replace_439 (n : Nat) (x0 : Nat) (x1 : Int32) (x4 : Int32) (x5 : Int32) (x6 : Int32) (x7 : Int32) (x8 : Int32) (x9 : Int32) (x10 : Int32) (M : Mem) (Q : Mem → Prop) (K483 : Nat → Int32 → Int32 → Int32 → Int32 → Int32 → Int32 → Int32 → Mem → Prop) : Prop := match n with
  | 0 => False
  | n + 1 =>
  inb x9 (alen 78) ∧
  ((mI M 78 x9.toNatClampNeg) ≤ x10 →
  K483 x0 x1 x4 x5 x6 x7 x8 x9 M) ∧
  (¬ (mI M 78 x9.toNatClampNeg) ≤ x10 →
  inb (((16 : Int32) * x8) + x10) (alen 93) ∧
  inb (((16 : Int32) * x9) + x10) (alen 83) ∧
  ∀ M29 : Mem, M29 = sL M 83 (((16 : Int32) * x9) + x10).toNatClampNeg (mL M 93 (((16 : Int32) * x8) + x10).toNatClampNeg) →
  ∀ i30 : Int32, i30 = x10 + (1 : Int32) →
  wp_X5_replace_439 n x0 x1 x4 x5 x6 x7 x8 x9 i30 M29 Q K483)
def wp_X5_replace_486 (n : Nat) (x0 : Nat) (x1 : Int32) (x4 : Int32) (x5 : Int32) (x6 : Int32) (x7 : Int32) (x8 : Int32) (x9 : Int32) (x10 : Int32) (M : Mem) (Q : Mem → Prop) (K538 : Nat → Int32 → Int32 → Int32 → Int32 → Int32 → Int32 → Mem → Prop) : Prop := match n with
  | 0 => False
  | n + 1 =>
  inb x9 (alen 76) ∧
  ((mI M 76 x9.toNatClampNeg) ≤ x10 →
  K538 x0 x1 x4 x5 x6 x7 x8 M) ∧
  (¬ (mI M 76 x9.toNatClampNeg) ≤ x10 →
  inb x5 (alen 92) ∧
  inb x6 (alen 82) ∧
  ∀ M31 : Mem, M31 = sL M 82 x6.toNatClampNeg (mL M 92 x5.toNatClampNeg) →
  inb x5 (alen 94) ∧
  inb x6 (alen 84) ∧
  (mI M31 94 x5.toNatClampNeg = 0 ∨ mI M31 94 x5.toNatClampNeg = 1) ∧
  ∀ M32 : Mem, M32 = sI M31 84 x6.toNatClampNeg (mI M31 94 x5.toNatClampNeg) →
  ∀ i33 : Int32, i33 = x6 + (1 : Int32) →
  ∀ i34 : Int32, i34 = x5 + (1 : Int32) →
  ∀ i35 : Int32, i35 = x10 + (1 : Int32) →
  wp_X5_replace_486 n x0 x1 x4 i34 i33 x7 x8 x9 i35 M32 Q K538)
def wp_X5_replace_538 (x0 : Nat) (x1 : Int32) (x4 : Int32) (x5 : Int32) (x6 : Int32) (x7 : Int32) (x8 : Int32) (M : Mem) (Q : Mem → Prop) (K313 : Nat → Int32 → Int32 → Int32 → Int32 → Int32 → Int32 → Mem → Prop) (K544 : Nat → Int32 → Int32 → Int32 → Mem → Prop) : Prop :=
  ∀ i36 : Int32, i36 = x8 + (1 : Int32) →
  K313 x0 x1 x4 x5 x6 x7 i36 M
def wp_X5_replace_599  (M : Mem) (Q : Mem → Prop) : Prop :=
  Q M
def wp_X5_replace_172 (x0 : Nat) (x1 : Int32) (x2 : Int32) (x3 : Int32) (x4 : Int32) (x5 : Int32) (x6 : Int32) (x7 : Int32) (M : Mem) (Q : Mem → Prop) (K14 : Nat → Int32 → Int32 → Int32 → Int32 → Int32 → Int32 → Mem → Prop) (K246 : Nat → Int32 → Int32 → Int32 → Mem → Prop) : Prop :=
  ∃ k175, wp_X5_replace_175 k175 x0 x1 x2 x3 x4 x5 x6 x7 (0 : Int32) M Q (fun (x0 : Nat) (x1 : Int32) (x2 : Int32) (x3 : Int32) (x4 : Int32) (x5 : Int32) (x6 : Int32) (M : Mem) => wp_X5_replace_240 x0 x1 x2 x3 x4 x5 x6 M Q K14 K246)
def wp_X5_replace_483 (x0 : Nat) (x1 : Int32) (x4 : Int32) (x5 : Int32) (x6 : Int32) (x7 : Int32) (x8 : Int32) (x9 : Int32) (M : Mem) (Q : Mem → Prop) (K313 : Nat → Int32 → Int32 → Int32 → Int32 → Int32 → Int32 → Mem → Prop) (K544 : Nat → Int32 → Int32 → Int32 → Mem → Prop) : Prop :=
  ∃ k486, wp_X5_replace_486 k486 x0 x1 x4 x5 x6 x7 x8 x9 (0 : Int32) M Q (fun (x0 : Nat) (x1 : Int32) (x4 : Int32) (x5 : Int32) (x6 : Int32) (x7 : Int32) (x8 : Int32) (M : Mem) => wp_X5_replace_538 x0 x1 x4 x5 x6 x7 x8 M Q K313 K544)
def wp_X5_replace_577 (x0 : Nat) (t0 : Int32) (t1 : Nat) (M : Mem) (Q : Mem → Prop) : Prop :=
  (t0 = 0 ∨ t0 = 1) ∧
  ∀ M41 : Mem, M41 = sI M t1 23 t0 →
  ((mI M41 x0 23) = 0 →
  ∀ M42 : Mem, M42 = sI M41 x0 9 (0 : Int32) →
  wp_X5_replace_599 M42 Q) ∧
  (¬ (mI M41 x0 23) = 0 →
  wp_X5_layersAnew x0 M41 (fun (M43 : Mem) =>
  wp_X5_replace_599 M43 Q))
def wp_X5_replace_14 (n : Nat) (x0 : Nat) (x1 : Int32) (x2 : Int32) (x3 : Int32) (x4 : Int32) (x5 : Int32) (x6 : Int32) (M : Mem) (Q : Mem → Prop) (K246 : Nat → Int32 → Int32 → Int32 → Mem → Prop) : Prop := match n with
  | 0 => False
  | n + 1 =>
  (x4 ≤ x6 →
  K246 x0 x1 x3 x4 M) ∧
  (¬ x4 ≤ x6 →
  ∀ i1 : Int32, i1 = x2 + x6 →
  inb i1 (alen 74) ∧
  inb x6 (alen 85) ∧
  ∀ M2 : Mem, M2 = sI M 85 x6.toNatClampNeg (mI M 74 i1.toNatClampNeg) →
  inb i1 (alen 76) ∧
  inb x6 (alen 86) ∧
  ∀ M3 : Mem, M3 = sI M2 86 x6.toNatClampNeg (mI M2 76 i1.toNatClampNeg) →
  inb i1 (alen 77) ∧
  inb x6 (alen 87) ∧
  ∀ M4 : Mem, M4 = sI M3 87 x6.toNatClampNeg (mI M3 77 i1.toNatClampNeg) →
  inb i1 (alen 78) ∧
  inb x6 (alen 88) ∧
  ∀ M5 : Mem, M5 = sI M4 88 x6.toNatClampNeg (mI M4 78 i1.toNatClampNeg) →
  inb i1 (alen 79) ∧
  inb x6 (alen 89) ∧
  ∀ M6 : Mem, M6 = sL M5 89 x6.toNatClampNeg (mL M5 79 i1.toNatClampNeg) →
  inb i1 (alen 80) ∧
  inb x6 (alen 90) ∧
  ∀ M7 : Mem, M7 = sL M6 90 x6.toNatClampNeg (mL M6 80 i1.toNatClampNeg) →
  inb i1 (alen 81) ∧
  inb x6 (alen 91) ∧
  ∀ M8 : Mem, M8 = sL M7 91 x6.toNatClampNeg (mL M7 81 i1.toNatClampNeg) →
  ∃ k128, wp_X5_replace_128 k128 x0 x1 x2 x3 x4 x5 x6 i1 (0 : Int32) M8 Q (fun (x0 : Nat) (x1 : Int32) (x2 : Int32) (x3 : Int32) (x4 : Int32) (x5 : Int32) (x6 : Int32) (x7 : Int32) (M : Mem) => wp_X5_replace_172 x0 x1 x2 x3 x4 x5 x6 x7 M Q (fun (x0 : Nat) (x1 : Int32) (x2 : Int32) (x3 : Int32) (x4 : Int32) (x5 : Int32) (x6 : Int32) (M : Mem) => wp_X5_replace_14 n x0 x1 x2 x3 x4 x5 x6 M Q K246) K246))
def wp_X5_replace_313 (n : Nat) (x0 : Nat) (x1 : Int32) (x4 : Int32) (x5 : Int32) (x6 : Int32) (x7 : Int32) (x8 : Int32) (M : Mem) (Q : Mem → Prop) (K544 : Nat → Int32 → Int32 → Int32 → Mem → Prop) : Prop := match n with
  | 0 => False
  | n + 1 =>
  (x4 ≤ x8 →
  K544 x0 x1 x4 x7 M) ∧
  (¬ x4 ≤ x8 →
  ∀ i20 : Int32, i20 = (x1 + x7) + x8 →
  inb x8 (alen 85) ∧
  inb i20 (alen 74) ∧
  ∀ M21 : Mem, M21 = sI M 74 i20.toNatClampNeg (mI M 85 x8.toNatClampNeg) →
  inb x8 (alen 86) ∧
  inb i20 (alen 76) ∧
  ∀ M22 : Mem, M22 = sI M21 76 i20.toNatClampNeg (mI M21 86 x8.toNatClampNeg) →
  inb x8 (alen 87) ∧
  inb i20 (alen 77) ∧
  ∀ M23 : Mem, M23 = sI M22 77 i20.toNatClampNeg (mI M22 87 x8.toNatClampNeg) →
  inb x8 (alen 88) ∧
  inb i20 (alen 78) ∧
  ∀ M24 : Mem, M24 = sI M23 78 i20.toNatClampNeg (mI M23 88 x8.toNatClampNeg) →
  inb x8 (alen 89) ∧
  inb i20 (alen 79) ∧
  ∀ M25 : Mem, M25 = sL M24 79 i20.toNatClampNeg (mL M24 89 x8.toNatClampNeg) →
  inb x8 (alen 90) ∧
  inb i20 (alen 80) ∧
  ∀ M26 : Mem, M26 = sL M25 80 i20.toNatClampNeg (mL M25 90 x8.toNatClampNeg) →
  inb x8 (alen 91) ∧
  inb i20 (alen 81) ∧
  ∀ M27 : Mem, M27 = sL M26 81 i20.toNatClampNeg (mL M26 91 x8.toNatClampNeg) →
  inb i20 (alen 75) ∧
  ∀ M28 : Mem, M28 = sI M27 75 i20.toNatClampNeg x6 →
  ∃ k439, wp_X5_replace_439 k439 x0 x1 x4 x5 x6 x7 x8 i20 (0 : Int32) M28 Q (fun (x0 : Nat) (x1 : Int32) (x4 : Int32) (x5 : Int32) (x6 : Int32) (x7 : Int32) (x8 : Int32) (x9 : Int32) (M : Mem) => wp_X5_replace_483 x0 x1 x4 x5 x6 x7 x8 x9 M Q (fun (x0 : Nat) (x1 : Int32) (x4 : Int32) (x5 : Int32) (x6 : Int32) (x7 : Int32) (x8 : Int32) (M : Mem) => wp_X5_replace_313 n x0 x1 x4 x5 x6 x7 x8 M Q K544) K544))
def wp_X5_replace_544 (x0 : Nat) (x1 : Int32) (x4 : Int32) (x7 : Int32) (M : Mem) (Q : Mem → Prop) : Prop :=
  inb (0 : Int32) (alen 72) ∧
  ∀ M37 : Mem, M37 = sI M 72 (0 : Int32).toNatClampNeg (0 : Int32) →
  inb (0 : Int32) (alen 73) ∧
  ∀ M38 : Mem, M38 = sI M37 73 (0 : Int32).toNatClampNeg ((x1 + x7) + x4) →
  wp_X5_pieces x0 M38 (fun (i40 : Int32) (M39 : Mem) =>
  (i40 ≤ 0 →
  wp_X5_replace_577 x0 (0 : Int32) x0 M39 Q) ∧
  (¬ i40 ≤ 0 →
  wp_X5_replace_577 x0 (1 : Int32) x0 M39 Q))
def wp_X5_replace_271 (x0 : Nat) (x1 : Int32) (x3 : Int32) (x4 : Int32) (t0 : Int32) (M : Mem) (Q : Mem → Prop) : Prop :=
  wp_X5_make x0 (mI M x0 26) x1 t0 x3 M (fun (i17 : Int32) (M16 : Mem) =>
  ∀ M18 : Mem, M18 = sI M16 x0 24 ((mI M16 x0 24) + i17) →
  ∀ i19 : Int32, i19 = t0 + (mI M18 x0 26) →
  ∃ k313, wp_X5_replace_313 k313 x0 x1 x4 (0 : Int32) i19 i17 (0 : Int32) M18 Q (fun (x0 : Nat) (x1 : Int32) (x4 : Int32) (x7 : Int32) (M : Mem) => wp_X5_replace_544 x0 x1 x4 x7 M Q))
def wp_X5_replace_246 (x0 : Nat) (x1 : Int32) (x3 : Int32) (x4 : Int32) (M : Mem) (Q : Mem → Prop) : Prop :=
  (¬ x1 = 0 →
  inb (x1 - (1 : Int32)) (alen 75) ∧
  inb (x1 - (1 : Int32)) (alen 76) ∧
  wp_X5_replace_271 x0 x1 x3 x4 ((mI M 75 (x1 - (1 : Int32)).toNatClampNeg) + (mI M 76 (x1 - (1 : Int32)).toNatClampNeg)) M Q) ∧
  (x1 = 0 →
  wp_X5_replace_271 x0 x1 x3 x4 (0 : Int32) M Q)
def wp_X5_replace (x0 : Nat) (x1 : Int32) (x2 : Int32) (x3 : Int32) (M : Mem) (Q : Mem → Prop) : Prop :=
  isO M x0 5 ∧
  wp_X5_pieces x0 M (fun (i45 : Int32) (M44 : Mem) =>
  ∀ i46 : Int32, i46 = i45 - x2 →
  ∃ k14, wp_X5_replace_14 k14 x0 x1 x2 x3 i46 (0 : Int32) (0 : Int32) M44 Q (fun (x0 : Nat) (x1 : Int32) (x3 : Int32) (x4 : Int32) (M : Mem) => wp_X5_replace_246 x0 x1 x3 x4 M Q))
def wp_X5_there_59 (x0 : Nat) (x2 : Int32) (x3 : Int32) (t0 : Int32) (t1 : Int32) (M : Mem) (Q : Int32 → Mem → Prop) (K34 : Nat → Int32 → Int32 → Int32 → Mem → Prop) (K67 : Nat → Int32 → Int32 → Mem → Prop) : Prop :=
  ∀ i6 : Int32, i6 = t1 + t0 →
  ∀ i7 : Int32, i7 = x3 + (1 : Int32) →
  K34 x0 i6 x2 i7 M
def wp_X5_there_67 (x0 : Nat) (x1 : Int32) (x2 : Int32) (M : Mem) (Q : Int32 → Mem → Prop) (K4 : Nat → Int32 → Int32 → Mem → Prop) (K73 : Int32 → Mem → Prop) : Prop :=
  ∀ i8 : Int32, i8 = x2 + (1 : Int32) →
  K4 x0 x1 i8 M
def wp_X5_there_73 (x1 : Int32) (M : Mem) (Q : Int32 → Mem → Prop) : Prop :=
  Q x1 M
def wp_X5_there_34 (n : Nat) (x0 : Nat) (x1 : Int32) (x2 : Int32) (x3 : Int32) (M : Mem) (Q : Int32 → Mem → Prop) (K67 : Nat → Int32 → Int32 → Mem → Prop) : Prop := match n with
  | 0 => False
  | n + 1 =>
  inb x2 (alen 76) ∧
  ((mI M 76 x2.toNatClampNeg) ≤ x3 →
  K67 x0 x1 x2 M) ∧
  (¬ (mI M 76 x2.toNatClampNeg) ≤ x3 →
  wp_X5_isThere x0 x2 x3 M (fun (i5 : Int32) (M4 : Mem) =>
  (i5 = 0 →
  wp_X5_there_59 x0 x2 x3 (0 : Int32) x1 M4 Q (fun (x0 : Nat) (x1 : Int32) (x2 : Int32) (x3 : Int32) (M : Mem) => wp_X5_there_34 n x0 x1 x2 x3 M Q K67) K67) ∧
  (¬ i5 = 0 →
  wp_X5_there_59 x0 x2 x3 (1 : Int32) x1 M4 Q (fun (x0 : Nat) (x1 : Int32) (x2 : Int32) (x3 : Int32) (M : Mem) => wp_X5_there_34 n x0 x1 x2 x3 M Q K67) K67)))
def wp_X5_there_20 (x0 : Nat) (x1 : Int32) (x2 : Int32) (t0 : Int32) (t1 : Int32) (M : Mem) (Q : Int32 → Mem → Prop) (K4 : Nat → Int32 → Int32 → Mem → Prop) (K73 : Int32 → Mem → Prop) : Prop :=
  (t0 ≤ t1 →
  K73 x1 M) ∧
  (¬ t0 ≤ t1 →
  inb x2 (alen 78) ∧
  ∀ i3 : Int32, i3 = x1 + (mI M 78 x2.toNatClampNeg) →
  ∃ k34, wp_X5_there_34 k34 x0 i3 x2 (0 : Int32) M Q (fun (x0 : Nat) (x1 : Int32) (x2 : Int32) (M : Mem) => wp_X5_there_67 x0 x1 x2 M Q K4 K73))
def wp_X5_there_4 (n : Nat) (x0 : Nat) (x1 : Int32) (x2 : Int32) (M : Mem) (Q : Int32 → Mem → Prop) (K73 : Int32 → Mem → Prop) : Prop := match n with
  | 0 => False
  | n + 1 =>
  ((mI M x0 23) = 0 →
  wp_X5_there_20 x0 x1 x2 (0 : Int32) x2 M Q (fun (x0 : Nat) (x1 : Int32) (x2 : Int32) (M : Mem) => wp_X5_there_4 n x0 x1 x2 M Q K73) K73) ∧
  (¬ (mI M x0 23) = 0 →
  wp_X5_pieces x0 M (fun (i2 : Int32) (M1 : Mem) =>
  wp_X5_there_20 x0 x1 x2 i2 x2 M1 Q (fun (x0 : Nat) (x1 : Int32) (x2 : Int32) (M : Mem) => wp_X5_there_4 n x0 x1 x2 M Q K73) K73))
def wp_X5_there (x0 : Nat) (M : Mem) (Q : Int32 → Mem → Prop) : Prop :=
  isO M x0 5 ∧
  ∃ k4, wp_X5_there_4 k4 x0 (0 : Int32) (0 : Int32) M Q (fun (x1 : Int32) (M : Mem) => wp_X5_there_73 x1 M Q)
def wp_X5_isBuilt_22 (t0 : Int32) (M : Mem) (Q : Int32 → Mem → Prop) : Prop :=
  (t0 = 0 ∨ t0 = 1) ∧ Q t0 M
def wp_X5_isBuilt_17  (M : Mem) (Q : Int32 → Mem → Prop) : Prop :=
  wp_X5_isBuilt_22 (1 : Int32) M Q
def wp_X5_isBuilt_21  (M : Mem) (Q : Int32 → Mem → Prop) : Prop :=
  wp_X5_isBuilt_22 (0 : Int32) M Q
def wp_X5_isBuilt (x0 : Nat) (x1 : Int32) (M : Mem) (Q : Int32 → Mem → Prop) : Prop :=
  isO M x0 5 ∧
  (x1 = (1 : Int32) →
  wp_X5_isBuilt_17 M Q) ∧
  (¬ x1 = (1 : Int32) →
  (¬ x1 = (2 : Int32) →
  wp_X5_isBuilt_21 M Q) ∧
  (x1 = (2 : Int32) →
  ((mI M x0 2) ≤ 0 →
  wp_X5_isBuilt_21 M Q) ∧
  (¬ (mI M x0 2) ≤ 0 →
  wp_X5_isBuilt_17 M Q)))
def wp_X5_build_15  (M : Mem) (Q : Int32 → Mem → Prop) : Prop :=
  Q (-2 : Int32) M
def wp_X5_build (x0 : Nat) (x1 : Int32) (M : Mem) (Q : Int32 → Mem → Prop) : Prop :=
  isO M x0 5 ∧
  wp_X5_isBuilt x0 x1 M (fun (i2 : Int32) (M1 : Mem) =>
  (i2 = 0 →
  wp_X5_build_15 M1 Q) ∧
  (¬ i2 = 0 →
  (¬ (mI M1 x0 1) = 0 →
  wp_X5_take x0 M1 (fun (M3 : Mem) =>
  ∀ M4 : Mem, M4 = sI M3 x0 26 (mI M3 x0 1) →
  inb (0 : Int32) (alen 73) ∧
  ∀ M5 : Mem, M5 = sI M4 73 (0 : Int32).toNatClampNeg (0 : Int32) →
  wp_X5_replace x0 (0 : Int32) (0 : Int32) x1 M5 (fun (M6 : Mem) =>
  wp_X5_pieces x0 M6 (fun (i8 : Int32) (M7 : Mem) =>
  Q i8 M7)))) ∧
  ((mI M1 x0 1) = 0 →
  wp_X5_build_15 M1 Q)))
def wp_X5_again_27 (n : Nat) (x0 : Nat) (x1 : Int32) (x2 : Int32) (M : Mem) (Q : Int32 → Mem → Prop) (K46 : Nat → Int32 → Mem → Prop) : Prop := match n with
  | 0 => False
  | n + 1 =>
  wp_X5_pieces x0 M (fun (i2 : Int32) (M1 : Mem) =>
  (i2 ≤ x2 →
  K46 x0 x1 M1) ∧
  (¬ i2 ≤ x2 →
  wp_X5_gather x0 x2 M1 (fun (M3 : Mem) =>
  ∀ i4 : Int32, i4 = x2 + (1 : Int32) →
  wp_X5_again_27 n x0 x1 i4 M3 Q K46)))
def wp_X5_again_46 (x0 : Nat) (x1 : Int32) (M : Mem) (Q : Int32 → Mem → Prop) : Prop :=
  inb (0 : Int32) (alen 73) ∧
  ∀ M5 : Mem, M5 = sI M 73 (0 : Int32).toNatClampNeg (0 : Int32) →
  wp_X5_replace x0 (0 : Int32) (0 : Int32) x1 M5 (fun (M6 : Mem) =>
  wp_X5_pieces x0 M6 (fun (i8 : Int32) (M7 : Mem) =>
  Q i8 M7))
def wp_X5_again (x0 : Nat) (x1 : Int32) (M : Mem) (Q : Int32 → Mem → Prop) : Prop :=
  isO M x0 5 ∧
  (¬ (mI M x0 23) = 0 →
  wp_X5_isBuilt x0 x1 M (fun (i10 : Int32) (M9 : Mem) =>
  (¬ i10 = 0 →
  ∀ M11 : Mem, M11 = sI M9 x0 26 (0 : Int32) →
  ∃ k27, wp_X5_again_27 k27 x0 x1 (0 : Int32) M11 Q (fun (x0 : Nat) (x1 : Int32) (M : Mem) => wp_X5_again_46 x0 x1 M Q)) ∧
  (i10 = 0 →
  Q (-2 : Int32) M9))) ∧
  ((mI M x0 23) = 0 →
  Q (-1 : Int32) M)
def wp_X5_clear (x0 : Nat) (M : Mem) (Q : Int32 → Mem → Prop) : Prop :=
  isO M x0 5 ∧
  wp_X5_there x0 M (fun (i2 : Int32) (M1 : Mem) =>
  ∀ M3 : Mem, M3 = sI M1 x0 23 (0 : Int32) →
  ∀ M4 : Mem, M4 = sI M3 x0 9 (0 : Int32) →
  inb (0 : Int32) (alen 73) ∧
  ∀ M5 : Mem, M5 = sI M4 73 (0 : Int32).toNatClampNeg (0 : Int32) →
  Q i2 M5)
def wp_X5_round_19  (M : Mem) (Q : Int32 → Mem → Prop) : Prop :=
  Q (-1 : Int32) M
def wp_X5_round (x0 : Nat) (x1 : Int32) (M : Mem) (Q : Int32 → Mem → Prop) : Prop :=
  isO M x0 5 ∧
  ((mI M x0 23) = 0 →
  wp_X5_round_19 M Q) ∧
  (¬ (mI M x0 23) = 0 →
  (x1 < 0 →
  wp_X5_round_19 M Q) ∧
  (¬ x1 < 0 →
  wp_X5_pieces x0 M (fun (i2 : Int32) (M1 : Mem) =>
  (x1 < i2 →
  inb x1 (alen 74) ∧
  ((mI M1 74 x1.toNatClampNeg) = (1 : Int32) →
  inb x1 (alen 74) ∧
  ∀ M3 : Mem, M3 = sI M1 74 x1.toNatClampNeg (2 : Int32) →
  wp_X5_miss x0 x1 M3 (fun (i5 : Int32) (M4 : Mem) =>
  inb x1 (alen 77) ∧
  ((mI M4 77 x1.toNatClampNeg) < i5 →
  inb x1 (alen 74) ∧
  ∀ M6 : Mem, M6 = sI M4 74 x1.toNatClampNeg (1 : Int32) →
  Q (0 : Int32) M6) ∧
  (¬ (mI M4 77 x1.toNatClampNeg) < i5 →
  Q (1 : Int32) M4))) ∧
  (¬ (mI M1 74 x1.toNatClampNeg) = (1 : Int32) →
  Q (-2 : Int32) M1)) ∧
  (¬ x1 < i2 →
  wp_X5_round_19 M1 Q))))
def wp_X5_merge_21  (M : Mem) (Q : Int32 → Mem → Prop) : Prop :=
  Q (-1 : Int32) M
def wp_X5_merge (x0 : Nat) (x1 : Int32) (M : Mem) (Q : Int32 → Mem → Prop) : Prop :=
  isO M x0 5 ∧
  ((mI M x0 23) = 0 →
  wp_X5_merge_21 M Q) ∧
  (¬ (mI M x0 23) = 0 →
  (x1 < 0 →
  wp_X5_merge_21 M Q) ∧
  (¬ x1 < 0 →
  wp_X5_pieces x0 M (fun (i2 : Int32) (M1 : Mem) =>
  (x1 < (i2 - (1 : Int32)) →
  ∀ M3 : Mem, M3 = sI M1 x0 26 (0 : Int32) →
  wp_X5_gather x0 x1 M3 (fun (M4 : Mem) =>
  wp_X5_gather x0 (x1 + (1 : Int32)) M4 (fun (M5 : Mem) =>
  wp_X5_pieces x0 M5 (fun (i7 : Int32) (M6 : Mem) =>
  ∀ i8 : Int32, i8 = i7 - (2 : Int32) →
  wp_X5_replace x0 x1 (x1 + (2 : Int32)) (1 : Int32) M6 (fun (M9 : Mem) =>
  wp_X5_pieces x0 M9 (fun (i11 : Int32) (M10 : Mem) =>
  Q (i11 - i8) M10)))))) ∧
  (¬ x1 < (i2 - (1 : Int32)) →
  wp_X5_merge_21 M1 Q))))
def wp_X5_say (x0 : Nat) (x1 : Int32) (M : Mem) (Q : Mem → Prop) : Prop :=
  isO M x0 5 ∧
  inb (mI M x0 39) (alen 95) ∧
  ∀ M1 : Mem, M1 = sI M 95 (mI M x0 39).toNatClampNeg x1 →
  ∀ M2 : Mem, M2 = sI M1 x0 39 ((mI M1 x0 39) + (1 : Int32)) →
  Q M2
def wp_X5_down_120 (x0 : Nat) (x1 : Int32) (x2 : Int32) (x3 : Int64) (x5 : Int32) (x6 : Int32) (t0 : Int32) (M : Mem) (Q : Int32 → Mem → Prop) (K62 : Nat → Int32 → Int32 → Int64 → Int32 → Int32 → Int32 → Mem → Prop) (K125 : Nat → Int32 → Int32 → Int32 → Int32 → Mem → Prop) : Prop :=
  K62 x0 x1 x2 x3 x5 x6 t0 M
def wp_X5_down_125 (x0 : Nat) (x1 : Int32) (x2 : Int32) (x5 : Int32) (x6 : Int32) (M : Mem) (Q : Int32 → Mem → Prop) : Prop :=
  inb x2 (alen 72) ∧
  wp_X5_say x0 (x1 - (mI M 72 x2.toNatClampNeg)) M (fun (M3 : Mem) =>
  wp_X5_say x0 x5 M3 (fun (M4 : Mem) =>
  wp_X5_say x0 x6 M4 (fun (M5 : Mem) =>
  Q x6 M5)))
def wp_X5_down_119 (x0 : Nat) (x1 : Int32) (x2 : Int32) (x3 : Int64) (x5 : Int32) (x6 : Int32) (M : Mem) (Q : Int32 → Mem → Prop) (K62 : Nat → Int32 → Int32 → Int64 → Int32 → Int32 → Int32 → Mem → Prop) (K125 : Nat → Int32 → Int32 → Int32 → Int32 → Mem → Prop) : Prop :=
  wp_X5_down_120 x0 x1 x2 x3 x5 x6 (0 : Int32) M Q K62 K125
def wp_X5_down_105 (x0 : Nat) (x1 : Int32) (x2 : Int32) (x3 : Int64) (x5 : Int32) (x6 : Int32) (x7 : Int32) (M : Mem) (Q : Int32 → Mem → Prop) (K62 : Nat → Int32 → Int32 → Int64 → Int32 → Int32 → Int32 → Mem → Prop) (K125 : Nat → Int32 → Int32 → Int32 → Int32 → Mem → Prop) : Prop :=
  (x7 = 0 →
  wp_X5_down_119 x0 x1 x2 x3 x5 x6 M Q K62 K125) ∧
  (¬ x7 = 0 →
  (x6 ≤ 0 →
  wp_X5_down_119 x0 x1 x2 x3 x5 x6 M Q K62 K125) ∧
  (¬ x6 ≤ 0 →
  wp_X5_down_120 x0 x1 x2 x3 x5 x6 (1 : Int32) M Q K62 K125))
def wp_X5_down_62 (n : Nat) (x0 : Nat) (x1 : Int32) (x2 : Int32) (x3 : Int64) (x5 : Int32) (x6 : Int32) (x7 : Int32) (M : Mem) (Q : Int32 → Mem → Prop) (K125 : Nat → Int32 → Int32 → Int32 → Int32 → Mem → Prop) : Prop := match n with
  | 0 => False
  | n + 1 =>
  (x7 = 0 →
  K125 x0 x1 x2 x5 x6 M) ∧
  (¬ x7 = 0 →
  ∀ M1 : Mem, M1 = sI M x0 41 ((mI M x0 41) + (1 : Int32)) →
  inb x1 (alen 75) ∧
  inb ((mI M1 75 x1.toNatClampNeg) + x6) (alen 82) ∧
  ((mL M1 82 ((mI M1 75 x1.toNatClampNeg) + x6).toNatClampNeg) ≤ x3 →
  wp_X5_down_105 x0 x1 x2 x3 x5 x6 (0 : Int32) M1 Q (fun (x0 : Nat) (x1 : Int32) (x2 : Int32) (x3 : Int64) (x5 : Int32) (x6 : Int32) (x7 : Int32) (M : Mem) => wp_X5_down_62 n x0 x1 x2 x3 x5 x6 x7 M Q K125) K125) ∧
  (¬ (mL M1 82 ((mI M1 75 x1.toNatClampNeg) + x6).toNatClampNeg) ≤ x3 →
  ∀ i2 : Int32, i2 = x6 + (-1 : Int32) →
  wp_X5_down_105 x0 x1 x2 x3 x5 i2 x7 M1 Q (fun (x0 : Nat) (x1 : Int32) (x2 : Int32) (x3 : Int64) (x5 : Int32) (x6 : Int32) (x7 : Int32) (M : Mem) => wp_X5_down_62 n x0 x1 x2 x3 x5 x6 x7 M Q K125) K125))
def wp_X5_down_60 (x0 : Nat) (x1 : Int32) (x2 : Int32) (x3 : Int64) (x5 : Int32) (x6 : Int32) (t0 : Int32) (M : Mem) (Q : Int32 → Mem → Prop) : Prop :=
  ∃ k62, wp_X5_down_62 k62 x0 x1 x2 x3 x5 x6 t0 M Q (fun (x0 : Nat) (x1 : Int32) (x2 : Int32) (x5 : Int32) (x6 : Int32) (M : Mem) => wp_X5_down_125 x0 x1 x2 x5 x6 M Q)
def wp_X5_down_48 (x0 : Nat) (x1 : Int32) (x2 : Int32) (x3 : Int64) (x5 : Int32) (t0 : Int32) (M : Mem) (Q : Int32 → Mem → Prop) : Prop :=
  (t0 ≤ 0 →
  wp_X5_down_60 x0 x1 x2 x3 x5 t0 (0 : Int32) M Q) ∧
  (¬ t0 ≤ 0 →
  wp_X5_down_60 x0 x1 x2 x3 x5 t0 (1 : Int32) M Q)
def wp_X5_down (x0 : Nat) (x1 : Int32) (x2 : Int32) (x3 : Int64) (M : Mem) (Q : Int32 → Mem → Prop) : Prop :=
  isO M x0 5 ∧
  wp_X5_guessOf x0 x1 x3 M (fun (i7 : Int32) (M6 : Mem) =>
  inb x1 (alen 77) ∧
  inb x1 (alen 76) ∧
  (((mI M6 76 x1.toNatClampNeg) - (1 : Int32)) ≤ (i7 + (mI M6 77 x1.toNatClampNeg)) →
  inb x1 (alen 76) ∧
  wp_X5_down_48 x0 x1 x2 x3 i7 ((mI M6 76 x1.toNatClampNeg) - (1 : Int32)) M6 Q) ∧
  (¬ ((mI M6 76 x1.toNatClampNeg) - (1 : Int32)) ≤ (i7 + (mI M6 77 x1.toNatClampNeg)) →
  inb x1 (alen 77) ∧
  wp_X5_down_48 x0 x1 x2 x3 i7 (i7 + (mI M6 77 x1.toNatClampNeg)) M6 Q))
def wp_X5_found_33 (n : Nat) (x0 : Nat) (x1 : Int64) (x3 : Int32) (x4 : Int32) (x5 : Int32) (M : Mem) (Q : Int32 → Mem → Prop) (K88 : Nat → Int64 → Int32 → Int32 → Mem → Prop) : Prop := match n with
  | 0 => False
  | n + 1 =>
  (x3 ≤ 0 →
  K88 x0 x1 x4 x5 M) ∧
  (¬ x3 ≤ 0 →
  inb x4 (alen 75) ∧
  inb x3 (alen 72) ∧
  inb (mI M 72 x3.toNatClampNeg) (alen 75) ∧
  ∀ i1 : Int32, i1 = ((mI M 75 x4.toNatClampNeg) + x5) - (mI M 75 (mI M 72 x3.toNatClampNeg).toNatClampNeg) →
  ∀ i2 : Int32, i2 = x3 + (-1 : Int32) →
  inb i2 (alen 72) ∧
  ∀ i3 : Int32, i3 = (mI M 72 i2.toNatClampNeg) + i1 →
  wp_X5_down x0 i3 i2 x1 M (fun (i5 : Int32) (M4 : Mem) =>
  wp_X5_found_33 n x0 x1 i2 i3 i5 M4 Q K88))
def wp_X5_found_250 (x0 : Nat) (x1 : Int64) (x4 : Int32) (x7 : Int32) (x8 : Int32) (M : Mem) (Q : Int32 → Mem → Prop) (K181 : Nat → Int64 → Int32 → Int32 → Int32 → Mem → Prop) (K256 : Nat → Mem → Prop) : Prop :=
  ∀ i15 : Int32, i15 = x7 + (-1 : Int32) →
  K181 x0 x1 x4 i15 x8 M
def wp_X5_found_281 (x6 : Int32) (t0 : Int32) (t1 : Nat) (M : Mem) (Q : Int32 → Mem → Prop) : Prop :=
  wp_X5_say t1 t0 M (fun (M16 : Mem) =>
  (x6 = 0 ∨ x6 = 1) ∧ Q x6 M16)
def wp_X5_found_224 (x0 : Nat) (x1 : Int64) (x4 : Int32) (x7 : Int32) (t0 : Int32) (M : Mem) (Q : Int32 → Mem → Prop) (K181 : Nat → Int64 → Int32 → Int32 → Int32 → Mem → Prop) (K256 : Nat → Mem → Prop) : Prop :=
  inb (((16 : Int32) * x4) + x7) (alen 83) ∧
  (¬ (mL M 83 (((16 : Int32) * x4) + x7).toNatClampNeg) = x1 →
  wp_X5_found_250 x0 x1 x4 x7 t0 M Q K181 K256) ∧
  ((mL M 83 (((16 : Int32) * x4) + x7).toNatClampNeg) = x1 →
  ∀ M14 : Mem, M14 = sI M x0 45 x7 →
  wp_X5_found_250 x0 x1 x4 x7 t0 M14 Q K181 K256)
def wp_X5_found_270 (x0 : Nat) (x6 : Int32) (M : Mem) (Q : Int32 → Mem → Prop) : Prop :=
  (x6 = 0 →
  wp_X5_found_281 x6 (0 : Int32) x0 M Q) ∧
  (¬ x6 = 0 →
  wp_X5_found_281 x6 (1 : Int32) x0 M Q)
def wp_X5_found_223 (x0 : Nat) (x1 : Int64) (x4 : Int32) (x7 : Int32) (M : Mem) (Q : Int32 → Mem → Prop) (K181 : Nat → Int64 → Int32 → Int32 → Int32 → Mem → Prop) (K256 : Nat → Mem → Prop) : Prop :=
  wp_X5_found_224 x0 x1 x4 x7 (0 : Int32) M Q K181 K256
def wp_X5_found_268 (x0 : Nat) (t0 : Int32) (M : Mem) (Q : Int32 → Mem → Prop) : Prop :=
  wp_X5_found_270 x0 t0 M Q
def wp_X5_found_181 (n : Nat) (x0 : Nat) (x1 : Int64) (x4 : Int32) (x7 : Int32) (x8 : Int32) (M : Mem) (Q : Int32 → Mem → Prop) (K256 : Nat → Mem → Prop) : Prop := match n with
  | 0 => False
  | n + 1 =>
  (x8 = 0 →
  K256 x0 M) ∧
  (¬ x8 = 0 →
  ∀ M13 : Mem, M13 = sI M x0 41 ((mI M x0 41) + (1 : Int32)) →
  inb (((16 : Int32) * x4) + x7) (alen 83) ∧
  ((mL M13 83 (((16 : Int32) * x4) + x7).toNatClampNeg) ≤ x1 →
  wp_X5_found_223 x0 x1 x4 x7 M13 Q (fun (x0 : Nat) (x1 : Int64) (x4 : Int32) (x7 : Int32) (x8 : Int32) (M : Mem) => wp_X5_found_181 n x0 x1 x4 x7 x8 M Q K256) K256) ∧
  (¬ (mL M13 83 (((16 : Int32) * x4) + x7).toNatClampNeg) ≤ x1 →
  (x7 ≤ 0 →
  wp_X5_found_223 x0 x1 x4 x7 M13 Q (fun (x0 : Nat) (x1 : Int64) (x4 : Int32) (x7 : Int32) (x8 : Int32) (M : Mem) => wp_X5_found_181 n x0 x1 x4 x7 x8 M Q K256) K256) ∧
  (¬ x7 ≤ 0 →
  wp_X5_found_224 x0 x1 x4 x7 (1 : Int32) M13 Q (fun (x0 : Nat) (x1 : Int64) (x4 : Int32) (x7 : Int32) (x8 : Int32) (M : Mem) => wp_X5_found_181 n x0 x1 x4 x7 x8 M Q K256) K256)))
def wp_X5_found_256 (x0 : Nat) (M : Mem) (Q : Int32 → Mem → Prop) : Prop :=
  ((mI M x0 45) < 0 →
  wp_X5_found_268 x0 (0 : Int32) M Q) ∧
  (¬ (mI M x0 45) < 0 →
  wp_X5_found_268 x0 (1 : Int32) M Q)
def wp_X5_found_179 (x0 : Nat) (x1 : Int64) (x4 : Int32) (x7 : Int32) (t0 : Int32) (M : Mem) (Q : Int32 → Mem → Prop) : Prop :=
  ∃ k181, wp_X5_found_181 k181 x0 x1 x4 x7 t0 M Q (fun (x0 : Nat) (M : Mem) => wp_X5_found_256 x0 M Q)
def wp_X5_found_151 (x0 : Nat) (x1 : Int64) (x4 : Int32) (t0 : Int32) (M : Mem) (Q : Int32 → Mem → Prop) : Prop :=
  (¬ t0 = 0 →
  wp_X5_found_270 x0 t0 M Q) ∧
  (t0 = 0 →
  inb x4 (alen 78) ∧
  ∀ i12 : Int32, i12 = (mI M 78 x4.toNatClampNeg) - (1 : Int32) →
  (i12 < 0 →
  wp_X5_found_179 x0 x1 x4 i12 (0 : Int32) M Q) ∧
  (¬ i12 < 0 →
  wp_X5_found_179 x0 x1 x4 i12 (1 : Int32) M Q))
def wp_X5_found_150 (x0 : Nat) (x1 : Int64) (x4 : Int32) (M : Mem) (Q : Int32 → Mem → Prop) : Prop :=
  wp_X5_found_151 x0 x1 x4 (0 : Int32) M Q
def wp_X5_found_88 (x0 : Nat) (x1 : Int64) (x4 : Int32) (x5 : Int32) (M : Mem) (Q : Int32 → Mem → Prop) : Prop :=
  ∀ M6 : Mem, M6 = sI M x0 43 x4 →
  ∀ M7 : Mem, M7 = sI M6 x0 44 x5 →
  ∀ M8 : Mem, M8 = sI M7 x0 45 (-1 : Int32) →
  ∀ M9 : Mem, M9 = sI M8 x0 41 ((mI M8 x0 41) + (1 : Int32)) →
  inb x4 (alen 75) ∧
  inb ((mI M9 75 x4.toNatClampNeg) + x5) (alen 82) ∧
  (¬ (mL M9 82 ((mI M9 75 x4.toNatClampNeg) + x5).toNatClampNeg) = x1 →
  wp_X5_found_150 x0 x1 x4 M9 Q) ∧
  ((mL M9 82 ((mI M9 75 x4.toNatClampNeg) + x5).toNatClampNeg) = x1 →
  wp_X5_isThere x0 x4 x5 M9 (fun (i11 : Int32) (M10 : Mem) =>
  (i11 = 0 →
  wp_X5_found_150 x0 x1 x4 M10 Q) ∧
  (¬ i11 = 0 →
  wp_X5_found_151 x0 x1 x4 (1 : Int32) M10 Q)))
def wp_X5_found (x0 : Nat) (x1 : Int64) (M : Mem) (Q : Int32 → Mem → Prop) : Prop :=
  isO M x0 5 ∧
  ∀ M17 : Mem, M17 = sI M x0 39 (0 : Int32) →
  ∀ M18 : Mem, M18 = sI M17 x0 41 (0 : Int32) →
  ∀ i19 : Int32, i19 = mI M18 x0 9 →
  inb i19 (alen 72) ∧
  ∀ i20 : Int32, i20 = mI M18 72 i19.toNatClampNeg →
  wp_X5_down x0 i20 i19 x1 M18 (fun (i22 : Int32) (M21 : Mem) =>
  ∃ k33, wp_X5_found_33 k33 x0 x1 i19 i20 i22 M21 Q (fun (x0 : Nat) (x1 : Int64) (x4 : Int32) (x5 : Int32) (M : Mem) => wp_X5_found_88 x0 x1 x4 x5 M Q))
def wp_X5_find_45 (n : Nat) (x0 : Nat) (x3 : Int32) (x4 : Int32) (M : Mem) (Q : Int32 → Mem → Prop) (K74 : Nat → Int32 → Mem → Prop) : Prop := match n with
  | 0 => False
  | n + 1 =>
  ((mI M x0 39) ≤ x4 →
  K74 x0 x3 M) ∧
  (¬ (mI M x0 39) ≤ x4 →
  inb x4 (alen 95) ∧
  inb x4 (alen 96) ∧
  ∀ M1 : Mem, M1 = sI M 96 x4.toNatClampNeg (mI M 95 x4.toNatClampNeg) →
  ∀ i2 : Int32, i2 = x4 + (1 : Int32) →
  wp_X5_find_45 n x0 x3 i2 M1 Q K74)
def wp_X5_find_88 (t0 : Int32) (M : Mem) (Q : Int32 → Mem → Prop) : Prop :=
  Q t0 M
def wp_X5_find_74 (x0 : Nat) (x3 : Int32) (M : Mem) (Q : Int32 → Mem → Prop) : Prop :=
  ∀ M3 : Mem, M3 = sI M x0 46 (1 : Int32) →
  (x3 = 0 →
  wp_X5_find_88 (0 : Int32) M3 Q) ∧
  (¬ x3 = 0 →
  wp_X5_find_88 (1 : Int32) M3 Q)
def wp_X5_find (x0 : Nat) (x1 : Int64) (M : Mem) (Q : Int32 → Mem → Prop) : Prop :=
  isO M x0 5 ∧
  (¬ (mI M x0 23) = 0 →
  wp_X5_isKey x0 x1 M (fun (i5 : Int32) (M4 : Mem) =>
  (¬ i5 = 0 →
  wp_X5_found x0 x1 M4 (fun (i7 : Int32) (M6 : Mem) =>
  ∀ M8 : Mem, M8 = sI M6 x0 42 (mI M6 x0 41) →
  ∀ M9 : Mem, M9 = sI M8 x0 40 (mI M8 x0 39) →
  ∃ k45, wp_X5_find_45 k45 x0 i7 (0 : Int32) M9 Q (fun (x0 : Nat) (x3 : Int32) (M : Mem) => wp_X5_find_74 x0 x3 M Q))) ∧
  (i5 = 0 →
  Q (-2 : Int32) M4))) ∧
  ((mI M x0 23) = 0 →
  Q (-1 : Int32) M)
def wp_X5_check_24  (M : Mem) (Q : Int32 → Mem → Prop) : Prop :=
  Q (-2 : Int32) M
def wp_X5_check_90 (x0 : Nat) (x3 : Int32) (x5 : Int32) (t0 : Int32) (M : Mem) (Q : Int32 → Mem → Prop) (K54 : Nat → Int32 → Int32 → Int32 → Mem → Prop) (K98 : Int32 → Int32 → Mem → Prop) : Prop :=
  ∀ i1 : Int32, i1 = x5 + (1 : Int32) →
  K54 x0 x3 t0 i1 M
def wp_X5_check_117 (t0 : Int32) (t1 : Int32) (M : Mem) (Q : Int32 → Mem → Prop) : Prop :=
  Q (t1 + t0) M
def wp_X5_check_54 (n : Nat) (x0 : Nat) (x3 : Int32) (x4 : Int32) (x5 : Int32) (M : Mem) (Q : Int32 → Mem → Prop) (K98 : Int32 → Int32 → Mem → Prop) : Prop := match n with
  | 0 => False
  | n + 1 =>
  ((mI M x0 39) ≤ x5 →
  K98 x3 x4 M) ∧
  (¬ (mI M x0 39) ≤ x5 →
  (x4 = 0 →
  K98 x3 x4 M) ∧
  (¬ x4 = 0 →
  inb x5 (alen 95) ∧
  inb x5 (alen 96) ∧
  (¬ (mI M 95 x5.toNatClampNeg) = (mI M 96 x5.toNatClampNeg) →
  wp_X5_check_90 x0 x3 x5 (0 : Int32) M Q (fun (x0 : Nat) (x3 : Int32) (x4 : Int32) (x5 : Int32) (M : Mem) => wp_X5_check_54 n x0 x3 x4 x5 M Q K98) K98) ∧
  ((mI M 95 x5.toNatClampNeg) = (mI M 96 x5.toNatClampNeg) →
  wp_X5_check_90 x0 x3 x5 (1 : Int32) M Q (fun (x0 : Nat) (x3 : Int32) (x4 : Int32) (x5 : Int32) (M : Mem) => wp_X5_check_54 n x0 x3 x4 x5 M Q K98) K98)))
def wp_X5_check_107 (x4 : Int32) (t0 : Int32) (M : Mem) (Q : Int32 → Mem → Prop) : Prop :=
  (x4 = 0 →
  wp_X5_check_117 (0 : Int32) t0 M Q) ∧
  (¬ x4 = 0 →
  wp_X5_check_117 (1 : Int32) t0 M Q)
def wp_X5_check_98 (x3 : Int32) (x4 : Int32) (M : Mem) (Q : Int32 → Mem → Prop) : Prop :=
  (x3 = 0 →
  wp_X5_check_107 x4 (0 : Int32) M Q) ∧
  (¬ x3 = 0 →
  wp_X5_check_107 x4 (2 : Int32) M Q)
def wp_X5_check_49 (x0 : Nat) (x3 : Int32) (t0 : Int32) (M : Mem) (Q : Int32 → Mem → Prop) : Prop :=
  ∃ k54, wp_X5_check_54 k54 x0 x3 t0 (0 : Int32) M Q (fun (x3 : Int32) (x4 : Int32) (M : Mem) => wp_X5_check_98 x3 x4 M Q)
def wp_X5_check (x0 : Nat) (x1 : Int64) (M : Mem) (Q : Int32 → Mem → Prop) : Prop :=
  isO M x0 5 ∧
  (¬ (mI M x0 23) = 0 →
  wp_X5_isKey x0 x1 M (fun (i3 : Int32) (M2 : Mem) =>
  (i3 = 0 →
  wp_X5_check_24 M2 Q) ∧
  (¬ i3 = 0 →
  (¬ (mI M2 x0 46) = 0 →
  wp_X5_found x0 x1 M2 (fun (i5 : Int32) (M4 : Mem) =>
  (¬ (mI M4 x0 39) = (mI M4 x0 40) →
  wp_X5_check_49 x0 i5 (0 : Int32) M4 Q) ∧
  ((mI M4 x0 39) = (mI M4 x0 40) →
  wp_X5_check_49 x0 i5 (1 : Int32) M4 Q))) ∧
  ((mI M2 x0 46) = 0 →
  wp_X5_check_24 M2 Q)))) ∧
  ((mI M x0 23) = 0 →
  Q (-1 : Int32) M)
def wp_X5_looks (x0 : Nat) (M : Mem) (Q : Int32 → Mem → Prop) : Prop :=
  isO M x0 5 ∧
  Q (mI M x0 42) M
def wp_X5_told_23 (t0 : Int32) (M : Mem) (Q : Int32 → Mem → Prop) : Prop :=
  Q t0 M
def wp_X5_told_12  (M : Mem) (Q : Int32 → Mem → Prop) : Prop :=
  wp_X5_told_23 (-2 : Int32) M Q
def wp_X5_told (x0 : Nat) (x1 : Int32) (M : Mem) (Q : Int32 → Mem → Prop) : Prop :=
  isO M x0 5 ∧
  (x1 < 0 →
  wp_X5_told_12 M Q) ∧
  (¬ x1 < 0 →
  (x1 < (mI M x0 40) →
  inb x1 (alen 96) ∧
  wp_X5_told_23 (mI M 96 x1.toNatClampNeg) M Q) ∧
  (¬ x1 < (mI M x0 40) →
  wp_X5_told_12 M Q))
def wp_X5_insert_96 (n : Nat) (x0 : Nat) (x1 : Int64) (x3 : Int32) (x4 : Int32) (M : Mem) (Q : Int32 → Mem → Prop) (K152 : Nat → Int64 → Int32 → Int32 → Mem → Prop) : Prop := match n with
  | 0 => False
  | n + 1 =>
  (x4 ≤ 0 →
  K152 x0 x1 x3 x4 M) ∧
  (¬ x4 ≤ 0 →
  inb ((((16 : Int32) * x3) + x4) - (1 : Int32)) (alen 83) ∧
  ((mL M 83 ((((16 : Int32) * x3) + x4) - (1 : Int32)).toNatClampNeg) ≤ x1 →
  K152 x0 x1 x3 x4 M) ∧
  (¬ (mL M 83 ((((16 : Int32) * x3) + x4) - (1 : Int32)).toNatClampNeg) ≤ x1 →
  inb ((((16 : Int32) * x3) + x4) - (1 : Int32)) (alen 83) ∧
  inb (((16 : Int32) * x3) + x4) (alen 83) ∧
  ∀ M1 : Mem, M1 = sL M 83 (((16 : Int32) * x3) + x4).toNatClampNeg (mL M 83 ((((16 : Int32) * x3) + x4) - (1 : Int32)).toNatClampNeg) →
  ∀ i2 : Int32, i2 = x4 + (-1 : Int32) →
  wp_X5_insert_96 n x0 x1 x3 i2 M1 Q K152))
def wp_X5_insert_152 (x0 : Nat) (x1 : Int64) (x3 : Int32) (x4 : Int32) (M : Mem) (Q : Int32 → Mem → Prop) : Prop :=
  inb (((16 : Int32) * x3) + x4) (alen 83) ∧
  ∀ M3 : Mem, M3 = sL M 83 (((16 : Int32) * x3) + x4).toNatClampNeg x1 →
  inb x3 (alen 78) ∧
  inb x3 (alen 78) ∧
  ∀ M4 : Mem, M4 = sI M3 78 x3.toNatClampNeg ((mI M3 78 x3.toNatClampNeg) + (1 : Int32)) →
  inb x3 (alen 78) ∧
  ((16 : Int32) ≤ (mI M4 78 x3.toNatClampNeg) →
  ∀ M5 : Mem, M5 = sI M4 x0 26 (0 : Int32) →
  wp_X5_gather x0 x3 M5 (fun (M6 : Mem) =>
  wp_X5_replace x0 x3 (x3 + (1 : Int32)) (1 : Int32) M6 (fun (M7 : Mem) =>
  ∀ M8 : Mem, M8 = sI M7 x0 25 ((mI M7 x0 25) + (1 : Int32)) →
  Q (1 : Int32) M8))) ∧
  (¬ (16 : Int32) ≤ (mI M4 78 x3.toNatClampNeg) →
  Q (1 : Int32) M4)
def wp_X5_insert (x0 : Nat) (x1 : Int64) (M : Mem) (Q : Int32 → Mem → Prop) : Prop :=
  isO M x0 5 ∧
  (¬ (mI M x0 23) = 0 →
  wp_X5_isKey x0 x1 M (fun (i10 : Int32) (M9 : Mem) =>
  (¬ i10 = 0 →
  wp_X5_found x0 x1 M9 (fun (i12 : Int32) (M11 : Mem) =>
  (i12 = 0 →
  wp_X5_there x0 M11 (fun (i14 : Int32) (M13 : Mem) =>
  (¬ i14 = (300 : Int32) →
  ∀ i15 : Int32, i15 = mI M13 x0 43 →
  inb i15 (alen 75) ∧
  inb ((mI M13 75 i15.toNatClampNeg) + (mI M13 x0 44)) (alen 82) ∧
  (¬ (mL M13 82 ((mI M13 75 i15.toNatClampNeg) + (mI M13 x0 44)).toNatClampNeg) = x1 →
  inb i15 (alen 78) ∧
  ∀ i16 : Int32, i16 = mI M13 78 i15.toNatClampNeg →
  ∃ k96, wp_X5_insert_96 k96 x0 x1 i15 i16 M13 Q (fun (x0 : Nat) (x1 : Int64) (x3 : Int32) (x4 : Int32) (M : Mem) => wp_X5_insert_152 x0 x1 x3 x4 M Q)) ∧
  ((mL M13 82 ((mI M13 75 i15.toNatClampNeg) + (mI M13 x0 44)).toNatClampNeg) = x1 →
  inb i15 (alen 75) ∧
  inb ((mI M13 75 i15.toNatClampNeg) + (mI M13 x0 44)) (alen 84) ∧
  ∀ M17 : Mem, M17 = sI M13 84 ((mI M13 75 i15.toNatClampNeg) + (mI M13 x0 44)).toNatClampNeg (0 : Int32) →
  Q (1 : Int32) M17)) ∧
  (i14 = (300 : Int32) →
  Q (-3 : Int32) M13))) ∧
  (¬ i12 = 0 →
  Q (0 : Int32) M11))) ∧
  (i10 = 0 →
  Q (-2 : Int32) M9))) ∧
  ((mI M x0 23) = 0 →
  Q (-1 : Int32) M)
def wp_X5_drop_77 (n : Nat) (x0 : Nat) (x3 : Int32) (x4 : Int32) (M : Mem) (Q : Int32 → Mem → Prop) (K120 : Mem → Prop) : Prop := match n with
  | 0 => False
  | n + 1 =>
  inb x3 (alen 78) ∧
  ((mI M 78 x3.toNatClampNeg) ≤ x4 →
  K120 M) ∧
  (¬ (mI M 78 x3.toNatClampNeg) ≤ x4 →
  inb ((((16 : Int32) * x3) + x4) + (1 : Int32)) (alen 83) ∧
  inb (((16 : Int32) * x3) + x4) (alen 83) ∧
  ∀ M1 : Mem, M1 = sL M 83 (((16 : Int32) * x3) + x4).toNatClampNeg (mL M 83 ((((16 : Int32) * x3) + x4) + (1 : Int32)).toNatClampNeg) →
  ∀ i2 : Int32, i2 = x4 + (1 : Int32) →
  wp_X5_drop_77 n x0 x3 i2 M1 Q K120)
def wp_X5_drop_120  (M : Mem) (Q : Int32 → Mem → Prop) : Prop :=
  Q (1 : Int32) M
def wp_X5_drop (x0 : Nat) (x1 : Int64) (M : Mem) (Q : Int32 → Mem → Prop) : Prop :=
  isO M x0 5 ∧
  (¬ (mI M x0 23) = 0 →
  wp_X5_isKey x0 x1 M (fun (i4 : Int32) (M3 : Mem) =>
  (¬ i4 = 0 →
  wp_X5_found x0 x1 M3 (fun (i6 : Int32) (M5 : Mem) =>
  (¬ i6 = 0 →
  ∀ i7 : Int32, i7 = mI M5 x0 43 →
  (0 ≤ (mI M5 x0 45) →
  inb i7 (alen 78) ∧
  inb i7 (alen 78) ∧
  ∀ M8 : Mem, M8 = sI M5 78 i7.toNatClampNeg ((mI M5 78 i7.toNatClampNeg) - (1 : Int32)) →
  ∀ i9 : Int32, i9 = mI M8 x0 45 →
  ∃ k77, wp_X5_drop_77 k77 x0 i7 i9 M8 Q (fun  (M : Mem) => wp_X5_drop_120 M Q)) ∧
  (¬ 0 ≤ (mI M5 x0 45) →
  inb i7 (alen 75) ∧
  inb ((mI M5 75 i7.toNatClampNeg) + (mI M5 x0 44)) (alen 84) ∧
  ∀ M10 : Mem, M10 = sI M5 84 ((mI M5 75 i7.toNatClampNeg) + (mI M5 x0 44)).toNatClampNeg (1 : Int32) →
  Q (1 : Int32) M10)) ∧
  (i6 = 0 →
  Q (0 : Int32) M5))) ∧
  (i4 = 0 →
  Q (-2 : Int32) M3))) ∧
  ((mI M x0 23) = 0 →
  Q (-1 : Int32) M)
def wp_X5_all_23 (x0 : Nat) (x1 : Int32) (t0 : Int32) (t1 : Int32) (M : Mem) (Q : Mem → Prop) (K7 : Nat → Int32 → Mem → Prop) (K37 : Mem → Prop) : Prop :=
  (t0 ≤ t1 →
  K37 M) ∧
  (¬ t0 ≤ t1 →
  wp_X5_gather x0 x1 M (fun (M3 : Mem) =>
  ∀ i4 : Int32, i4 = x1 + (1 : Int32) →
  K7 x0 i4 M3))
def wp_X5_all_37  (M : Mem) (Q : Mem → Prop) : Prop :=
  Q M
def wp_X5_all_7 (n : Nat) (x0 : Nat) (x1 : Int32) (M : Mem) (Q : Mem → Prop) (K37 : Mem → Prop) : Prop := match n with
  | 0 => False
  | n + 1 =>
  ((mI M x0 23) = 0 →
  wp_X5_all_23 x0 x1 (0 : Int32) x1 M Q (fun (x0 : Nat) (x1 : Int32) (M : Mem) => wp_X5_all_7 n x0 x1 M Q K37) K37) ∧
  (¬ (mI M x0 23) = 0 →
  wp_X5_pieces x0 M (fun (i2 : Int32) (M1 : Mem) =>
  wp_X5_all_23 x0 x1 i2 x1 M1 Q (fun (x0 : Nat) (x1 : Int32) (M : Mem) => wp_X5_all_7 n x0 x1 M Q K37) K37))
def wp_X5_all (x0 : Nat) (M : Mem) (Q : Mem → Prop) : Prop :=
  isO M x0 5 ∧
  ∀ M5 : Mem, M5 = sI M x0 26 (0 : Int32) →
  ∃ k7, wp_X5_all_7 k7 x0 (0 : Int32) M5 Q (fun  (M : Mem) => wp_X5_all_37 M Q)
def wp_X5_at_28 (t0 : Int64) (M : Mem) (Q : Int64 → Mem → Prop) : Prop :=
  Q t0 M
def wp_X5_at_16  (M : Mem) (Q : Int64 → Mem → Prop) : Prop :=
  wp_X5_at_28 (-9223372036854775808 : Int64) M Q
def wp_X5_at (x0 : Nat) (x1 : Int32) (M : Mem) (Q : Int64 → Mem → Prop) : Prop :=
  isO M x0 5 ∧
  wp_X5_all x0 M (fun (M1 : Mem) =>
  (x1 < 0 →
  wp_X5_at_16 M1 Q) ∧
  (¬ x1 < 0 →
  (x1 < (mI M1 x0 26) →
  inb x1 (alen 71) ∧
  wp_X5_at_28 (mL M1 71 x1.toNatClampNeg) M1 Q) ∧
  (¬ x1 < (mI M1 x0 26) →
  wp_X5_at_16 M1 Q)))
def wp_X5_ahead_6 (n : Nat) (x0 : Nat) (x1 : Int64) (x3 : Int32) (M : Mem) (Q : Int32 → Mem → Prop) (K31 : Int32 → Mem → Prop) : Prop := match n with
  | 0 => False
  | n + 1 =>
  ((mI M x0 26) ≤ x3 →
  K31 x3 M) ∧
  (¬ (mI M x0 26) ≤ x3 →
  inb x3 (alen 71) ∧
  (x1 ≤ (mL M 71 x3.toNatClampNeg) →
  K31 x3 M) ∧
  (¬ x1 ≤ (mL M 71 x3.toNatClampNeg) →
  ∀ i1 : Int32, i1 = x3 + (1 : Int32) →
  wp_X5_ahead_6 n x0 x1 i1 M Q K31))
def wp_X5_ahead_31 (x3 : Int32) (M : Mem) (Q : Int32 → Mem → Prop) : Prop :=
  Q x3 M
def wp_X5_ahead (x0 : Nat) (x1 : Int64) (M : Mem) (Q : Int32 → Mem → Prop) : Prop :=
  isO M x0 5 ∧
  wp_X5_all x0 M (fun (M2 : Mem) =>
  ∃ k6, wp_X5_ahead_6 k6 x0 x1 (0 : Int32) M2 Q (fun (x3 : Int32) (M : Mem) => wp_X5_ahead_31 x3 M Q))
def wp_X5_below_27 (t0 : Int32) (M : Mem) (Q : Int32 → Mem → Prop) : Prop :=
  Q t0 M
def wp_X5_below (x0 : Nat) (x1 : Int64) (M : Mem) (Q : Int32 → Mem → Prop) : Prop :=
  isO M x0 5 ∧
  (¬ (mI M x0 23) = 0 →
  wp_X5_isKey x0 x1 M (fun (i2 : Int32) (M1 : Mem) =>
  (i2 = 0 →
  wp_X5_below_27 (-2 : Int32) M1 Q) ∧
  (¬ i2 = 0 →
  wp_X5_ahead x0 x1 M1 (fun (i4 : Int32) (M3 : Mem) =>
  wp_X5_below_27 i4 M3 Q)))) ∧
  ((mI M x0 23) = 0 →
  Q (-1 : Int32) M)
def wp_X5_above_6 (n : Nat) (x0 : Nat) (x1 : Int64) (x3 : Int32) (M : Mem) (Q : Int64 → Mem → Prop) (K31 : Nat → Int32 → Mem → Prop) : Prop := match n with
  | 0 => False
  | n + 1 =>
  ((mI M x0 26) ≤ x3 →
  K31 x0 x3 M) ∧
  (¬ (mI M x0 26) ≤ x3 →
  inb x3 (alen 71) ∧
  (x1 < (mL M 71 x3.toNatClampNeg) →
  K31 x0 x3 M) ∧
  (¬ x1 < (mL M 71 x3.toNatClampNeg) →
  ∀ i1 : Int32, i1 = x3 + (1 : Int32) →
  wp_X5_above_6 n x0 x1 i1 M Q K31))
def wp_X5_above_51 (t0 : Int64) (M : Mem) (Q : Int64 → Mem → Prop) : Prop :=
  Q t0 M
def wp_X5_above_31 (x0 : Nat) (x3 : Int32) (M : Mem) (Q : Int64 → Mem → Prop) : Prop :=
  ((mI M x0 26) ≤ x3 →
  wp_X5_above_51 (-9223372036854775808 : Int64) M Q) ∧
  (¬ (mI M x0 26) ≤ x3 →
  inb x3 (alen 71) ∧
  wp_X5_above_51 (mL M 71 x3.toNatClampNeg) M Q)
def wp_X5_above (x0 : Nat) (x1 : Int64) (M : Mem) (Q : Int64 → Mem → Prop) : Prop :=
  isO M x0 5 ∧
  wp_X5_all x0 M (fun (M2 : Mem) =>
  ∃ k6, wp_X5_above_6 k6 x0 x1 (0 : Int32) M2 Q (fun (x0 : Nat) (x3 : Int32) (M : Mem) => wp_X5_above_31 x0 x3 M Q))
def wp_X5_between_25  (M : Mem) (Q : Int32 → Mem → Prop) : Prop :=
  Q (-2 : Int32) M
def wp_X5_between_49 (t0 : Int32) (M : Mem) (Q : Int32 → Mem → Prop) : Prop :=
  Q t0 M
def wp_X5_between (x0 : Nat) (x1 : Int64) (x3 : Int64) (M : Mem) (Q : Int32 → Mem → Prop) : Prop :=
  isO M x0 5 ∧
  (¬ (mI M x0 23) = 0 →
  wp_X5_isKey x0 x1 M (fun (i2 : Int32) (M1 : Mem) =>
  (i2 = 0 →
  wp_X5_between_25 M1 Q) ∧
  (¬ i2 = 0 →
  wp_X5_isKey x0 x3 M1 (fun (i4 : Int32) (M3 : Mem) =>
  (¬ i4 = 0 →
  (x1 < x3 →
  wp_X5_ahead x0 x3 M3 (fun (i6 : Int32) (M5 : Mem) =>
  wp_X5_ahead x0 x1 M5 (fun (i8 : Int32) (M7 : Mem) =>
  wp_X5_between_49 (i6 - i8) M7 Q))) ∧
  (¬ x1 < x3 →
  wp_X5_between_49 (0 : Int32) M3 Q)) ∧
  (i4 = 0 →
  wp_X5_between_25 M3 Q))))) ∧
  ((mI M x0 23) = 0 →
  Q (-1 : Int32) M)
def wp_X5_layers_15 (t0 : Int32) (M : Mem) (Q : Int32 → Mem → Prop) : Prop :=
  Q t0 M
def wp_X5_layers (x0 : Nat) (M : Mem) (Q : Int32 → Mem → Prop) : Prop :=
  isO M x0 5 ∧
  ((mI M x0 23) = 0 →
  wp_X5_layers_15 (-1 : Int32) M Q) ∧
  (¬ (mI M x0 23) = 0 →
  wp_X5_layers_15 (mI M x0 9) M Q)
def wp_X5_pieces__41 (t0 : Int32) (M : Mem) (Q : Int32 → Mem → Prop) : Prop :=
  Q t0 M
def wp_X5_pieces__20  (M : Mem) (Q : Int32 → Mem → Prop) : Prop :=
  wp_X5_pieces__41 (-1 : Int32) M Q
def wp_X5_pieces_ (x0 : Nat) (x1 : Int32) (M : Mem) (Q : Int32 → Mem → Prop) : Prop :=
  isO M x0 5 ∧
  ((mI M x0 23) = 0 →
  wp_X5_pieces__20 M Q) ∧
  (¬ (mI M x0 23) = 0 →
  (x1 < (-1 : Int32) →
  wp_X5_pieces__20 M Q) ∧
  (¬ x1 < (-1 : Int32) →
  (x1 < (mI M x0 9) →
  inb (x1 + (1 : Int32)) (alen 73) ∧
  inb (x1 + (1 : Int32)) (alen 72) ∧
  wp_X5_pieces__41 ((mI M 73 (x1 + (1 : Int32)).toNatClampNeg) - (mI M 72 (x1 + (1 : Int32)).toNatClampNeg)) M Q) ∧
  (¬ x1 < (mI M x0 9) →
  wp_X5_pieces__20 M Q)))
def wp_X5_pieceOf_45  (M : Mem) (Q : Int32 → Mem → Prop) : Prop :=
  Q (-1 : Int32) M
def wp_X5_pieceOf (x0 : Nat) (x1 : Int32) (x2 : Int32) (M : Mem) (Q : Int32 → Mem → Prop) : Prop :=
  isO M x0 5 ∧
  ((mI M x0 23) = 0 →
  wp_X5_pieceOf_45 M Q) ∧
  (¬ (mI M x0 23) = 0 →
  (x1 < (-1 : Int32) →
  wp_X5_pieceOf_45 M Q) ∧
  (¬ x1 < (-1 : Int32) →
  ((mI M x0 9) ≤ x1 →
  wp_X5_pieceOf_45 M Q) ∧
  (¬ (mI M x0 9) ≤ x1 →
  (x2 < 0 →
  wp_X5_pieceOf_45 M Q) ∧
  (¬ x2 < 0 →
  inb (x1 + (1 : Int32)) (alen 73) ∧
  inb (x1 + (1 : Int32)) (alen 72) ∧
  (x2 < ((mI M 73 (x1 + (1 : Int32)).toNatClampNeg) - (mI M 72 (x1 + (1 : Int32)).toNatClampNeg)) →
  inb (x1 + (1 : Int32)) (alen 72) ∧
  Q ((mI M 72 (x1 + (1 : Int32)).toNatClampNeg) + x2) M) ∧
  (¬ x2 < ((mI M 73 (x1 + (1 : Int32)).toNatClampNeg) - (mI M 72 (x1 + (1 : Int32)).toNatClampNeg)) →
  wp_X5_pieceOf_45 M Q)))))
def wp_X5_piece_105 (x0 : Nat) (x4 : Int32) (x6 : Int32) (t0 : Int32) (t1 : Int32) (M : Mem) (Q : Int32 → Mem → Prop) (K75 : Nat → Int32 → Int32 → Int32 → Mem → Prop) (K114 : Int32 → Mem → Prop) : Prop :=
  ∀ i3 : Int32, i3 = t1 + t0 →
  ∀ i4 : Int32, i4 = x6 + (1 : Int32) →
  K75 x0 x4 i3 i4 M
def wp_X5_piece_114 (x5 : Int32) (M : Mem) (Q : Int32 → Mem → Prop) : Prop :=
  Q x5 M
def wp_X5_piece_75 (n : Nat) (x0 : Nat) (x4 : Int32) (x5 : Int32) (x6 : Int32) (M : Mem) (Q : Int32 → Mem → Prop) (K114 : Int32 → Mem → Prop) : Prop := match n with
  | 0 => False
  | n + 1 =>
  inb x4 (alen 76) ∧
  ((mI M 76 x4.toNatClampNeg) ≤ x6 →
  K114 x5 M) ∧
  (¬ (mI M 76 x4.toNatClampNeg) ≤ x6 →
  wp_X5_isThere x0 x4 x6 M (fun (i2 : Int32) (M1 : Mem) =>
  (i2 = 0 →
  wp_X5_piece_105 x0 x4 x6 (1 : Int32) x5 M1 Q (fun (x0 : Nat) (x4 : Int32) (x5 : Int32) (x6 : Int32) (M : Mem) => wp_X5_piece_75 n x0 x4 x5 x6 M Q K114) K114) ∧
  (¬ i2 = 0 →
  wp_X5_piece_105 x0 x4 x6 (0 : Int32) x5 M1 Q (fun (x0 : Nat) (x4 : Int32) (x5 : Int32) (x6 : Int32) (M : Mem) => wp_X5_piece_75 n x0 x4 x5 x6 M Q K114) K114)))
def wp_X5_piece (x0 : Nat) (x1 : Int32) (x2 : Int32) (x3 : Int32) (M : Mem) (Q : Int32 → Mem → Prop) : Prop :=
  isO M x0 5 ∧
  wp_X5_pieceOf x0 x1 x2 M (fun (i6 : Int32) (M5 : Mem) =>
  (0 ≤ i6 →
  (x3 = 0 →
  inb i6 (alen 74) ∧
  Q (mI M5 74 i6.toNatClampNeg) M5) ∧
  (x3 = 1 →
  inb i6 (alen 76) ∧
  Q (mI M5 76 i6.toNatClampNeg) M5) ∧
  (x3 = 2 →
  ∃ k75, wp_X5_piece_75 k75 x0 i6 (0 : Int32) (0 : Int32) M5 Q (fun (x5 : Int32) (M : Mem) => wp_X5_piece_114 x5 M Q)) ∧
  (x3 = 3 →
  inb i6 (alen 78) ∧
  Q (mI M5 78 i6.toNatClampNeg) M5) ∧
  (x3 = 4 →
  inb i6 (alen 77) ∧
  Q (mI M5 77 i6.toNatClampNeg) M5) ∧
  (x3 = 5 →
  wp_X5_miss x0 i6 M5 (fun (i8 : Int32) (M7 : Mem) =>
  Q i8 M7)) ∧
  (¬ x3 = 0 → ¬ x3 = 1 → ¬ x3 = 2 → ¬ x3 = 3 → ¬ x3 = 4 → ¬ x3 = 5 →
  Q (-1 : Int32) M5)) ∧
  (¬ 0 ≤ i6 →
  Q (-1 : Int32) M5))
def wp_X5_line (x0 : Nat) (x1 : Int32) (x2 : Int32) (x3 : Int32) (M : Mem) (Q : Int64 → Mem → Prop) : Prop :=
  isO M x0 5 ∧
  wp_X5_pieceOf x0 x1 x2 M (fun (i2 : Int32) (M1 : Mem) =>
  (0 ≤ i2 →
  (x3 = 0 →
  inb i2 (alen 79) ∧
  Q (mL M1 79 i2.toNatClampNeg) M1) ∧
  (x3 = 1 →
  inb i2 (alen 80) ∧
  Q (mL M1 80 i2.toNatClampNeg) M1) ∧
  (x3 = 2 →
  inb i2 (alen 81) ∧
  Q (mL M1 81 i2.toNatClampNeg) M1) ∧
  (x3 = 3 →
  inb i2 (alen 75) ∧
  inb (mI M1 75 i2.toNatClampNeg) (alen 82) ∧
  Q (mL M1 82 (mI M1 75 i2.toNatClampNeg).toNatClampNeg) M1) ∧
  (x3 = 4 →
  inb i2 (alen 75) ∧
  inb i2 (alen 76) ∧
  inb (((mI M1 75 i2.toNatClampNeg) + (mI M1 76 i2.toNatClampNeg)) - (1 : Int32)) (alen 82) ∧
  Q (mL M1 82 (((mI M1 75 i2.toNatClampNeg) + (mI M1 76 i2.toNatClampNeg)) - (1 : Int32)).toNatClampNeg) M1) ∧
  (¬ x3 = 0 → ¬ x3 = 1 → ¬ x3 = 2 → ¬ x3 = 3 → ¬ x3 = 4 →
  Q (-9223372036854775808 : Int64) M1)) ∧
  (¬ 0 ≤ i2 →
  Q (-9223372036854775808 : Int64) M1))
def wp_X5_guess_35 (t0 : Int32) (M : Mem) (Q : Int32 → Mem → Prop) : Prop :=
  Q t0 M
def wp_X5_guess (x0 : Nat) (x1 : Int32) (x2 : Int32) (x3 : Int64) (M : Mem) (Q : Int32 → Mem → Prop) : Prop :=
  isO M x0 5 ∧
  wp_X5_pieceOf x0 x1 x2 M (fun (i2 : Int32) (M1 : Mem) =>
  (0 ≤ i2 →
  wp_X5_isKey x0 x3 M1 (fun (i4 : Int32) (M3 : Mem) =>
  (i4 = 0 →
  wp_X5_guess_35 (-2 : Int32) M3 Q) ∧
  (¬ i4 = 0 →
  wp_X5_guessOf x0 i2 x3 M3 (fun (i6 : Int32) (M5 : Mem) =>
  wp_X5_guess_35 i6 M5 Q)))) ∧
  (¬ 0 ≤ i2 →
  Q (-1 : Int32) M1))
def wp_Jxe99ae_isNaN_b9ae7_11 (t0 : Int32) (M : Mem) (Q : Int32 → Mem → Prop) : Prop :=
  (t0 = 0 ∨ t0 = 1) ∧ Q t0 M
def wp_Jxe99ae_isNaN_b9ae7 (x0 : UInt64) (M : Mem) (Q : Int32 → Mem → Prop) : Prop :=
  ((Op.cmpValue (FP.dcmp x0 x0) CmpOp.l) = 0 →
  wp_Jxe99ae_isNaN_b9ae7_11 (0 : Int32) M Q) ∧
  (¬ (Op.cmpValue (FP.dcmp x0 x0) CmpOp.l) = 0 →
  wp_Jxe99ae_isNaN_b9ae7_11 (1 : Int32) M Q)
def wp_Jxe99ae_doubleToLongBits_ccdee (x0 : UInt64) (M : Mem) (Q : Int64 → Mem → Prop) : Prop :=
  wp_Jxe99ae_isNaN_b9ae7 x0 M (fun (i2 : Int32) (M1 : Mem) =>
  (¬ i2 = 0 →
  Q (9221120237041090560 : Int64) M1) ∧
  (i2 = 0 →
  Q x0.toInt64 M1))
def wp_X5_bits_30  (M : Mem) (Q : Int64 → Mem → Prop) : Prop :=
  Q (0 : Int64) M
def wp_X5_bits_51 (x0 : Nat) (x3 : Int32) (t0 : Int64) (M : Mem) (Q : Int64 → Mem → Prop) : Prop :=
  inb x3 (alen 80) ∧
  ∀ f1 : UInt64, alike64 f1 (FP.ddiv (FP.l2d t0) (FP.l2d (mL M 80 x3.toNatClampNeg))) = true →
  wp_Jxe99ae_doubleToLongBits_ccdee f1 M (fun (j3 : Int64) (M2 : Mem) =>
  Q j3 M2)
def wp_X5_bits (x0 : Nat) (x1 : Int32) (x2 : Int32) (M : Mem) (Q : Int64 → Mem → Prop) : Prop :=
  isO M x0 5 ∧
  wp_X5_pieceOf x0 (-1 : Int32) x1 M (fun (i5 : Int32) (M4 : Mem) =>
  (i5 < 0 →
  wp_X5_bits_30 M4 Q) ∧
  (¬ i5 < 0 →
  inb i5 (alen 74) ∧
  (¬ (mI M4 74 i5.toNatClampNeg) = (2 : Int32) →
  wp_X5_bits_30 M4 Q) ∧
  ((mI M4 74 i5.toNatClampNeg) = (2 : Int32) →
  (x2 < 0 →
  wp_X5_bits_30 M4 Q) ∧
  (¬ x2 < 0 →
  (x2 ≤ (1 : Int32) →
  (¬ x2 = 0 →
  inb i5 (alen 81) ∧
  wp_X5_bits_51 x0 i5 (mL M4 81 i5.toNatClampNeg) M4 Q) ∧
  (x2 = 0 →
  inb i5 (alen 79) ∧
  wp_X5_bits_51 x0 i5 (mL M4 79 i5.toNatClampNeg) M4 Q)) ∧
  (¬ x2 ≤ (1 : Int32) →
  wp_X5_bits_30 M4 Q)))))
def wp_X5_key_42  (M : Mem) (Q : Int64 → Mem → Prop) : Prop :=
  Q (-9223372036854775808 : Int64) M
def wp_X5_key_79 (t0 : Int64) (M : Mem) (Q : Int64 → Mem → Prop) : Prop :=
  Q t0 M
def wp_X5_key_39 (x0 : Nat) (x2 : Int32) (x3 : Int32) (x4 : Int32) (t0 : Int32) (t1 : Int32) (M : Mem) (Q : Int64 → Mem → Prop) : Prop :=
  (t1 < t0 →
  (x3 = 0 →
  inb x4 (alen 75) ∧
  inb ((mI M 75 x4.toNatClampNeg) + x2) (alen 82) ∧
  wp_X5_key_79 (mL M 82 ((mI M 75 x4.toNatClampNeg) + x2).toNatClampNeg) M Q) ∧
  (¬ x3 = 0 →
  inb (((16 : Int32) * x4) + x2) (alen 83) ∧
  wp_X5_key_79 (mL M 83 (((16 : Int32) * x4) + x2).toNatClampNeg) M Q)) ∧
  (¬ t1 < t0 →
  wp_X5_key_42 M Q)
def wp_X5_key (x0 : Nat) (x1 : Int32) (x2 : Int32) (x3 : Int32) (M : Mem) (Q : Int64 → Mem → Prop) : Prop :=
  isO M x0 5 ∧
  wp_X5_pieceOf x0 (-1 : Int32) x1 M (fun (i2 : Int32) (M1 : Mem) =>
  (i2 < 0 →
  wp_X5_key_42 M1 Q) ∧
  (¬ i2 < 0 →
  (x2 < 0 →
  wp_X5_key_42 M1 Q) ∧
  (¬ x2 < 0 →
  (x3 = 0 →
  inb i2 (alen 76) ∧
  wp_X5_key_39 x0 x2 x3 i2 (mI M1 76 i2.toNatClampNeg) x2 M1 Q) ∧
  (¬ x3 = 0 →
  inb i2 (alen 78) ∧
  wp_X5_key_39 x0 x2 x3 i2 (mI M1 78 i2.toNatClampNeg) x2 M1 Q))))
def wp_X5_count (x0 : Nat) (x1 : Int32) (M : Mem) (Q : Int32 → Mem → Prop) : Prop :=
  isO M x0 5 ∧
  (x1 = 0 →
  Q (mI M x0 1) M) ∧
  (x1 = 1 →
  Q (mI M x0 2) M) ∧
  (x1 = 2 →
  wp_X5_there x0 M (fun (i2 : Int32) (M1 : Mem) =>
  Q i2 M1)) ∧
  (x1 = 3 →
  Q (mI M x0 24) M) ∧
  (x1 = 4 →
  Q (mI M x0 25) M) ∧
  (¬ x1 = 0 → ¬ x1 = 1 → ¬ x1 = 2 → ¬ x1 = 3 → ¬ x1 = 4 →
  Q (-1 : Int32) M)
def wp_L_law_1359 (x3 : Int32) (M : Mem) (xs : Nat → Int32) (L : Nat) (K18 : Int32 → Mem → Prop) : Prop :=
  ∀ i122 : Int32, i122 = x3 + (6 : Int32) →
  K18 i122 M
def wp_L_law_1238 (x3 : Int32) (t0 : Int32) (t1 : Int32) (t2 : Int32) (t3 : Nat) (t4 : Int64) (M : Mem) (xs : Nat → Int32) (L : Nat) (K18 : Int32 → Mem → Prop) : Prop :=
  wp_X5_key t3 t2 t1 t0 M (fun (j124 : Int64) (M123 : Mem) =>
  (t4 = j124 →
  wp_L_law_1359 x3 M123 xs L K18) ∧
  (¬ t4 = j124 →
  False))
def wp_L_law_1211 (x3 : Int32) (t0 : Int32) (t1 : Int32) (t2 : Int32) (t3 : Nat) (M : Mem) (xs : Nat → Int32) (L : Nat) (K18 : Int32 → Mem → Prop) : Prop :=
  wp_X4_key t3 t2 t1 t0 M (fun (j126 : Int64) (M125 : Mem) =>
  inb (x3 + (1 : Int32)) L ∧
  inb (x3 + (2 : Int32)) L ∧
  inb (x3 + (3 : Int32)) L ∧
  ((xs (x3 + (3 : Int32)).toNatClampNeg) = 0 →
  wp_L_law_1238 x3 (0 : Int32) (xs (x3 + (2 : Int32)).toNatClampNeg) (xs (x3 + (1 : Int32)).toNatClampNeg) 69 j126 M125 xs L K18) ∧
  (¬ (xs (x3 + (3 : Int32)).toNatClampNeg) = 0 →
  wp_L_law_1238 x3 (1 : Int32) (xs (x3 + (2 : Int32)).toNatClampNeg) (xs (x3 + (1 : Int32)).toNatClampNeg) 69 j126 M125 xs L K18))
def wp_L_law_18 (n : Nat) (x3 : Int32) (M : Mem) (xs : Nat → Int32) (L : Nat) : Prop := match n with
  | 0 => False
  | n + 1 =>
  (((Int32.ofNat L) - (6 : Int32)) < x3 →
  True) ∧
  (¬ ((Int32.ofNat L) - (6 : Int32)) < x3 →
  inb x3 L ∧
  ((xs x3.toNatClampNeg) &&& (31 : Int32) = 0 →
  inb (x3 + (1 : Int32)) L ∧
  inb (x3 + (2 : Int32)) L ∧
  wp_X4_load 0 ((((xs (x3 + (1 : Int32)).toNatClampNeg).toInt64) <<< ((32 : Int32).toInt64 &&& 63)) ||| (((xs (x3 + (2 : Int32)).toNatClampNeg).toInt64) &&& (4294967295 : Int64))) M (fun (i128 : Int32) (M127 : Mem) =>
  inb (x3 + (1 : Int32)) L ∧
  inb (x3 + (2 : Int32)) L ∧
  wp_X5_load 69 ((((xs (x3 + (1 : Int32)).toNatClampNeg).toInt64) <<< ((32 : Int32).toInt64 &&& 63)) ||| (((xs (x3 + (2 : Int32)).toNatClampNeg).toInt64) &&& (4294967295 : Int64))) M127 (fun (i130 : Int32) (M129 : Mem) =>
  (i128 = i130 →
  wp_L_law_1359 x3 M129 xs L (fun (x3 : Int32) (M : Mem) => wp_L_law_18 n x3 M xs L)) ∧
  (¬ i128 = i130 →
  False)))) ∧
  ((xs x3.toNatClampNeg) &&& (31 : Int32) = 1 →
  inb (x3 + (1 : Int32)) L ∧
  inb (x3 + (2 : Int32)) L ∧
  inb (x3 + (3 : Int32)) L ∧
  inb (x3 + (4 : Int32)) L ∧
  inb (x3 + (5 : Int32)) L ∧
  wp_X4_fill 0 ((((xs (x3 + (1 : Int32)).toNatClampNeg).toInt64) <<< ((32 : Int32).toInt64 &&& 63)) ||| (((xs (x3 + (2 : Int32)).toNatClampNeg).toInt64) &&& (4294967295 : Int64))) ((((xs (x3 + (3 : Int32)).toNatClampNeg).toInt64) <<< ((32 : Int32).toInt64 &&& 63)) ||| (((xs (x3 + (4 : Int32)).toNatClampNeg).toInt64) &&& (4294967295 : Int64))) (xs (x3 + (5 : Int32)).toNatClampNeg) M (fun (i132 : Int32) (M131 : Mem) =>
  inb (x3 + (1 : Int32)) L ∧
  inb (x3 + (2 : Int32)) L ∧
  inb (x3 + (3 : Int32)) L ∧
  inb (x3 + (4 : Int32)) L ∧
  inb (x3 + (5 : Int32)) L ∧
  wp_X5_fill 69 ((((xs (x3 + (1 : Int32)).toNatClampNeg).toInt64) <<< ((32 : Int32).toInt64 &&& 63)) ||| (((xs (x3 + (2 : Int32)).toNatClampNeg).toInt64) &&& (4294967295 : Int64))) ((((xs (x3 + (3 : Int32)).toNatClampNeg).toInt64) <<< ((32 : Int32).toInt64 &&& 63)) ||| (((xs (x3 + (4 : Int32)).toNatClampNeg).toInt64) &&& (4294967295 : Int64))) (xs (x3 + (5 : Int32)).toNatClampNeg) M131 (fun (i134 : Int32) (M133 : Mem) =>
  (i132 = i134 →
  wp_L_law_1359 x3 M133 xs L (fun (x3 : Int32) (M : Mem) => wp_L_law_18 n x3 M xs L)) ∧
  (¬ i132 = i134 →
  False)))) ∧
  ((xs x3.toNatClampNeg) &&& (31 : Int32) = 2 →
  wp_X4_wipe 0 M (fun (i136 : Int32) (M135 : Mem) =>
  wp_X5_wipe 69 M135 (fun (i138 : Int32) (M137 : Mem) =>
  (i136 = i138 →
  wp_L_law_1359 x3 M137 xs L (fun (x3 : Int32) (M : Mem) => wp_L_law_18 n x3 M xs L)) ∧
  (¬ i136 = i138 →
  False)))) ∧
  ((xs x3.toNatClampNeg) &&& (31 : Int32) = 3 →
  inb (x3 + (1 : Int32)) L ∧
  wp_X4_margin 0 (xs (x3 + (1 : Int32)).toNatClampNeg) M (fun (i140 : Int32) (M139 : Mem) =>
  inb (x3 + (1 : Int32)) L ∧
  wp_X5_margin 69 (xs (x3 + (1 : Int32)).toNatClampNeg) M139 (fun (i142 : Int32) (M141 : Mem) =>
  (i140 = i142 →
  wp_L_law_1359 x3 M141 xs L (fun (x3 : Int32) (M : Mem) => wp_L_law_18 n x3 M xs L)) ∧
  (¬ i140 = i142 →
  False)))) ∧
  ((xs x3.toNatClampNeg) &&& (31 : Int32) = 4 →
  inb (x3 + (1 : Int32)) L ∧
  wp_X4_few 0 (xs (x3 + (1 : Int32)).toNatClampNeg) M (fun (i144 : Int32) (M143 : Mem) =>
  inb (x3 + (1 : Int32)) L ∧
  wp_X5_few 69 (xs (x3 + (1 : Int32)).toNatClampNeg) M143 (fun (i146 : Int32) (M145 : Mem) =>
  (i144 = i146 →
  wp_L_law_1359 x3 M145 xs L (fun (x3 : Int32) (M : Mem) => wp_L_law_18 n x3 M xs L)) ∧
  (¬ i144 = i146 →
  False)))) ∧
  ((xs x3.toNatClampNeg) &&& (31 : Int32) = 5 →
  inb (x3 + (1 : Int32)) L ∧
  inb (x3 + (2 : Int32)) L ∧
  inb (x3 + (3 : Int32)) L ∧
  inb (x3 + (4 : Int32)) L ∧
  wp_X4_passes 0 (xs (x3 + (1 : Int32)).toNatClampNeg) (xs (x3 + (2 : Int32)).toNatClampNeg) (xs (x3 + (3 : Int32)).toNatClampNeg) (xs (x3 + (4 : Int32)).toNatClampNeg) M (fun (i148 : Int32) (M147 : Mem) =>
  inb (x3 + (1 : Int32)) L ∧
  inb (x3 + (2 : Int32)) L ∧
  inb (x3 + (3 : Int32)) L ∧
  inb (x3 + (4 : Int32)) L ∧
  wp_X5_passes 69 (xs (x3 + (1 : Int32)).toNatClampNeg) (xs (x3 + (2 : Int32)).toNatClampNeg) (xs (x3 + (3 : Int32)).toNatClampNeg) (xs (x3 + (4 : Int32)).toNatClampNeg) M147 (fun (i150 : Int32) (M149 : Mem) =>
  (i148 = i150 →
  wp_L_law_1359 x3 M149 xs L (fun (x3 : Int32) (M : Mem) => wp_L_law_18 n x3 M xs L)) ∧
  (¬ i148 = i150 →
  False)))) ∧
  ((xs x3.toNatClampNeg) &&& (31 : Int32) = 6 →
  inb (x3 + (1 : Int32)) L ∧
  inb (x3 + (2 : Int32)) L ∧
  wp_X4_span 0 (xs (x3 + (1 : Int32)).toNatClampNeg) (xs (x3 + (2 : Int32)).toNatClampNeg) M (fun (i152 : Int32) (M151 : Mem) =>
  inb (x3 + (1 : Int32)) L ∧
  inb (x3 + (2 : Int32)) L ∧
  wp_X5_span 69 (xs (x3 + (1 : Int32)).toNatClampNeg) (xs (x3 + (2 : Int32)).toNatClampNeg) M151 (fun (i154 : Int32) (M153 : Mem) =>
  (i152 = i154 →
  wp_L_law_1359 x3 M153 xs L (fun (x3 : Int32) (M : Mem) => wp_L_law_18 n x3 M xs L)) ∧
  (¬ i152 = i154 →
  False)))) ∧
  ((xs x3.toNatClampNeg) &&& (31 : Int32) = 7 →
  inb (x3 + (1 : Int32)) L ∧
  wp_X4_build 0 (xs (x3 + (1 : Int32)).toNatClampNeg) M (fun (i156 : Int32) (M155 : Mem) =>
  inb (x3 + (1 : Int32)) L ∧
  wp_X5_build 69 (xs (x3 + (1 : Int32)).toNatClampNeg) M155 (fun (i158 : Int32) (M157 : Mem) =>
  (i156 = i158 →
  wp_L_law_1359 x3 M157 xs L (fun (x3 : Int32) (M : Mem) => wp_L_law_18 n x3 M xs L)) ∧
  (¬ i156 = i158 →
  False)))) ∧
  ((xs x3.toNatClampNeg) &&& (31 : Int32) = 8 →
  inb (x3 + (1 : Int32)) L ∧
  wp_X4_again 0 (xs (x3 + (1 : Int32)).toNatClampNeg) M (fun (i160 : Int32) (M159 : Mem) =>
  inb (x3 + (1 : Int32)) L ∧
  wp_X5_again 69 (xs (x3 + (1 : Int32)).toNatClampNeg) M159 (fun (i162 : Int32) (M161 : Mem) =>
  (i160 = i162 →
  wp_L_law_1359 x3 M161 xs L (fun (x3 : Int32) (M : Mem) => wp_L_law_18 n x3 M xs L)) ∧
  (¬ i160 = i162 →
  False)))) ∧
  ((xs x3.toNatClampNeg) &&& (31 : Int32) = 9 →
  wp_X4_clear 0 M (fun (i164 : Int32) (M163 : Mem) =>
  wp_X5_clear 69 M163 (fun (i166 : Int32) (M165 : Mem) =>
  (i164 = i166 →
  wp_L_law_1359 x3 M165 xs L (fun (x3 : Int32) (M : Mem) => wp_L_law_18 n x3 M xs L)) ∧
  (¬ i164 = i166 →
  False)))) ∧
  ((xs x3.toNatClampNeg) &&& (31 : Int32) = 10 →
  inb (x3 + (1 : Int32)) L ∧
  wp_X4_round 0 (xs (x3 + (1 : Int32)).toNatClampNeg) M (fun (i168 : Int32) (M167 : Mem) =>
  inb (x3 + (1 : Int32)) L ∧
  wp_X5_round 69 (xs (x3 + (1 : Int32)).toNatClampNeg) M167 (fun (i170 : Int32) (M169 : Mem) =>
  (i168 = i170 →
  wp_L_law_1359 x3 M169 xs L (fun (x3 : Int32) (M : Mem) => wp_L_law_18 n x3 M xs L)) ∧
  (¬ i168 = i170 →
  False)))) ∧
  ((xs x3.toNatClampNeg) &&& (31 : Int32) = 11 →
  inb (x3 + (1 : Int32)) L ∧
  wp_X4_merge 0 (xs (x3 + (1 : Int32)).toNatClampNeg) M (fun (i172 : Int32) (M171 : Mem) =>
  inb (x3 + (1 : Int32)) L ∧
  wp_X5_merge 69 (xs (x3 + (1 : Int32)).toNatClampNeg) M171 (fun (i174 : Int32) (M173 : Mem) =>
  (i172 = i174 →
  wp_L_law_1359 x3 M173 xs L (fun (x3 : Int32) (M : Mem) => wp_L_law_18 n x3 M xs L)) ∧
  (¬ i172 = i174 →
  False)))) ∧
  ((xs x3.toNatClampNeg) &&& (31 : Int32) = 12 →
  inb (x3 + (1 : Int32)) L ∧
  inb (x3 + (2 : Int32)) L ∧
  wp_X4_find 0 ((((xs (x3 + (1 : Int32)).toNatClampNeg).toInt64) <<< ((32 : Int32).toInt64 &&& 63)) ||| (((xs (x3 + (2 : Int32)).toNatClampNeg).toInt64) &&& (4294967295 : Int64))) M (fun (i176 : Int32) (M175 : Mem) =>
  inb (x3 + (1 : Int32)) L ∧
  inb (x3 + (2 : Int32)) L ∧
  wp_X5_find 69 ((((xs (x3 + (1 : Int32)).toNatClampNeg).toInt64) <<< ((32 : Int32).toInt64 &&& 63)) ||| (((xs (x3 + (2 : Int32)).toNatClampNeg).toInt64) &&& (4294967295 : Int64))) M175 (fun (i178 : Int32) (M177 : Mem) =>
  (i176 = i178 →
  wp_L_law_1359 x3 M177 xs L (fun (x3 : Int32) (M : Mem) => wp_L_law_18 n x3 M xs L)) ∧
  (¬ i176 = i178 →
  False)))) ∧
  ((xs x3.toNatClampNeg) &&& (31 : Int32) = 13 →
  inb (x3 + (1 : Int32)) L ∧
  inb (x3 + (2 : Int32)) L ∧
  wp_X4_insert 0 ((((xs (x3 + (1 : Int32)).toNatClampNeg).toInt64) <<< ((32 : Int32).toInt64 &&& 63)) ||| (((xs (x3 + (2 : Int32)).toNatClampNeg).toInt64) &&& (4294967295 : Int64))) M (fun (i180 : Int32) (M179 : Mem) =>
  inb (x3 + (1 : Int32)) L ∧
  inb (x3 + (2 : Int32)) L ∧
  wp_X5_insert 69 ((((xs (x3 + (1 : Int32)).toNatClampNeg).toInt64) <<< ((32 : Int32).toInt64 &&& 63)) ||| (((xs (x3 + (2 : Int32)).toNatClampNeg).toInt64) &&& (4294967295 : Int64))) M179 (fun (i182 : Int32) (M181 : Mem) =>
  (i180 = i182 →
  wp_L_law_1359 x3 M181 xs L (fun (x3 : Int32) (M : Mem) => wp_L_law_18 n x3 M xs L)) ∧
  (¬ i180 = i182 →
  False)))) ∧
  ((xs x3.toNatClampNeg) &&& (31 : Int32) = 14 →
  inb (x3 + (1 : Int32)) L ∧
  inb (x3 + (2 : Int32)) L ∧
  wp_X4_drop 0 ((((xs (x3 + (1 : Int32)).toNatClampNeg).toInt64) <<< ((32 : Int32).toInt64 &&& 63)) ||| (((xs (x3 + (2 : Int32)).toNatClampNeg).toInt64) &&& (4294967295 : Int64))) M (fun (i184 : Int32) (M183 : Mem) =>
  inb (x3 + (1 : Int32)) L ∧
  inb (x3 + (2 : Int32)) L ∧
  wp_X5_drop 69 ((((xs (x3 + (1 : Int32)).toNatClampNeg).toInt64) <<< ((32 : Int32).toInt64 &&& 63)) ||| (((xs (x3 + (2 : Int32)).toNatClampNeg).toInt64) &&& (4294967295 : Int64))) M183 (fun (i186 : Int32) (M185 : Mem) =>
  (i184 = i186 →
  wp_L_law_1359 x3 M185 xs L (fun (x3 : Int32) (M : Mem) => wp_L_law_18 n x3 M xs L)) ∧
  (¬ i184 = i186 →
  False)))) ∧
  ((xs x3.toNatClampNeg) &&& (31 : Int32) = 15 →
  inb (x3 + (1 : Int32)) L ∧
  wp_X4_at 0 (xs (x3 + (1 : Int32)).toNatClampNeg) M (fun (j188 : Int64) (M187 : Mem) =>
  inb (x3 + (1 : Int32)) L ∧
  wp_X5_at 69 (xs (x3 + (1 : Int32)).toNatClampNeg) M187 (fun (j190 : Int64) (M189 : Mem) =>
  (j188 = j190 →
  wp_L_law_1359 x3 M189 xs L (fun (x3 : Int32) (M : Mem) => wp_L_law_18 n x3 M xs L)) ∧
  (¬ j188 = j190 →
  False)))) ∧
  ((xs x3.toNatClampNeg) &&& (31 : Int32) = 16 →
  inb (x3 + (1 : Int32)) L ∧
  inb (x3 + (2 : Int32)) L ∧
  wp_X4_below 0 ((((xs (x3 + (1 : Int32)).toNatClampNeg).toInt64) <<< ((32 : Int32).toInt64 &&& 63)) ||| (((xs (x3 + (2 : Int32)).toNatClampNeg).toInt64) &&& (4294967295 : Int64))) M (fun (i192 : Int32) (M191 : Mem) =>
  inb (x3 + (1 : Int32)) L ∧
  inb (x3 + (2 : Int32)) L ∧
  wp_X5_below 69 ((((xs (x3 + (1 : Int32)).toNatClampNeg).toInt64) <<< ((32 : Int32).toInt64 &&& 63)) ||| (((xs (x3 + (2 : Int32)).toNatClampNeg).toInt64) &&& (4294967295 : Int64))) M191 (fun (i194 : Int32) (M193 : Mem) =>
  (i192 = i194 →
  wp_L_law_1359 x3 M193 xs L (fun (x3 : Int32) (M : Mem) => wp_L_law_18 n x3 M xs L)) ∧
  (¬ i192 = i194 →
  False)))) ∧
  ((xs x3.toNatClampNeg) &&& (31 : Int32) = 17 →
  inb (x3 + (1 : Int32)) L ∧
  inb (x3 + (2 : Int32)) L ∧
  wp_X4_above 0 ((((xs (x3 + (1 : Int32)).toNatClampNeg).toInt64) <<< ((32 : Int32).toInt64 &&& 63)) ||| (((xs (x3 + (2 : Int32)).toNatClampNeg).toInt64) &&& (4294967295 : Int64))) M (fun (j196 : Int64) (M195 : Mem) =>
  inb (x3 + (1 : Int32)) L ∧
  inb (x3 + (2 : Int32)) L ∧
  wp_X5_above 69 ((((xs (x3 + (1 : Int32)).toNatClampNeg).toInt64) <<< ((32 : Int32).toInt64 &&& 63)) ||| (((xs (x3 + (2 : Int32)).toNatClampNeg).toInt64) &&& (4294967295 : Int64))) M195 (fun (j198 : Int64) (M197 : Mem) =>
  (j196 = j198 →
  wp_L_law_1359 x3 M197 xs L (fun (x3 : Int32) (M : Mem) => wp_L_law_18 n x3 M xs L)) ∧
  (¬ j196 = j198 →
  False)))) ∧
  ((xs x3.toNatClampNeg) &&& (31 : Int32) = 18 →
  inb (x3 + (1 : Int32)) L ∧
  inb (x3 + (2 : Int32)) L ∧
  inb (x3 + (3 : Int32)) L ∧
  inb (x3 + (4 : Int32)) L ∧
  wp_X4_between 0 ((((xs (x3 + (1 : Int32)).toNatClampNeg).toInt64) <<< ((32 : Int32).toInt64 &&& 63)) ||| (((xs (x3 + (2 : Int32)).toNatClampNeg).toInt64) &&& (4294967295 : Int64))) ((((xs (x3 + (3 : Int32)).toNatClampNeg).toInt64) <<< ((32 : Int32).toInt64 &&& 63)) ||| (((xs (x3 + (4 : Int32)).toNatClampNeg).toInt64) &&& (4294967295 : Int64))) M (fun (i200 : Int32) (M199 : Mem) =>
  inb (x3 + (1 : Int32)) L ∧
  inb (x3 + (2 : Int32)) L ∧
  inb (x3 + (3 : Int32)) L ∧
  inb (x3 + (4 : Int32)) L ∧
  wp_X5_between 69 ((((xs (x3 + (1 : Int32)).toNatClampNeg).toInt64) <<< ((32 : Int32).toInt64 &&& 63)) ||| (((xs (x3 + (2 : Int32)).toNatClampNeg).toInt64) &&& (4294967295 : Int64))) ((((xs (x3 + (3 : Int32)).toNatClampNeg).toInt64) <<< ((32 : Int32).toInt64 &&& 63)) ||| (((xs (x3 + (4 : Int32)).toNatClampNeg).toInt64) &&& (4294967295 : Int64))) M199 (fun (i202 : Int32) (M201 : Mem) =>
  (i200 = i202 →
  wp_L_law_1359 x3 M201 xs L (fun (x3 : Int32) (M : Mem) => wp_L_law_18 n x3 M xs L)) ∧
  (¬ i200 = i202 →
  False)))) ∧
  ((xs x3.toNatClampNeg) &&& (31 : Int32) = 19 →
  wp_X4_layers 0 M (fun (i204 : Int32) (M203 : Mem) =>
  wp_X5_layers 69 M203 (fun (i206 : Int32) (M205 : Mem) =>
  (i204 = i206 →
  wp_L_law_1359 x3 M205 xs L (fun (x3 : Int32) (M : Mem) => wp_L_law_18 n x3 M xs L)) ∧
  (¬ i204 = i206 →
  False)))) ∧
  ((xs x3.toNatClampNeg) &&& (31 : Int32) = 20 →
  inb (x3 + (1 : Int32)) L ∧
  wp_X4_pieces 0 (xs (x3 + (1 : Int32)).toNatClampNeg) M (fun (i208 : Int32) (M207 : Mem) =>
  inb (x3 + (1 : Int32)) L ∧
  wp_X5_pieces_ 69 (xs (x3 + (1 : Int32)).toNatClampNeg) M207 (fun (i210 : Int32) (M209 : Mem) =>
  (i208 = i210 →
  wp_L_law_1359 x3 M209 xs L (fun (x3 : Int32) (M : Mem) => wp_L_law_18 n x3 M xs L)) ∧
  (¬ i208 = i210 →
  False)))) ∧
  ((xs x3.toNatClampNeg) &&& (31 : Int32) = 21 →
  inb (x3 + (1 : Int32)) L ∧
  inb (x3 + (2 : Int32)) L ∧
  inb (x3 + (3 : Int32)) L ∧
  wp_X4_piece 0 (xs (x3 + (1 : Int32)).toNatClampNeg) (xs (x3 + (2 : Int32)).toNatClampNeg) (xs (x3 + (3 : Int32)).toNatClampNeg) M (fun (i212 : Int32) (M211 : Mem) =>
  inb (x3 + (1 : Int32)) L ∧
  inb (x3 + (2 : Int32)) L ∧
  inb (x3 + (3 : Int32)) L ∧
  wp_X5_piece 69 (xs (x3 + (1 : Int32)).toNatClampNeg) (xs (x3 + (2 : Int32)).toNatClampNeg) (xs (x3 + (3 : Int32)).toNatClampNeg) M211 (fun (i214 : Int32) (M213 : Mem) =>
  (i212 = i214 →
  wp_L_law_1359 x3 M213 xs L (fun (x3 : Int32) (M : Mem) => wp_L_law_18 n x3 M xs L)) ∧
  (¬ i212 = i214 →
  False)))) ∧
  ((xs x3.toNatClampNeg) &&& (31 : Int32) = 22 →
  inb (x3 + (1 : Int32)) L ∧
  inb (x3 + (2 : Int32)) L ∧
  inb (x3 + (3 : Int32)) L ∧
  wp_X4_line 0 (xs (x3 + (1 : Int32)).toNatClampNeg) (xs (x3 + (2 : Int32)).toNatClampNeg) (xs (x3 + (3 : Int32)).toNatClampNeg) M (fun (j216 : Int64) (M215 : Mem) =>
  inb (x3 + (1 : Int32)) L ∧
  inb (x3 + (2 : Int32)) L ∧
  inb (x3 + (3 : Int32)) L ∧
  wp_X5_line 69 (xs (x3 + (1 : Int32)).toNatClampNeg) (xs (x3 + (2 : Int32)).toNatClampNeg) (xs (x3 + (3 : Int32)).toNatClampNeg) M215 (fun (j218 : Int64) (M217 : Mem) =>
  (j216 = j218 →
  wp_L_law_1359 x3 M217 xs L (fun (x3 : Int32) (M : Mem) => wp_L_law_18 n x3 M xs L)) ∧
  (¬ j216 = j218 →
  False)))) ∧
  ((xs x3.toNatClampNeg) &&& (31 : Int32) = 23 →
  inb (x3 + (1 : Int32)) L ∧
  inb (x3 + (2 : Int32)) L ∧
  inb (x3 + (3 : Int32)) L ∧
  inb (x3 + (4 : Int32)) L ∧
  wp_X4_guess 0 (xs (x3 + (1 : Int32)).toNatClampNeg) (xs (x3 + (2 : Int32)).toNatClampNeg) ((((xs (x3 + (3 : Int32)).toNatClampNeg).toInt64) <<< ((32 : Int32).toInt64 &&& 63)) ||| (((xs (x3 + (4 : Int32)).toNatClampNeg).toInt64) &&& (4294967295 : Int64))) M (fun (i220 : Int32) (M219 : Mem) =>
  inb (x3 + (1 : Int32)) L ∧
  inb (x3 + (2 : Int32)) L ∧
  inb (x3 + (3 : Int32)) L ∧
  inb (x3 + (4 : Int32)) L ∧
  wp_X5_guess 69 (xs (x3 + (1 : Int32)).toNatClampNeg) (xs (x3 + (2 : Int32)).toNatClampNeg) ((((xs (x3 + (3 : Int32)).toNatClampNeg).toInt64) <<< ((32 : Int32).toInt64 &&& 63)) ||| (((xs (x3 + (4 : Int32)).toNatClampNeg).toInt64) &&& (4294967295 : Int64))) M219 (fun (i222 : Int32) (M221 : Mem) =>
  (i220 = i222 →
  wp_L_law_1359 x3 M221 xs L (fun (x3 : Int32) (M : Mem) => wp_L_law_18 n x3 M xs L)) ∧
  (¬ i220 = i222 →
  False)))) ∧
  ((xs x3.toNatClampNeg) &&& (31 : Int32) = 24 →
  inb (x3 + (1 : Int32)) L ∧
  inb (x3 + (2 : Int32)) L ∧
  wp_X4_bits 0 (xs (x3 + (1 : Int32)).toNatClampNeg) (xs (x3 + (2 : Int32)).toNatClampNeg) M (fun (j224 : Int64) (M223 : Mem) =>
  inb (x3 + (1 : Int32)) L ∧
  inb (x3 + (2 : Int32)) L ∧
  wp_X5_bits 69 (xs (x3 + (1 : Int32)).toNatClampNeg) (xs (x3 + (2 : Int32)).toNatClampNeg) M223 (fun (j226 : Int64) (M225 : Mem) =>
  (j224 = j226 →
  wp_L_law_1359 x3 M225 xs L (fun (x3 : Int32) (M : Mem) => wp_L_law_18 n x3 M xs L)) ∧
  (¬ j224 = j226 →
  False)))) ∧
  ((xs x3.toNatClampNeg) &&& (31 : Int32) = 25 →
  inb (x3 + (1 : Int32)) L ∧
  inb (x3 + (2 : Int32)) L ∧
  inb (x3 + (3 : Int32)) L ∧
  ((xs (x3 + (3 : Int32)).toNatClampNeg) = 0 →
  wp_L_law_1211 x3 (0 : Int32) (xs (x3 + (2 : Int32)).toNatClampNeg) (xs (x3 + (1 : Int32)).toNatClampNeg) 0 M xs L (fun (x3 : Int32) (M : Mem) => wp_L_law_18 n x3 M xs L)) ∧
  (¬ (xs (x3 + (3 : Int32)).toNatClampNeg) = 0 →
  wp_L_law_1211 x3 (1 : Int32) (xs (x3 + (2 : Int32)).toNatClampNeg) (xs (x3 + (1 : Int32)).toNatClampNeg) 0 M xs L (fun (x3 : Int32) (M : Mem) => wp_L_law_18 n x3 M xs L))) ∧
  ((xs x3.toNatClampNeg) &&& (31 : Int32) = 26 →
  wp_X4_looks 0 M (fun (i228 : Int32) (M227 : Mem) =>
  wp_X5_looks 69 M227 (fun (i230 : Int32) (M229 : Mem) =>
  (i228 = i230 →
  wp_L_law_1359 x3 M229 xs L (fun (x3 : Int32) (M : Mem) => wp_L_law_18 n x3 M xs L)) ∧
  (¬ i228 = i230 →
  False)))) ∧
  ((xs x3.toNatClampNeg) &&& (31 : Int32) = 27 →
  inb (x3 + (1 : Int32)) L ∧
  wp_X4_told 0 (xs (x3 + (1 : Int32)).toNatClampNeg) M (fun (i232 : Int32) (M231 : Mem) =>
  inb (x3 + (1 : Int32)) L ∧
  wp_X5_told 69 (xs (x3 + (1 : Int32)).toNatClampNeg) M231 (fun (i234 : Int32) (M233 : Mem) =>
  (i232 = i234 →
  wp_L_law_1359 x3 M233 xs L (fun (x3 : Int32) (M : Mem) => wp_L_law_18 n x3 M xs L)) ∧
  (¬ i232 = i234 →
  False)))) ∧
  ((xs x3.toNatClampNeg) &&& (31 : Int32) = 28 →
  inb (x3 + (1 : Int32)) L ∧
  inb (x3 + (2 : Int32)) L ∧
  wp_X4_check 0 ((((xs (x3 + (1 : Int32)).toNatClampNeg).toInt64) <<< ((32 : Int32).toInt64 &&& 63)) ||| (((xs (x3 + (2 : Int32)).toNatClampNeg).toInt64) &&& (4294967295 : Int64))) M (fun (i236 : Int32) (M235 : Mem) =>
  inb (x3 + (1 : Int32)) L ∧
  inb (x3 + (2 : Int32)) L ∧
  wp_X5_check 69 ((((xs (x3 + (1 : Int32)).toNatClampNeg).toInt64) <<< ((32 : Int32).toInt64 &&& 63)) ||| (((xs (x3 + (2 : Int32)).toNatClampNeg).toInt64) &&& (4294967295 : Int64))) M235 (fun (i238 : Int32) (M237 : Mem) =>
  (i236 = i238 →
  wp_L_law_1359 x3 M237 xs L (fun (x3 : Int32) (M : Mem) => wp_L_law_18 n x3 M xs L)) ∧
  (¬ i236 = i238 →
  False)))) ∧
  ((xs x3.toNatClampNeg) &&& (31 : Int32) = 29 →
  inb (x3 + (1 : Int32)) L ∧
  wp_X4_count 0 (xs (x3 + (1 : Int32)).toNatClampNeg) M (fun (i240 : Int32) (M239 : Mem) =>
  inb (x3 + (1 : Int32)) L ∧
  wp_X5_count 69 (xs (x3 + (1 : Int32)).toNatClampNeg) M239 (fun (i242 : Int32) (M241 : Mem) =>
  (i240 = i242 →
  wp_L_law_1359 x3 M241 xs L (fun (x3 : Int32) (M : Mem) => wp_L_law_18 n x3 M xs L)) ∧
  (¬ i240 = i242 →
  False)))) ∧
  (¬ (xs x3.toNatClampNeg) &&& (31 : Int32) = 0 → ¬ (xs x3.toNatClampNeg) &&& (31 : Int32) = 1 → ¬ (xs x3.toNatClampNeg) &&& (31 : Int32) = 2 → ¬ (xs x3.toNatClampNeg) &&& (31 : Int32) = 3 → ¬ (xs x3.toNatClampNeg) &&& (31 : Int32) = 4 → ¬ (xs x3.toNatClampNeg) &&& (31 : Int32) = 5 → ¬ (xs x3.toNatClampNeg) &&& (31 : Int32) = 6 → ¬ (xs x3.toNatClampNeg) &&& (31 : Int32) = 7 → ¬ (xs x3.toNatClampNeg) &&& (31 : Int32) = 8 → ¬ (xs x3.toNatClampNeg) &&& (31 : Int32) = 9 → ¬ (xs x3.toNatClampNeg) &&& (31 : Int32) = 10 → ¬ (xs x3.toNatClampNeg) &&& (31 : Int32) = 11 → ¬ (xs x3.toNatClampNeg) &&& (31 : Int32) = 12 → ¬ (xs x3.toNatClampNeg) &&& (31 : Int32) = 13 → ¬ (xs x3.toNatClampNeg) &&& (31 : Int32) = 14 → ¬ (xs x3.toNatClampNeg) &&& (31 : Int32) = 15 → ¬ (xs x3.toNatClampNeg) &&& (31 : Int32) = 16 → ¬ (xs x3.toNatClampNeg) &&& (31 : Int32) = 17 → ¬ (xs x3.toNatClampNeg) &&& (31 : Int32) = 18 → ¬ (xs x3.toNatClampNeg) &&& (31 : Int32) = 19 → ¬ (xs x3.toNatClampNeg) &&& (31 : Int32) = 20 → ¬ (xs x3.toNatClampNeg) &&& (31 : Int32) = 21 → ¬ (xs x3.toNatClampNeg) &&& (31 : Int32) = 22 → ¬ (xs x3.toNatClampNeg) &&& (31 : Int32) = 23 → ¬ (xs x3.toNatClampNeg) &&& (31 : Int32) = 24 → ¬ (xs x3.toNatClampNeg) &&& (31 : Int32) = 25 → ¬ (xs x3.toNatClampNeg) &&& (31 : Int32) = 26 → ¬ (xs x3.toNatClampNeg) &&& (31 : Int32) = 27 → ¬ (xs x3.toNatClampNeg) &&& (31 : Int32) = 28 → ¬ (xs x3.toNatClampNeg) &&& (31 : Int32) = 29 →
  wp_L_law_1359 x3 M xs L (fun (x3 : Int32) (M : Mem) => wp_L_law_18 n x3 M xs L)))
