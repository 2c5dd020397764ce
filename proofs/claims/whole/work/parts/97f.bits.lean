/-! ===== the bits of a double, by arithmetic alone ===== -/
/-- a normal double: its sign, digits, exponent -/
def Vn (v : UInt64) (s : Bool) (c : Nat) (q : Int) : Prop := FP.Core.val64 v = .fin s c q ∧ 4503599627370496 ≤ c ∧ c < 9007199254740992 ∧ -1074 ≤ q ∧ q ≤ 971
theorem b64_p : (2 : Nat) ^ FP.Core.b64.p = 9007199254740992 := by decide
theorem b64_qmax : FP.Core.b64.qmax = 971 := by decide
theorem b64_tails : FP.Core.b64.tails = 4503599627370496 := by decide
theorem fits_n {s : Bool} {c : Nat} {q : Int} (h1 : 4503599627370496 ≤ c) (h2 : c < 9007199254740992) (h3 : -1074 ≤ q) (h4 : q ≤ 971) : FP.Core.fits FP.Core.b64 (.fin s c q) :=
  ⟨by rw [b64_p]; exact h2, by rw [FP.Core.qmin_b64]; exact h3, by rw [b64_qmax]; exact h4, Or.inr (by rw [b64_tails]; exact h1)⟩
theorem Vn.of {v : UInt64} {s : Bool} {c : Nat} {q : Int} (h : FP.Core.val64 v = .fin s c q) (hc : 4503599627370496 ≤ c) : Vn v s c q := by
  have hf := FP.Core.val64_fits v
  rw [h] at hf
  obtain ⟨h1, h2, h3, -⟩ := hf
  rw [b64_p] at h1
  rw [FP.Core.qmin_b64] at h2
  rw [b64_qmax] at h3
  exact ⟨h, hc, h1, h2, h3⟩
theorem Vn.nn {v : UInt64} {s : Bool} {c : Nat} {q : Int} (h : Vn v s c q) : nn v := by
  intro e
  rw [h.1] at e
  cases e
theorem Vn_two : Vn 4611686018427387904 false 4503599627370496 (-51) := ⟨by decide +kernel, by decide, by decide, by decide, by decide⟩
theorem Vn_one : Vn FP.dconst1 false 4503599627370496 (-52) := ⟨by decide +kernel, by decide, by decide, by decide, by decide⟩
theorem Vn_t52 : Vn 4841369599423283200 false 4503599627370496 0 := ⟨by decide +kernel, by decide, by decide, by decide, by decide⟩
theorem quo_eq {s t : Bool} {c d : Nat} {q r : Int} (h : d ≠ 0) : FP.Core.quotient FP.Core.b64 (.fin s c q) (.fin t d r) = FP.Core.roundRatio FP.Core.b64 (s != t) c d (q - r) := by
  show (if d = 0 then (if c = 0 then FP.Core.Datum.nan else .inf (s != t)) else FP.Core.roundRatio FP.Core.b64 (s != t) c d (q - r)) = _
  rw [if_neg h]
theorem p52 : (2 : Nat) ^ 52 = 4503599627370496 := by decide
theorem Vn.half {v : UInt64} {c : Nat} {q : Int} (h : Vn v false c q) (hq : -1073 ≤ q) : Vn (FP.ddiv v 4611686018427387904) false c (q - 1) := by
  obtain ⟨hv, h1, h2, h3, h4⟩ := h
  refine ⟨?_, h1, h2, by omega, by omega⟩
  have e : FP.Core.val64 (FP.ddiv v 4611686018427387904) = FP.Core.quotient FP.Core.b64 (FP.Core.val64 v) (FP.Core.val64 4611686018427387904) := FP.Core.val64_ddiv _ _
  rw [e, hv, Vn_two.1, quo_eq (by decide)]
  refine FP.Core.roundRatio_exact (s := false) FP.Core.good_b64 (by decide) (fits_n h1 h2 (by omega) (by omega)) ?_
  rw [show (q - -51 - (q - 1)).toNat = 52 by omega, show (q - 1 - (q - -51)).toNat = 0 by omega, p52, Nat.pow_zero, Nat.mul_one]
theorem Vn.dbl {v : UInt64} {c : Nat} {q : Int} (h : Vn v false c q) (hq : q ≤ 970) : Vn (FP.dmul v 4611686018427387904) false c (q + 1) := by
  obtain ⟨hv, h1, h2, h3, h4⟩ := h
  refine ⟨?_, h1, h2, by omega, by omega⟩
  have e : FP.Core.val64 (FP.dmul v 4611686018427387904) = FP.Core.round FP.Core.b64 (FP.Core.exactProduct (FP.Core.val64 v) (FP.Core.val64 4611686018427387904)) := FP.Core.val64_dmul _ _
  rw [e, hv, Vn_two.1]
  show FP.Core.roundRatio FP.Core.b64 (false != false) (c * 4503599627370496) 1 (q + -51) = _
  refine FP.Core.roundRatio_exact (s := false) FP.Core.good_b64 (by decide) (fits_n h1 h2 (by omega) (by omega)) ?_
  rw [show (q + -51 - (q + 1)).toNat = 0 by omega, show (q + 1 - (q + -51)).toNat = 52 by omega, p52, Nat.pow_zero, Nat.mul_one, Nat.mul_one]
theorem zv_n {v : UInt64} {s : Bool} {c : Nat} {q : Int} (h : Vn v s c q) : zv v = FP.Core.signed s (c * 2 ^ (q + 1074).toNat) := by
  unfold zv
  rw [h.1]
  show FP.Core.signed s (c * 2 ^ (q - FP.Core.b64.qmin).toNat) = _
  rw [FP.Core.qmin_b64, show q - -1074 = q + 1074 by omega]
theorem zv_p {v : UInt64} {c : Nat} {q : Int} (h : Vn v false c q) : zv v = ((c * 2 ^ (q + 1074).toNat : Nat) : Int) := by
  rw [zv_n h]; rfl
theorem Vn.lt {v w : UInt64} {c : Nat} {q r : Int} (h : Vn v false c q) (h' : Vn w false 4503599627370496 r) (hq : q < r) : zv v < zv w := by
  rw [zv_p h, zv_p h']
  refine Int.ofNat_lt.mpr ?_
  obtain ⟨-, h1, h2, h3, h4⟩ := h
  have a1 : 2 ^ (q + 1074).toNat ≤ 2 ^ ((r + 1074).toNat - 1) := Nat.pow_le_pow_right (by decide) (by omega)
  have a2 : c * 2 ^ (q + 1074).toNat ≤ c * 2 ^ ((r + 1074).toNat - 1) := Nat.mul_le_mul_left c a1
  have a3 : 0 < 2 ^ ((r + 1074).toNat - 1) := Nat.two_pow_pos _
  have a5 : 2 ^ (r + 1074).toNat = 2 ^ ((r + 1074).toNat - 1) * 2 := by rw [← Nat.pow_succ]; congr 1; omega
  rw [a5]
  generalize 2 ^ ((r + 1074).toNat - 1) = X at *
  have a4 : c * X < 9007199254740992 * X := Nat.mul_lt_mul_of_pos_right h2 a3
  generalize c * 2 ^ (q + 1074).toNat = Y at *
  generalize c * X = Z at *
  omega
theorem Vn.ge {v w : UInt64} {c : Nat} {q r : Int} (h : Vn v false c q) (h' : Vn w false 4503599627370496 r) (hq : r ≤ q) : zv w ≤ zv v := by
  rw [zv_p h, zv_p h']
  exact Int.ofNat_le.mpr (Nat.mul_le_mul h.2.1 (Nat.pow_le_pow_right (by decide) (by omega)))
theorem cmp_ge {a b : UInt64} (op : CmpOp) (ha : nn a) (hb : nn b) (h : zv b ≤ zv a) : 0 ≤ (Op.cmpValue (FP.dcmp a b) op).toInt := by
  rcases Int.lt_or_eq_of_le h with h | h
  · rw [cmp_gt op ha hb h]; decide
  · rw [cmp_eq op ha hb h.symm]; decide
theorem c_bits_24 {M : Im} {x0 : UInt64} {c : Nat} {Q : Int → Im → Prop} {K : UInt64 → UInt64 → Int → Im → Prop} : ∀ (d : Nat) {v : UInt64} {q p : Int}, Vn v false c q → (q + 52).toNat ≤ d → 0 ≤ p → p ≤ 1023 → p + q ≤ 971 → (∀ v' q' p', Vn v' false c q' → q' ≤ -52 → p' + q' = p + q → p' ≤ 1023 → K x0 v' p' M) → sp_X4_bitsOf_24 (d + 1) x0 v p M Q K := by
  intro d
  induction d with
  | zero =>
    intro v q p h hd hp hp1 hpq hQ
    have hlt := cmp_lt CmpOp.l h.nn Vn_two.nn (h.lt Vn_two (by omega))
    have := h.2.2.2
    unfold sp_X4_bitsOf_24
    rw [hlt]
    exact ⟨fun _ => hQ v q p h (by omega) rfl (by omega), fun h' => by omega⟩
  | succ d ih =>
    intro v q p h hd hp hp1 hpq hQ
    have hb := h.2.2.2
    unfold sp_X4_bitsOf_24
    by_cases c1 : q ≤ -52
    · have hlt := cmp_lt CmpOp.l h.nn Vn_two.nn (h.lt Vn_two (by omega))
      rw [hlt]
      exact ⟨fun _ => hQ v q p h (by omega) rfl (by omega), fun h' => by omega⟩
    · have hge := cmp_ge CmpOp.l h.nn Vn_two.nn (h.ge Vn_two (by omega))
      refine ⟨fun h' => by omega, fun _ => ⟨fun h' => by omega, fun _ => ?_⟩⟩
      intro f1 e1
      have h1 := h.half (by omega)
      have e1 := alike_eq h1.nn e1
      subst e1
      refine ⟨by omega, ?_⟩
      rintro i2 rfl
      exact ih h1 (by omega) (by omega) (by omega) (by omega) fun v' q' p' a b c2 d2 => hQ v' q' p' a b (by omega) d2
theorem c_bits_52 {M : Im} {x0 : UInt64} {c : Nat} {Q : Int → Im → Prop} {K : UInt64 → UInt64 → Int → Im → Prop} : ∀ (d : Nat) {v : UInt64} {q p : Int}, Vn v false c q → q ≤ -52 → (-52 - q).toNat ≤ d → -1074 ≤ p + q → p ≤ 1023 → (∀ v', Vn v' false c (-52) → K x0 v' (p + q + 52) M) → sp_X4_bitsOf_52 (d + 1) x0 v p M Q K := by
  intro d
  induction d with
  | zero =>
    intro v q p h hq hd hp hp2 hQ
    obtain rfl : q = -52 := by omega
    have hge := cmp_ge CmpOp.g h.nn Vn_one.nn (h.ge Vn_one (by omega))
    have := hQ v h
    rw [show p + -52 + 52 = p by omega] at this
    unfold sp_X4_bitsOf_52
    exact ⟨fun _ => this, fun h' => by omega⟩
  | succ d ih =>
    intro v q p h hq hd hp hp2 hQ
    unfold sp_X4_bitsOf_52
    by_cases c1 : q = -52
    · subst c1
      have hge := cmp_ge CmpOp.g h.nn Vn_one.nn (h.ge Vn_one (by omega))
      have := hQ v h
      rw [show p + -52 + 52 = p by omega] at this
      exact ⟨fun _ => this, fun h' => by omega⟩
    · have hlt := cmp_lt CmpOp.g h.nn Vn_one.nn (h.lt Vn_one (by omega))
      rw [hlt]
      refine ⟨fun h' => by omega, fun _ => ⟨fun h' => by omega, fun _ => ?_⟩⟩
      intro f3 e3
      have h1 := h.dbl (by omega)
      have e3 := alike_eq h1.nn e3
      subst e3
      refine ⟨by omega, ?_⟩
      rintro i4 rfl
      refine ih h1 (by omega) (by omega) (by omega) (by omega) fun v' a => ?_
      rw [show p + -1 + (q + 1) + 52 = p + q + 52 by omega]
      exact hQ v' a
/-- what lies behind the point -/
theorem frac_val {v : UInt64} {c : Nat} (h : Vn v false c (-52)) : nn (FP.dsub v FP.dconst1) ∧ nn (FP.dmul (FP.dsub v FP.dconst1) 4841369599423283200) ∧ (FP.d2l (FP.dmul (FP.dsub v FP.dconst1) 4841369599423283200)).toInt = (c : Int) - 4503599627370496 := by
  obtain ⟨hv, h1, h2, -, -⟩ := h
  obtain ⟨t, rfl⟩ : ∃ t, c = 4503599627370496 + t := ⟨c - 4503599627370496, by omega⟩
  have e1 : FP.Core.val64 (FP.dsub v FP.dconst1) = FP.Core.round FP.Core.b64 (FP.Core.exactSum (FP.Core.val64 v) (FP.Core.negate (FP.Core.val64 FP.dconst1))) := FP.Core.val64_dsub _ _
  have eu : FP.Core.sumUnits false (4503599627370496 + t) (-52) true 4503599627370496 (-52) (min (-52) (-52)) = (t : Int) := by
    show ((((4503599627370496 + t) * 2 ^ ((-52 : Int) - min (-52) (-52)).toNat : Nat) : Int)) + -((4503599627370496 * 2 ^ ((-52 : Int) - min (-52) (-52)).toNat : Nat) : Int) = t
    rw [show ((-52 : Int) - min (-52) (-52)).toNat = 0 by decide, Nat.pow_zero]
    omega
  have es : FP.Core.sumSign false true (t : Int) = false := by
    unfold FP.Core.sumSign
    split
    · rfl
    · exact decide_eq_false (by omega)
  have ex : FP.Core.exactSum (.fin false (4503599627370496 + t) (-52)) (FP.Core.negate (.fin false 4503599627370496 (-52))) = .fin false t (-52) := by
    show FP.Core.Datum.fin (FP.Core.sumSign false true (FP.Core.sumUnits false (4503599627370496 + t) (-52) true 4503599627370496 (-52) (min (-52) (-52)))) (FP.Core.sumUnits false (4503599627370496 + t) (-52) true 4503599627370496 (-52) (min (-52) (-52))).natAbs (min (-52) (-52)) = _
    rw [eu, es]
    rfl
  rw [hv, Vn_one.1, ex] at e1
  obtain ⟨c', q', hr, hu⟩ := FP.Core.round_exact FP.Core.good_b64 false (c := t) (q := -52) (by rw [b64_p]; omega) (by rw [FP.Core.qmin_b64]; decide) (by rw [b64_qmax]; decide)
  rw [hr] at e1
  have n1 : nn (FP.dsub v FP.dconst1) := fun e => by rw [e1] at e; cases e
  have hf := FP.Core.val64_fits (FP.dsub v FP.dconst1)
  rw [e1] at hf
  have hq := hf.2.1
  rw [FP.Core.qmin_b64] at hq hu
  have e2 : FP.Core.val64 (FP.dmul (FP.dsub v FP.dconst1) 4841369599423283200) = FP.Core.round FP.Core.b64 (FP.Core.exactProduct (FP.Core.val64 (FP.dsub v FP.dconst1)) (FP.Core.val64 4841369599423283200)) := FP.Core.val64_dmul _ _
  rw [e1, Vn_t52.1] at e2
  have hu : c' * 2 ^ (q' - -1074).toNat = t * 2 ^ ((-52 : Int) - -1074).toNat := hu
  rw [show ((-52 : Int) - -1074).toNat = 1022 by decide] at hu
  have hw : FP.Core.Whole (t : Int) (FP.Core.exactProduct (.fin false c' q') (.fin false 4503599627370496 0)) := by
    show ((c' * 4503599627370496 * 2 ^ (q' + 0).toNat : Nat) : Int) = (t : Int) * ((2 ^ (-(q' + 0)).toNat : Nat) : Int)
    rw [Int.add_zero, ← Int.natCast_mul]
    refine congrArg (fun n : Nat => (n : Int)) ?_
    refine Nat.eq_of_mul_eq_mul_right (Nat.two_pow_pos 1022) ?_
    have a1 : c' * 4503599627370496 * 2 ^ q'.toNat * 2 ^ 1022 = c' * 2 ^ (q' - -1074).toNat * 2 ^ (-q').toNat := by
      rw [← p52, Nat.mul_assoc, Nat.mul_assoc, Nat.mul_assoc, ← Nat.pow_add, ← Nat.pow_add, ← Nat.pow_add]
      congr 2; omega
    rw [a1, hu, Nat.mul_right_comm]
  have hd : FP.Core.DInt (t : Int) (FP.dmul (FP.dsub v FP.dconst1) 4841369599423283200) := by
    unfold FP.Core.DInt
    rw [e2]
    exact FP.Core.whole_round FP.Core.good_b64 FP.Core.wide_b64 (by rw [b64_p]; omega) hw
  refine ⟨n1, FP.Core.DInt_ne_nan hd, ?_⟩
  have e3 : (lz (t : Int)).toInt = t := lz_t (by omega)
  rw [← e3] at hd
  have e4 : FP.d2l (FP.dmul (FP.dsub v FP.dconst1) 4841369599423283200) = lz t := FP.Core.d2l_int hd
  rw [e4, e3]
  omega
theorem Vn.toNat {v : UInt64} {s : Bool} {c : Nat} {q : Int} (h : Vn v s c q) : v.toNat = (s.toNat * 2048 + ((q + 1074).toNat + 1)) * 4503599627370496 + (c - 4503599627370496) := by
  have e1 := FP.Core.of64_val64 (a := v) h.nn
  rw [h.1] at e1
  obtain ⟨-, h1, h2, h3, h4⟩ := h
  rw [← e1, FP.Core.toNat_of64 (fits_n h1 h2 h3 h4)]
  show (if c < FP.Core.b64.tails then FP.Core.assemble FP.Core.b64 s 0 c else FP.Core.assemble FP.Core.b64 s ((q - FP.Core.b64.qmin).toNat + 1) (c - FP.Core.b64.tails)) = _
  rw [b64_tails, if_neg (by omega), FP.Core.qmin_b64, show q - -1074 = q + 1074 by omega]
  rfl
theorem lz_id (x : Int64) : lz x.toInt = x := Int64.ofInt_toInt x
theorem lz_bits {e : Nat} (h : e < 2 ^ 63) : (lz (e : Int)).toBitVec.toNat = e := by
  show (BitVec.ofInt 64 (e : Int)).toNat = e
  rw [BitVec.toNat_ofInt]
  omega
theorem bits_pos {v : UInt64} {c : Nat} {q : Int} (h : Vn v false c q) : (lz ((lz (q + 52 + 1023) <<< lz ((lz 52 &&& lz 63).toInt)).toInt) ||| lz ((c : Int) - 4503599627370496)).toInt = v.toInt64.toInt := by
  have hn := h.toNat
  obtain ⟨-, h1, h2, h3, h4⟩ := h
  obtain ⟨t, rfl⟩ : ∃ t, c = 4503599627370496 + t := ⟨c - 4503599627370496, by omega⟩
  obtain ⟨e, he⟩ : ∃ e : Nat, q + 52 + 1023 = (e : Int) := ⟨(q + 1075).toNat, by omega⟩
  rw [show (q + 1074).toNat + 1 = e by omega, Nat.add_sub_cancel_left] at hn
  rw [lz_id, lz_id, he, show ((4503599627370496 + t : Nat) : Int) - 4503599627370496 = (t : Int) by omega]
  refine congrArg Int64.toInt ?_
  apply Int64.toBitVec_inj.mp
  apply BitVec.eq_of_toNat_eq
  rw [Int64.toBitVec_or, BitVec.toNat_or, Int64.toBitVec_shiftLeft, lz_bits (e := t) (by omega)]
  rw [show (lz 52 &&& lz 63).toBitVec.smod 64 = 52#64 by decide +kernel, BitVec.shiftLeft_eq', BitVec.toNat_shiftLeft, lz_bits (e := e) (by omega)]
  show (e <<< 52) % 2 ^ 64 ||| t = v.toNat
  rw [Nat.mod_eq_of_lt (by rw [Nat.shiftLeft_eq, p52]; omega), ← Nat.shiftLeft_add_eq_or_of_lt (by rw [p52]; omega), Nat.shiftLeft_eq, p52, hn]
  show _ = (0 * 2048 + e) * 4503599627370496 + t
  omega
theorem bits_neg {v w : UInt64} {c : Nat} {q : Int} (h : Vn v true c q) (h' : Vn w false c q) : (w.toInt64 ||| lz (-9223372036854775808)).toInt = v.toInt64.toInt := by
  have hn := h.toNat
  have hn' := h'.toNat
  obtain ⟨-, h1, h2, h3, h4⟩ := h
  refine congrArg Int64.toInt ?_
  apply Int64.toBitVec_inj.mp
  apply BitVec.eq_of_toNat_eq
  rw [Int64.toBitVec_or, BitVec.toNat_or]
  show w.toNat ||| (lz (-9223372036854775808)).toBitVec.toNat = v.toNat
  rw [show (lz (-9223372036854775808)).toBitVec.toNat = 1 <<< 63 by decide +kernel, Nat.or_comm, ← Nat.shiftLeft_add_eq_or_of_lt, hn, hn']
  · show 9223372036854775808 + ((0 * 2048 + ((q + 1074).toNat + 1)) * 4503599627370496 + (c - 4503599627370496)) = (1 * 2048 + ((q + 1074).toNat + 1)) * 4503599627370496 + (c - 4503599627370496)
    omega
  · rw [hn']
    show (0 * 2048 + ((q + 1074).toNat + 1)) * 4503599627370496 + (c - 4503599627370496) < 9223372036854775808
    omega
theorem c_bits_20 {M : Im} {v0 v : UInt64} {c : Nat} {q : Int} {Q : Int → Im → Prop} (h : Vn v false c q) (h0 : 0 ≤ (Op.cmpValue (FP.dcmp v0 FP.dconst0) CmpOp.g).toInt → Q v.toInt64.toInt M) (h1 : (Op.cmpValue (FP.dcmp v0 FP.dconst0) CmpOp.g).toInt < 0 → Q (v.toInt64 ||| lz (-9223372036854775808)).toInt M) : sp_X4_bitsOf_20 v0 v M Q := by
  have hb := h.2.2.2
  unfold sp_X4_bitsOf_20
  refine ⟨(q + 52).toNat + 1, c_bits_24 _ h (Nat.le_refl _) (by omega) (by omega) (by omega) fun v' q' p' h' hq' hp' hp2 => ?_⟩
  have hb' := h'.2.2.2
  refine ⟨(-52 - q').toNat + 1, c_bits_52 _ h' hq' (Nat.le_refl _) (by omega) hp2 fun v'' h'' => ?_⟩
  obtain ⟨n1, n2, n3⟩ := frac_val h''
  intro f5 e5
  have e5 := alike_eq n1 e5
  subst e5
  intro f6 e6
  have e6 := alike_eq n2 e6
  subst e6
  rw [n3, show p' + q' + 52 = q + 52 by omega]
  rintro j7 rfl
  refine ⟨by omega, ?_⟩
  rw [bits_pos h]
  rintro j8 rfl
  refine ⟨h0, fun hlt => ?_⟩
  rw [lz_id]
  exact h1 hlt
theorem c_bitsOf {M : Im} {v : UInt64} {Q : Int → Im → Prop} (hv : v = 0 ∨ ∃ s c q, Vn v s c q) (hQ : Q v.toInt64.toInt M) : sp_X4_bitsOf v M Q := by
  have z0 : zv FP.dconst0 = 0 := by decide +kernel
  have n0 : nn FP.dconst0 := fun e => by rw [show FP.Core.val64 FP.dconst0 = .fin false 0 FP.Core.b64.qmin from FP.Core.val64_dconst0] at e; cases e
  unfold sp_X4_bitsOf
  rcases hv with rfl | ⟨s, c, q, h⟩
  · have e : (Op.cmpValue (FP.dcmp 0 FP.dconst0) CmpOp.l).toInt = 0 := cmp_eq CmpOp.l n0 n0 rfl
    have e2 : (0 : UInt64).toInt64.toInt = 0 := by decide
    rw [e2] at hQ
    exact ⟨fun h => absurd e h, fun _ => hQ⟩
  · have hz := zv_n h
    have pos : 0 < c * 2 ^ (q + 1074).toNat := Nat.mul_pos (by have := h.2.1; omega) (Nat.two_pow_pos _)
    cases s with
    | false =>
      have hz : zv v = ((c * 2 ^ (q + 1074).toNat : Nat) : Int) := hz
      have g1 := cmp_gt CmpOp.l h.nn n0 (by rw [z0, hz]; exact Int.ofNat_lt.mpr pos)
      have g2 := cmp_gt CmpOp.g h.nn n0 (by rw [z0, hz]; exact Int.ofNat_lt.mpr pos)
      rw [g1, g2]
      refine ⟨fun _ => ⟨fun _ => ?_, fun h => by omega⟩, fun h => by omega⟩
      exact c_bits_20 h (fun _ => hQ) (fun h' => by rw [g2] at h'; omega)
    | true =>
      have hz : zv v = -((c * 2 ^ (q + 1074).toNat : Nat) : Int) := hz
      have g1 := cmp_lt CmpOp.l h.nn n0 (by rw [z0, hz]; have := Int.ofNat_lt.mpr pos; omega)
      have g2 := cmp_lt CmpOp.g h.nn n0 (by rw [z0, hz]; have := Int.ofNat_lt.mpr pos; omega)
      rw [g1, g2]
      refine ⟨fun _ => ⟨fun h => by omega, fun _ => ?_⟩, fun h => by omega⟩
      have hd : Vn (FP.dneg v) false c q := by
        refine ⟨?_, h.2⟩
        have e : FP.Core.val64 (FP.dneg v) = FP.Core.negate (FP.Core.val64 v) := FP.val64_dneg v
        rw [e, h.1]; rfl
      exact c_bits_20 hd (fun h' => by rw [g2] at h'; omega) (fun _ => by rw [bits_neg h hd]; exact hQ)
/-! the doubles of a piece are 0 or normal -/
theorem Vn.ofMag {a : UInt64} (h1 : 4503599627370496 ≤ a.toNat % 2 ^ 63) (h2 : a.toNat % 2 ^ 63 < 1089 * 2 ^ 52) : ∃ s c q, Vn a s c q := by
  obtain ⟨s, c, q, h⟩ := FP.Core.fin_of_lt h2 (by decide)
  have hf := FP.Core.val64_fits a
  have hz := FP.Core.zmag_bits (a := a) (by rw [h]; exact FP.Core.Datum.noConfusion)
  rw [h] at hf hz
  refine ⟨s, c, q, Vn.of h ?_⟩
  rcases hf.2.2.2 with e | e
  · subst e
    have e1 : FP.Core.unitsOf FP.Core.b64 (1 * FP.Core.b64.tails) = FP.Core.b64.tails * 2 ^ (1 - 1) := FP.Core.unitsOf_start (by decide)
    have e2 := FP.Core.unitsOf_le_iff (f := FP.Core.b64) (m := 1 * FP.Core.b64.tails) (k := a.toNat % 2 ^ 63)
    have e3 := e2.mpr (by rw [b64_tails]; omega)
    have hz : c * 2 ^ (FP.Core.b64.qmin - FP.Core.b64.qmin).toNat = FP.Core.unitsOf FP.Core.b64 (a.toNat % 2 ^ 63) := hz
    rw [Int.sub_self, Int.toNat_zero, Nat.pow_zero, Nat.mul_one] at hz
    rw [e1, b64_tails, ← hz, Nat.sub_self, Nat.pow_zero, Nat.mul_one] at e3
    exact e3
  · rw [b64_tails] at e; exact e
theorem quo_ge {a b : UInt64} (ha : 1023 * 2 ^ 52 ≤ a.toNat % 2 ^ 63) (ha' : a.toNat % 2 ^ 63 < 2047 * 2 ^ 52) (hb : 1023 * 2 ^ 52 ≤ b.toNat % 2 ^ 63) (hb' : b.toNat % 2 ^ 63 < 1088 * 2 ^ 52) : 4503599627370496 ≤ (FP.ddiv a b).toNat % 2 ^ 63 := by
  obtain ⟨s, c, q, x1⟩ := FP.Core.fin_of_lt ha' (by decide)
  obtain ⟨t, d, r, y1⟩ := FP.Core.fin_of_lt hb' (by decide)
  have fx := FP.Core.val64_fits a
  have fy := FP.Core.val64_fits b
  have zx := FP.Core.zmag_bits (a := a) (by rw [x1]; exact FP.Core.Datum.noConfusion)
  have zy := FP.Core.zmag_bits (a := b) (by rw [y1]; exact FP.Core.Datum.noConfusion)
  rw [x1] at fx zx
  rw [y1] at fy zy
  have q1 := fx.2.1
  have r1 := fy.2.1
  have r2 := fy.2.2.1
  rw [FP.Core.qmin_b64] at q1 r1
  rw [b64_qmax] at r2
  -- magnitudes, in units
  have mx : FP.Core.b64.tails * 2 ^ (1023 - 1) ≤ FP.Core.unitsOf FP.Core.b64 (a.toNat % 2 ^ 63) := by
    rw [← FP.Core.unitsOf_start (K := 1023) (by decide)]
    exact FP.Core.unitsOf_le_iff.mpr (by rw [FP.Core.tails_b64]; exact ha)
  have my : FP.Core.unitsOf FP.Core.b64 (b.toNat % 2 ^ 63) < FP.Core.b64.tails * 2 ^ (1088 - 1) := by
    rw [← FP.Core.unitsOf_start (K := 1088) (by decide)]
    exact FP.Core.unitsOf_lt (by rw [FP.Core.tails_b64]; exact hb')
  have my0 : FP.Core.b64.tails * 2 ^ (1023 - 1) ≤ FP.Core.unitsOf FP.Core.b64 (b.toNat % 2 ^ 63) := by
    rw [← FP.Core.unitsOf_start (K := 1023) (by decide)]
    exact FP.Core.unitsOf_le_iff.mpr (by rw [FP.Core.tails_b64]; exact hb)
  rw [← zx] at mx
  rw [← zy] at my my0
  have zx' : FP.Core.zmag FP.Core.b64 (.fin s c q) = c * 2 ^ (q + 1074).toNat := by
    show c * 2 ^ (q - FP.Core.b64.qmin).toNat = _
    rw [FP.Core.qmin_b64, show q - -1074 = q + 1074 by omega]
  have zy' : FP.Core.zmag FP.Core.b64 (.fin t d r) = d * 2 ^ (r + 1074).toNat := by
    show d * 2 ^ (r - FP.Core.b64.qmin).toNat = _
    rw [FP.Core.qmin_b64, show r - -1074 = r + 1074 by omega]
  rw [zx'] at mx
  rw [zy'] at my my0
  have hT : FP.Core.b64.tails = 2 ^ 52 := FP.Core.tails_b64
  rw [hT, ← Nat.pow_add] at mx my my0
  have hd0 : d ≠ 0 := by
    rintro rfl
    rw [Nat.zero_mul] at my0
    have := Nat.two_pow_pos (52 + (1023 - 1))
    omega
  have e1 : FP.Core.val64 (FP.ddiv a b) = FP.Core.quotient FP.Core.b64 (FP.Core.val64 a) (FP.Core.val64 b) := FP.Core.val64_ddiv _ _
  rw [x1, y1] at e1
  rw [quo_eq hd0] at e1
  have key := FP.Core.mag_ge (f := FP.Core.b64) (s := s != t) (n := (FP.ddiv a b).toNat) (m := 1 * FP.Core.b64.tails) (A := c) (B := d) (e := q - r) (e0 := -2148 - r) FP.Core.good_b64 e1 (by omega) (by rw [FP.Core.qmin_b64]; omega) (by omega) (by decide) ?_
  · rw [FP.Core.mag_toNat64, b64_tails] at key
    omega
  · rw [FP.Core.unitsOf_start (K := 1) (by decide), FP.Core.qmin_b64, hT, Nat.sub_self, Nat.pow_zero, Nat.mul_one, show (-1074 - (-2148 - r)).toNat = (r + 1074).toNat by omega]
    show _ ≤ c * 2 ^ (q - r - (-2148 - r)).toNat
    rw [show (q - r - (-2148 - r)).toNat = (q + 1074).toNat + 1074 by omega, Nat.pow_add 2 (q + 1074).toNat, ← Nat.mul_assoc, Nat.mul_assoc (2 ^ 52), Nat.mul_comm _ d]
    refine Nat.le_trans (Nat.mul_le_mul_left _ (Nat.le_of_lt my)) (Nat.le_trans ?_ (Nat.mul_le_mul_right _ mx))
    rw [← Nat.pow_add, ← Nat.pow_add]
    exact Nat.pow_le_pow_right (by decide) (by decide)
theorem quo_n {x r : Int} (hx : -9223372036854775808 ≤ x ∧ x < 9223372036854775808) (hr : 0 < r) (hr' : r < 9223372036854775808) : FP.ddiv (FP.l2d (lz x)) (FP.l2d (lz r)) = 0 ∨ ∃ s c q, Vn (FP.ddiv (FP.l2d (lz x)) (FP.l2d (lz r))) s c q := by
  have er : (lz r).toInt = r := lz_t (by omega)
  have ex : (lz x).toInt = x := lz_t hx
  have rb := FP.Core.l2d_big (v := lz r) (by rw [er]; omega)
  have rm := FP.Core.l2d_mag (lz r)
  by_cases h0 : x = 0
  · left
    subst h0
    obtain ⟨d, q, h⟩ := FP.Core.l2d_shape (lz r)
    rw [er, show decide (r < 0) = false from decide_eq_false (by omega)] at h
    have e1 : FP.Core.val64 (FP.ddiv (FP.l2d (lz 0)) (FP.l2d (lz r))) = FP.Core.quotient FP.Core.b64 (FP.Core.val64 (FP.l2d (lz 0))) (FP.Core.val64 (FP.l2d (lz r))) := FP.Core.val64_ddiv _ _
    have e0 : FP.Core.val64 (FP.l2d (lz 0)) = .fin false 0 FP.Core.b64.qmin := by decide +kernel
    have h : FP.Core.val64 (FP.l2d (lz r)) = .fin false d q := h
    have hd : d ≠ 0 := by
      rintro rfl
      have := (FP.Core.zero_bits2 (FP.l2d (lz r))).mp ⟨false, q, h⟩
      have rb1 := rb.1
      have rb2 : 1023 * 2 ^ 52 ≤ (FP.l2d (lz r)).toNat % 2 ^ 63 := rb1
      omega
    rw [e0, h] at e1
    rw [quo_eq hd] at e1
    have e2 : FP.Core.val64 (FP.ddiv (FP.l2d (lz 0)) (FP.l2d (lz r))) = .fin false 0 FP.Core.b64.qmin := e1
    refine FP.Core.val64_inj (by rw [e2]; exact FP.Core.Datum.noConfusion) ?_
    rw [e2]
    decide +kernel
  · right
    have xb := FP.Core.l2d_big (v := lz x) (by rw [ex]; exact h0)
    exact Vn.ofMag (quo_ge xb.1 xb.2 rb.1 rm) (dbl_mag (by omega) (by omega))
/-! bits -/
theorem d_bits {M : Im} {v : UInt64} {Q : Int → Im → Prop} (hn : nn v) (hQ : Q v.toInt64.toInt M) : sp_Jxe99ae_doubleToLongBits_ccdee v M Q := by
  have e := cmp_eq CmpOp.l hn hn rfl
  unfold sp_Jxe99ae_doubleToLongBits_ccdee sp_Jxe99ae_isNaN_b9ae7
  exact ⟨fun _ => ⟨Or.inl rfl, fun h => absurd rfl h, fun _ => hQ⟩, fun h => absurd e h⟩
theorem st_bits {n : Nat} {M : Im} (h : Good n M) (hn : n < 512) (z v : Int) : sp_X4_bits 0 z v M (fun u M1 => sp_X5_bits 69 z v M1 (Fin_ n u)) := by
  have w74 : alen 74 = 10000 := rfl
  have w79 : alen 79 = 10000 := rfl
  have w80 : alen 80 = 10000 := rfl
  have w81 : alen 81 = 10000 := rfl
  obtain ⟨r, E, l, Y, mk_, an, w, lk, hc, hm, hw⟩ := h
  have G := Good.same hc hm hw hn
  obtain ⟨f1, f2, f3, f4, f5, f6, f7, f8, f9, f10⟩ := hw.facts
  obtain ⟨hk, hP, ⟨t, t', hC, hT⟩, -⟩ := id hc
  obtain ⟨ht, ht', -, -, -, hcap, -, h300, -⟩ := hC.TL
  unfold sp_X4_bits
  refine ⟨iO_c hk (by decide) rfl, ?_⟩
  rintro r3 rfl
  refine ⟨t, hC.2.1, TL_O ht hk, ?_⟩
  refine c_pieceAt hk ht hT (by omega) (fun p q a hz hq ha1 ha2 _ hPR => ⟨fun h => (by cases h), fun a7 ha7 => ?_⟩) (fun hno => ⟨fun _ => ?_, fun a h => (by cases h)⟩)
  · cases ha7
    have he : l ≠ [] := fun e => by rw [e] at hq; simp at hq
    have hok := (f5 q (List.mem_of_getElem? hq)).1
    obtain ⟨⟨⟨l1, l2, l3, l4, l5, l6⟩, -, -⟩, -, -, -⟩ := id hok
    -- the model, piece in hand
    have mod : ∀ u : Int, (pki q = 2 → v = 0 → u = (dbA q).toInt64.toInt) → (pki q = 2 → v = 1 → u = (dbB q).toInt64.toInt) → (¬ (pki q = 2 ∧ 0 ≤ v ∧ v ≤ 1) → u = 0) → sp_X5_bits 69 z v M (Fin_ n u) := by
      intro u h1 h2 h3
      unfold sp_X5_bits
      refine ⟨iO_c hk (by decide) rfl, d_piece1 hk hm hw (n := 0) (by omega) hz he rfl hq fun g fr hP hg _ _ => ⟨fun h => by omega, fun _ => ?_⟩⟩
      rw [show ((g : Nat) : Int).toNat = g by omega, hP.1.1, hP.2.1.1, hP.2.1.2.2, w74, w79, w81]
      have q51 : ∀ x : Int, (-9223372036854775808 ≤ x ∧ x < 9223372036854775808) → u = (FP.ddiv (FP.l2d (lz x)) (FP.l2d (lz (pln q).2.1))).toInt64.toInt → sp_X5_bits_51 69 g x M (Fin_ n u) := by
        intro x hx hu
        have hq' := quo_n hx l3 (by omega)
        have hnn : nn (FP.ddiv (FP.l2d (lz x)) (FP.l2d (lz (pln q).2.1))) := nn_of_mag (dbl_mag (by omega) (by omega)) (by decide)
        unfold sp_X5_bits_51
        rw [show ((g : Nat) : Int).toNat = g by omega, hP.2.1.2.1, w80]
        refine ⟨by omega, ?_⟩
        intro f1 e1
        have e1 := alike_eq hnn e1
        subst e1
        exact d_bits hnn ⟨hu, G⟩
      refine ⟨by omega, fun hk2 => ?_, fun hk2 => ⟨fun hv => ?_, fun hv => ⟨fun hv2 => ⟨fun hv3 => ⟨by omega, ?_⟩, fun hv3 => ⟨by omega, ?_⟩⟩, fun hv2 => ?_⟩⟩⟩
      · exact ⟨h3 (fun w => hk2 w.1), G⟩
      · exact ⟨h3 (fun w => by omega), G⟩
      · exact q51 _ (by omega) (h2 hk2 (by omega))
      · exact q51 _ (by omega) (h1 hk2 hv3)
      · exact ⟨h3 (fun w => by omega), G⟩
    rw [hPR.1.1]
    have hPD := hPR.2.2.1
    refine ⟨iO_hi ha1 ha2, fun hk2 => ?_, fun hk2 => ⟨fun hv => ?_, fun hv => ⟨fun hv2 => ⟨fun hv3 => ?_, fun hv3 => ?_⟩, fun hv2 => ?_⟩⟩⟩
    · exact mod 0 (fun h => absurd h hk2) (fun h => absurd h hk2) (fun _ => rfl)
    · exact mod 0 (fun _ h => by omega) (fun _ h => by omega) (fun _ => rfl)
    · unfold sp_X4_bits_47
      rw [(hPD hk2).2]
      exact c_bitsOf (quo_n (by omega) l3 (by omega)) (mod _ (fun _ h => by omega) (fun _ _ => rfl) (fun h => absurd ⟨hk2, hv, hv2⟩ h))
    · unfold sp_X4_bits_47
      rw [(hPD hk2).1]
      exact c_bitsOf (quo_n (by omega) l3 (by omega)) (mod _ (fun _ _ => rfl) (fun _ h => by omega) (fun h => absurd ⟨hk2, hv, hv2⟩ h))
    · exact mod 0 (fun _ h => by omega) (fun _ h => by omega) (fun _ => rfl)
  · unfold sp_X5_bits
    refine ⟨iO_c hk (by decide) rfl, d_piece0 hk hm hw (Or.inr (Or.inr (Or.inr ⟨0, l, by omega, rfl, by omega⟩))) ⟨fun _ => ⟨rfl, G⟩, fun h => by omega⟩⟩
