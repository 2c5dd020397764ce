/-! ===== doubles: what they stand for, in units of the least one ===== -/
def zv (a : UInt64) : Int := FP.Core.zval FP.Core.b64 (FP.Core.val64 a)
def nn (a : UInt64) : Prop := FP.Core.val64 a ≠ .nan
def O64 : Int := (FP.Core.one64 : Int)
theorem O64_pos : 0 < O64 := Int.ofNat_lt.mpr FP.Core.one64_pos
theorem nn_isNaN {a : UInt64} (h : nn a) : isNaN64 a = false := by
  have h1 := (FP.Core.ne_nan a).mp h
  cases e : isNaN64 a with
  | false => rfl
  | true =>
    have h2 := isNaN64_not.mp e
    exfalso
    apply h2
    rw [UInt64.le_iff_toNat_le, FP.Core.mask_toNat]
    exact h1
theorem alike_eq {x y : UInt64} (hy : nn y) (h : alike64 x y = true) : x = y := by
  unfold alike64 at h
  rw [nn_isNaN hy] at h
  simpa using h
theorem cmp_zv {a b : UInt64} (ha : nn a) (hb : nn b) : FP.dcmp a b = some (compare (zv a) (zv b)) := FP.Core.dcmp_zval ha hb
theorem cmp_lt {a b : UInt64} (op : CmpOp) (ha : nn a) (hb : nn b) (h : zv a < zv b) : (Op.cmpValue (FP.dcmp a b) op).toInt = -1 := by
  rw [cmp_zv ha hb, (FP.Core.compare_lt_iff _ _).mpr h]; rfl
theorem cmp_eq {a b : UInt64} (op : CmpOp) (ha : nn a) (hb : nn b) (h : zv a = zv b) : (Op.cmpValue (FP.dcmp a b) op).toInt = 0 := by
  rw [cmp_zv ha hb, (FP.Core.compare_eq_iff _ _).mpr h]; rfl
theorem cmp_gt {a b : UInt64} (op : CmpOp) (ha : nn a) (hb : nn b) (h : zv b < zv a) : (Op.cmpValue (FP.dcmp a b) op).toInt = 1 := by
  rw [cmp_zv ha hb, (FP.Core.compare_gt_iff _ _).mpr h]; rfl
theorem nn_l2d (i : Int) : nn (FP.l2d (lz i)) := by
  obtain ⟨s, c, q, h⟩ := FP.Core.l2d_fin (lz i)
  intro e
  rw [show FP.Core.val64 (FP.Core.l2d (lz i)) = FP.Core.val64 (FP.l2d (lz i)) from rfl, e] at h
  cases h
theorem zv_l2d {i : Int} (h : -9007199254740992 ≤ i ∧ i ≤ 9007199254740992) : zv (FP.l2d (lz i)) = i * O64 := by
  have e : (lz i).toInt = i := lz_t (by omega)
  have e53 : (2 : Nat) ^ 53 = 9007199254740992 := by decide
  have h1 := FP.Core.l2d_int (a := lz i) (by rw [e, e53]; omega)
  have h2 := FP.Core.DInt_zval h1
  rw [e] at h2
  exact h2
theorem nn_of_mag {a : UInt64} {K : Nat} (h : a.toNat % 2 ^ 63 < K * 2 ^ 52) (hK : K ≤ 2047) : nn a := by
  obtain ⟨s, c, q, e⟩ := FP.Core.fin_of_lt h hK
  intro e2
  rw [e] at e2
  cases e2
theorem dbl_mag {x r : Int} (hr : r ≠ 0) (hr' : -9223372036854775808 ≤ r ∧ r < 9223372036854775808) : (FP.ddiv (FP.l2d (lz x)) (FP.l2d (lz r))).toNat % 2 ^ 63 < 1089 * 2 ^ 52 := by
  have h1 := FP.Core.l2d_mag (lz x)
  have h2 := FP.Core.l2d_big (v := lz r) (by rw [lz_t hr']; exact hr)
  have h3 := FP.Core.ddiv_mag h1 h2.1 h2.2 (by decide) (by decide)
  exact h3
theorem vof_mag {A B : UInt64} {d : Int} (hA : A.toNat % 2 ^ 63 < 1089 * 2 ^ 52) (hB : B.toNat % 2 ^ 63 < 1089 * 2 ^ 52) : (FP.dmul A (FP.l2d (lz d))).toNat % 2 ^ 63 < 1155 * 2 ^ 52 ∧ (FP.dadd B (FP.dmul A (FP.l2d (lz d)))).toNat % 2 ^ 63 < 1157 * 2 ^ 52 := by
  have h1 := FP.Core.l2d_mag (lz d)
  have h2 := FP.Core.dmul_mag hA h1 (by decide) (by decide)
  have h2' : (FP.dmul A (FP.l2d (lz d))).toNat % 2 ^ 63 < 1155 * 2 ^ 52 := h2
  exact ⟨h2', FP.Core.dadd_mag (K := 1155) (Nat.lt_of_lt_of_le hB (Nat.mul_le_mul_right _ (by decide))) h2' (by decide)⟩
/-- the value of a rounded piece's line so far away from its first key -/
def vOf (q : Pc) (d : Int) : UInt64 := FP.dadd (dbB q) (FP.dmul (dbA q) (FP.l2d (lz d)))
/-- rounded down, but not below 0, nor above the last place -/
def clR (v : UInt64) (last : Int) : Int := if last * O64 ≤ zv v then last else if 0 < zv v then zv v / O64 else 0
def clL (x last : Int) : Int := if last ≤ x then last else if 0 < x then x else 0
/-- the guess of a piece for what is so far away from its first key -/
def gs (q : Pc) (d : Int) : Int :=
  if pki q = 0 then 0 else if pki q = 2 then clR (vOf q d) ((pks q).length - 1) else clL (((pln q).2.2 + (pln q).1 * d) / (pln q).2.1) ((pks q).length - 1)
