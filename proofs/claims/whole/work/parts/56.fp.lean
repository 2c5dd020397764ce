/-! ===== doubles: what they stand for, in units of the least one ===== -/
def zv (a : UInt64) : Int := FP.Core.zval FP.Core.b64 (FP.Core.val64 a)
def nn (a : UInt64) : Prop := FP.Core.val64 a ≠ .nan
def O64 : Int := (FP.Core.one64 : Int)
theorem O64_pos : 0 < O64 := Int.ofNat_lt.mpr FP.Core.one64_pos
theorem nn_isNaN {a : UInt64} (h : nn a) : isNaN64 a = false := by
  have h1 := (FP.Core.ne_nan a).mp h
  cases e : isNaN64 a with
  | false => rfl
  | true =>
    have h2 := isNaN64_not.mp e
    exfalso
    apply h2
    rw [UInt64.le_iff_toNat_le, FP.Core.mask_toNat]
    exact h1
theorem alike_eq {x y : UInt64} (hy : nn y) (h : alike64 x y = true) : x = y := by
  unfold alike64 at h
  rw [nn_isNaN hy] at h
  simpa using h
theorem cmp_zv {a b : UInt64} (ha : nn a) (hb : nn b) : FP.dcmp a b = some (compare (zv a) (zv b)) := FP.Core.dcmp_zval ha hb
theorem cmp_lt {a b : UInt64} (op : CmpOp) (ha : nn a) (hb : nn b) (h : zv a < zv b) : (Op.cmpValue (FP.dcmp a b) op).toInt = -1 := by
  rw [cmp_zv ha hb, (FP.Core.compare_lt_iff _ _).mpr h]; rfl
theorem cmp_eq {a b : UInt64} (op : CmpOp) (ha : nn a) (hb : nn b) (h : zv a = zv b) : (Op.cmpValue (FP.dcmp a b) op).toInt = 0 := by
  rw [cmp_zv ha hb, (FP.Core.compare_eq_iff _ _).mpr h]; rfl
theorem cmp_gt {a b : UInt64} (op : CmpOp) (ha : nn a) (hb : nn b) (h : zv b < zv a) : (Op.cmpValue (FP.dcmp a b) op).toInt = 1 := by
  rw [cmp_zv ha hb, (FP.Core.compare_gt_iff _ _).mpr h]; rfl
theorem nn_l2d (i : Int) : nn (FP.l2d (lz i)) := by
  obtain ⟨s, c, q, h⟩ := FP.Core.l2d_fin (lz i)
  intro e
  rw [show FP.Core.val64 (FP.Core.l2d (lz i)) = FP.Core.val64 (FP.l2d (lz i)) from rfl, e] at h
  cases h
theorem zv_l2d {i : Int} (h : -9007199254740992 ≤ i ∧ i ≤ 9007199254740992) : zv (FP.l2d (lz i)) = i * O64 := by
  have e : (lz i).toInt = i := lz_t (by omega)
  have e53 : (2 : Nat) ^ 53 = 9007199254740992 := by decide
  have h1 := FP.Core.l2d_int (a := lz i) (by rw [e, e53]; omega)
  have h2 := FP.Core.DInt_zval h1
  rw [e] at h2
  exact h2
theorem nn_of_mag {a : UInt64} {K : Nat} (h : a.toNat % 2 ^ 63 < K * 2 ^ 52) (hK : K ≤ 2047) : nn a := by
  obtain ⟨s, c, q, e⟩ := FP.Core.fin_of_lt h hK
  intro e2
  rw [e] at e2
  cases e2
theorem dbl_mag {x r : Int} (hr : r ≠ 0) (hr' : -9223372036854775808 ≤ r ∧ r < 9223372036854775808) : (FP.ddiv (FP.l2d (lz x)) (FP.l2d (lz r))).toNat % 2 ^ 63 < 1089 * 2 ^ 52 := by
  have h1 := FP.Core.l2d_mag (lz x)
  have h2 := FP.Core.l2d_big (v := lz r) (by rw [lz_t hr']; exact hr)
  have h3 := FP.Core.ddiv_mag h1 h2.1 h2.2 (by decide) (by decide)
  exact h3
theorem vof_mag {A B : UInt64} {d : Int} (hA : A.toNat % 2 ^ 63 < 1089 * 2 ^ 52) (hB : B.toNat % 2 ^ 63 < 1089 * 2 ^ 52) : (FP.dmul A (FP.l2d (lz d))).toNat % 2 ^ 63 < 1155 * 2 ^ 52 ∧ (FP.dadd B (FP.dmul A (FP.l2d (lz d)))).toNat % 2 ^ 63 < 1157 * 2 ^ 52 := by
  have h1 := FP.Core.l2d_mag (lz d)
  have h2 := FP.Core.dmul_mag hA h1 (by decide) (by decide)
  have h2' : (FP.dmul A (FP.l2d (lz d))).toNat % 2 ^ 63 < 1155 * 2 ^ 52 := h2
  exact ⟨h2', FP.Core.dadd_mag (K := 1155) (Nat.lt_of_lt_of_le hB (Nat.mul_le_mul_right _ (by decide))) h2' (by decide)⟩
/-- the value of a rounded piece's line so far away from its first key -/
def vOf (q : Pc) (d : Int) : UInt64 := FP.dadd (dbB q) (FP.dmul (dbA q) (FP.l2d (lz d)))
/-- rounded down, but not below 0, nor above the last place -/
def clR (v : UInt64) (last : Int) : Int := if last * O64 ≤ zv v then last else if 0 < zv v then zv v / O64 else 0
def clL (x last : Int) : Int := if last ≤ x then last else if 0 < x then x else 0
/-- the guess of a piece for what is so far away from its first key -/
def gs (q : Pc) (d : Int) : Int :=
  if pki q = 0 then 0 else if pki q = 2 then clR (vOf q d) ((pks q).length - 1) else clL (((pln q).2.2 + (pln q).1 * d) / (pln q).2.1) ((pks q).length - 1)
theorem int_mag' {i : Int} {j : Nat} (hi : i.natAbs ≤ 2 ^ j) (hr : -9223372036854775808 ≤ i ∧ i < 9223372036854775808) : (FP.l2d (lz i)).toNat % 2 ^ 63 ≤ (j + 1023) * 2 ^ 52 := by
  have h := FP.Core.toNat_l2d (lz i)
  rw [lz_t hr] at h
  exact FP.Core.fromInt_mag (i := i) (a := FP.Core.l2d (lz i)) h hi (by omega) (by omega)
theorem zmag_lt' {a : UInt64} {K : Nat} (h : a.toNat % 2 ^ 63 < K * 2 ^ 52) (hK1 : 1 ≤ K) (hK : K ≤ 2047) : FP.Core.zmag FP.Core.b64 (FP.Core.val64 a) < 2 ^ 52 * 2 ^ (K - 1) := by
  have hn := nn_of_mag h hK
  rw [FP.Core.zmag_bits hn]
  have e := FP.Core.unitsOf_start (f := FP.Core.b64) hK1
  rw [FP.Core.tails_b64] at e
  rw [← e]
  exact FP.Core.unitsOf_lt h
theorem zv_cases (v : UInt64) : (zv v = (FP.Core.zmag FP.Core.b64 (FP.Core.val64 v) : Int) ∧ FP.Core.sgn (FP.Core.val64 v) = false) ∨ (zv v = -(FP.Core.zmag FP.Core.b64 (FP.Core.val64 v) : Int) ∧ FP.Core.sgn (FP.Core.val64 v) = true) := by
  unfold zv FP.Core.zval FP.Core.signed
  cases FP.Core.sgn (FP.Core.val64 v)
  · left; simp
  · right; simp
theorem zd_cast (m : Nat) : (m : Int) / O64 = ((m / FP.Core.one64 : Nat) : Int) := by unfold O64; simp
/-- the long of a double that is not too great: towards 0 -/
theorem trunc_val {v : UInt64} (hn : nn v) (hb : FP.Core.zmag FP.Core.b64 (FP.Core.val64 v) / FP.Core.one64 < 4611686018427387904) :
    (zv v ≤ 0 → -4611686018427387904 < (FP.d2l v).toInt ∧ (FP.d2l v).toInt ≤ 0) ∧ (0 ≤ zv v → (FP.d2l v).toInt = zv v / O64 ∧ 0 ≤ zv v / O64 ∧ zv v / O64 < 4611686018427387904) := by
  have h := FP.Core.d2l_val hn
  have e63 : (2 : Int) ^ 63 = 9223372036854775808 := by decide
  rw [e63] at h
  have h' : (FP.d2l v).toInt = max (-9223372036854775808) (min (9223372036854775808 - 1) (FP.Core.signed (FP.Core.sgn (FP.Core.val64 v)) (FP.Core.zmag FP.Core.b64 (FP.Core.val64 v) / FP.Core.one64))) := h
  clear h
  generalize (FP.d2l v).toInt = T at h' ⊢
  unfold FP.Core.signed at h'
  rcases zv_cases v with ⟨h1, h2⟩ | ⟨h1, h2⟩ <;> rw [h2] at h' <;> rw [h1]
  · rw [if_neg (by decide)] at h'
    rw [zd_cast]
    constructor
    · intro hz
      have hz0 : FP.Core.zmag FP.Core.b64 (FP.Core.val64 v) = 0 := by omega
      rw [hz0, Nat.zero_div] at h'
      omega
    · intro _
      generalize FP.Core.zmag FP.Core.b64 (FP.Core.val64 v) / FP.Core.one64 = w at *
      omega
  · rw [if_pos rfl] at h'
    constructor
    · intro hz
      generalize FP.Core.zmag FP.Core.b64 (FP.Core.val64 v) / FP.Core.one64 = w at *
      omega
    · intro hz
      have hz0 : FP.Core.zmag FP.Core.b64 (FP.Core.val64 v) = 0 := by omega
      rw [hz0, Nat.zero_div] at h'
      rw [hz0]
      simp
      omega
/-- a double that is not too great: its class, what it is made of -/
def vok (v : UInt64) : Prop := nn v ∧ FP.Core.zmag FP.Core.b64 (FP.Core.val64 v) / FP.Core.one64 < 4611686018427387904
theorem vok_of {v : UInt64} (h : v.toNat % 2 ^ 63 < 1085 * 2 ^ 52) : vok v := by
  refine ⟨nn_of_mag h (by decide), ?_⟩
  have h1 := zmag_lt' h (by decide) (by decide)
  rw [Nat.div_lt_iff_lt_mul FP.Core.one64_pos]
  refine Nat.lt_of_lt_of_le h1 ?_
  have e : (4611686018427387904 : Nat) = 2 ^ 62 := by decide
  unfold FP.Core.one64
  rw [e, ← Nat.pow_add, ← Nat.pow_add]
  exact Nat.pow_le_pow_right (by decide) (by decide)
theorem zdiv_lt {z k : Int} (h : z < k * O64) : z / O64 < k := Int.ediv_lt_of_lt_mul O64_pos h
theorem zdiv_ge {z k : Int} (h : k * O64 ≤ z) : k ≤ z / O64 := (Int.le_ediv_iff_mul_le O64_pos).mpr h
theorem zdiv_mul_le (z : Int) : z / O64 * O64 ≤ z := Int.ediv_mul_le z (Int.ne_of_gt O64_pos)
theorem c_roundedDown {M : Im} {v : UInt64} {last : Int} {Q : Int → Im → Prop} (hv : vok v) (hl : 0 ≤ last ∧ last ≤ 2000) (hQ : ∀ x, -4611686018427387905 ≤ x → x < 4611686018427387904 → clL x last = clR v last → Q x M) : sp_X0_roundedDown v M Q := by
  obtain ⟨t1, t2⟩ := trunc_val hv.1 hv.2
  have hO := O64_pos
  unfold sp_X0_roundedDown
  rintro j1 rfl
  generalize hT : (FP.d2l v).toInt = T at *
  have key : ∀ x, (x = T ∨ (x = T - 1 ∧ (0 ≤ zv v → 9007199254740992 < T))) → clL x last = clR v last := by
    intro x hx
    unfold clL clR
    by_cases h1 : last * O64 ≤ zv v
    · have hz : 0 ≤ zv v := Int.le_trans (Int.mul_nonneg hl.1 (Int.le_of_lt hO)) h1
      have h2 := zdiv_ge h1
      have h3 := t2 hz
      rw [if_pos h1, if_pos (by omega)]
    · rw [if_neg h1]
      by_cases h2 : 0 < zv v
      · have h3 := zdiv_lt (Int.not_le.mp h1)
        have h4 := t2 (by omega)
        rw [if_pos h2, if_neg (by omega)]
        by_cases h5 : 0 < x
        · rw [if_pos h5]; omega
        · rw [if_neg h5]; omega
      · have h3 := t1 (by omega)
        rw [if_neg h2]
        have hx0 : x ≤ 0 := by omega
        by_cases h5 : last ≤ x
        · rw [if_pos h5]; omega
        · rw [if_neg h5, if_neg (by omega)]
  have hb : -4611686018427387904 < T ∧ T < 4611686018427387904 := by
    rcases Int.le_total (zv v) 0 with h | h
    · have := t1 h; omega
    · have := t2 h; omega
  refine ⟨fun _ => hQ T (by omega) (by omega) (key T (Or.inl rfl)), fun h => ⟨by omega, hQ (T - 1) (by omega) (by omega) (key (T - 1) (Or.inr ⟨rfl, fun hz => ?_⟩))⟩⟩
  refine Int.not_le.mp fun hle => ?_
  have h3 := t2 hz
  have e1 := zv_l2d (i := T) (by omega)
  have e2 : T * O64 ≤ zv v := by rw [h3.1]; exact zdiv_mul_le _
  rcases Int.lt_or_eq_of_le (show zv (FP.l2d (lz T)) ≤ zv v by rw [e1]; exact e2) with h4 | h4
  · rw [cmp_lt _ (nn_l2d _) hv.1 h4] at h; omega
  · rw [cmp_eq _ (nn_l2d _) hv.1 h4] at h; omega
/-! the class's guess -/
theorem c_min {M : Im} {a b : Int} {Q : Int → Im → Prop} (hQ : Q (min a b) M) : sp_J9_min_f86c9 a b M Q := by
  unfold sp_J9_min_f86c9
  exact ⟨fun h => by rw [Int.min_eq_right (by omega)] at hQ; exact hQ, fun h => by rw [Int.min_eq_left h] at hQ; exact hQ⟩
theorem c_max {M : Im} {a b : Int} {Q : Int → Im → Prop} (hQ : Q (max a b) M) : sp_J9_max_f86c9 a b M Q := by
  unfold sp_J9_max_f86c9
  exact ⟨fun h => by rw [Int.max_eq_right (by omega)] at hQ; exact hQ, fun h => by rw [Int.max_eq_left h] at hQ; exact hQ⟩
theorem c_guess_62 {M : Im} {a n : Nat} {x : Int} {Q : Int → Im → Prop} (hn : gI M a 3 = (n : Int)) (h1 : 1 ≤ n) (h2 : n ≤ 2000) (hQ : Q (clL x (n - 1)) M) : sp_X0_guessAway_62 a x M Q := by
  unfold sp_X0_guessAway_62
  rw [hn]
  refine ⟨by omega, c_min (c_max ⟨by omega, ?_⟩)⟩
  have e : max 0 (min x ((n : Int) - 1)) = clL x (n - 1) := by
    unfold clL
    split
    · omega
    · split <;> omega
  rw [e]; exact hQ
/-- floorDiv by what is above 0 -/
theorem xor_sign {a b : Int} (hb : 0 < b) (ra : -9223372036854775808 ≤ a ∧ a < 9223372036854775808) (rb : b < 9223372036854775808) : (0 ≤ (lz a ^^^ lz b).toInt ↔ 0 ≤ a) := by
  have h1 : (lz a ^^^ lz b).toInt = ((lz a).toBitVec ^^^ (lz b).toBitVec).toInt := rfl
  have e1 : (lz a).toBitVec.msb = decide (a < 0) := by
    rw [BitVec.msb_eq_toInt]
    have : (lz a).toBitVec.toInt = a := lz_t ra
    rw [this]
  have e2 : (lz b).toBitVec.msb = decide (b < 0) := by
    rw [BitVec.msb_eq_toInt]
    have : (lz b).toBitVec.toInt = b := lz_t (by omega)
    rw [this]
  have e3 := BitVec.msb_eq_toInt (x := (lz a).toBitVec ^^^ (lz b).toBitVec)
  rw [BitVec.msb_xor, e1, e2] at e3
  rw [h1]
  have hb' : decide (b < 0) = false := by simp; omega
  rw [hb', Bool.xor_false] at e3
  have e4 := decide_eq_decide.mp e3
  omega
theorem ediv_uniq {a b q : Int} (hb : 0 < b) (h1 : q * b ≤ a) (h2 : a < q * b + b) : a / b = q := by
  have e1 : q ≤ a / b := (Int.le_ediv_iff_mul_le hb).mpr h1
  have e2 : a / b < q + 1 := Int.ediv_lt_of_lt_mul hb (by rw [Int.add_mul, Int.one_mul]; exact h2)
  omega
theorem c_floorDiv {M : Im} {a b : Int} {Q : Int → Im → Prop} (hb : 0 < b) (ra : -9000000000000000000 ≤ a ∧ a < 9000000000000000000) (rb : b < 9000000000000000000) (hQ : Q (a / b) M) : sp_J9_floorDiv_f86c9 a b M Q := by
  have hx := xor_sign (a := a) hb (by omega) (by omega)
  unfold sp_J9_floorDiv_f86c9
  rcases Int.lt_or_le a 0 with ha | ha
  · obtain ⟨n, hn⟩ : ∃ n : Nat, a = -(n : Int) := ⟨a.natAbs, by omega⟩
    obtain ⟨c, hc⟩ : ∃ c : Nat, b = (c : Int) := ⟨b.toNat, by omega⟩
    subst hc
    subst hn
    have t1 : (-(n : Int)).tdiv (c : Int) = -((n / c : Nat) : Int) := by
      rw [Int.neg_tdiv, Int.tdiv_eq_ediv_of_nonneg (by omega)]; simp
    have d1 := Nat.div_le_self n c
    have d2 := Nat.div_mul_le_self n c
    have d3 := Nat.mod_add_div n c
    have d4 := Nat.mod_lt n (show 0 < c by omega)
    rw [Nat.mul_comm] at d3
    have p1 : ((n / c * c : Nat) : Int) = ((n / c : Nat) : Int) * (c : Int) := by simp
    generalize n / c = w at *
    generalize hy : w * c = y at *
    rw [t1]
    refine ⟨by omega, by omega, ?_⟩
    rintro j1 rfl
    have p2 : -(w : Int) * (c : Int) = -(y : Int) := by rw [Int.neg_mul, ← p1]
    rw [p2]
    refine ⟨fun h => absurd (hx.mp h) (by omega), fun _ => ⟨by omega, fun h => ?_, fun h => ⟨by omega, ?_⟩⟩⟩
    · have e : (-(n : Int)) / (c : Int) = -(w : Int) := ediv_uniq hb (by rw [p2]; omega) (by rw [p2]; omega)
      rw [e] at hQ; exact hQ
    · have p3 : (-(w : Int) - 1) * (c : Int) = -(y : Int) - c := by rw [Int.sub_mul, p2, Int.one_mul]
      have e : (-(n : Int)) / (c : Int) = -(w : Int) - 1 := ediv_uniq hb (by rw [p3]; omega) (by rw [p3]; omega)
      rw [e] at hQ; exact hQ
  · have t1 : a.tdiv b = a / b := Int.tdiv_eq_ediv_of_nonneg ha
    have b1 : 0 ≤ a / b := Int.ediv_nonneg ha (Int.le_of_lt hb)
    have b2 : a / b ≤ a := Int.ediv_le_self b ha
    rw [t1]
    refine ⟨by omega, by omega, ?_⟩
    rintro j1 rfl
    exact ⟨fun _ => hQ, fun h => absurd (hx.mpr ha) (by omega)⟩
/-- what is asked of a piece, that its guess may be told -/
def gok (q : Pc) : Prop := LineB (pln q) ∧ 1 ≤ (pks q).length ∧ (pks q).length ≤ 600
theorem lineB_dbl {q : Pc} (h : gok q) {d : Int} (hd : -2000000000000 ≤ d ∧ d ≤ 2000000000000) : vok (vOf q d) ∧ nn (FP.dmul (dbA q) (FP.l2d (lz d))) := by
  obtain ⟨⟨l1, l2, l3, l4, l5, l6⟩, -, -⟩ := h
  have e12 : (2 : Nat) ^ 12 = 4096 := by decide
  have e41 : (2 : Nat) ^ 41 = 2199023255552 := by decide
  have e55 : (2 : Nat) ^ 55 = 36028797018963968 := by decide
  have m1 := int_mag' (i := (pln q).1) (j := 12) (by omega) (by omega)
  have m2 := int_mag' (i := d) (j := 41) (by omega) (by omega)
  have m3 := int_mag' (i := (pln q).2.2) (j := 55) (by omega) (by omega)
  have r1 := FP.Core.l2d_big (v := lz (pln q).2.1) (by rw [lz_t (by omega)]; omega)
  have a1 : (dbA q).toNat % 2 ^ 63 < (1036 + (1074 - 52 - 1) - 1023 + 3) * 2 ^ 52 := FP.Core.ddiv_mag (K := 1036) (L := 1023) (Nat.lt_of_le_of_lt m1 (Nat.mul_lt_mul_of_pos_right (by decide) (Nat.two_pow_pos _))) r1.1 r1.2 (by decide) (by decide)
  have b1 : (dbB q).toNat % 2 ^ 63 < (1079 + (1074 - 52 - 1) - 1023 + 3) * 2 ^ 52 := FP.Core.ddiv_mag (K := 1079) (L := 1023) (Nat.lt_of_le_of_lt m3 (Nat.mul_lt_mul_of_pos_right (by decide) (Nat.two_pow_pos _))) r1.1 r1.2 (by decide) (by decide)
  have c1 : (FP.dmul (dbA q) (FP.l2d (lz d))).toNat % 2 ^ 63 < (1037 + 1065 - 1025 + 3) * 2 ^ 52 := FP.Core.dmul_mag (Ka := 1037) (Kb := 1065) a1 (Nat.lt_of_le_of_lt m2 (Nat.mul_lt_mul_of_pos_right (by decide) (Nat.two_pow_pos _))) (by decide) (by decide)
  have v1 : (vOf q d).toNat % 2 ^ 63 < (1080 + 2) * 2 ^ 52 := FP.Core.dadd_mag (K := 1080) (Nat.lt_of_lt_of_le b1 (Nat.mul_le_mul_right _ (by decide))) c1 (by decide)
  exact ⟨vok_of (Nat.lt_of_lt_of_le v1 (Nat.mul_le_mul_right _ (by decide))), nn_of_mag c1 (by decide)⟩
theorem c_guessAway {M : Im} {t a st sl : Nat} {q : Pc} {d : Int} {Q : Int → Im → Prop} (ha : 97 ≤ a) (ha' : a < gz M) (hP : PR M t a st sl q) (hq : gok q) (hki : pki q = 0 ∨ pki q = 1 ∨ pki q = 2) (hd : -2000000000000 ≤ d ∧ d ≤ 2000000000000) (hQ : Q (gs q d) M) : sp_X0_guessAway a d M Q := by
  obtain ⟨⟨a0, a1, a2, a3, a4, a5⟩, ⟨a6, a7, a8⟩, a9, -, -⟩ := hP
  obtain ⟨v1, v2⟩ := lineB_dbl hq hd
  obtain ⟨⟨l1, l2, l3, l4, l5, l6⟩, hn1, hn2⟩ := hq
  unfold gs at hQ
  unfold sp_X0_guessAway
  rw [a0, a6, a7, a8]
  refine ⟨iO_hi ha ha', fun h => ?_, fun h => ⟨fun _ => ⟨fun h2 => ?_, fun h2 => ?_⟩, fun h => by omega⟩⟩
  · rw [if_pos h] at hQ; exact hQ
  · rw [if_neg h, if_neg h2] at hQ
    have q1 : 0 ≤ (pln q).1 * 2000000000000 - (pln q).1 * d := by rw [← Int.mul_sub]; exact Int.mul_nonneg l1 (by omega)
    have q2 : 0 ≤ (pln q).1 * d + (pln q).1 * 2000000000000 := by rw [← Int.mul_add]; exact Int.mul_nonneg l1 (by omega)
    refine ⟨by omega, by omega, c_floorDiv l3 (by omega) (by omega) ?_⟩
    exact c_guess_62 a3 (by omega) (by omega) hQ
  · rw [if_neg h, if_pos h2] at hQ
    obtain ⟨d1, d2⟩ := a9 h2
    intro f7 e7
    rw [d1] at e7
    have e7 := alike_eq v2 e7
    intro f8 e8
    rw [d2, e7] at e8
    have e8 : f8 = vOf q d := alike_eq v1.1 e8
    subst e8
    refine c_roundedDown v1 (last := (pks q).length - 1) (by omega) fun x hx1 hx2 hx => ?_
    rw [← hx] at hQ
    exact c_guess_62 a3 (by omega) (by omega) hQ
