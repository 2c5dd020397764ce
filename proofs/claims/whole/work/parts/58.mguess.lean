/-! ===== the model's guess ===== -/
/-- a piece of the model, number g, its keys from fr on -/
def MP (M : Im) (g fr : Nat) (q : Pc) : Prop :=
  (gI M 74 g = pki q ∧ gI M 75 g = fr ∧ gI M 76 g = (pks q).length ∧ gI M 77 g = pma q ∧ gI M 78 g = (plt q).length) ∧
  (gL M 79 g = (pln q).1 ∧ gL M 80 g = (pln q).2.1 ∧ gL M 81 g = (pln q).2.2) ∧
  (∀ i, i < (pks q).length → gL M 82 (fr + i) = kf q i ∧ gI M 84 (fr + i) = df q i) ∧ (∀ i, i < (plt q).length → gL M 83 (16 * g + i) = tf q i)
theorem nn_zero : nn FP.dconst0 := by
  intro e
  have h : FP.Core.val64 FP.dconst0 = FP.Core.val64 0 := rfl
  rw [h, FP.Core.val64_zero] at e
  cases e
theorem zv_zero : zv FP.dconst0 = 0 := FP.Core.zval64_zero
theorem nn_i2d (i : Int32) : nn (FP.i2d i) := FP.Core.DInt_ne_nan (FP.Core.i2d_int i)
theorem zv_i2d {i : Int} (h : -2147483648 ≤ i ∧ i < 2147483648) : zv (FP.i2d (iz i)) = i * O64 := by
  have h2 := FP.Core.DInt_zval (FP.Core.i2d_int (iz i))
  rw [iz_t h] at h2
  exact h2
theorem d2i_small {v : UInt64} {k : Int} (hn : nn v) (h0 : 0 < zv v) (hk : zv v < k * O64) (hk2 : k ≤ 2000) : (FP.d2i v).toInt = zv v / O64 := by
  have h := FP.Core.d2i_val hn
  have e31 : (2 : Int) ^ 31 = 2147483648 := by decide
  rw [e31] at h
  have h' : (FP.d2i v).toInt = max (-2147483648) (min (2147483648 - 1) (FP.Core.signed (FP.Core.sgn (FP.Core.val64 v)) (FP.Core.zmag FP.Core.b64 (FP.Core.val64 v) / FP.Core.one64))) := h
  clear h
  have h3 := zdiv_lt hk
  have h4 : 0 ≤ zv v / O64 := Int.ediv_nonneg (by omega) (Int.le_of_lt O64_pos)
  generalize (FP.d2i v).toInt = T at h' ⊢
  unfold FP.Core.signed at h'
  rcases zv_cases v with ⟨h1, h2⟩ | ⟨h1, h2⟩
  · rw [h2, if_neg (by decide)] at h'
    rw [h1, zd_cast] at h3 h4 ⊢
    generalize FP.Core.zmag FP.Core.b64 (FP.Core.val64 v) / FP.Core.one64 = w at *
    omega
  · omega
theorem d_guessOf {M : Im} {g fr : Nat} {q : Pc} {k : Int} {Q : Int → Im → Prop} (hk : K0 ≤ gz M) (hg : g < 10000) (hP : MP M g fr q) (hfr : fr + (pks q).length ≤ 12000) (hq : gok q) (hki : kik q) (hd : -2000000000000 ≤ k - kf q 0 ∧ k - kf q 0 ≤ 2000000000000) (hQ : Q (gs q (k - kf q 0)) M) : sp_X5_guessOf 69 g k M Q := by
  obtain ⟨⟨a0, a1, a2, a3, a4⟩, ⟨a6, a7, a8⟩, b1, -⟩ := hP
  obtain ⟨v1, v2⟩ := lineB_dbl hq hd
  have hq' := hq
  obtain ⟨⟨l1, l2, l3, l4, l5, l6⟩, hn1, hn2⟩ := hq'
  have k0 := (b1 0 (by omega)).1
  rw [Nat.add_zero] at k0
  unfold gs at hQ
  have w74 : alen 74 = 10000 := rfl
  have w75 : alen 75 = 10000 := rfl
  have w76 : alen 76 = 10000 := rfl
  have w79 : alen 79 = 10000 := rfl
  have w80 : alen 80 = 10000 := rfl
  have w81 : alen 81 = 10000 := rfl
  have w82 : alen 82 = 12000 := rfl
  have q1 : 0 ≤ (pln q).1 * 2000000000000 - (pln q).1 * (k - kf q 0) := by rw [← Int.mul_sub]; exact Int.mul_nonneg l1 (by omega)
  have q2 : 0 ≤ (pln q).1 * (k - kf q 0) + (pln q).1 * 2000000000000 := by rw [← Int.mul_add]; exact Int.mul_nonneg l1 (by omega)
  unfold sp_X5_guessOf
  rw [show ((g : Nat) : Int).toNat = g by omega, a0, a1, a2, a6, a7, a8, show ((fr : Nat) : Int).toNat = fr by omega, k0, w74, w75, w76, w79, w80, w81, w82]
  refine ⟨iO_c hk (by decide) rfl, by omega, by omega, ?_⟩
  rintro i1 rfl
  refine ⟨by omega, fun h0 => ⟨by omega, fun h2 => ⟨by omega, by omega, by omega, by omega, by omega, by omega, by omega, ?_⟩, fun h2 => ⟨by omega, by omega, ?_⟩⟩, fun h0 => ?_⟩
  · rw [if_neg h0, if_neg h2] at hQ
    rintro j2 rfl
    have hub : (pln q).2.2 + (pln q).1 * (k - kf q 0) ≤ 30000000000000000 := by omega
    generalize (pln q).2.2 + (pln q).1 * (k - kf q 0) = up at *
    have e1 := Int.ediv_nonneg (a := up) (b := (pln q).2.1)
    refine ⟨fun hup => ⟨by omega, by omega, ?_⟩, fun hup => ?_⟩
    · have b1 : 0 ≤ up / (pln q).2.1 := Int.ediv_nonneg hup (by omega)
      have b2 : up / (pln q).2.1 ≤ up := Int.ediv_le_self _ hup
      rw [Int.tdiv_eq_ediv_of_nonneg hup]
      refine ⟨by omega, ?_⟩
      rintro j3 rfl
      unfold clL at hQ
      refine ⟨fun h => ⟨by omega, ?_⟩, fun h => ?_⟩
      · by_cases e : ((pks q).length : Int) - 1 ≤ up / (pln q).2.1
        · rw [if_pos e] at hQ
          rw [show up / (pln q).2.1 = ((pks q).length : Int) - 1 by omega]; exact hQ
        · rw [if_neg e] at hQ
          by_cases e2 : 0 < up / (pln q).2.1
          · rw [if_pos e2] at hQ; exact hQ
          · rw [if_neg e2] at hQ
            rw [show up / (pln q).2.1 = 0 by omega]; exact hQ
      · rw [if_pos (by omega)] at hQ; exact hQ
    · have b1 : up / (pln q).2.1 < 0 := Int.ediv_neg_of_neg_of_pos hup l3
      unfold clL at hQ
      rw [if_neg (by omega), if_neg (by omega)] at hQ
      exact hQ
  · rw [if_neg h0, if_pos h2] at hQ
    have nA : nn (FP.ddiv (FP.l2d (lz (pln q).1)) (FP.l2d (lz (pln q).2.1))) := nn_of_mag (dbl_mag (by omega) (by omega)) (by decide)
    have nB : nn (FP.ddiv (FP.l2d (lz (pln q).2.2)) (FP.l2d (lz (pln q).2.1))) := nn_of_mag (dbl_mag (by omega) (by omega)) (by decide)
    intro f4 e4
    have e4 : f4 = dbB q := alike_eq nB e4
    refine ⟨by omega, by omega, ?_⟩
    intro f5 e5
    have e5 : f5 = dbA q := alike_eq nA e5
    refine ⟨by omega, by omega, by omega, ?_⟩
    intro f6 e6
    rw [e5] at e6
    have e6 := alike_eq v2 e6
    intro f7 e7
    rw [e4, e6] at e7
    have e7 : f7 = vOf q (k - kf q 0) := alike_eq v1.1 e7
    rw [e7]
    generalize vOf q (k - kf q 0) = v at *
    have z1 := zv_i2d (i := ((pks q).length : Int) - 1) (by omega)
    have n1 := nn_i2d (iz (((pks q).length : Int) - 1))
    unfold clR at hQ
    refine ⟨fun h => ?_, fun h => ?_⟩
    · have hlt : zv v < (((pks q).length : Int) - 1) * O64 := by
        rw [← z1]
        refine Int.not_le.mp fun hle => ?_
        rcases Int.lt_or_eq_of_le hle with hl | hl
        · rw [cmp_gt _ v1.1 n1 hl] at h; omega
        · rw [cmp_eq _ v1.1 n1 hl.symm] at h; omega
      rw [if_neg (by omega)] at hQ
      refine ⟨fun h3 => ?_, fun h3 => ?_⟩
      · have : ¬ 0 < zv v := fun hp => by
          rw [cmp_gt _ v1.1 nn_zero (by rw [zv_zero]; exact hp)] at h3; omega
        rw [if_neg this] at hQ; exact hQ
      · have hp : 0 < zv v := by
          refine Int.not_le.mp fun hle => ?_
          rcases Int.lt_or_eq_of_le hle with hl | hl
          · rw [cmp_lt _ v1.1 nn_zero (by rw [zv_zero]; exact hl)] at h3; omega
          · rw [cmp_eq _ v1.1 nn_zero (by rw [zv_zero]; exact hl)] at h3; omega
        rw [if_pos hp] at hQ
        rw [d2i_small v1.1 hp hlt (by omega)]; exact hQ
    · have hge : (((pks q).length : Int) - 1) * O64 ≤ zv v := by
        rw [← z1]
        refine Int.not_lt.mp fun hl => ?_
        rw [cmp_lt _ v1.1 n1 hl] at h; omega
      rw [if_pos hge] at hQ; exact hQ
  · rw [if_pos h0] at hQ; exact hQ
theorem d_miss_4 {M : Im} {g fr : Nat} {q : Pc} {Q K : Int → Im → Prop} (hk : K0 ≤ gz M) (hg : g < 10000) (hP : MP M g fr q) (hfr : fr + (pks q).length ≤ 12000) (hq : gok q) (hki : kik q) (hb : kbd q) (hK : K (gm q) M) :
    ∀ (d i : Nat), i + d = (pks q).length → sp_X5_miss_4 (d + 1) 69 g (ms q i) i M Q K
  | 0, i, h => by
    obtain rfl : i = (pks q).length := by omega
    have w76 : alen 76 = 10000 := rfl
    unfold sp_X5_miss_4
    rw [show ((g : Nat) : Int).toNat = g by omega, hP.1.2.2.1, w76]
    exact ⟨by omega, fun _ => hK, fun h => by omega⟩
  | d + 1, i, h => by
    have hm := ms_bd hq i (by omega)
    have b0 := hb 0 (by omega)
    have bi := hb i (by omega)
    have hgb := gs_bd hq (kf q i - kf q 0)
    have hl := hq.2.2
    have w75 : alen 75 = 10000 := rfl
    have w76 : alen 76 = 10000 := rfl
    have w82 : alen 82 = 12000 := rfl
    have ki := (hP.2.2.1 i (by omega)).1
    unfold sp_X5_miss_4
    rw [show ((g : Nat) : Int).toNat = g by omega, hP.1.2.2.1, hP.1.2.1, w75, w76, w82, show ((fr : Nat) + (i : Nat) : Int).toNat = fr + i by omega, ki]
    refine ⟨by omega, fun h => by omega, fun _ => ⟨by omega, by omega, by omega, by omega, ?_⟩⟩
    refine d_guessOf hk hg hP hfr hq hki (by omega) ⟨by omega, ?_⟩
    rintro i3 rfl
    have ih := d_miss_4 (Q := Q) (K := K) hk hg hP hfr hq hki hb hK d (i + 1) (by omega)
    have e : ms q (i + 1) = max (ms q i) ((gs q (kf q i - kf q 0) - i).natAbs : Int) := rfl
    unfold sp_X5_miss_61
    refine ⟨fun h1 => ⟨by omega, fun h2 => ⟨by omega, ?_⟩, fun h2 => ⟨by omega, by omega, ?_⟩⟩, fun h1 => ⟨by omega, ?_⟩⟩
    · rintro i4 rfl
      rw [show ms q i = ms q (i + 1) by omega]
      exact ih
    · rintro i4 rfl
      rw [show -(gs q (kf q i - kf q 0) - (i : Int)) = ms q (i + 1) by omega]
      exact ih
    · rintro i4 rfl
      rw [show gs q (kf q i - kf q 0) - (i : Int) = ms q (i + 1) by omega]
      exact ih
theorem d_miss {M : Im} {g fr : Nat} {q : Pc} {Q : Int → Im → Prop} (hk : K0 ≤ gz M) (hg : g < 10000) (hP : MP M g fr q) (hfr : fr + (pks q).length ≤ 12000) (hq : gok q) (hki : kik q) (hb : kbd q) (hQ : Q (gm q) M) : sp_X5_miss 69 g M Q := by
  unfold sp_X5_miss
  exact ⟨iO_c hk (by decide) rfl, (pks q).length + 1, d_miss_4 (Q := Q) (K := fun x2 M => Q x2 M) hk hg hP hfr hq hki hb hQ (pks q).length 0 (by omega)⟩
