/-! sp -> wp, by program -/
theorem w_X4_told {Q : Int32 → Mem → Prop} {bQ : Int → Im → Prop} {x0 : Nat} {x1 : Int32} {y_x1 : Int} {M : Mem} (t_x1 : x1.toInt = y_x1) (h : sp_X4_told x0 y_x1 (ab M) bQ) (hQ : ∀ (z0 : Int32) (u0 : Int) (m : Mem), z0.toInt = u0 → bQ u0 (ab m) → Q z0 m) : wp_X4_told x0 x1 M Q := by
  unfold sp_X4_told at h
  unfold wp_X4_told
  obtain ⟨hp, h⟩ := h
  refine ⟨hp, ?_⟩
  refine ⟨?_, ?_⟩
  · intro hc0
    replace h := h.1 (cltI t_x1 (show (0 : Int32).toInt = 0 from rfl) hc0)
    unfold wp_X4_told_27
    unfold wp_X4_told_29
    exact hQ _ _ _ (show (-2 : Int32).toInt = -2 from rfl) h
  · intro hc0
    replace h := h.2 (cnltI t_x1 (show (0 : Int32).toInt = 0 from rfl) hc0)
    refine ⟨?_, ?_⟩
    · intro hc0
      replace h := h.1 (cleI (tr_I rfl) t_x1 hc0)
      unfold wp_X4_told_27
      unfold wp_X4_told_29
      exact hQ _ _ _ (show (-2 : Int32).toInt = -2 from rfl) h
    · intro hc0
      replace h := h.2 (cnleI (tr_I rfl) t_x1 hc0)
      obtain ⟨hp, h⟩ := h
      refine ⟨(tinb t_x1 hp), ?_⟩
      unfold wp_X4_told_29
      exact hQ _ _ _ (tr_I (tnatI t_x1)) h
theorem w_X4_check {Q : Int32 → Mem → Prop} {bQ : Int → Im → Prop} {x0 : Nat} {x1 : Int64} {y_x1 : Int} {M : Mem} (t_x1 : x1.toInt = y_x1) (h : sp_X4_check x0 y_x1 (ab M) bQ) (hQ : ∀ (z0 : Int32) (u0 : Int) (m : Mem), z0.toInt = u0 → bQ u0 (ab m) → Q z0 m) : wp_X4_check x0 x1 M Q := by
  unfold sp_X4_check at h
  unfold wp_X4_check
  obtain ⟨hp, h⟩ := h
  refine ⟨hp, ?_⟩
  refine w_X4_hasIndex  h (fun i2 y_i2 M1 t_i2 h => ?_)
  refine ⟨?_, ?_⟩
  · intro hc0
    replace h := h.1 (cneI t_i2 (show (0 : Int32).toInt = 0 from rfl) hc0)
    refine w_X4_isKey t_x1 h (fun i4 y_i4 M3 t_i4 h => ?_)
    refine ⟨?_, ?_⟩
    · intro hc0
      replace h := h.1 (ceqI t_i4 (show (0 : Int32).toInt = 0 from rfl) hc0)
      unfold wp_X4_check_26
      exact hQ _ _ _ (show (-2 : Int32).toInt = -2 from rfl) h
    · intro hc0
      replace h := h.2 (cneI t_i4 (show (0 : Int32).toInt = 0 from rfl) hc0)
      refine ⟨?_, ?_⟩
      · intro hc0
        replace h := h.1 (cneI (tr_I rfl) (show (0 : Int32).toInt = 0 from rfl) hc0)
        intro r5 e_r5
        replace h := h r5 (e_r5.trans (tr_R rfl))
        refine w_X3_follow t_x1 (tr_I rfl) h (fun M6 h => ?_)
        refine w_X3_tellsTheSame  h (fun i8 y_i8 M7 t_i8 h => ?_)
        refine ⟨?_, ?_⟩
        · intro hc0
          replace h := h.1 (ceqI t_i8 (show (0 : Int32).toInt = 0 from rfl) hc0)
          unfold wp_X4_check_77
          obtain ⟨rr340, h⟩ := h
          obtain ⟨rr341, h⟩ := h
          exact hQ _ _ _ (taddI (tmulI (show (2 : Int32).toInt = 2 from rfl) (tr_I rfl) rr340) (show (0 : Int32).toInt = 0 from rfl) rr341) h
        · intro hc0
          replace h := h.2 (cneI t_i8 (show (0 : Int32).toInt = 0 from rfl) hc0)
          unfold wp_X4_check_77
          obtain ⟨rr344, h⟩ := h
          obtain ⟨rr345, h⟩ := h
          exact hQ _ _ _ (taddI (tmulI (show (2 : Int32).toInt = 2 from rfl) (tr_I rfl) rr344) (show (1 : Int32).toInt = 1 from rfl) rr345) h
      · intro hc0
        replace h := h.2 (ceqI (tr_I rfl) (show (0 : Int32).toInt = 0 from rfl) hc0)
        unfold wp_X4_check_26
        exact hQ _ _ _ (show (-2 : Int32).toInt = -2 from rfl) h
  · intro hc0
    replace h := h.2 (ceqI t_i2 (show (0 : Int32).toInt = 0 from rfl) hc0)
    exact hQ _ _ _ (show (-1 : Int32).toInt = -1 from rfl) h
theorem w_X4_count {Q : Int32 → Mem → Prop} {bQ : Int → Im → Prop} {x0 : Nat} {x1 : Int32} {y_x1 : Int} {M : Mem} (t_x1 : x1.toInt = y_x1) (h : sp_X4_count x0 y_x1 (ab M) bQ) (hQ : ∀ (z0 : Int32) (u0 : Int) (m : Mem), z0.toInt = u0 → bQ u0 (ab m) → Q z0 m) : wp_X4_count x0 x1 M Q := by
  unfold sp_X4_count at h
  unfold wp_X4_count
  obtain ⟨hp, h⟩ := h
  refine ⟨hp, ?_⟩
  refine ⟨?_, ?_, ?_, ?_, ?_, ?_⟩
  · intro hc0
    replace h := h.1 (ceqI t_x1 (show (0 : Int32).toInt = 0 from rfl) hc0)
    exact hQ _ _ _ (tr_I rfl) h
  · intro hc0
    replace h := h.2.1 (ceqI t_x1 (show (1 : Int32).toInt = 1 from rfl) hc0)
    exact hQ _ _ _ (tr_I rfl) h
  · intro hc0
    replace h := h.2.2.1 (ceqI t_x1 (show (2 : Int32).toInt = 2 from rfl) hc0)
    exact hQ _ _ _ (tr_I rfl) h
  · intro hc0
    replace h := h.2.2.2.1 (ceqI t_x1 (show (3 : Int32).toInt = 3 from rfl) hc0)
    exact hQ _ _ _ (tr_I rfl) h
  · intro hc0
    replace h := h.2.2.2.2.1 (ceqI t_x1 (show (4 : Int32).toInt = 4 from rfl) hc0)
    exact hQ _ _ _ (tr_I rfl) h
  · intro hc0 hc1 hc2 hc3 hc4
    replace h := h.2.2.2.2.2 (cneI t_x1 (show (0 : Int32).toInt = 0 from rfl) hc0) (cneI t_x1 (show (1 : Int32).toInt = 1 from rfl) hc1) (cneI t_x1 (show (2 : Int32).toInt = 2 from rfl) hc2) (cneI t_x1 (show (3 : Int32).toInt = 3 from rfl) hc3) (cneI t_x1 (show (4 : Int32).toInt = 4 from rfl) hc4)
    exact hQ _ _ _ (show (-1 : Int32).toInt = -1 from rfl) h
theorem w_X5_init {Q : Mem → Prop} {bQ : Im → Prop} {x0 : Nat} {M : Mem} (h : sp_X5_init x0 (ab M) bQ) (hQ : ∀ (m : Mem), bQ (ab m) → Q m) : wp_X5_init x0 M Q := by
  unfold sp_X5_init at h
  unfold wp_X5_init
  obtain ⟨hp, h⟩ := h
  refine ⟨hp, ?_⟩
  obtain ⟨hp, h⟩ := h
  refine ⟨(tnlI (show (300 : Int32).toInt = 300 from rfl) hp), ?_⟩
  obtain ⟨hp, h⟩ := h
  refine ⟨hp, ?_⟩
  obtain ⟨hp, h⟩ := h
  refine ⟨(tshp (rfl : (300 : Int32).toNatClampNeg = 300) hp), ?_⟩
  obtain ⟨hp, h⟩ := h
  refine ⟨(tby (rfl : (300 : Int32).toNatClampNeg = 300) hp), ?_⟩
  intro a1 M2 e1 e2
  replace h := h a1 (ab M2) e1 ((congrArg ab e2).trans ab_nw)
  intro M3 e_M3
  replace h := h (ab M3) ((congrArg ab e_M3).trans (ab_sR rfl rfl))
  intro M4 e_M4
  replace h := h (ab M4) ((congrArg ab e_M4).trans (ab_sI rfl (show (0 : Int32).toInt = 0 from rfl)))
  intro M5 e_M5
  replace h := h (ab M5) ((congrArg ab e_M5).trans (ab_sI rfl (show (8 : Int32).toInt = 8 from rfl)))
  obtain ⟨hp, h⟩ := h
  refine ⟨(tnlI (show (5000 : Int32).toInt = 5000 from rfl) hp), ?_⟩
  obtain ⟨hp, h⟩ := h
  refine ⟨hp, ?_⟩
  obtain ⟨hp, h⟩ := h
  refine ⟨(tshp (rfl : (5000 : Int32).toNatClampNeg = 5000) hp), ?_⟩
  obtain ⟨hp, h⟩ := h
  refine ⟨(tby (rfl : (5000 : Int32).toNatClampNeg = 5000) hp), ?_⟩
  intro a6 M7 e1 e2
  replace h := h a6 (ab M7) e1 ((congrArg ab e2).trans ab_nw)
  intro M8 e_M8
  replace h := h (ab M8) ((congrArg ab e_M8).trans (ab_sR rfl rfl))
  intro M9 e_M9
  replace h := h (ab M9) ((congrArg ab e_M9).trans (ab_sL rfl (show (0 : Int64).toInt = 0 from rfl)))
  intro M10 e_M10
  replace h := h (ab M10) ((congrArg ab e_M10).trans (ab_sL rfl (show (0 : Int64).toInt = 0 from rfl)))
  intro M11 e_M11
  replace h := h (ab M11) ((congrArg ab e_M11).trans (ab_sL rfl (show (0 : Int64).toInt = 0 from rfl)))
  intro M12 e_M12
  replace h := h (ab M12) ((congrArg ab e_M12).trans (ab_sL rfl (show (0 : Int64).toInt = 0 from rfl)))
  intro M13 e_M13
  replace h := h (ab M13) ((congrArg ab e_M13).trans (ab_sI rfl (show (0 : Int32).toInt = 0 from rfl)))
  intro M14 e_M14
  replace h := h (ab M14) ((congrArg ab e_M14).trans (ab_sI rfl (show (0 : Int32).toInt = 0 from rfl)))
  obtain ⟨hp, h⟩ := h
  refine ⟨(tnlI (show (20 : Int32).toInt = 20 from rfl) hp), ?_⟩
  obtain ⟨hp, h⟩ := h
  refine ⟨hp, ?_⟩
  obtain ⟨hp, h⟩ := h
  refine ⟨(tshp (rfl : (20 : Int32).toNatClampNeg = 20) hp), ?_⟩
  obtain ⟨hp, h⟩ := h
  refine ⟨(tby (rfl : (20 : Int32).toNatClampNeg = 20) hp), ?_⟩
  intro a15 M16 e1 e2
  replace h := h a15 (ab M16) e1 ((congrArg ab e2).trans ab_nw)
  intro M17 e_M17
  replace h := h (ab M17) ((congrArg ab e_M17).trans (ab_sR rfl rfl))
  obtain ⟨hp, h⟩ := h
  refine ⟨(tnlI (show (20 : Int32).toInt = 20 from rfl) hp), ?_⟩
  obtain ⟨hp, h⟩ := h
  refine ⟨hp, ?_⟩
  obtain ⟨hp, h⟩ := h
  refine ⟨(tshp (rfl : (20 : Int32).toNatClampNeg = 20) hp), ?_⟩
  obtain ⟨hp, h⟩ := h
  refine ⟨(tby (rfl : (20 : Int32).toNatClampNeg = 20) hp), ?_⟩
  intro a18 M19 e1 e2
  replace h := h a18 (ab M19) e1 ((congrArg ab e2).trans ab_nw)
  intro M20 e_M20
  replace h := h (ab M20) ((congrArg ab e_M20).trans (ab_sR rfl rfl))
  obtain ⟨hp, h⟩ := h
  refine ⟨(tnlI (show (10000 : Int32).toInt = 10000 from rfl) hp), ?_⟩
  obtain ⟨hp, h⟩ := h
  refine ⟨hp, ?_⟩
  obtain ⟨hp, h⟩ := h
  refine ⟨(tshp (rfl : (10000 : Int32).toNatClampNeg = 10000) hp), ?_⟩
  obtain ⟨hp, h⟩ := h
  refine ⟨(tby (rfl : (10000 : Int32).toNatClampNeg = 10000) hp), ?_⟩
  intro a21 M22 e1 e2
  replace h := h a21 (ab M22) e1 ((congrArg ab e2).trans ab_nw)
  intro M23 e_M23
  replace h := h (ab M23) ((congrArg ab e_M23).trans (ab_sR rfl rfl))
  obtain ⟨hp, h⟩ := h
  refine ⟨(tnlI (show (10000 : Int32).toInt = 10000 from rfl) hp), ?_⟩
  obtain ⟨hp, h⟩ := h
  refine ⟨hp, ?_⟩
  obtain ⟨hp, h⟩ := h
  refine ⟨(tshp (rfl : (10000 : Int32).toNatClampNeg = 10000) hp), ?_⟩
  obtain ⟨hp, h⟩ := h
  refine ⟨(tby (rfl : (10000 : Int32).toNatClampNeg = 10000) hp), ?_⟩
  intro a24 M25 e1 e2
  replace h := h a24 (ab M25) e1 ((congrArg ab e2).trans ab_nw)
  intro M26 e_M26
  replace h := h (ab M26) ((congrArg ab e_M26).trans (ab_sR rfl rfl))
  obtain ⟨hp, h⟩ := h
  refine ⟨(tnlI (show (10000 : Int32).toInt = 10000 from rfl) hp), ?_⟩
  obtain ⟨hp, h⟩ := h
  refine ⟨hp, ?_⟩
  obtain ⟨hp, h⟩ := h
  refine ⟨(tshp (rfl : (10000 : Int32).toNatClampNeg = 10000) hp), ?_⟩
  obtain ⟨hp, h⟩ := h
  refine ⟨(tby (rfl : (10000 : Int32).toNatClampNeg = 10000) hp), ?_⟩
  intro a27 M28 e1 e2
  replace h := h a27 (ab M28) e1 ((congrArg ab e2).trans ab_nw)
  intro M29 e_M29
  replace h := h (ab M29) ((congrArg ab e_M29).trans (ab_sR rfl rfl))
  obtain ⟨hp, h⟩ := h
  refine ⟨(tnlI (show (10000 : Int32).toInt = 10000 from rfl) hp), ?_⟩
  obtain ⟨hp, h⟩ := h
  refine ⟨hp, ?_⟩
  obtain ⟨hp, h⟩ := h
  refine ⟨(tshp (rfl : (10000 : Int32).toNatClampNeg = 10000) hp), ?_⟩
  obtain ⟨hp, h⟩ := h
  refine ⟨(tby (rfl : (10000 : Int32).toNatClampNeg = 10000) hp), ?_⟩
  intro a30 M31 e1 e2
  replace h := h a30 (ab M31) e1 ((congrArg ab e2).trans ab_nw)
  intro M32 e_M32
  replace h := h (ab M32) ((congrArg ab e_M32).trans (ab_sR rfl rfl))
  obtain ⟨hp, h⟩ := h
  refine ⟨(tnlI (show (10000 : Int32).toInt = 10000 from rfl) hp), ?_⟩
  obtain ⟨hp, h⟩ := h
  refine ⟨hp, ?_⟩
  obtain ⟨hp, h⟩ := h
  refine ⟨(tshp (rfl : (10000 : Int32).toNatClampNeg = 10000) hp), ?_⟩
  obtain ⟨hp, h⟩ := h
  refine ⟨(tby (rfl : (10000 : Int32).toNatClampNeg = 10000) hp), ?_⟩
  intro a33 M34 e1 e2
  replace h := h a33 (ab M34) e1 ((congrArg ab e2).trans ab_nw)
  intro M35 e_M35
  replace h := h (ab M35) ((congrArg ab e_M35).trans (ab_sR rfl rfl))
  obtain ⟨hp, h⟩ := h
  refine ⟨(tnlI (show (10000 : Int32).toInt = 10000 from rfl) hp), ?_⟩
  obtain ⟨hp, h⟩ := h
  refine ⟨hp, ?_⟩
  obtain ⟨hp, h⟩ := h
  refine ⟨(tshp (rfl : (10000 : Int32).toNatClampNeg = 10000) hp), ?_⟩
  obtain ⟨hp, h⟩ := h
  refine ⟨(tby (rfl : (10000 : Int32).toNatClampNeg = 10000) hp), ?_⟩
  intro a36 M37 e1 e2
  replace h := h a36 (ab M37) e1 ((congrArg ab e2).trans ab_nw)
  intro M38 e_M38
  replace h := h (ab M38) ((congrArg ab e_M38).trans (ab_sR rfl rfl))
  obtain ⟨hp, h⟩ := h
  refine ⟨(tnlI (show (10000 : Int32).toInt = 10000 from rfl) hp), ?_⟩
  obtain ⟨hp, h⟩ := h
  refine ⟨hp, ?_⟩
  obtain ⟨hp, h⟩ := h
  refine ⟨(tshp (rfl : (10000 : Int32).toNatClampNeg = 10000) hp), ?_⟩
  obtain ⟨hp, h⟩ := h
  refine ⟨(tby (rfl : (10000 : Int32).toNatClampNeg = 10000) hp), ?_⟩
  intro a39 M40 e1 e2
  replace h := h a39 (ab M40) e1 ((congrArg ab e2).trans ab_nw)
  intro M41 e_M41
  replace h := h (ab M41) ((congrArg ab e_M41).trans (ab_sR rfl rfl))
  obtain ⟨hp, h⟩ := h
  refine ⟨(tnlI (show (10000 : Int32).toInt = 10000 from rfl) hp), ?_⟩
  obtain ⟨hp, h⟩ := h
  refine ⟨hp, ?_⟩
  obtain ⟨hp, h⟩ := h
  refine ⟨(tshp (rfl : (10000 : Int32).toNatClampNeg = 10000) hp), ?_⟩
  obtain ⟨hp, h⟩ := h
  refine ⟨(tby (rfl : (10000 : Int32).toNatClampNeg = 10000) hp), ?_⟩
  intro a42 M43 e1 e2
  replace h := h a42 (ab M43) e1 ((congrArg ab e2).trans ab_nw)
  intro M44 e_M44
  replace h := h (ab M44) ((congrArg ab e_M44).trans (ab_sR rfl rfl))
  obtain ⟨hp, h⟩ := h
  refine ⟨(tnlI (show (12000 : Int32).toInt = 12000 from rfl) hp), ?_⟩
  obtain ⟨hp, h⟩ := h
  refine ⟨hp, ?_⟩
  obtain ⟨hp, h⟩ := h
  refine ⟨(tshp (rfl : (12000 : Int32).toNatClampNeg = 12000) hp), ?_⟩
  obtain ⟨hp, h⟩ := h
  refine ⟨(tby (rfl : (12000 : Int32).toNatClampNeg = 12000) hp), ?_⟩
  intro a45 M46 e1 e2
  replace h := h a45 (ab M46) e1 ((congrArg ab e2).trans ab_nw)
  intro M47 e_M47
  replace h := h (ab M47) ((congrArg ab e_M47).trans (ab_sR rfl rfl))
  obtain ⟨hp, h⟩ := h
  refine ⟨(tnlI (show (160000 : Int32).toInt = 160000 from rfl) hp), ?_⟩
  obtain ⟨hp, h⟩ := h
  refine ⟨hp, ?_⟩
  obtain ⟨hp, h⟩ := h
  refine ⟨(tshp (rfl : (160000 : Int32).toNatClampNeg = 160000) hp), ?_⟩
  obtain ⟨hp, h⟩ := h
  refine ⟨(tby (rfl : (160000 : Int32).toNatClampNeg = 160000) hp), ?_⟩
  intro a48 M49 e1 e2
  replace h := h a48 (ab M49) e1 ((congrArg ab e2).trans ab_nw)
  intro M50 e_M50
  replace h := h (ab M50) ((congrArg ab e_M50).trans (ab_sR rfl rfl))
  obtain ⟨hp, h⟩ := h
  refine ⟨(tnlI (show (12000 : Int32).toInt = 12000 from rfl) hp), ?_⟩
  obtain ⟨hp, h⟩ := h
  refine ⟨hp, ?_⟩
  obtain ⟨hp, h⟩ := h
  refine ⟨(tshp (rfl : (12000 : Int32).toNatClampNeg = 12000) hp), ?_⟩
  obtain ⟨hp, h⟩ := h
  refine ⟨(tby (rfl : (12000 : Int32).toNatClampNeg = 12000) hp), ?_⟩
  intro a51 M52 e1 e2
  replace h := h a51 (ab M52) e1 ((congrArg ab e2).trans ab_nw)
  intro M53 e_M53
  replace h := h (ab M53) ((congrArg ab e_M53).trans (ab_sR rfl rfl))
  intro M54 e_M54
  replace h := h (ab M54) ((congrArg ab e_M54).trans (ab_sI rfl (show (0 : Int32).toInt = 0 from rfl)))
  intro M55 e_M55
  replace h := h (ab M55) ((congrArg ab e_M55).trans (ab_sI rfl (show (0 : Int32).toInt = 0 from rfl)))
  intro M56 e_M56
  replace h := h (ab M56) ((congrArg ab e_M56).trans (ab_sI rfl (show (0 : Int32).toInt = 0 from rfl)))
  intro M57 e_M57
  replace h := h (ab M57) ((congrArg ab e_M57).trans (ab_sI rfl (show (0 : Int32).toInt = 0 from rfl)))
  obtain ⟨hp, h⟩ := h
  refine ⟨(tnlI (show (5000 : Int32).toInt = 5000 from rfl) hp), ?_⟩
  obtain ⟨hp, h⟩ := h
  refine ⟨hp, ?_⟩
  obtain ⟨hp, h⟩ := h
  refine ⟨(tshp (rfl : (5000 : Int32).toNatClampNeg = 5000) hp), ?_⟩
  obtain ⟨hp, h⟩ := h
  refine ⟨(tby (rfl : (5000 : Int32).toNatClampNeg = 5000) hp), ?_⟩
  intro a58 M59 e1 e2
  replace h := h a58 (ab M59) e1 ((congrArg ab e2).trans ab_nw)
  intro M60 e_M60
  replace h := h (ab M60) ((congrArg ab e_M60).trans (ab_sR rfl rfl))
  obtain ⟨hp, h⟩ := h
  refine ⟨(tnlI (show (5000 : Int32).toInt = 5000 from rfl) hp), ?_⟩
  obtain ⟨hp, h⟩ := h
  refine ⟨hp, ?_⟩
  obtain ⟨hp, h⟩ := h
  refine ⟨(tshp (rfl : (5000 : Int32).toNatClampNeg = 5000) hp), ?_⟩
  obtain ⟨hp, h⟩ := h
  refine ⟨(tby (rfl : (5000 : Int32).toNatClampNeg = 5000) hp), ?_⟩
  intro a61 M62 e1 e2
  replace h := h a61 (ab M62) e1 ((congrArg ab e2).trans ab_nw)
  intro M63 e_M63
  replace h := h (ab M63) ((congrArg ab e_M63).trans (ab_sR rfl rfl))
  obtain ⟨hp, h⟩ := h
  refine ⟨(tnlI (show (5000 : Int32).toInt = 5000 from rfl) hp), ?_⟩
  obtain ⟨hp, h⟩ := h
  refine ⟨hp, ?_⟩
  obtain ⟨hp, h⟩ := h
  refine ⟨(tshp (rfl : (5000 : Int32).toNatClampNeg = 5000) hp), ?_⟩
  obtain ⟨hp, h⟩ := h
  refine ⟨(tby (rfl : (5000 : Int32).toNatClampNeg = 5000) hp), ?_⟩
  intro a64 M65 e1 e2
  replace h := h a64 (ab M65) e1 ((congrArg ab e2).trans ab_nw)
  intro M66 e_M66
  replace h := h (ab M66) ((congrArg ab e_M66).trans (ab_sR rfl rfl))
  obtain ⟨hp, h⟩ := h
  refine ⟨(tnlI (show (5000 : Int32).toInt = 5000 from rfl) hp), ?_⟩
  obtain ⟨hp, h⟩ := h
  refine ⟨hp, ?_⟩
  obtain ⟨hp, h⟩ := h
  refine ⟨(tshp (rfl : (5000 : Int32).toNatClampNeg = 5000) hp), ?_⟩
  obtain ⟨hp, h⟩ := h
  refine ⟨(tby (rfl : (5000 : Int32).toNatClampNeg = 5000) hp), ?_⟩
  intro a67 M68 e1 e2
  replace h := h a67 (ab M68) e1 ((congrArg ab e2).trans ab_nw)
  intro M69 e_M69
  replace h := h (ab M69) ((congrArg ab e_M69).trans (ab_sR rfl rfl))
  obtain ⟨hp, h⟩ := h
  refine ⟨(tnlI (show (5000 : Int32).toInt = 5000 from rfl) hp), ?_⟩
  obtain ⟨hp, h⟩ := h
  refine ⟨hp, ?_⟩
  obtain ⟨hp, h⟩ := h
  refine ⟨(tshp (rfl : (5000 : Int32).toNatClampNeg = 5000) hp), ?_⟩
  obtain ⟨hp, h⟩ := h
  refine ⟨(tby (rfl : (5000 : Int32).toNatClampNeg = 5000) hp), ?_⟩
  intro a70 M71 e1 e2
  replace h := h a70 (ab M71) e1 ((congrArg ab e2).trans ab_nw)
  intro M72 e_M72
  replace h := h (ab M72) ((congrArg ab e_M72).trans (ab_sR rfl rfl))
  obtain ⟨hp, h⟩ := h
  refine ⟨(tnlI (show (5000 : Int32).toInt = 5000 from rfl) hp), ?_⟩
  obtain ⟨hp, h⟩ := h
  refine ⟨hp, ?_⟩
  obtain ⟨hp, h⟩ := h
  refine ⟨(tshp (rfl : (5000 : Int32).toNatClampNeg = 5000) hp), ?_⟩
  obtain ⟨hp, h⟩ := h
  refine ⟨(tby (rfl : (5000 : Int32).toNatClampNeg = 5000) hp), ?_⟩
  intro a73 M74 e1 e2
  replace h := h a73 (ab M74) e1 ((congrArg ab e2).trans ab_nw)
  intro M75 e_M75
  replace h := h (ab M75) ((congrArg ab e_M75).trans (ab_sR rfl rfl))
  obtain ⟨hp, h⟩ := h
  refine ⟨(tnlI (show (5000 : Int32).toInt = 5000 from rfl) hp), ?_⟩
  obtain ⟨hp, h⟩ := h
  refine ⟨hp, ?_⟩
  obtain ⟨hp, h⟩ := h
  refine ⟨(tshp (rfl : (5000 : Int32).toNatClampNeg = 5000) hp), ?_⟩
  obtain ⟨hp, h⟩ := h
  refine ⟨(tby (rfl : (5000 : Int32).toNatClampNeg = 5000) hp), ?_⟩
  intro a76 M77 e1 e2
  replace h := h a76 (ab M77) e1 ((congrArg ab e2).trans ab_nw)
  intro M78 e_M78
  replace h := h (ab M78) ((congrArg ab e_M78).trans (ab_sR rfl rfl))
  obtain ⟨hp, h⟩ := h
  refine ⟨(tnlI (show (6000 : Int32).toInt = 6000 from rfl) hp), ?_⟩
  obtain ⟨hp, h⟩ := h
  refine ⟨hp, ?_⟩
  obtain ⟨hp, h⟩ := h
  refine ⟨(tshp (rfl : (6000 : Int32).toNatClampNeg = 6000) hp), ?_⟩
  obtain ⟨hp, h⟩ := h
  refine ⟨(tby (rfl : (6000 : Int32).toNatClampNeg = 6000) hp), ?_⟩
  intro a79 M80 e1 e2
  replace h := h a79 (ab M80) e1 ((congrArg ab e2).trans ab_nw)
  intro M81 e_M81
  replace h := h (ab M81) ((congrArg ab e_M81).trans (ab_sR rfl rfl))
  obtain ⟨hp, h⟩ := h
  refine ⟨(tnlI (show (80000 : Int32).toInt = 80000 from rfl) hp), ?_⟩
  obtain ⟨hp, h⟩ := h
  refine ⟨hp, ?_⟩
  obtain ⟨hp, h⟩ := h
  refine ⟨(tshp (rfl : (80000 : Int32).toNatClampNeg = 80000) hp), ?_⟩
  obtain ⟨hp, h⟩ := h
  refine ⟨(tby (rfl : (80000 : Int32).toNatClampNeg = 80000) hp), ?_⟩
  intro a82 M83 e1 e2
  replace h := h a82 (ab M83) e1 ((congrArg ab e2).trans ab_nw)
  intro M84 e_M84
  replace h := h (ab M84) ((congrArg ab e_M84).trans (ab_sR rfl rfl))
  obtain ⟨hp, h⟩ := h
  refine ⟨(tnlI (show (6000 : Int32).toInt = 6000 from rfl) hp), ?_⟩
  obtain ⟨hp, h⟩ := h
  refine ⟨hp, ?_⟩
  obtain ⟨hp, h⟩ := h
  refine ⟨(tshp (rfl : (6000 : Int32).toNatClampNeg = 6000) hp), ?_⟩
  obtain ⟨hp, h⟩ := h
  refine ⟨(tby (rfl : (6000 : Int32).toNatClampNeg = 6000) hp), ?_⟩
  intro a85 M86 e1 e2
  replace h := h a85 (ab M86) e1 ((congrArg ab e2).trans ab_nw)
  intro M87 e_M87
  replace h := h (ab M87) ((congrArg ab e_M87).trans (ab_sR rfl rfl))
  obtain ⟨hp, h⟩ := h
  refine ⟨(tnlI (show (64 : Int32).toInt = 64 from rfl) hp), ?_⟩
  obtain ⟨hp, h⟩ := h
  refine ⟨hp, ?_⟩
  obtain ⟨hp, h⟩ := h
  refine ⟨(tshp (rfl : (64 : Int32).toNatClampNeg = 64) hp), ?_⟩
  obtain ⟨hp, h⟩ := h
  refine ⟨(tby (rfl : (64 : Int32).toNatClampNeg = 64) hp), ?_⟩
  intro a88 M89 e1 e2
  replace h := h a88 (ab M89) e1 ((congrArg ab e2).trans ab_nw)
  intro M90 e_M90
  replace h := h (ab M90) ((congrArg ab e_M90).trans (ab_sR rfl rfl))
  obtain ⟨hp, h⟩ := h
  refine ⟨(tnlI (show (64 : Int32).toInt = 64 from rfl) hp), ?_⟩
  obtain ⟨hp, h⟩ := h
  refine ⟨hp, ?_⟩
  obtain ⟨hp, h⟩ := h
  refine ⟨(tshp (rfl : (64 : Int32).toNatClampNeg = 64) hp), ?_⟩
  obtain ⟨hp, h⟩ := h
  refine ⟨(tby (rfl : (64 : Int32).toNatClampNeg = 64) hp), ?_⟩
  intro a91 M92 e1 e2
  replace h := h a91 (ab M92) e1 ((congrArg ab e2).trans ab_nw)
  intro M93 e_M93
  replace h := h (ab M93) ((congrArg ab e_M93).trans (ab_sR rfl rfl))
  intro M94 e_M94
  replace h := h (ab M94) ((congrArg ab e_M94).trans (ab_sI rfl (show (0 : Int32).toInt = 0 from rfl)))
  intro M95 e_M95
  replace h := h (ab M95) ((congrArg ab e_M95).trans (ab_sI rfl (show (0 : Int32).toInt = 0 from rfl)))
  intro M96 e_M96
  replace h := h (ab M96) ((congrArg ab e_M96).trans (ab_sI rfl (show (0 : Int32).toInt = 0 from rfl)))
  intro M97 e_M97
  replace h := h (ab M97) ((congrArg ab e_M97).trans (ab_sI rfl (show (0 : Int32).toInt = 0 from rfl)))
  intro M98 e_M98
  replace h := h (ab M98) ((congrArg ab e_M98).trans (ab_sI rfl (show (0 : Int32).toInt = 0 from rfl)))
  intro M99 e_M99
  replace h := h (ab M99) ((congrArg ab e_M99).trans (ab_sI rfl (show (0 : Int32).toInt = 0 from rfl)))
  intro M100 e_M100
  replace h := h (ab M100) ((congrArg ab e_M100).trans (ab_sI rfl (show (0 : Int32).toInt = 0 from rfl)))
  intro M101 e_M101
  replace h := h (ab M101) ((congrArg ab e_M101).trans (ab_sI rfl (show (0 : Int32).toInt = 0 from rfl)))
  exact hQ _  h
theorem w_X5_isKey {Q : Int32 → Mem → Prop} {bQ : Int → Im → Prop} {x0 : Nat} {x1 : Int64} {y_x1 : Int} {M : Mem} (t_x1 : x1.toInt = y_x1) (h : sp_X5_isKey x0 y_x1 (ab M) bQ) (hQ : ∀ (z0 : Int32) (u0 : Int) (m : Mem), z0.toInt = u0 → bQ u0 (ab m) → Q z0 m) : wp_X5_isKey x0 x1 M Q := by
  unfold sp_X5_isKey at h
  unfold wp_X5_isKey
  obtain ⟨hp, h⟩ := h
  refine ⟨hp, ?_⟩
  refine ⟨?_, ?_⟩
  · intro hc0
    replace h := h.1 (cltJ t_x1 (show (-1000000000000 : Int64).toInt = -1000000000000 from rfl) hc0)
    unfold wp_X5_isKey_20
    unfold wp_X5_isKey_21
    obtain ⟨hp, h⟩ := h
    refine ⟨(t01 (show (0 : Int32).toInt = 0 from rfl) hp), ?_⟩
    exact hQ _ _ _ (show (0 : Int32).toInt = 0 from rfl) h
  · intro hc0
    replace h := h.2 (cnltJ t_x1 (show (-1000000000000 : Int64).toInt = -1000000000000 from rfl) hc0)
    refine ⟨?_, ?_⟩
    · intro hc0
      replace h := h.1 (cltJ (show (1000000000000 : Int64).toInt = 1000000000000 from rfl) t_x1 hc0)
      unfold wp_X5_isKey_20
      unfold wp_X5_isKey_21
      obtain ⟨hp, h⟩ := h
      refine ⟨(t01 (show (0 : Int32).toInt = 0 from rfl) hp), ?_⟩
      exact hQ _ _ _ (show (0 : Int32).toInt = 0 from rfl) h
    · intro hc0
      replace h := h.2 (cnltJ (show (1000000000000 : Int64).toInt = 1000000000000 from rfl) t_x1 hc0)
      unfold wp_X5_isKey_21
      obtain ⟨hp, h⟩ := h
      refine ⟨(t01 (show (1 : Int32).toInt = 1 from rfl) hp), ?_⟩
      exact hQ _ _ _ (show (1 : Int32).toInt = 1 from rfl) h
theorem w_X5_load_34 {Q : Int32 → Mem → Prop} {bQ : Int → Im → Prop} {x0 : Nat} {x1 : Int64} {y_x1 : Int} {M : Mem} (t_x1 : x1.toInt = y_x1) (h : sp_X5_load_34 x0 y_x1 (ab M) bQ) (hQ : ∀ (z0 : Int32) (u0 : Int) (m : Mem), z0.toInt = u0 → bQ u0 (ab m) → Q z0 m) : wp_X5_load_34 x0 x1 M Q := by
  unfold sp_X5_load_34 at h
  unfold wp_X5_load_34
  refine ⟨?_, ?_⟩
  · intro hc0
    replace h := h.1 (cneI (tr_I rfl) (show (300 : Int32).toInt = 300 from rfl) hc0)
    obtain ⟨hp, h⟩ := h
    refine ⟨(tinb (tr_I rfl) hp), ?_⟩
    intro M1 e_M1
    replace h := h (ab M1) ((congrArg ab e_M1).trans (ab_sL (tnatI (tr_I rfl)) t_x1))
    obtain ⟨rr349, h⟩ := h
    intro M2 e_M2
    replace h := h (ab M2) ((congrArg ab e_M2).trans (ab_sI rfl (taddI (tr_I rfl) (show (1 : Int32).toInt = 1 from rfl) rr349)))
    exact hQ _ _ _ (tr_I rfl) h
  · intro hc0
    replace h := h.2 (ceqI (tr_I rfl) (show (300 : Int32).toInt = 300 from rfl) hc0)
    exact hQ _ _ _ (show (-3 : Int32).toInt = -3 from rfl) h
theorem w_X5_load {Q : Int32 → Mem → Prop} {bQ : Int → Im → Prop} {x0 : Nat} {x1 : Int64} {y_x1 : Int} {M : Mem} (t_x1 : x1.toInt = y_x1) (h : sp_X5_load x0 y_x1 (ab M) bQ) (hQ : ∀ (z0 : Int32) (u0 : Int) (m : Mem), z0.toInt = u0 → bQ u0 (ab m) → Q z0 m) : wp_X5_load x0 x1 M Q := by
  unfold sp_X5_load at h
  unfold wp_X5_load
  obtain ⟨hp, h⟩ := h
  refine ⟨hp, ?_⟩
  refine w_X5_isKey t_x1 h (fun i4 y_i4 M3 t_i4 h => ?_)
  refine ⟨?_, ?_⟩
  · intro hc0
    replace h := h.1 (ceqI t_i4 (show (0 : Int32).toInt = 0 from rfl) hc0)
    unfold wp_X5_load_31
    exact hQ _ _ _ (show (-2 : Int32).toInt = -2 from rfl) h
  · intro hc0
    replace h := h.2 (cneI t_i4 (show (0 : Int32).toInt = 0 from rfl) hc0)
    refine ⟨?_, ?_⟩
    · intro hc0
      replace h := h.1 (cleI (tr_I rfl) (show (0 : Int32).toInt = 0 from rfl) hc0)
      refine w_X5_load_34 t_x1 h hQ
    · intro hc0
      replace h := h.2 (cnleI (tr_I rfl) (show (0 : Int32).toInt = 0 from rfl) hc0)
      obtain ⟨rr353, h⟩ := h
      obtain ⟨hp, h⟩ := h
      refine ⟨(tinb (tsubI (tr_I rfl) (show (1 : Int32).toInt = 1 from rfl) rr353) hp), ?_⟩
      obtain ⟨rr354, h⟩ := h
      refine ⟨?_, ?_⟩
      · intro hc0
        replace h := h.1 (cltJ (tr_L (tnatI (tsubI (tr_I rfl) (show (1 : Int32).toInt = 1 from rfl) rr354))) t_x1 hc0)
        refine w_X5_load_34 t_x1 h hQ
      · intro hc0
        replace h := h.2 (cnltJ (tr_L (tnatI (tsubI (tr_I rfl) (show (1 : Int32).toInt = 1 from rfl) rr354))) t_x1 hc0)
        unfold wp_X5_load_31
        exact hQ _ _ _ (show (-2 : Int32).toInt = -2 from rfl) h
theorem w_X5_fill_93 {Q : Int32 → Mem → Prop} {bQ : Int → Im → Prop} {K132 : Nat → Mem → Prop} {bK132 : Nat → Im → Prop} : ∀ {n : Nat} {x0 : Nat} {x1 : Int64} {y_x1 : Int} {x3 : Int64} {y_x3 : Int} {x5 : Int32} {y_x5 : Int} {x6 : Int32} {y_x6 : Int} {M : Mem} (t_x1 : x1.toInt = y_x1) (t_x3 : x3.toInt = y_x3) (t_x5 : x5.toInt = y_x5) (t_x6 : x6.toInt = y_x6) (_ : sp_X5_fill_93 n x0 y_x1 y_x3 y_x5 y_x6 (ab M) bQ bK132) (_ : ∀ (z0 : Int32) (u0 : Int) (m : Mem), z0.toInt = u0 → bQ u0 (ab m) → Q z0 m) (_ : ∀ (z0 : Nat) (m : Mem), bK132 z0 (ab m) → K132 z0 m), wp_X5_fill_93 n x0 x1 x3 x5 x6 M Q K132 := by
  intro n
  induction n with
  | zero => intro x0 x1 y_x1 x3 y_x3 x5 y_x5 x6 y_x6 M t_x1 t_x3 t_x5 t_x6 h hQ hK132; exact h.elim
  | succ n ih =>
    intro x0 x1 y_x1 x3 y_x3 x5 y_x5 x6 y_x6 M t_x1 t_x3 t_x5 t_x6 h hQ hK132
    unfold sp_X5_fill_93 at h
    unfold wp_X5_fill_93
    refine ⟨?_, ?_⟩
    · intro hc0
      replace h := h.1 (cleI t_x5 t_x6 hc0)
      exact hK132 _ _  h
    · intro hc0
      replace h := h.2 (cnleI t_x5 t_x6 hc0)
      obtain ⟨hp, h⟩ := h
      refine ⟨(tinb (tr_I rfl) hp), ?_⟩
      obtain ⟨rr360, h⟩ := h
      obtain ⟨rr361, h⟩ := h
      intro M1 e_M1
      replace h := h (ab M1) ((congrArg ab e_M1).trans (ab_sL (tnatI (tr_I rfl)) (taddJ t_x1 (tmulJ t_x3 (ti2l t_x6) rr360) rr361)))
      obtain ⟨rr362, h⟩ := h
      intro M2 e_M2
      replace h := h (ab M2) ((congrArg ab e_M2).trans (ab_sI rfl (taddI (tr_I rfl) (show (1 : Int32).toInt = 1 from rfl) rr362)))
      obtain ⟨rr363, h⟩ := h
      intro i3 e_i3
      have q_i3 := (congrArg Int32.toInt e_i3).trans (taddI t_x6 (show (1 : Int32).toInt = 1 from rfl) rr363)
      replace h := h _ q_i3
      have t_i3 : i3.toInt = i3.toInt := rfl
      refine ih t_x1 t_x3 t_x5 t_i3 h hQ hK132
theorem w_X5_fill_71 {Q : Int32 → Mem → Prop} {bQ : Int → Im → Prop} {x0 : Nat} {x1 : Int64} {y_x1 : Int} {x3 : Int64} {y_x3 : Int} {x5 : Int32} {y_x5 : Int} {M : Mem} (t_x1 : x1.toInt = y_x1) (t_x3 : x3.toInt = y_x3) (t_x5 : x5.toInt = y_x5) (h : sp_X5_fill_71 x0 y_x1 y_x3 y_x5 (ab M) bQ) (hQ : ∀ (z0 : Int32) (u0 : Int) (m : Mem), z0.toInt = u0 → bQ u0 (ab m) → Q z0 m) : wp_X5_fill_71 x0 x1 x3 x5 M Q := by
  unfold sp_X5_fill_71 at h
  unfold wp_X5_fill_71
  obtain ⟨rr366, h⟩ := h
  refine ⟨?_, ?_⟩
  · intro hc0
    replace h := h.1 (cleJ (taddJ (ti2l (tr_I rfl)) (ti2l t_x5) rr366) (show (300 : Int64).toInt = 300 from rfl) hc0)
    obtain ⟨k93, h⟩ := h
    refine ⟨k93, ?_⟩
    refine w_X5_fill_93 t_x1 t_x3 t_x5 (show (0 : Int32).toInt = 0 from rfl) h hQ (fun x0 M h => ?_)
    unfold wp_X5_fill_132
    exact hQ _ _ _ (tr_I rfl) h
  · intro hc0
    replace h := h.2 (cnleJ (taddJ (ti2l (tr_I rfl)) (ti2l t_x5) rr366) (show (300 : Int64).toInt = 300 from rfl) hc0)
    exact hQ _ _ _ (show (-3 : Int32).toInt = -3 from rfl) h
theorem w_X5_fill_46 {Q : Int32 → Mem → Prop} {bQ : Int → Im → Prop} {x0 : Nat} {x1 : Int64} {y_x1 : Int} {x3 : Int64} {y_x3 : Int} {x5 : Int32} {y_x5 : Int} {M : Mem} (t_x1 : x1.toInt = y_x1) (t_x3 : x3.toInt = y_x3) (t_x5 : x5.toInt = y_x5) (h : sp_X5_fill_46 x0 y_x1 y_x3 y_x5 (ab M) bQ) (hQ : ∀ (z0 : Int32) (u0 : Int) (m : Mem), z0.toInt = u0 → bQ u0 (ab m) → Q z0 m) : wp_X5_fill_46 x0 x1 x3 x5 M Q := by
  unfold sp_X5_fill_46 at h
  unfold wp_X5_fill_46
  refine ⟨?_, ?_⟩
  · intro hc0
    replace h := h.1 (cleI t_x5 (show (1 : Int32).toInt = 1 from rfl) hc0)
    refine w_X5_fill_71 t_x1 t_x3 t_x5 h hQ
  · intro hc0
    replace h := h.2 (cnleI t_x5 (show (1 : Int32).toInt = 1 from rfl) hc0)
    obtain ⟨rr377, h⟩ := h
    obtain ⟨hp, h⟩ := h
    refine ⟨(tnzJ (ti2l (tsubI t_x5 (show (1 : Int32).toInt = 1 from rfl) rr377)) hp), ?_⟩
    obtain ⟨rr378, h⟩ := h
    obtain ⟨rr379, h⟩ := h
    obtain ⟨rr380, h⟩ := h
    refine ⟨?_, ?_⟩
    · intro hc0
      replace h := h.1 (cleJ t_x3 (tdivJ (tsubJ (show (1000000000000 : Int64).toInt = 1000000000000 from rfl) t_x1 rr378) (ti2l (tsubI t_x5 (show (1 : Int32).toInt = 1 from rfl) rr379)) rr380) hc0)
      refine w_X5_fill_71 t_x1 t_x3 t_x5 h hQ
    · intro hc0
      replace h := h.2 (cnleJ t_x3 (tdivJ (tsubJ (show (1000000000000 : Int64).toInt = 1000000000000 from rfl) t_x1 rr378) (ti2l (tsubI t_x5 (show (1 : Int32).toInt = 1 from rfl) rr379)) rr380) hc0)
      exact hQ _ _ _ (show (-2 : Int32).toInt = -2 from rfl) h
theorem w_X5_fill {Q : Int32 → Mem → Prop} {bQ : Int → Im → Prop} {x0 : Nat} {x1 : Int64} {y_x1 : Int} {x3 : Int64} {y_x3 : Int} {x5 : Int32} {y_x5 : Int} {M : Mem} (t_x1 : x1.toInt = y_x1) (t_x3 : x3.toInt = y_x3) (t_x5 : x5.toInt = y_x5) (h : sp_X5_fill x0 y_x1 y_x3 y_x5 (ab M) bQ) (hQ : ∀ (z0 : Int32) (u0 : Int) (m : Mem), z0.toInt = u0 → bQ u0 (ab m) → Q z0 m) : wp_X5_fill x0 x1 x3 x5 M Q := by
  unfold sp_X5_fill at h
  unfold wp_X5_fill
  obtain ⟨hp, h⟩ := h
  refine ⟨hp, ?_⟩
  refine ⟨?_, ?_⟩
  · intro hc0
    replace h := h.1 (cltI t_x5 (show (1 : Int32).toInt = 1 from rfl) hc0)
    unfold wp_X5_fill_43
    exact hQ _ _ _ (show (-2 : Int32).toInt = -2 from rfl) h
  · intro hc0
    replace h := h.2 (cnltI t_x5 (show (1 : Int32).toInt = 1 from rfl) hc0)
    refine ⟨?_, ?_⟩
    · intro hc0
      replace h := h.1 (cltJ t_x3 (show (1 : Int64).toInt = 1 from rfl) hc0)
      unfold wp_X5_fill_43
      exact hQ _ _ _ (show (-2 : Int32).toInt = -2 from rfl) h
    · intro hc0
      replace h := h.2 (cnltJ t_x3 (show (1 : Int64).toInt = 1 from rfl) hc0)
      refine w_X5_isKey t_x1 h (fun i5 y_i5 M4 t_i5 h => ?_)
      refine ⟨?_, ?_⟩
      · intro hc0
        replace h := h.1 (ceqI t_i5 (show (0 : Int32).toInt = 0 from rfl) hc0)
        unfold wp_X5_fill_43
        exact hQ _ _ _ (show (-2 : Int32).toInt = -2 from rfl) h
      · intro hc0
        replace h := h.2 (cneI t_i5 (show (0 : Int32).toInt = 0 from rfl) hc0)
        refine ⟨?_, ?_⟩
        · intro hc0
          replace h := h.1 (cleI (tr_I rfl) (show (0 : Int32).toInt = 0 from rfl) hc0)
          refine w_X5_fill_46 t_x1 t_x3 t_x5 h hQ
        · intro hc0
          replace h := h.2 (cnleI (tr_I rfl) (show (0 : Int32).toInt = 0 from rfl) hc0)
          obtain ⟨rr387, h⟩ := h
          obtain ⟨hp, h⟩ := h
          refine ⟨(tinb (tsubI (tr_I rfl) (show (1 : Int32).toInt = 1 from rfl) rr387) hp), ?_⟩
          obtain ⟨rr388, h⟩ := h
          refine ⟨?_, ?_⟩
          · intro hc0
            replace h := h.1 (cltJ (tr_L (tnatI (tsubI (tr_I rfl) (show (1 : Int32).toInt = 1 from rfl) rr388))) t_x1 hc0)
            refine w_X5_fill_46 t_x1 t_x3 t_x5 h hQ
          · intro hc0
            replace h := h.2 (cnltJ (tr_L (tnatI (tsubI (tr_I rfl) (show (1 : Int32).toInt = 1 from rfl) rr388))) t_x1 hc0)
            unfold wp_X5_fill_43
            exact hQ _ _ _ (show (-2 : Int32).toInt = -2 from rfl) h
theorem w_X5_wipe {Q : Int32 → Mem → Prop} {bQ : Int → Im → Prop} {x0 : Nat} {M : Mem} (h : sp_X5_wipe x0 (ab M) bQ) (hQ : ∀ (z0 : Int32) (u0 : Int) (m : Mem), z0.toInt = u0 → bQ u0 (ab m) → Q z0 m) : wp_X5_wipe x0 M Q := by
  unfold sp_X5_wipe at h
  unfold wp_X5_wipe
  obtain ⟨hp, h⟩ := h
  refine ⟨hp, ?_⟩
  intro i1 e_i1
  have q_i1 := (congrArg Int32.toInt e_i1).trans (tr_I rfl)
  replace h := h _ q_i1
  have t_i1 : i1.toInt = i1.toInt := rfl
  intro M2 e_M2
  replace h := h (ab M2) ((congrArg ab e_M2).trans (ab_sI rfl (show (0 : Int32).toInt = 0 from rfl)))
  exact hQ _ _ _ t_i1 h
theorem w_X5_margin {Q : Int32 → Mem → Prop} {bQ : Int → Im → Prop} {x0 : Nat} {x1 : Int32} {y_x1 : Int} {M : Mem} (t_x1 : x1.toInt = y_x1) (h : sp_X5_margin x0 y_x1 (ab M) bQ) (hQ : ∀ (z0 : Int32) (u0 : Int) (m : Mem), z0.toInt = u0 → bQ u0 (ab m) → Q z0 m) : wp_X5_margin x0 x1 M Q := by
  unfold sp_X5_margin at h
  unfold wp_X5_margin
  obtain ⟨hp, h⟩ := h
  refine ⟨hp, ?_⟩
  refine ⟨?_, ?_⟩
  · intro hc0
    replace h := h.1 (cltI t_x1 (show (0 : Int32).toInt = 0 from rfl) hc0)
    unfold wp_X5_margin_10
    exact hQ _ _ _ (show (-2 : Int32).toInt = -2 from rfl) h
  · intro hc0
    replace h := h.2 (cnltI t_x1 (show (0 : Int32).toInt = 0 from rfl) hc0)
    refine ⟨?_, ?_⟩
    · intro hc0
      replace h := h.1 (cleI t_x1 (show (40 : Int32).toInt = 40 from rfl) hc0)
      intro i1 e_i1
      have q_i1 := (congrArg Int32.toInt e_i1).trans (tr_I rfl)
      replace h := h _ q_i1
      have t_i1 : i1.toInt = i1.toInt := rfl
      intro M2 e_M2
      replace h := h (ab M2) ((congrArg ab e_M2).trans (ab_sI rfl t_x1))
      exact hQ _ _ _ t_i1 h
    · intro hc0
      replace h := h.2 (cnleI t_x1 (show (40 : Int32).toInt = 40 from rfl) hc0)
      unfold wp_X5_margin_10
      exact hQ _ _ _ (show (-2 : Int32).toInt = -2 from rfl) h
theorem w_X5_pair_87 {Q : Mem → Prop} {bQ : Im → Prop} {x0 : Nat} {x5 : Int64} {y_x5 : Int} {x9 : Int64} {y_x9 : Int} {M : Mem} (t_x5 : x5.toInt = y_x5) (t_x9 : x9.toInt = y_x9) (h : sp_X5_pair_87 x0 y_x5 y_x9 (ab M) bQ) (hQ : ∀ (m : Mem), bQ (ab m) → Q m) : wp_X5_pair_87 x0 x5 x9 M Q := by
  unfold sp_X5_pair_87 at h
  unfold wp_X5_pair_87
  refine ⟨?_, ?_⟩
  · intro hc0
    replace h := h.1 (ceqJ (tr_L rfl) (show (0 : Int64).toInt = 0 from rfl) hc0)
    unfold wp_X5_pair_114
    intro M4 e_M4
    replace h := h (ab M4) ((congrArg ab e_M4).trans (ab_sL rfl t_x9))
    intro M5 e_M5
    replace h := h (ab M5) ((congrArg ab e_M5).trans (ab_sL rfl t_x5))
    unfold wp_X5_pair_126
    exact hQ _  h
  · intro hc0
    replace h := h.2 (cneJ (tr_L rfl) (show (0 : Int64).toInt = 0 from rfl) hc0)
    obtain ⟨rr394, h⟩ := h
    obtain ⟨rr395, h⟩ := h
    refine ⟨?_, ?_⟩
    · intro hc0
      replace h := h.1 (cleJ (tmulJ t_x9 (tr_L rfl) rr394) (tmulJ (tr_L rfl) t_x5 rr395) hc0)
      unfold wp_X5_pair_126
      exact hQ _  h
    · intro hc0
      replace h := h.2 (cnleJ (tmulJ t_x9 (tr_L rfl) rr394) (tmulJ (tr_L rfl) t_x5 rr395) hc0)
      unfold wp_X5_pair_114
      intro M4 e_M4
      replace h := h (ab M4) ((congrArg ab e_M4).trans (ab_sL rfl t_x9))
      intro M5 e_M5
      replace h := h (ab M5) ((congrArg ab e_M5).trans (ab_sL rfl t_x5))
      unfold wp_X5_pair_126
      exact hQ _  h
theorem w_X5_pair {Q : Mem → Prop} {bQ : Im → Prop} {x0 : Nat} {x1 : Int32} {y_x1 : Int} {x2 : Int32} {y_x2 : Int} {x3 : Int32} {y_x3 : Int} {x4 : Int32} {y_x4 : Int} {M : Mem} (t_x1 : x1.toInt = y_x1) (t_x2 : x2.toInt = y_x2) (t_x3 : x3.toInt = y_x3) (t_x4 : x4.toInt = y_x4) (h : sp_X5_pair x0 y_x1 y_x2 y_x3 y_x4 (ab M) bQ) (hQ : ∀ (m : Mem), bQ (ab m) → Q m) : wp_X5_pair x0 x1 x2 x3 x4 M Q := by
  unfold sp_X5_pair at h
  unfold wp_X5_pair
  obtain ⟨hp, h⟩ := h
  refine ⟨hp, ?_⟩
  obtain ⟨hp, h⟩ := h
  refine ⟨(tinb t_x2 hp), ?_⟩
  obtain ⟨hp, h⟩ := h
  refine ⟨(tinb t_x1 hp), ?_⟩
  obtain ⟨rr409, h⟩ := h
  intro j6 e_j6
  have q_j6 := (congrArg Int64.toInt e_j6).trans (tsubJ (tr_L (tnatI t_x2)) (tr_L (tnatI t_x1)) rr409)
  replace h := h _ q_j6
  have t_j6 : j6.toInt = j6.toInt := rfl
  obtain ⟨rr410, h⟩ := h
  obtain ⟨rr411, h⟩ := h
  obtain ⟨rr412, h⟩ := h
  intro j7 e_j7
  have q_j7 := (congrArg Int64.toInt e_j7).trans (taddJ (ti2l (tsubI t_x2 t_x1 rr410)) (tmulJ (show (2 : Int64).toInt = 2 from rfl) (ti2l t_x4) rr411) rr412)
  replace h := h _ q_j7
  have t_j7 : j7.toInt = j7.toInt := rfl
  obtain ⟨rr413, h⟩ := h
  obtain ⟨rr414, h⟩ := h
  obtain ⟨rr415, h⟩ := h
  intro j8 e_j8
  have q_j8 := (congrArg Int64.toInt e_j8).trans (tsubJ (ti2l (tsubI t_x2 t_x1 rr413)) (tmulJ (show (2 : Int64).toInt = 2 from rfl) (ti2l t_x4) rr414) rr415)
  replace h := h _ q_j8
  have t_j8 : j8.toInt = j8.toInt := rfl
  refine ⟨?_, ?_⟩
  · intro hc0
    replace h := h.1 (ceqJ (tr_L rfl) (show (0 : Int64).toInt = 0 from rfl) hc0)
    unfold wp_X5_pair_70
    intro M1 e_M1
    replace h := h (ab M1) ((congrArg ab e_M1).trans (ab_sL rfl t_j7))
    intro M2 e_M2
    replace h := h (ab M2) ((congrArg ab e_M2).trans (ab_sL rfl t_j6))
    intro M3 e_M3
    replace h := h (ab M3) ((congrArg ab e_M3).trans (ab_sI rfl t_x1))
    refine w_X5_pair_87 t_j6 t_j8 h hQ
  · intro hc0
    replace h := h.2 (cneJ (tr_L rfl) (show (0 : Int64).toInt = 0 from rfl) hc0)
    obtain ⟨rr416, h⟩ := h
    obtain ⟨rr417, h⟩ := h
    refine ⟨?_, ?_⟩
    · intro hc0
      replace h := h.1 (cleJ (tmulJ (tr_L rfl) t_j6 rr416) (tmulJ t_j7 (tr_L rfl) rr417) hc0)
      refine w_X5_pair_87 t_j6 t_j8 h hQ
    · intro hc0
      replace h := h.2 (cnleJ (tmulJ (tr_L rfl) t_j6 rr416) (tmulJ t_j7 (tr_L rfl) rr417) hc0)
      unfold wp_X5_pair_70
      intro M1 e_M1
      replace h := h (ab M1) ((congrArg ab e_M1).trans (ab_sL rfl t_j7))
      intro M2 e_M2
      replace h := h (ab M2) ((congrArg ab e_M2).trans (ab_sL rfl t_j6))
      intro M3 e_M3
      replace h := h (ab M3) ((congrArg ab e_M3).trans (ab_sI rfl t_x1))
      refine w_X5_pair_87 t_j6 t_j8 h hQ
theorem w_X5_fits {Q : Int32 → Mem → Prop} {bQ : Int → Im → Prop} {x0 : Nat} {M : Mem} (h : sp_X5_fits x0 (ab M) bQ) (hQ : ∀ (z0 : Int32) (u0 : Int) (m : Mem), z0.toInt = u0 → bQ u0 (ab m) → Q z0 m) : wp_X5_fits x0 M Q := by
  unfold sp_X5_fits at h
  unfold wp_X5_fits
  obtain ⟨hp, h⟩ := h
  refine ⟨hp, ?_⟩
  refine ⟨?_, ?_⟩
  · intro hc0
    replace h := h.1 (ceqJ (tr_L rfl) (show (0 : Int64).toInt = 0 from rfl) hc0)
    unfold wp_X5_fits_31
    unfold wp_X5_fits_36
    obtain ⟨hp, h⟩ := h
    refine ⟨(t01 (show (1 : Int32).toInt = 1 from rfl) hp), ?_⟩
    exact hQ _ _ _ (show (1 : Int32).toInt = 1 from rfl) h
  · intro hc0
    replace h := h.2 (cneJ (tr_L rfl) (show (0 : Int64).toInt = 0 from rfl) hc0)
    obtain ⟨rr424, h⟩ := h
    obtain ⟨rr425, h⟩ := h
    refine ⟨?_, ?_⟩
    · intro hc0
      replace h := h.1 (cltJ (tmulJ (tr_L rfl) (tr_L rfl) rr424) (tmulJ (tr_L rfl) (tr_L rfl) rr425) hc0)
      unfold wp_X5_fits_36
      obtain ⟨hp, h⟩ := h
      refine ⟨(t01 (show (0 : Int32).toInt = 0 from rfl) hp), ?_⟩
      exact hQ _ _ _ (show (0 : Int32).toInt = 0 from rfl) h
    · intro hc0
      replace h := h.2 (cnltJ (tmulJ (tr_L rfl) (tr_L rfl) rr424) (tmulJ (tr_L rfl) (tr_L rfl) rr425) hc0)
      unfold wp_X5_fits_31
      unfold wp_X5_fits_36
      obtain ⟨hp, h⟩ := h
      refine ⟨(t01 (show (1 : Int32).toInt = 1 from rfl) hp), ?_⟩
      exact hQ _ _ _ (show (1 : Int32).toInt = 1 from rfl) h
theorem w_X5_passed_24 {Q : Int32 → Mem → Prop} {bQ : Int → Im → Prop} {K47 : Nat → Int32 → Int32 → Int32 → Int32 → Mem → Prop} {bK47 : Nat → Int → Int → Int → Int → Im → Prop} : ∀ {n : Nat} {x0 : Nat} {x1 : Int32} {y_x1 : Int} {x2 : Int32} {y_x2 : Int} {x3 : Int32} {y_x3 : Int} {x4 : Int32} {y_x4 : Int} {x5 : Int32} {y_x5 : Int} {M : Mem} (t_x1 : x1.toInt = y_x1) (t_x2 : x2.toInt = y_x2) (t_x3 : x3.toInt = y_x3) (t_x4 : x4.toInt = y_x4) (t_x5 : x5.toInt = y_x5) (_ : sp_X5_passed_24 n x0 y_x1 y_x2 y_x3 y_x4 y_x5 (ab M) bQ bK47) (_ : ∀ (z0 : Int32) (u0 : Int) (m : Mem), z0.toInt = u0 → bQ u0 (ab m) → Q z0 m) (_ : ∀ (z0 : Nat) (z1 : Int32) (u1 : Int) (z2 : Int32) (u2 : Int) (z3 : Int32) (u3 : Int) (z4 : Int32) (u4 : Int) (m : Mem), z1.toInt = u1 → z2.toInt = u2 → z3.toInt = u3 → z4.toInt = u4 → bK47 z0 u1 u2 u3 u4 (ab m) → K47 z0 z1 z2 z3 z4 m), wp_X5_passed_24 n x0 x1 x2 x3 x4 x5 M Q K47 := by
  intro n
  induction n with
  | zero => intro x0 x1 y_x1 x2 y_x2 x3 y_x3 x4 y_x4 x5 y_x5 M t_x1 t_x2 t_x3 t_x4 t_x5 h hQ hK47; exact h.elim
  | succ n ih =>
    intro x0 x1 y_x1 x2 y_x2 x3 y_x3 x4 y_x4 x5 y_x5 M t_x1 t_x2 t_x3 t_x4 t_x5 h hQ hK47
    unfold sp_X5_passed_24 at h
    unfold wp_X5_passed_24
    refine ⟨?_, ?_⟩
    · intro hc0
      replace h := h.1 (cleI t_x4 t_x5 hc0)
      exact hK47 _ _ _ _ _ _ _ _ _ _ t_x1 t_x2 t_x3 t_x4 h
    · intro hc0
      replace h := h.2 (cnleI t_x4 t_x5 hc0)
      refine w_X5_pair t_x5 t_x4 t_x1 t_x3 h (fun M1 h => ?_)
      obtain ⟨rr429, h⟩ := h
      intro i2 e_i2
      have q_i2 := (congrArg Int32.toInt e_i2).trans (taddI t_x5 (show (1 : Int32).toInt = 1 from rfl) rr429)
      replace h := h _ q_i2
      have t_i2 : i2.toInt = i2.toInt := rfl
      refine ih t_x1 t_x2 t_x3 t_x4 t_i2 h hQ hK47
theorem w_X5_passed_47 {Q : Int32 → Mem → Prop} {bQ : Int → Im → Prop} {K15 : Nat → Int32 → Int32 → Int32 → Int32 → Mem → Prop} {bK15 : Nat → Int → Int → Int → Int → Im → Prop} {K53 : Nat → Mem → Prop} {bK53 : Nat → Im → Prop} {x0 : Nat} {x1 : Int32} {y_x1 : Int} {x2 : Int32} {y_x2 : Int} {x3 : Int32} {y_x3 : Int} {x4 : Int32} {y_x4 : Int} {M : Mem} (t_x1 : x1.toInt = y_x1) (t_x2 : x2.toInt = y_x2) (t_x3 : x3.toInt = y_x3) (t_x4 : x4.toInt = y_x4) (h : sp_X5_passed_47 x0 y_x1 y_x2 y_x3 y_x4 (ab M) bQ bK15 bK53) (hQ : ∀ (z0 : Int32) (u0 : Int) (m : Mem), z0.toInt = u0 → bQ u0 (ab m) → Q z0 m) (hK15 : ∀ (z0 : Nat) (z1 : Int32) (u1 : Int) (z2 : Int32) (u2 : Int) (z3 : Int32) (u3 : Int) (z4 : Int32) (u4 : Int) (m : Mem), z1.toInt = u1 → z2.toInt = u2 → z3.toInt = u3 → z4.toInt = u4 → bK15 z0 u1 u2 u3 u4 (ab m) → K15 z0 z1 z2 z3 z4 m) (hK53 : ∀ (z0 : Nat) (m : Mem), bK53 z0 (ab m) → K53 z0 m) : wp_X5_passed_47 x0 x1 x2 x3 x4 M Q K15 K53 := by
  unfold sp_X5_passed_47 at h
  unfold wp_X5_passed_47
  obtain ⟨rr431, h⟩ := h
  intro i3 e_i3
  have q_i3 := (congrArg Int32.toInt e_i3).trans (taddI t_x4 (show (1 : Int32).toInt = 1 from rfl) rr431)
  replace h := h _ q_i3
  have t_i3 : i3.toInt = i3.toInt := rfl
  exact hK15 _ _ _ _ _ _ _ _ _ _ t_x1 t_x2 t_x3 t_i3 h
theorem w_X5_passed_15 {Q : Int32 → Mem → Prop} {bQ : Int → Im → Prop} {K53 : Nat → Mem → Prop} {bK53 : Nat → Im → Prop} : ∀ {n : Nat} {x0 : Nat} {x1 : Int32} {y_x1 : Int} {x2 : Int32} {y_x2 : Int} {x3 : Int32} {y_x3 : Int} {x4 : Int32} {y_x4 : Int} {M : Mem} (t_x1 : x1.toInt = y_x1) (t_x2 : x2.toInt = y_x2) (t_x3 : x3.toInt = y_x3) (t_x4 : x4.toInt = y_x4) (_ : sp_X5_passed_15 n x0 y_x1 y_x2 y_x3 y_x4 (ab M) bQ bK53) (_ : ∀ (z0 : Int32) (u0 : Int) (m : Mem), z0.toInt = u0 → bQ u0 (ab m) → Q z0 m) (_ : ∀ (z0 : Nat) (m : Mem), bK53 z0 (ab m) → K53 z0 m), wp_X5_passed_15 n x0 x1 x2 x3 x4 M Q K53 := by
  intro n
  induction n with
  | zero => intro x0 x1 y_x1 x2 y_x2 x3 y_x3 x4 y_x4 M t_x1 t_x2 t_x3 t_x4 h hQ hK53; exact h.elim
  | succ n ih =>
    intro x0 x1 y_x1 x2 y_x2 x3 y_x3 x4 y_x4 M t_x1 t_x2 t_x3 t_x4 h hQ hK53
    unfold sp_X5_passed_15 at h
    unfold wp_X5_passed_15
    refine ⟨?_, ?_⟩
    · intro hc0
      replace h := h.1 (cleI t_x2 t_x4 hc0)
      exact hK53 _ _  h
    · intro hc0
      replace h := h.2 (cnleI t_x2 t_x4 hc0)
      obtain ⟨k24, h⟩ := h
      refine ⟨k24, ?_⟩
      refine w_X5_passed_24 t_x1 t_x2 t_x3 t_x4 t_x1 h hQ (fun x0 x1 y_x1 x2 y_x2 x3 y_x3 x4 y_x4 M t_x1 t_x2 t_x3 t_x4 h => ?_)
      refine w_X5_passed_47 t_x1 t_x2 t_x3 t_x4 h hQ (fun x0 x1 y_x1 x2 y_x2 x3 y_x3 x4 y_x4 M t_x1 t_x2 t_x3 t_x4 h => ?_) hK53
      refine ih t_x1 t_x2 t_x3 t_x4 h hQ hK53
theorem w_X5_passed {Q : Int32 → Mem → Prop} {bQ : Int → Im → Prop} {x0 : Nat} {x1 : Int32} {y_x1 : Int} {x2 : Int32} {y_x2 : Int} {x3 : Int32} {y_x3 : Int} {M : Mem} (t_x1 : x1.toInt = y_x1) (t_x2 : x2.toInt = y_x2) (t_x3 : x3.toInt = y_x3) (h : sp_X5_passed x0 y_x1 y_x2 y_x3 (ab M) bQ) (hQ : ∀ (z0 : Int32) (u0 : Int) (m : Mem), z0.toInt = u0 → bQ u0 (ab m) → Q z0 m) : wp_X5_passed x0 x1 x2 x3 M Q := by
  unfold sp_X5_passed at h
  unfold wp_X5_passed
  obtain ⟨hp, h⟩ := h
  refine ⟨hp, ?_⟩
  intro M6 e_M6
  replace h := h (ab M6) ((congrArg ab e_M6).trans (ab_sL rfl (show (0 : Int64).toInt = 0 from rfl)))
  intro M7 e_M7
  replace h := h (ab M7) ((congrArg ab e_M7).trans (ab_sL rfl (show (0 : Int64).toInt = 0 from rfl)))
  obtain ⟨rr433, h⟩ := h
  intro i8 e_i8
  have q_i8 := (congrArg Int32.toInt e_i8).trans (taddI t_x1 (show (1 : Int32).toInt = 1 from rfl) rr433)
  replace h := h _ q_i8
  have t_i8 : i8.toInt = i8.toInt := rfl
  obtain ⟨k15, h⟩ := h
  refine ⟨k15, ?_⟩
  refine w_X5_passed_15 t_x1 t_x2 t_x3 t_i8 h hQ (fun x0 M h => ?_)
  unfold wp_X5_passed_53
  refine w_X5_fits  h (fun i5 y_i5 M4 t_i5 h => ?_)
  obtain ⟨hp, h⟩ := h
  refine ⟨(t01 t_i5 hp), ?_⟩
  exact hQ _ _ _ t_i5 h
theorem w_X5_spanEnd_32 {Q : Int32 → Mem → Prop} {bQ : Int → Im → Prop} {K55 : Nat → Int32 → Int32 → Int32 → Int32 → Mem → Prop} {bK55 : Nat → Int → Int → Int → Int → Im → Prop} : ∀ {n : Nat} {x0 : Nat} {x1 : Int32} {y_x1 : Int} {x2 : Int32} {y_x2 : Int} {x3 : Int32} {y_x3 : Int} {x4 : Int32} {y_x4 : Int} {x6 : Int32} {y_x6 : Int} {M : Mem} (t_x1 : x1.toInt = y_x1) (t_x2 : x2.toInt = y_x2) (t_x3 : x3.toInt = y_x3) (t_x4 : x4.toInt = y_x4) (t_x6 : x6.toInt = y_x6) (_ : sp_X5_spanEnd_32 n x0 y_x1 y_x2 y_x3 y_x4 y_x6 (ab M) bQ bK55) (_ : ∀ (z0 : Int32) (u0 : Int) (m : Mem), z0.toInt = u0 → bQ u0 (ab m) → Q z0 m) (_ : ∀ (z0 : Nat) (z1 : Int32) (u1 : Int) (z2 : Int32) (u2 : Int) (z3 : Int32) (u3 : Int) (z4 : Int32) (u4 : Int) (m : Mem), z1.toInt = u1 → z2.toInt = u2 → z3.toInt = u3 → z4.toInt = u4 → bK55 z0 u1 u2 u3 u4 (ab m) → K55 z0 z1 z2 z3 z4 m), wp_X5_spanEnd_32 n x0 x1 x2 x3 x4 x6 M Q K55 := by
  intro n
  induction n with
  | zero => intro x0 x1 y_x1 x2 y_x2 x3 y_x3 x4 y_x4 x6 y_x6 M t_x1 t_x2 t_x3 t_x4 t_x6 h hQ hK55; exact h.elim
  | succ n ih =>
    intro x0 x1 y_x1 x2 y_x2 x3 y_x3 x4 y_x4 x6 y_x6 M t_x1 t_x2 t_x3 t_x4 t_x6 h hQ hK55
    unfold sp_X5_spanEnd_32 at h
    unfold wp_X5_spanEnd_32
    refine ⟨?_, ?_⟩
    · intro hc0
      replace h := h.1 (cleI t_x4 t_x6 hc0)
      exact hK55 _ _ _ _ _ _ _ _ _ _ t_x1 t_x2 t_x3 t_x4 h
    · intro hc0
      replace h := h.2 (cnleI t_x4 t_x6 hc0)
      refine w_X5_pair t_x6 t_x4 t_x1 t_x3 h (fun M1 h => ?_)
      obtain ⟨rr435, h⟩ := h
      intro i2 e_i2
      have q_i2 := (congrArg Int32.toInt e_i2).trans (taddI t_x6 (show (1 : Int32).toInt = 1 from rfl) rr435)
      replace h := h _ q_i2
      have t_i2 : i2.toInt = i2.toInt := rfl
      refine ih t_x1 t_x2 t_x3 t_x4 t_i2 h hQ hK55
theorem w_X5_spanEnd_73 {Q : Int32 → Mem → Prop} {bQ : Int → Im → Prop} {K18 : Nat → Int32 → Int32 → Int32 → Int32 → Int32 → Mem → Prop} {bK18 : Nat → Int → Int → Int → Int → Int → Im → Prop} {K79 : Int32 → Mem → Prop} {bK79 : Int → Im → Prop} {x0 : Nat} {x1 : Int32} {y_x1 : Int} {x2 : Int32} {y_x2 : Int} {x3 : Int32} {y_x3 : Int} {x5 : Int32} {y_x5 : Int} {t0 : Int32} {y_t0 : Int} {t1 : Int32} {y_t1 : Int} {M : Mem} (t_x1 : x1.toInt = y_x1) (t_x2 : x2.toInt = y_x2) (t_x3 : x3.toInt = y_x3) (t_x5 : x5.toInt = y_x5) (t_t0 : t0.toInt = y_t0) (t_t1 : t1.toInt = y_t1) (h : sp_X5_spanEnd_73 x0 y_x1 y_x2 y_x3 y_x5 y_t0 y_t1 (ab M) bQ bK18 bK79) (hQ : ∀ (z0 : Int32) (u0 : Int) (m : Mem), z0.toInt = u0 → bQ u0 (ab m) → Q z0 m) (hK18 : ∀ (z0 : Nat) (z1 : Int32) (u1 : Int) (z2 : Int32) (u2 : Int) (z3 : Int32) (u3 : Int) (z4 : Int32) (u4 : Int) (z5 : Int32) (u5 : Int) (m : Mem), z1.toInt = u1 → z2.toInt = u2 → z3.toInt = u3 → z4.toInt = u4 → z5.toInt = u5 → bK18 z0 u1 u2 u3 u4 u5 (ab m) → K18 z0 z1 z2 z3 z4 z5 m) (hK79 : ∀ (z0 : Int32) (u0 : Int) (m : Mem), z0.toInt = u0 → bK79 u0 (ab m) → K79 z0 m) : wp_X5_spanEnd_73 x0 x1 x2 x3 x5 t0 t1 M Q K18 K79 := by
  unfold sp_X5_spanEnd_73 at h
  unfold wp_X5_spanEnd_73
  obtain ⟨rr437, h⟩ := h
  intro i5 e_i5
  have q_i5 := (congrArg Int32.toInt e_i5).trans (taddI t_t1 t_t0 rr437)
  replace h := h _ q_i5
  have t_i5 : i5.toInt = i5.toInt := rfl
  exact hK18 _ _ _ _ _ _ _ _ _ _ _ _ t_x1 t_x2 t_x3 t_i5 t_x5 h
theorem w_X5_spanEnd_55 {Q : Int32 → Mem → Prop} {bQ : Int → Im → Prop} {K18 : Nat → Int32 → Int32 → Int32 → Int32 → Int32 → Mem → Prop} {bK18 : Nat → Int → Int → Int → Int → Int → Im → Prop} {K79 : Int32 → Mem → Prop} {bK79 : Int → Im → Prop} {x0 : Nat} {x1 : Int32} {y_x1 : Int} {x2 : Int32} {y_x2 : Int} {x3 : Int32} {y_x3 : Int} {x4 : Int32} {y_x4 : Int} {M : Mem} (t_x1 : x1.toInt = y_x1) (t_x2 : x2.toInt = y_x2) (t_x3 : x3.toInt = y_x3) (t_x4 : x4.toInt = y_x4) (h : sp_X5_spanEnd_55 x0 y_x1 y_x2 y_x3 y_x4 (ab M) bQ bK18 bK79) (hQ : ∀ (z0 : Int32) (u0 : Int) (m : Mem), z0.toInt = u0 → bQ u0 (ab m) → Q z0 m) (hK18 : ∀ (z0 : Nat) (z1 : Int32) (u1 : Int) (z2 : Int32) (u2 : Int) (z3 : Int32) (u3 : Int) (z4 : Int32) (u4 : Int) (z5 : Int32) (u5 : Int) (m : Mem), z1.toInt = u1 → z2.toInt = u2 → z3.toInt = u3 → z4.toInt = u4 → z5.toInt = u5 → bK18 z0 u1 u2 u3 u4 u5 (ab m) → K18 z0 z1 z2 z3 z4 z5 m) (hK79 : ∀ (z0 : Int32) (u0 : Int) (m : Mem), z0.toInt = u0 → bK79 u0 (ab m) → K79 z0 m) : wp_X5_spanEnd_55 x0 x1 x2 x3 x4 M Q K18 K79 := by
  unfold sp_X5_spanEnd_55 at h
  unfold wp_X5_spanEnd_55
  refine w_X5_fits  h (fun i4 y_i4 M3 t_i4 h => ?_)
  refine ⟨?_, ?_⟩
  · intro hc0
    replace h := h.1 (ceqI t_i4 (show (0 : Int32).toInt = 0 from rfl) hc0)
    refine w_X5_spanEnd_73 t_x1 t_x2 t_x3 t_i4 (show (0 : Int32).toInt = 0 from rfl) t_x4 h hQ hK18 hK79
  · intro hc0
    replace h := h.2 (cneI t_i4 (show (0 : Int32).toInt = 0 from rfl) hc0)
    refine w_X5_spanEnd_73 t_x1 t_x2 t_x3 t_i4 (show (1 : Int32).toInt = 1 from rfl) t_x4 h hQ hK18 hK79
theorem w_X5_spanEnd_18 {Q : Int32 → Mem → Prop} {bQ : Int → Im → Prop} {K79 : Int32 → Mem → Prop} {bK79 : Int → Im → Prop} : ∀ {n : Nat} {x0 : Nat} {x1 : Int32} {y_x1 : Int} {x2 : Int32} {y_x2 : Int} {x3 : Int32} {y_x3 : Int} {x4 : Int32} {y_x4 : Int} {x5 : Int32} {y_x5 : Int} {M : Mem} (t_x1 : x1.toInt = y_x1) (t_x2 : x2.toInt = y_x2) (t_x3 : x3.toInt = y_x3) (t_x4 : x4.toInt = y_x4) (t_x5 : x5.toInt = y_x5) (_ : sp_X5_spanEnd_18 n x0 y_x1 y_x2 y_x3 y_x4 y_x5 (ab M) bQ bK79) (_ : ∀ (z0 : Int32) (u0 : Int) (m : Mem), z0.toInt = u0 → bQ u0 (ab m) → Q z0 m) (_ : ∀ (z0 : Int32) (u0 : Int) (m : Mem), z0.toInt = u0 → bK79 u0 (ab m) → K79 z0 m), wp_X5_spanEnd_18 n x0 x1 x2 x3 x4 x5 M Q K79 := by
  intro n
  induction n with
  | zero => intro x0 x1 y_x1 x2 y_x2 x3 y_x3 x4 y_x4 x5 y_x5 M t_x1 t_x2 t_x3 t_x4 t_x5 h hQ hK79; exact h.elim
  | succ n ih =>
    intro x0 x1 y_x1 x2 y_x2 x3 y_x3 x4 y_x4 x5 y_x5 M t_x1 t_x2 t_x3 t_x4 t_x5 h hQ hK79
    unfold sp_X5_spanEnd_18 at h
    unfold wp_X5_spanEnd_18
    refine ⟨?_, ?_⟩
    · intro hc0
      replace h := h.1 (cleI t_x2 t_x4 hc0)
      exact hK79 _ _ _ t_x4 h
    · intro hc0
      replace h := h.2 (cnleI t_x2 t_x4 hc0)
      refine ⟨?_, ?_⟩
      · intro hc0
        replace h := h.1 (ceqI t_x5 (show (0 : Int32).toInt = 0 from rfl) hc0)
        exact hK79 _ _ _ t_x4 h
      · intro hc0
        replace h := h.2 (cneI t_x5 (show (0 : Int32).toInt = 0 from rfl) hc0)
        obtain ⟨k32, h⟩ := h
        refine ⟨k32, ?_⟩
        refine w_X5_spanEnd_32 t_x1 t_x2 t_x3 t_x4 t_x1 h hQ (fun x0 x1 y_x1 x2 y_x2 x3 y_x3 x4 y_x4 M t_x1 t_x2 t_x3 t_x4 h => ?_)
        refine w_X5_spanEnd_55 t_x1 t_x2 t_x3 t_x4 h hQ (fun x0 x1 y_x1 x2 y_x2 x3 y_x3 x4 y_x4 x5 y_x5 M t_x1 t_x2 t_x3 t_x4 t_x5 h => ?_) hK79
        refine ih t_x1 t_x2 t_x3 t_x4 t_x5 h hQ hK79
theorem w_X5_spanEnd {Q : Int32 → Mem → Prop} {bQ : Int → Im → Prop} {x0 : Nat} {x1 : Int32} {y_x1 : Int} {x2 : Int32} {y_x2 : Int} {x3 : Int32} {y_x3 : Int} {M : Mem} (t_x1 : x1.toInt = y_x1) (t_x2 : x2.toInt = y_x2) (t_x3 : x3.toInt = y_x3) (h : sp_X5_spanEnd x0 y_x1 y_x2 y_x3 (ab M) bQ) (hQ : ∀ (z0 : Int32) (u0 : Int) (m : Mem), z0.toInt = u0 → bQ u0 (ab m) → Q z0 m) : wp_X5_spanEnd x0 x1 x2 x3 M Q := by
  unfold sp_X5_spanEnd at h
  unfold wp_X5_spanEnd
  obtain ⟨hp, h⟩ := h
  refine ⟨hp, ?_⟩
  intro M6 e_M6
  replace h := h (ab M6) ((congrArg ab e_M6).trans (ab_sL rfl (show (0 : Int64).toInt = 0 from rfl)))
  intro M7 e_M7
  replace h := h (ab M7) ((congrArg ab e_M7).trans (ab_sL rfl (show (0 : Int64).toInt = 0 from rfl)))
  obtain ⟨rr439, h⟩ := h
  intro i8 e_i8
  have q_i8 := (congrArg Int32.toInt e_i8).trans (taddI t_x1 (show (1 : Int32).toInt = 1 from rfl) rr439)
  replace h := h _ q_i8
  have t_i8 : i8.toInt = i8.toInt := rfl
  obtain ⟨k18, h⟩ := h
  refine ⟨k18, ?_⟩
  refine w_X5_spanEnd_18 t_x1 t_x2 t_x3 t_i8 (show (1 : Int32).toInt = 1 from rfl) h hQ (fun x4 y_x4 M t_x4 h => ?_)
  unfold wp_X5_spanEnd_79
  exact hQ _ _ _ t_x4 h
theorem w_X5_take_2 {Q : Mem → Prop} {bQ : Im → Prop} {K28 : Mem → Prop} {bK28 : Im → Prop} : ∀ {n : Nat} {x0 : Nat} {x1 : Int32} {y_x1 : Int} {M : Mem} (t_x1 : x1.toInt = y_x1) (_ : sp_X5_take_2 n x0 y_x1 (ab M) bQ bK28) (_ : ∀ (m : Mem), bQ (ab m) → Q m) (_ : ∀ (m : Mem), bK28 (ab m) → K28 m), wp_X5_take_2 n x0 x1 M Q K28 := by
  intro n
  induction n with
  | zero => intro x0 x1 y_x1 M t_x1 h hQ hK28; exact h.elim
  | succ n ih =>
    intro x0 x1 y_x1 M t_x1 h hQ hK28
    unfold sp_X5_take_2 at h
    unfold wp_X5_take_2
    refine ⟨?_, ?_⟩
    · intro hc0
      replace h := h.1 (cleI (tr_I rfl) t_x1 hc0)
      exact hK28 _  h
    · intro hc0
      replace h := h.2 (cnleI (tr_I rfl) t_x1 hc0)
      obtain ⟨hp, h⟩ := h
      refine ⟨(tinb t_x1 hp), ?_⟩
      obtain ⟨hp, h⟩ := h
      refine ⟨(tinb t_x1 hp), ?_⟩
      intro M1 e_M1
      replace h := h (ab M1) ((congrArg ab e_M1).trans (ab_sL (tnatI t_x1) (tr_L (tnatI t_x1))))
      obtain ⟨rr441, h⟩ := h
      intro i2 e_i2
      have q_i2 := (congrArg Int32.toInt e_i2).trans (taddI t_x1 (show (1 : Int32).toInt = 1 from rfl) rr441)
      replace h := h _ q_i2
      have t_i2 : i2.toInt = i2.toInt := rfl
      refine ih t_i2 h hQ hK28
theorem w_X5_take {Q : Mem → Prop} {bQ : Im → Prop} {x0 : Nat} {M : Mem} (h : sp_X5_take x0 (ab M) bQ) (hQ : ∀ (m : Mem), bQ (ab m) → Q m) : wp_X5_take x0 M Q := by
  unfold sp_X5_take at h
  unfold wp_X5_take
  obtain ⟨hp, h⟩ := h
  refine ⟨hp, ?_⟩
  obtain ⟨k2, h⟩ := h
  refine ⟨k2, ?_⟩
  refine w_X5_take_2 (show (0 : Int32).toInt = 0 from rfl) h hQ (fun M h => ?_)
  unfold wp_X5_take_28
  exact hQ _  h
theorem w_X5_few_21 {Q : Int32 → Mem → Prop} {bQ : Int → Im → Prop} {K46 : Int32 → Mem → Prop} {bK46 : Int → Im → Prop} : ∀ {n : Nat} {x0 : Nat} {x1 : Int32} {y_x1 : Int} {x2 : Int32} {y_x2 : Int} {x3 : Int32} {y_x3 : Int} {M : Mem} (t_x1 : x1.toInt = y_x1) (t_x2 : x2.toInt = y_x2) (t_x3 : x3.toInt = y_x3) (_ : sp_X5_few_21 n x0 y_x1 y_x2 y_x3 (ab M) bQ bK46) (_ : ∀ (z0 : Int32) (u0 : Int) (m : Mem), z0.toInt = u0 → bQ u0 (ab m) → Q z0 m) (_ : ∀ (z0 : Int32) (u0 : Int) (m : Mem), z0.toInt = u0 → bK46 u0 (ab m) → K46 z0 m), wp_X5_few_21 n x0 x1 x2 x3 M Q K46 := by
  intro n
  induction n with
  | zero => intro x0 x1 y_x1 x2 y_x2 x3 y_x3 M t_x1 t_x2 t_x3 h hQ hK46; exact h.elim
  | succ n ih =>
    intro x0 x1 y_x1 x2 y_x2 x3 y_x3 M t_x1 t_x2 t_x3 h hQ hK46
    unfold sp_X5_few_21 at h
    unfold wp_X5_few_21
    refine ⟨?_, ?_⟩
    · intro hc0
      replace h := h.1 (cleI (tr_I rfl) t_x3 hc0)
      exact hK46 _ _ _ t_x2 h
    · intro hc0
      replace h := h.2 (cnleI (tr_I rfl) t_x3 hc0)
      obtain ⟨rr443, h⟩ := h
      intro i1 e_i1
      have q_i1 := (congrArg Int32.toInt e_i1).trans (taddI t_x2 (show (1 : Int32).toInt = 1 from rfl) rr443)
      replace h := h _ q_i1
      have t_i1 : i1.toInt = i1.toInt := rfl
      refine w_X5_spanEnd t_x3 (tr_I rfl) t_x1 h (fun i3 y_i3 M2 t_i3 h => ?_)
      refine ih t_x1 t_i1 t_i3 h hQ hK46
theorem w_X5_few {Q : Int32 → Mem → Prop} {bQ : Int → Im → Prop} {x0 : Nat} {x1 : Int32} {y_x1 : Int} {M : Mem} (t_x1 : x1.toInt = y_x1) (h : sp_X5_few x0 y_x1 (ab M) bQ) (hQ : ∀ (z0 : Int32) (u0 : Int) (m : Mem), z0.toInt = u0 → bQ u0 (ab m) → Q z0 m) : wp_X5_few x0 x1 M Q := by
  unfold sp_X5_few at h
  unfold wp_X5_few
  obtain ⟨hp, h⟩ := h
  refine ⟨hp, ?_⟩
  refine ⟨?_, ?_⟩
  · intro hc0
    replace h := h.1 (cltI t_x1 (show (0 : Int32).toInt = 0 from rfl) hc0)
    unfold wp_X5_few_10
    exact hQ _ _ _ (show (-2 : Int32).toInt = -2 from rfl) h
  · intro hc0
    replace h := h.2 (cnltI t_x1 (show (0 : Int32).toInt = 0 from rfl) hc0)
    refine ⟨?_, ?_⟩
    · intro hc0
      replace h := h.1 (cleI t_x1 (show (40 : Int32).toInt = 40 from rfl) hc0)
      refine w_X5_take  h (fun M4 h => ?_)
      obtain ⟨k21, h⟩ := h
      refine ⟨k21, ?_⟩
      refine w_X5_few_21 t_x1 (show (0 : Int32).toInt = 0 from rfl) (show (0 : Int32).toInt = 0 from rfl) h hQ (fun x2 y_x2 M t_x2 h => ?_)
      unfold wp_X5_few_46
      exact hQ _ _ _ t_x2 h
    · intro hc0
      replace h := h.2 (cnleI t_x1 (show (40 : Int32).toInt = 40 from rfl) hc0)
      unfold wp_X5_few_10
      exact hQ _ _ _ (show (-2 : Int32).toInt = -2 from rfl) h
theorem w_X5_three {Q : Int32 → Mem → Prop} {bQ : Int → Im → Prop} {x0 : Nat} {x1 : Int32} {y_x1 : Int} {x2 : Int32} {y_x2 : Int} {x3 : Int32} {y_x3 : Int} {x4 : Int32} {y_x4 : Int} {M : Mem} (t_x1 : x1.toInt = y_x1) (t_x2 : x2.toInt = y_x2) (t_x3 : x3.toInt = y_x3) (t_x4 : x4.toInt = y_x4) (h : sp_X5_three x0 y_x1 y_x2 y_x3 y_x4 (ab M) bQ) (hQ : ∀ (z0 : Int32) (u0 : Int) (m : Mem), z0.toInt = u0 → bQ u0 (ab m) → Q z0 m) : wp_X5_three x0 x1 x2 x3 x4 M Q := by
  unfold sp_X5_three at h
  unfold wp_X5_three
  obtain ⟨hp, h⟩ := h
  refine ⟨hp, ?_⟩
  refine w_X5_take  h (fun M1 h => ?_)
  intro M2 e_M2
  replace h := h (ab M2) ((congrArg ab e_M2).trans (ab_sL rfl (show (0 : Int64).toInt = 0 from rfl)))
  intro M3 e_M3
  replace h := h (ab M3) ((congrArg ab e_M3).trans (ab_sL rfl (show (0 : Int64).toInt = 0 from rfl)))
  refine w_X5_pair t_x1 t_x2 (show (0 : Int32).toInt = 0 from rfl) t_x4 h (fun M4 h => ?_)
  refine w_X5_pair t_x1 t_x3 (show (0 : Int32).toInt = 0 from rfl) t_x4 h (fun M5 h => ?_)
  refine w_X5_pair t_x2 t_x3 (show (0 : Int32).toInt = 0 from rfl) t_x4 h (fun M6 h => ?_)
  refine w_X5_fits  h (fun i8 y_i8 M7 t_i8 h => ?_)
  obtain ⟨hp, h⟩ := h
  refine ⟨(t01 t_i8 hp), ?_⟩
  exact hQ _ _ _ t_i8 h
theorem w_X5_passes {Q : Int32 → Mem → Prop} {bQ : Int → Im → Prop} {x0 : Nat} {x1 : Int32} {y_x1 : Int} {x2 : Int32} {y_x2 : Int} {x3 : Int32} {y_x3 : Int} {x4 : Int32} {y_x4 : Int} {M : Mem} (t_x1 : x1.toInt = y_x1) (t_x2 : x2.toInt = y_x2) (t_x3 : x3.toInt = y_x3) (t_x4 : x4.toInt = y_x4) (h : sp_X5_passes x0 y_x1 y_x2 y_x3 y_x4 (ab M) bQ) (hQ : ∀ (z0 : Int32) (u0 : Int) (m : Mem), z0.toInt = u0 → bQ u0 (ab m) → Q z0 m) : wp_X5_passes x0 x1 x2 x3 x4 M Q := by
  unfold sp_X5_passes at h
  unfold wp_X5_passes
  obtain ⟨hp, h⟩ := h
  refine ⟨hp, ?_⟩
  refine ⟨?_, ?_⟩
  · intro hc0
    replace h := h.1 (cltI t_x4 (show (0 : Int32).toInt = 0 from rfl) hc0)
    unfold wp_X5_passes_34
    exact hQ _ _ _ (show (-2 : Int32).toInt = -2 from rfl) h
  · intro hc0
    replace h := h.2 (cnltI t_x4 (show (0 : Int32).toInt = 0 from rfl) hc0)
    refine ⟨?_, ?_⟩
    · intro hc0
      replace h := h.1 (cltI (show (40 : Int32).toInt = 40 from rfl) t_x4 hc0)
      unfold wp_X5_passes_34
      exact hQ _ _ _ (show (-2 : Int32).toInt = -2 from rfl) h
    · intro hc0
      replace h := h.2 (cnltI (show (40 : Int32).toInt = 40 from rfl) t_x4 hc0)
      refine ⟨?_, ?_⟩
      · intro hc0
        replace h := h.1 (cltI t_x1 (show (0 : Int32).toInt = 0 from rfl) hc0)
        unfold wp_X5_passes_34
        exact hQ _ _ _ (show (-2 : Int32).toInt = -2 from rfl) h
      · intro hc0
        replace h := h.2 (cnltI t_x1 (show (0 : Int32).toInt = 0 from rfl) hc0)
        refine ⟨?_, ?_⟩
        · intro hc0
          replace h := h.1 (cleI t_x2 t_x1 hc0)
          unfold wp_X5_passes_34
          exact hQ _ _ _ (show (-2 : Int32).toInt = -2 from rfl) h
        · intro hc0
          replace h := h.2 (cnleI t_x2 t_x1 hc0)
          refine ⟨?_, ?_⟩
          · intro hc0
            replace h := h.1 (cleI t_x3 t_x2 hc0)
            unfold wp_X5_passes_34
            exact hQ _ _ _ (show (-2 : Int32).toInt = -2 from rfl) h
          · intro hc0
            replace h := h.2 (cnleI t_x3 t_x2 hc0)
            refine ⟨?_, ?_⟩
            · intro hc0
              replace h := h.1 (cltI t_x3 (tr_I rfl) hc0)
              refine w_X5_three t_x1 t_x2 t_x3 t_x4 h (fun i2 y_i2 M1 t_i2 h => ?_)
              refine ⟨?_, ?_⟩
              · intro hc0
                replace h := h.1 (ceqI t_i2 (show (0 : Int32).toInt = 0 from rfl) hc0)
                unfold wp_X5_passes_54
                exact hQ _ _ _ (show (0 : Int32).toInt = 0 from rfl) h
              · intro hc0
                replace h := h.2 (cneI t_i2 (show (0 : Int32).toInt = 0 from rfl) hc0)
                unfold wp_X5_passes_54
                exact hQ _ _ _ (show (1 : Int32).toInt = 1 from rfl) h
            · intro hc0
              replace h := h.2 (cnltI t_x3 (tr_I rfl) hc0)
              unfold wp_X5_passes_34
              exact hQ _ _ _ (show (-2 : Int32).toInt = -2 from rfl) h
theorem w_X5_span_12 {Q : Int32 → Mem → Prop} {bQ : Int → Im → Prop} {K52 : Nat → Int32 → Int32 → Int32 → Int32 → Mem → Prop} {bK52 : Nat → Int → Int → Int → Int → Im → Prop} : ∀ {n : Nat} {x0 : Nat} {x1 : Int32} {y_x1 : Int} {x2 : Int32} {y_x2 : Int} {x3 : Int32} {y_x3 : Int} {x4 : Int32} {y_x4 : Int} {x5 : Int32} {y_x5 : Int} {M : Mem} (t_x1 : x1.toInt = y_x1) (t_x2 : x2.toInt = y_x2) (t_x3 : x3.toInt = y_x3) (t_x4 : x4.toInt = y_x4) (t_x5 : x5.toInt = y_x5) (_ : sp_X5_span_12 n x0 y_x1 y_x2 y_x3 y_x4 y_x5 (ab M) bQ bK52) (_ : ∀ (z0 : Int32) (u0 : Int) (m : Mem), z0.toInt = u0 → bQ u0 (ab m) → Q z0 m) (_ : ∀ (z0 : Nat) (z1 : Int32) (u1 : Int) (z2 : Int32) (u2 : Int) (z3 : Int32) (u3 : Int) (z4 : Int32) (u4 : Int) (m : Mem), z1.toInt = u1 → z2.toInt = u2 → z3.toInt = u3 → z4.toInt = u4 → bK52 z0 u1 u2 u3 u4 (ab m) → K52 z0 z1 z2 z3 z4 m), wp_X5_span_12 n x0 x1 x2 x3 x4 x5 M Q K52 := by
  intro n
  induction n with
  | zero => intro x0 x1 y_x1 x2 y_x2 x3 y_x3 x4 y_x4 x5 y_x5 M t_x1 t_x2 t_x3 t_x4 t_x5 h hQ hK52; exact h.elim
  | succ n ih =>
    intro x0 x1 y_x1 x2 y_x2 x3 y_x3 x4 y_x4 x5 y_x5 M t_x1 t_x2 t_x3 t_x4 t_x5 h hQ hK52
    unfold sp_X5_span_12 at h
    unfold wp_X5_span_12
    refine ⟨?_, ?_⟩
    · intro hc0
      replace h := h.1 (cleI t_x1 t_x5 hc0)
      exact hK52 _ _ _ _ _ _ _ _ _ _ t_x1 t_x2 t_x3 t_x4 h
    · intro hc0
      replace h := h.2 (cnleI t_x1 t_x5 hc0)
      refine ⟨?_, ?_⟩
      · intro hc0
        replace h := h.1 (cleI (tr_I rfl) t_x4 hc0)
        exact hK52 _ _ _ _ _ _ _ _ _ _ t_x1 t_x2 t_x3 t_x4 h
      · intro hc0
        replace h := h.2 (cnleI (tr_I rfl) t_x4 hc0)
        refine w_X5_spanEnd t_x4 (tr_I rfl) (tr_I rfl) h (fun i2 y_i2 M1 t_i2 h => ?_)
        obtain ⟨rr445, h⟩ := h
        intro i3 e_i3
        have q_i3 := (congrArg Int32.toInt e_i3).trans (taddI t_x5 (show (1 : Int32).toInt = 1 from rfl) rr445)
        replace h := h _ q_i3
        have t_i3 : i3.toInt = i3.toInt := rfl
        refine ih t_x1 t_x2 t_x4 t_i2 t_i3 h hQ hK52
theorem w_X5_span_130 {Q : Int32 → Mem → Prop} {bQ : Int → Im → Prop} {K154 : Int32 → Int32 → Int32 → Mem → Prop} {bK154 : Int → Int → Int → Im → Prop} {K173 : Nat → Int32 → Int32 → Int32 → Mem → Prop} {bK173 : Nat → Int → Int → Int → Im → Prop} : ∀ {n : Nat} {x0 : Nat} {x2 : Int32} {y_x2 : Int} {x4 : Int32} {y_x4 : Int} {x6 : Int32} {y_x6 : Int} {x7 : Int32} {y_x7 : Int} {M : Mem} (t_x2 : x2.toInt = y_x2) (t_x4 : x4.toInt = y_x4) (t_x6 : x6.toInt = y_x6) (t_x7 : x7.toInt = y_x7) (_ : sp_X5_span_130 n x0 y_x2 y_x4 y_x6 y_x7 (ab M) bQ bK154 bK173) (_ : ∀ (z0 : Int32) (u0 : Int) (m : Mem), z0.toInt = u0 → bQ u0 (ab m) → Q z0 m) (_ : ∀ (z0 : Int32) (u0 : Int) (z1 : Int32) (u1 : Int) (z2 : Int32) (u2 : Int) (m : Mem), z0.toInt = u0 → z1.toInt = u1 → z2.toInt = u2 → bK154 u0 u1 u2 (ab m) → K154 z0 z1 z2 m) (_ : ∀ (z0 : Nat) (z1 : Int32) (u1 : Int) (z2 : Int32) (u2 : Int) (z3 : Int32) (u3 : Int) (m : Mem), z1.toInt = u1 → z2.toInt = u2 → z3.toInt = u3 → bK173 z0 u1 u2 u3 (ab m) → K173 z0 z1 z2 z3 m), wp_X5_span_130 n x0 x2 x4 x6 x7 M Q K154 K173 := by
  intro n
  induction n with
  | zero => intro x0 x2 y_x2 x4 y_x4 x6 y_x6 x7 y_x7 M t_x2 t_x4 t_x6 t_x7 h hQ hK154 hK173; exact h.elim
  | succ n ih =>
    intro x0 x2 y_x2 x4 y_x4 x6 y_x6 x7 y_x7 M t_x2 t_x4 t_x6 t_x7 h hQ hK154 hK173
    unfold sp_X5_span_130 at h
    unfold wp_X5_span_130
    refine ⟨?_, ?_⟩
    · intro hc0
      replace h := h.1 (cleI t_x4 t_x7 hc0)
      exact hK173 _ _ _ _ _ _ _ _ t_x2 t_x4 t_x6 h
    · intro hc0
      replace h := h.2 (cnleI t_x4 t_x7 hc0)
      refine w_X5_three t_x6 t_x7 t_x4 (tr_I rfl) h (fun i8 y_i8 M7 t_i8 h => ?_)
      refine ⟨?_, ?_⟩
      · intro hc0
        replace h := h.1 (cneI t_i8 (show (0 : Int32).toInt = 0 from rfl) hc0)
        obtain ⟨rr447, h⟩ := h
        intro i9 e_i9
        have q_i9 := (congrArg Int32.toInt e_i9).trans (taddI t_x7 (show (1 : Int32).toInt = 1 from rfl) rr447)
        replace h := h _ q_i9
        have t_i9 : i9.toInt = i9.toInt := rfl
        refine ih t_x2 t_x4 t_x6 t_i9 h hQ hK154 hK173
      · intro hc0
        replace h := h.2 (ceqI t_i8 (show (0 : Int32).toInt = 0 from rfl) hc0)
        exact hK154 _ _ _ _ _ _ _ t_x2 t_x6 t_x7 h
theorem w_X5_span_173 {Q : Int32 → Mem → Prop} {bQ : Int → Im → Prop} {K117 : Nat → Int32 → Int32 → Int32 → Mem → Prop} {bK117 : Nat → Int → Int → Int → Im → Prop} {K154 : Int32 → Int32 → Int32 → Mem → Prop} {bK154 : Int → Int → Int → Im → Prop} {K179 : Mem → Prop} {bK179 : Im → Prop} {x0 : Nat} {x2 : Int32} {y_x2 : Int} {x4 : Int32} {y_x4 : Int} {x6 : Int32} {y_x6 : Int} {M : Mem} (t_x2 : x2.toInt = y_x2) (t_x4 : x4.toInt = y_x4) (t_x6 : x6.toInt = y_x6) (h : sp_X5_span_173 x0 y_x2 y_x4 y_x6 (ab M) bQ bK117 bK154 bK179) (hQ : ∀ (z0 : Int32) (u0 : Int) (m : Mem), z0.toInt = u0 → bQ u0 (ab m) → Q z0 m) (hK117 : ∀ (z0 : Nat) (z1 : Int32) (u1 : Int) (z2 : Int32) (u2 : Int) (z3 : Int32) (u3 : Int) (m : Mem), z1.toInt = u1 → z2.toInt = u2 → z3.toInt = u3 → bK117 z0 u1 u2 u3 (ab m) → K117 z0 z1 z2 z3 m) (hK154 : ∀ (z0 : Int32) (u0 : Int) (z1 : Int32) (u1 : Int) (z2 : Int32) (u2 : Int) (m : Mem), z0.toInt = u0 → z1.toInt = u1 → z2.toInt = u2 → bK154 u0 u1 u2 (ab m) → K154 z0 z1 z2 m) (hK179 : ∀ (m : Mem), bK179 (ab m) → K179 m) : wp_X5_span_173 x0 x2 x4 x6 M Q K117 K154 K179 := by
  unfold sp_X5_span_173 at h
  unfold wp_X5_span_173
  obtain ⟨rr449, h⟩ := h
  intro i10 e_i10
  have q_i10 := (congrArg Int32.toInt e_i10).trans (taddI t_x6 (show (1 : Int32).toInt = 1 from rfl) rr449)
  replace h := h _ q_i10
  have t_i10 : i10.toInt = i10.toInt := rfl
  exact hK117 _ _ _ _ _ _ _ _ t_x2 t_x4 t_i10 h
theorem w_X5_span_117 {Q : Int32 → Mem → Prop} {bQ : Int → Im → Prop} {K154 : Int32 → Int32 → Int32 → Mem → Prop} {bK154 : Int → Int → Int → Im → Prop} {K179 : Mem → Prop} {bK179 : Im → Prop} : ∀ {n : Nat} {x0 : Nat} {x2 : Int32} {y_x2 : Int} {x4 : Int32} {y_x4 : Int} {x6 : Int32} {y_x6 : Int} {M : Mem} (t_x2 : x2.toInt = y_x2) (t_x4 : x4.toInt = y_x4) (t_x6 : x6.toInt = y_x6) (_ : sp_X5_span_117 n x0 y_x2 y_x4 y_x6 (ab M) bQ bK154 bK179) (_ : ∀ (z0 : Int32) (u0 : Int) (m : Mem), z0.toInt = u0 → bQ u0 (ab m) → Q z0 m) (_ : ∀ (z0 : Int32) (u0 : Int) (z1 : Int32) (u1 : Int) (z2 : Int32) (u2 : Int) (m : Mem), z0.toInt = u0 → z1.toInt = u1 → z2.toInt = u2 → bK154 u0 u1 u2 (ab m) → K154 z0 z1 z2 m) (_ : ∀ (m : Mem), bK179 (ab m) → K179 m), wp_X5_span_117 n x0 x2 x4 x6 M Q K154 K179 := by
  intro n
  induction n with
  | zero => intro x0 x2 y_x2 x4 y_x4 x6 y_x6 M t_x2 t_x4 t_x6 h hQ hK154 hK179; exact h.elim
  | succ n ih =>
    intro x0 x2 y_x2 x4 y_x4 x6 y_x6 M t_x2 t_x4 t_x6 h hQ hK154 hK179
    unfold sp_X5_span_117 at h
    unfold wp_X5_span_117
    refine ⟨?_, ?_⟩
    · intro hc0
      replace h := h.1 (cleI t_x4 t_x6 hc0)
      exact hK179 _  h
    · intro hc0
      replace h := h.2 (cnleI t_x4 t_x6 hc0)
      obtain ⟨rr451, h⟩ := h
      intro i6 e_i6
      have q_i6 := (congrArg Int32.toInt e_i6).trans (taddI t_x6 (show (1 : Int32).toInt = 1 from rfl) rr451)
      replace h := h _ q_i6
      have t_i6 : i6.toInt = i6.toInt := rfl
      obtain ⟨k130, h⟩ := h
      refine ⟨k130, ?_⟩
      refine w_X5_span_130 t_x2 t_x4 t_x6 t_i6 h hQ (fun x2 y_x2 x6 y_x6 x7 y_x7 M t_x2 t_x6 t_x7 h => ?_) (fun x0 x2 y_x2 x4 y_x4 x6 y_x6 M t_x2 t_x4 t_x6 h => ?_)
      ·
        exact hK154 _ _ _ _ _ _ _ t_x2 t_x6 t_x7 h
      ·
        refine w_X5_span_173 t_x2 t_x4 t_x6 h hQ (fun x0 x2 y_x2 x4 y_x4 x6 y_x6 M t_x2 t_x4 t_x6 h => ?_) hK154 hK179
        refine ih t_x2 t_x4 t_x6 h hQ hK154 hK179
theorem w_X5_span_79 {Q : Int32 → Mem → Prop} {bQ : Int → Im → Prop} {x0 : Nat} {x2 : Int32} {y_x2 : Int} {x3 : Int32} {y_x3 : Int} {x4 : Int32} {y_x4 : Int} {t0 : Int32} {y_t0 : Int} {t1 : Int32} {y_t1 : Int} {M : Mem} (t_x2 : x2.toInt = y_x2) (t_x3 : x3.toInt = y_x3) (t_x4 : x4.toInt = y_x4) (t_t0 : t0.toInt = y_t0) (t_t1 : t1.toInt = y_t1) (h : sp_X5_span_79 x0 y_x2 y_x3 y_x4 y_t0 y_t1 (ab M) bQ) (hQ : ∀ (z0 : Int32) (u0 : Int) (m : Mem), z0.toInt = u0 → bQ u0 (ab m) → Q z0 m) : wp_X5_span_79 x0 x2 x3 x4 t0 t1 M Q := by
  unfold sp_X5_span_79 at h
  unfold wp_X5_span_79
  refine ⟨?_, ?_⟩
  · intro hc0
    replace h := h.1 (cleI t_t1 t_t0 hc0)
    refine ⟨?_, ?_⟩
    · intro hc0
      replace h := h.1 (cneI t_x2 (show (0 : Int32).toInt = 0 from rfl) hc0)
      refine ⟨?_, ?_⟩
      · intro hc0
        replace h := h.1 (cneI t_x2 (show (1 : Int32).toInt = 1 from rfl) hc0)
        obtain ⟨k117, h⟩ := h
        refine ⟨k117, ?_⟩
        refine w_X5_span_117 t_x2 t_x4 t_x3 h hQ (fun x2 y_x2 x6 y_x6 x7 y_x7 M t_x2 t_x6 t_x7 h => ?_) (fun M h => ?_)
        ·
          unfold wp_X5_span_154
          refine ⟨?_, ?_⟩
          · intro hc0
            replace h := h.1 (cneI t_x2 (show (2 : Int32).toInt = 2 from rfl) hc0)
            unfold wp_X5_span_166
            exact hQ _ _ _ t_x7 h
          · intro hc0
            replace h := h.2 (ceqI t_x2 (show (2 : Int32).toInt = 2 from rfl) hc0)
            unfold wp_X5_span_166
            exact hQ _ _ _ t_x6 h
        ·
          unfold wp_X5_span_179
          exact hQ _ _ _ (show (-1 : Int32).toInt = -1 from rfl) h
      · intro hc0
        replace h := h.2 (ceqI t_x2 (show (1 : Int32).toInt = 1 from rfl) hc0)
        refine w_X5_spanEnd t_x4 (tr_I rfl) (tr_I rfl) h (fun i5 y_i5 M4 t_i5 h => ?_)
        obtain ⟨rr453, h⟩ := h
        exact hQ _ _ _ (tsubI t_i5 t_x4 rr453) h
    · intro hc0
      replace h := h.2 (ceqI t_x2 (show (0 : Int32).toInt = 0 from rfl) hc0)
      exact hQ _ _ _ t_x4 h
  · intro hc0
    replace h := h.2 (cnleI t_t1 t_t0 hc0)
    unfold wp_X5_span_82
    exact hQ _ _ _ (show (-1 : Int32).toInt = -1 from rfl) h
theorem w_X5_span {Q : Int32 → Mem → Prop} {bQ : Int → Im → Prop} {x0 : Nat} {x1 : Int32} {y_x1 : Int} {x2 : Int32} {y_x2 : Int} {M : Mem} (t_x1 : x1.toInt = y_x1) (t_x2 : x2.toInt = y_x2) (h : sp_X5_span x0 y_x1 y_x2 (ab M) bQ) (hQ : ∀ (z0 : Int32) (u0 : Int) (m : Mem), z0.toInt = u0 → bQ u0 (ab m) → Q z0 m) : wp_X5_span x0 x1 x2 M Q := by
  unfold sp_X5_span at h
  unfold wp_X5_span
  obtain ⟨hp, h⟩ := h
  refine ⟨hp, ?_⟩
  refine w_X5_take  h (fun M11 h => ?_)
  obtain ⟨k12, h⟩ := h
  refine ⟨k12, ?_⟩
  refine w_X5_span_12 t_x1 t_x2 (show (0 : Int32).toInt = 0 from rfl) (show (0 : Int32).toInt = 0 from rfl) (show (0 : Int32).toInt = 0 from rfl) h hQ (fun x0 x1 y_x1 x2 y_x2 x3 y_x3 x4 y_x4 M t_x1 t_x2 t_x3 t_x4 h => ?_)
  unfold wp_X5_span_52
  refine ⟨?_, ?_⟩
  · intro hc0
    replace h := h.1 (cltI t_x1 (show (0 : Int32).toInt = 0 from rfl) hc0)
    unfold wp_X5_span_82
    exact hQ _ _ _ (show (-1 : Int32).toInt = -1 from rfl) h
  · intro hc0
    replace h := h.2 (cnltI t_x1 (show (0 : Int32).toInt = 0 from rfl) hc0)
    refine ⟨?_, ?_⟩
    · intro hc0
      replace h := h.1 (cleI (tr_I rfl) t_x4 hc0)
      unfold wp_X5_span_82
      exact hQ _ _ _ (show (-1 : Int32).toInt = -1 from rfl) h
    · intro hc0
      replace h := h.2 (cnleI (tr_I rfl) t_x4 hc0)
      refine ⟨?_, ?_⟩
      · intro hc0
        replace h := h.1 (cltI t_x2 (show (0 : Int32).toInt = 0 from rfl) hc0)
        unfold wp_X5_span_82
        exact hQ _ _ _ (show (-1 : Int32).toInt = -1 from rfl) h
      · intro hc0
        replace h := h.2 (cnltI t_x2 (show (0 : Int32).toInt = 0 from rfl) hc0)
        refine ⟨?_, ?_⟩
        · intro hc0
          replace h := h.1 (cleI t_x1 (show (0 : Int32).toInt = 0 from rfl) hc0)
          refine w_X5_span_79 t_x2 t_x3 t_x4 (show (1 : Int32).toInt = 1 from rfl) t_x2 h hQ
        · intro hc0
          replace h := h.2 (cnleI t_x1 (show (0 : Int32).toInt = 0 from rfl) hc0)
          refine w_X5_span_79 t_x2 t_x3 t_x4 (show (3 : Int32).toInt = 3 from rfl) t_x2 h hQ
theorem w_X5_pieces {Q : Int32 → Mem → Prop} {bQ : Int → Im → Prop} {x0 : Nat} {M : Mem} (h : sp_X5_pieces x0 (ab M) bQ) (hQ : ∀ (z0 : Int32) (u0 : Int) (m : Mem), z0.toInt = u0 → bQ u0 (ab m) → Q z0 m) : wp_X5_pieces x0 M Q := by
  unfold sp_X5_pieces at h
  unfold wp_X5_pieces
  obtain ⟨hp, h⟩ := h
  refine ⟨hp, ?_⟩
  obtain ⟨hp, h⟩ := h
  refine ⟨(tinb (show (0 : Int32).toInt = 0 from rfl) hp), ?_⟩
  exact hQ _ _ _ (tr_I (rfl : (0 : Int32).toNatClampNeg = 0)) h
theorem w_X5_divisor_6 {Q : Int64 → Mem → Prop} {bQ : Int → Im → Prop} {K31 : Int64 → Mem → Prop} {bK31 : Int → Im → Prop} : ∀ {n : Nat} {x5 : Int64} {y_x5 : Int} {x7 : Int64} {y_x7 : Int} {M : Mem} (t_x5 : x5.toInt = y_x5) (t_x7 : x7.toInt = y_x7) (_ : sp_X5_divisor_6 n y_x5 y_x7 (ab M) bQ bK31) (_ : ∀ (z0 : Int64) (u0 : Int) (m : Mem), z0.toInt = u0 → bQ u0 (ab m) → Q z0 m) (_ : ∀ (z0 : Int64) (u0 : Int) (m : Mem), z0.toInt = u0 → bK31 u0 (ab m) → K31 z0 m), wp_X5_divisor_6 n x5 x7 M Q K31 := by
  intro n
  induction n with
  | zero => intro x5 y_x5 x7 y_x7 M t_x5 t_x7 h hQ hK31; exact h.elim
  | succ n ih =>
    intro x5 y_x5 x7 y_x7 M t_x5 t_x7 h hQ hK31
    unfold sp_X5_divisor_6 at h
    unfold wp_X5_divisor_6
    refine ⟨?_, ?_⟩
    · intro hc0
      replace h := h.1 (ceqJ t_x7 (show (0 : Int64).toInt = 0 from rfl) hc0)
      exact hK31 _ _ _ t_x5 h
    · intro hc0
      replace h := h.2 (cneJ t_x7 (show (0 : Int64).toInt = 0 from rfl) hc0)
      obtain ⟨hp, h⟩ := h
      refine ⟨(tnzJ t_x7 hp), ?_⟩
      obtain ⟨rr458, h⟩ := h
      obtain ⟨rr459, h⟩ := h
      obtain ⟨rr460, h⟩ := h
      intro j1 e_j1
      have q_j1 := (congrArg Int64.toInt e_j1).trans (tsubJ t_x5 (tmulJ (tdivJ t_x5 t_x7 rr458) t_x7 rr459) rr460)
      replace h := h _ q_j1
      have t_j1 : j1.toInt = j1.toInt := rfl
      refine ih t_x7 t_j1 h hQ hK31
theorem w_X5_divisor {Q : Int64 → Mem → Prop} {bQ : Int → Im → Prop} {x0 : Nat} {x1 : Int64} {y_x1 : Int} {x3 : Int64} {y_x3 : Int} {M : Mem} (t_x1 : x1.toInt = y_x1) (t_x3 : x3.toInt = y_x3) (h : sp_X5_divisor x0 y_x1 y_x3 (ab M) bQ) (hQ : ∀ (z0 : Int64) (u0 : Int) (m : Mem), z0.toInt = u0 → bQ u0 (ab m) → Q z0 m) : wp_X5_divisor x0 x1 x3 M Q := by
  unfold sp_X5_divisor at h
  unfold wp_X5_divisor
  obtain ⟨hp, h⟩ := h
  refine ⟨hp, ?_⟩
  obtain ⟨k6, h⟩ := h
  refine ⟨k6, ?_⟩
  refine w_X5_divisor_6 t_x1 t_x3 h hQ (fun x5 y_x5 M t_x5 h => ?_)
  unfold wp_X5_divisor_31
  exact hQ _ _ _ t_x5 h
theorem w_X5_guessOf {Q : Int32 → Mem → Prop} {bQ : Int → Im → Prop} {x0 : Nat} {x1 : Int32} {y_x1 : Int} {x2 : Int64} {y_x2 : Int} {M : Mem} (t_x1 : x1.toInt = y_x1) (t_x2 : x2.toInt = y_x2) (h : sp_X5_guessOf x0 y_x1 y_x2 (ab M) bQ) (hQ : ∀ (z0 : Int32) (u0 : Int) (m : Mem), z0.toInt = u0 → bQ u0 (ab m) → Q z0 m) : wp_X5_guessOf x0 x1 x2 M Q := by
  unfold sp_X5_guessOf at h
  unfold wp_X5_guessOf
  obtain ⟨hp, h⟩ := h
  refine ⟨hp, ?_⟩
  obtain ⟨hp, h⟩ := h
  refine ⟨(tinb t_x1 hp), ?_⟩
  obtain ⟨rr468, h⟩ := h
  intro i1 e_i1
  have q_i1 := (congrArg Int32.toInt e_i1).trans (tsubI (tr_I (tnatI t_x1)) (show (1 : Int32).toInt = 1 from rfl) rr468)
  replace h := h _ q_i1
  have t_i1 : i1.toInt = i1.toInt := rfl
  obtain ⟨hp, h⟩ := h
  refine ⟨(tinb t_x1 hp), ?_⟩
  refine ⟨?_, ?_⟩
  · intro hc0
    replace h := h.1 (cneI (tr_I (tnatI t_x1)) (show (0 : Int32).toInt = 0 from rfl) hc0)
    obtain ⟨hp, h⟩ := h
    refine ⟨(tinb t_x1 hp), ?_⟩
    refine ⟨?_, ?_⟩
    · intro hc0
      replace h := h.1 (cneI (tr_I (tnatI t_x1)) (show (2 : Int32).toInt = 2 from rfl) hc0)
      obtain ⟨hp, h⟩ := h
      refine ⟨(tinb t_x1 hp), ?_⟩
      obtain ⟨hp, h⟩ := h
      refine ⟨(tinb t_x1 hp), ?_⟩
      obtain ⟨hp, h⟩ := h
      refine ⟨(tinb t_x1 hp), ?_⟩
      obtain ⟨hp, h⟩ := h
      refine ⟨(tinb (tr_I (tnatI t_x1)) hp), ?_⟩
      obtain ⟨rr469, h⟩ := h
      obtain ⟨rr470, h⟩ := h
      obtain ⟨rr471, h⟩ := h
      intro j2 e_j2
      have q_j2 := (congrArg Int64.toInt e_j2).trans (taddJ (tr_L (tnatI t_x1)) (tmulJ (tr_L (tnatI t_x1)) (tsubJ t_x2 (tr_L (tnatI (tr_I (tnatI t_x1)))) rr469) rr470) rr471)
      replace h := h _ q_j2
      have t_j2 : j2.toInt = j2.toInt := rfl
      refine ⟨?_, ?_⟩
      · intro hc0
        replace h := h.1 (cleJ (show (0 : Int64).toInt = 0 from rfl) t_j2 hc0)
        obtain ⟨hp, h⟩ := h
        refine ⟨(tinb t_x1 hp), ?_⟩
        obtain ⟨hp, h⟩ := h
        refine ⟨(tnzJ (tr_L (tnatI t_x1)) hp), ?_⟩
        obtain ⟨rr472, h⟩ := h
        intro j3 e_j3
        have q_j3 := (congrArg Int64.toInt e_j3).trans (tdivJ t_j2 (tr_L (tnatI t_x1)) rr472)
        replace h := h _ q_j3
        have t_j3 : j3.toInt = j3.toInt := rfl
        refine ⟨?_, ?_⟩
        · intro hc0
          replace h := h.1 (cleJ t_j3 (ti2l t_i1) hc0)
          unfold wp_X5_guessOf_174
          obtain ⟨rr473, h⟩ := h
          exact hQ _ _ _ (tl2i t_j3 rr473) h
        · intro hc0
          replace h := h.2 (cnleJ t_j3 (ti2l t_i1) hc0)
          unfold wp_X5_guessOf_174
          exact hQ _ _ _ t_i1 h
      · intro hc0
        replace h := h.2 (cnleJ (show (0 : Int64).toInt = 0 from rfl) t_j2 hc0)
        exact hQ _ _ _ (show (0 : Int32).toInt = 0 from rfl) h
    · intro hc0
      replace h := h.2 (ceqI (tr_I (tnatI t_x1)) (show (2 : Int32).toInt = 2 from rfl) hc0)
      obtain ⟨hp, h⟩ := h
      refine ⟨(tinb t_x1 hp), ?_⟩
      obtain ⟨hp, h⟩ := h
      refine ⟨(tinb t_x1 hp), ?_⟩
      intro f4 e_f4
      replace h := h f4 (alk (cg2 FP.ddiv (congrArg FP.l2d (of64 (tr_L (tnatI t_x1)))) (congrArg FP.l2d (of64 (tr_L (tnatI t_x1))))) e_f4)
      obtain ⟨hp, h⟩ := h
      refine ⟨(tinb t_x1 hp), ?_⟩
      obtain ⟨hp, h⟩ := h
      refine ⟨(tinb t_x1 hp), ?_⟩
      intro f5 e_f5
      replace h := h f5 (alk (cg2 FP.ddiv (congrArg FP.l2d (of64 (tr_L (tnatI t_x1)))) (congrArg FP.l2d (of64 (tr_L (tnatI t_x1))))) e_f5)
      obtain ⟨hp, h⟩ := h
      refine ⟨(tinb t_x1 hp), ?_⟩
      obtain ⟨hp, h⟩ := h
      refine ⟨(tinb (tr_I (tnatI t_x1)) hp), ?_⟩
      obtain ⟨rr475, h⟩ := h
      intro f6 e_f6
      replace h := h f6 (alk (cg2 FP.dmul rfl (congrArg FP.l2d (of64 (tsubJ t_x2 (tr_L (tnatI (tr_I (tnatI t_x1)))) rr475)))) e_f6)
      intro f7 e_f7
      replace h := h f7 (alk (cg2 FP.dadd rfl rfl) e_f7)
      refine ⟨?_, ?_⟩
      · intro hc0
        replace h := h.1 (cltI (congrArg Int32.toInt (cg2 (fun a b => Op.cmpValue (FP.dcmp a b) CmpOp.l) rfl (congrArg FP.i2d (of32 t_i1)))) (show (0 : Int32).toInt = 0 from rfl) hc0)
        refine ⟨?_, ?_⟩
        · intro hc0
          replace h := h.1 (cleI (congrArg Int32.toInt (cg2 (fun a b => Op.cmpValue (FP.dcmp a b) CmpOp.l) rfl rfl)) (show (0 : Int32).toInt = 0 from rfl) hc0)
          unfold wp_X5_guessOf_107
          exact hQ _ _ _ (show (0 : Int32).toInt = 0 from rfl) h
        · intro hc0
          replace h := h.2 (cnleI (congrArg Int32.toInt (cg2 (fun a b => Op.cmpValue (FP.dcmp a b) CmpOp.l) rfl rfl)) (show (0 : Int32).toInt = 0 from rfl) hc0)
          unfold wp_X5_guessOf_107
          exact hQ _ _ _ (congrArg (fun a => (FP.d2i a).toInt) rfl) h
      · intro hc0
        replace h := h.2 (cnltI (congrArg Int32.toInt (cg2 (fun a b => Op.cmpValue (FP.dcmp a b) CmpOp.l) rfl (congrArg FP.i2d (of32 t_i1)))) (show (0 : Int32).toInt = 0 from rfl) hc0)
        unfold wp_X5_guessOf_107
        exact hQ _ _ _ t_i1 h
  · intro hc0
    replace h := h.2 (ceqI (tr_I (tnatI t_x1)) (show (0 : Int32).toInt = 0 from rfl) hc0)
    exact hQ _ _ _ (show (0 : Int32).toInt = 0 from rfl) h
theorem w_X5_miss_61 {Q : Int32 → Mem → Prop} {bQ : Int → Im → Prop} {K4 : Nat → Int32 → Int32 → Int32 → Mem → Prop} {bK4 : Nat → Int → Int → Int → Im → Prop} {K68 : Int32 → Mem → Prop} {bK68 : Int → Im → Prop} {x0 : Nat} {x1 : Int32} {y_x1 : Int} {x3 : Int32} {y_x3 : Int} {t0 : Int32} {y_t0 : Int} {M : Mem} (t_x1 : x1.toInt = y_x1) (t_x3 : x3.toInt = y_x3) (t_t0 : t0.toInt = y_t0) (h : sp_X5_miss_61 x0 y_x1 y_x3 y_t0 (ab M) bQ bK4 bK68) (hQ : ∀ (z0 : Int32) (u0 : Int) (m : Mem), z0.toInt = u0 → bQ u0 (ab m) → Q z0 m) (hK4 : ∀ (z0 : Nat) (z1 : Int32) (u1 : Int) (z2 : Int32) (u2 : Int) (z3 : Int32) (u3 : Int) (m : Mem), z1.toInt = u1 → z2.toInt = u2 → z3.toInt = u3 → bK4 z0 u1 u2 u3 (ab m) → K4 z0 z1 z2 z3 m) (hK68 : ∀ (z0 : Int32) (u0 : Int) (m : Mem), z0.toInt = u0 → bK68 u0 (ab m) → K68 z0 m) : wp_X5_miss_61 x0 x1 x3 t0 M Q K4 K68 := by
  unfold sp_X5_miss_61 at h
  unfold wp_X5_miss_61
  obtain ⟨rr477, h⟩ := h
  intro i4 e_i4
  have q_i4 := (congrArg Int32.toInt e_i4).trans (taddI t_x3 (show (1 : Int32).toInt = 1 from rfl) rr477)
  replace h := h _ q_i4
  have t_i4 : i4.toInt = i4.toInt := rfl
  exact hK4 _ _ _ _ _ _ _ _ t_x1 t_t0 t_i4 h
theorem w_X5_miss_4 {Q : Int32 → Mem → Prop} {bQ : Int → Im → Prop} {K68 : Int32 → Mem → Prop} {bK68 : Int → Im → Prop} : ∀ {n : Nat} {x0 : Nat} {x1 : Int32} {y_x1 : Int} {x2 : Int32} {y_x2 : Int} {x3 : Int32} {y_x3 : Int} {M : Mem} (t_x1 : x1.toInt = y_x1) (t_x2 : x2.toInt = y_x2) (t_x3 : x3.toInt = y_x3) (_ : sp_X5_miss_4 n x0 y_x1 y_x2 y_x3 (ab M) bQ bK68) (_ : ∀ (z0 : Int32) (u0 : Int) (m : Mem), z0.toInt = u0 → bQ u0 (ab m) → Q z0 m) (_ : ∀ (z0 : Int32) (u0 : Int) (m : Mem), z0.toInt = u0 → bK68 u0 (ab m) → K68 z0 m), wp_X5_miss_4 n x0 x1 x2 x3 M Q K68 := by
  intro n
  induction n with
  | zero => intro x0 x1 y_x1 x2 y_x2 x3 y_x3 M t_x1 t_x2 t_x3 h hQ hK68; exact h.elim
  | succ n ih =>
    intro x0 x1 y_x1 x2 y_x2 x3 y_x3 M t_x1 t_x2 t_x3 h hQ hK68
    unfold sp_X5_miss_4 at h
    unfold wp_X5_miss_4
    obtain ⟨hp, h⟩ := h
    refine ⟨(tinb t_x1 hp), ?_⟩
    refine ⟨?_, ?_⟩
    · intro hc0
      replace h := h.1 (cleI (tr_I (tnatI t_x1)) t_x3 hc0)
      exact hK68 _ _ _ t_x2 h
    · intro hc0
      replace h := h.2 (cnleI (tr_I (tnatI t_x1)) t_x3 hc0)
      obtain ⟨hp, h⟩ := h
      refine ⟨(tinb t_x1 hp), ?_⟩
      obtain ⟨rr484, h⟩ := h
      obtain ⟨hp, h⟩ := h
      refine ⟨(tinb (taddI (tr_I (tnatI t_x1)) t_x3 rr484) hp), ?_⟩
      obtain ⟨rr485, h⟩ := h
      refine w_X5_guessOf t_x1 (tr_L (tnatI (taddI (tr_I (tnatI t_x1)) t_x3 rr485))) h (fun i2 y_i2 M1 t_i2 h => ?_)
      obtain ⟨rr486, h⟩ := h
      intro i3 e_i3
      have q_i3 := (congrArg Int32.toInt e_i3).trans (tsubI t_i2 t_x3 rr486)
      replace h := h _ q_i3
      have t_i3 : i3.toInt = i3.toInt := rfl
      refine ⟨?_, ?_⟩
      · intro hc0
        replace h := h.1 (cleI t_i3 t_x2 hc0)
        obtain ⟨rr487, h⟩ := h
        refine ⟨?_, ?_⟩
        · intro hc0
          replace h := h.1 (cleI (tnegI t_i3 rr487) t_x2 hc0)
          refine w_X5_miss_61 t_x1 t_x3 t_x2 h hQ (fun x0 x1 y_x1 x2 y_x2 x3 y_x3 M t_x1 t_x2 t_x3 h => ?_) hK68
          refine ih t_x1 t_x2 t_x3 h hQ hK68
        · intro hc0
          replace h := h.2 (cnleI (tnegI t_i3 rr487) t_x2 hc0)
          obtain ⟨rr489, h⟩ := h
          refine w_X5_miss_61 t_x1 t_x3 (tnegI t_i3 rr489) h hQ (fun x0 x1 y_x1 x2 y_x2 x3 y_x3 M t_x1 t_x2 t_x3 h => ?_) hK68
          refine ih t_x1 t_x2 t_x3 h hQ hK68
      · intro hc0
        replace h := h.2 (cnleI t_i3 t_x2 hc0)
        refine w_X5_miss_61 t_x1 t_x3 t_i3 h hQ (fun x0 x1 y_x1 x2 y_x2 x3 y_x3 M t_x1 t_x2 t_x3 h => ?_) hK68
        refine ih t_x1 t_x2 t_x3 h hQ hK68
theorem w_X5_miss {Q : Int32 → Mem → Prop} {bQ : Int → Im → Prop} {x0 : Nat} {x1 : Int32} {y_x1 : Int} {M : Mem} (t_x1 : x1.toInt = y_x1) (h : sp_X5_miss x0 y_x1 (ab M) bQ) (hQ : ∀ (z0 : Int32) (u0 : Int) (m : Mem), z0.toInt = u0 → bQ u0 (ab m) → Q z0 m) : wp_X5_miss x0 x1 M Q := by
  unfold sp_X5_miss at h
  unfold wp_X5_miss
  obtain ⟨hp, h⟩ := h
  refine ⟨hp, ?_⟩
  obtain ⟨k4, h⟩ := h
  refine ⟨k4, ?_⟩
  refine w_X5_miss_4 t_x1 (show (0 : Int32).toInt = 0 from rfl) (show (0 : Int32).toInt = 0 from rfl) h hQ (fun x2 y_x2 M t_x2 h => ?_)
  unfold wp_X5_miss_68
  exact hQ _ _ _ t_x2 h
theorem w_X5_lean_77 {Q : Mem → Prop} {bQ : Im → Prop} {K121 : Nat → Int32 → Int32 → Int32 → Int32 → Int32 → Mem → Prop} {bK121 : Nat → Int → Int → Int → Int → Int → Im → Prop} : ∀ {n : Nat} {x0 : Nat} {x1 : Int32} {y_x1 : Int} {x2 : Int32} {y_x2 : Int} {x3 : Int32} {y_x3 : Int} {x4 : Int32} {y_x4 : Int} {x5 : Int32} {y_x5 : Int} {x6 : Int32} {y_x6 : Int} {x7 : Int32} {y_x7 : Int} {M : Mem} (t_x1 : x1.toInt = y_x1) (t_x2 : x2.toInt = y_x2) (t_x3 : x3.toInt = y_x3) (t_x4 : x4.toInt = y_x4) (t_x5 : x5.toInt = y_x5) (t_x6 : x6.toInt = y_x6) (t_x7 : x7.toInt = y_x7) (_ : sp_X5_lean_77 n x0 y_x1 y_x2 y_x3 y_x4 y_x5 y_x6 y_x7 (ab M) bQ bK121) (_ : ∀ (m : Mem), bQ (ab m) → Q m) (_ : ∀ (z0 : Nat) (z1 : Int32) (u1 : Int) (z2 : Int32) (u2 : Int) (z3 : Int32) (u3 : Int) (z4 : Int32) (u4 : Int) (z5 : Int32) (u5 : Int) (m : Mem), z1.toInt = u1 → z2.toInt = u2 → z3.toInt = u3 → z4.toInt = u4 → z5.toInt = u5 → bK121 z0 u1 u2 u3 u4 u5 (ab m) → K121 z0 z1 z2 z3 z4 z5 m), wp_X5_lean_77 n x0 x1 x2 x3 x4 x5 x6 x7 M Q K121 := by
  intro n
  induction n with
  | zero => intro x0 x1 y_x1 x2 y_x2 x3 y_x3 x4 y_x4 x5 y_x5 x6 y_x6 x7 y_x7 M t_x1 t_x2 t_x3 t_x4 t_x5 t_x6 t_x7 h hQ hK121; exact h.elim
  | succ n ih =>
    intro x0 x1 y_x1 x2 y_x2 x3 y_x3 x4 y_x4 x5 y_x5 x6 y_x6 x7 y_x7 M t_x1 t_x2 t_x3 t_x4 t_x5 t_x6 t_x7 h hQ hK121
    unfold sp_X5_lean_77 at h
    unfold wp_X5_lean_77
    refine ⟨?_, ?_⟩
    · intro hc0
      replace h := h.1 (cleI t_x3 t_x7 hc0)
      exact hK121 _ _ _ _ _ _ _ _ _ _ _ _ t_x1 t_x2 t_x3 t_x4 t_x5 h
    · intro hc0
      replace h := h.2 (cnleI t_x3 t_x7 hc0)
      obtain ⟨hp, h⟩ := h
      refine ⟨(tinb t_x7 hp), ?_⟩
      obtain ⟨rr499, h⟩ := h
      obtain ⟨rr500, h⟩ := h
      obtain ⟨hp, h⟩ := h
      refine ⟨(tinb (tsubI (taddI t_x6 t_x7 rr499) t_x2 rr500) hp), ?_⟩
      obtain ⟨rr501, h⟩ := h
      obtain ⟨rr502, h⟩ := h
      intro M9 e_M9
      replace h := h (ab M9) ((congrArg ab e_M9).trans (ab_sL (tnatI (tsubI (taddI t_x6 t_x7 rr501) t_x2 rr502)) (tr_L (tnatI t_x7))))
      obtain ⟨rr503, h⟩ := h
      obtain ⟨rr504, h⟩ := h
      obtain ⟨hp, h⟩ := h
      refine ⟨(tinb (tsubI (taddI t_x6 t_x7 rr503) t_x2 rr504) hp), ?_⟩
      obtain ⟨rr505, h⟩ := h
      obtain ⟨rr506, h⟩ := h
      intro M10 e_M10
      replace h := h (ab M10) ((congrArg ab e_M10).trans (ab_sI (tnatI (tsubI (taddI t_x6 t_x7 rr505) t_x2 rr506)) (show (0 : Int32).toInt = 0 from rfl)))
      obtain ⟨rr507, h⟩ := h
      intro i11 e_i11
      have q_i11 := (congrArg Int32.toInt e_i11).trans (taddI t_x7 (show (1 : Int32).toInt = 1 from rfl) rr507)
      replace h := h _ q_i11
      have t_i11 : i11.toInt = i11.toInt := rfl
      refine ih t_x1 t_x2 t_x3 t_x4 t_x5 t_x6 t_i11 h hQ hK121
theorem w_X5_lean_18 {Q : Mem → Prop} {bQ : Im → Prop} {x0 : Nat} {x1 : Int32} {y_x1 : Int} {x2 : Int32} {y_x2 : Int} {x3 : Int32} {y_x3 : Int} {x4 : Int32} {y_x4 : Int} {x5 : Int32} {y_x5 : Int} {x6 : Int32} {y_x6 : Int} {t0 : Int32} {y_t0 : Int} {t1 : Int32} {y_t1 : Int} {t2 : Nat} {M : Mem} (t_x1 : x1.toInt = y_x1) (t_x2 : x2.toInt = y_x2) (t_x3 : x3.toInt = y_x3) (t_x4 : x4.toInt = y_x4) (t_x5 : x5.toInt = y_x5) (t_x6 : x6.toInt = y_x6) (t_t0 : t0.toInt = y_t0) (t_t1 : t1.toInt = y_t1) (h : sp_X5_lean_18 x0 y_x1 y_x2 y_x3 y_x4 y_x5 y_x6 y_t0 y_t1 t2 (ab M) bQ) (hQ : ∀ (m : Mem), bQ (ab m) → Q m) : wp_X5_lean_18 x0 x1 x2 x3 x4 x5 x6 t0 t1 t2 M Q := by
  unfold sp_X5_lean_18 at h
  unfold wp_X5_lean_18
  obtain ⟨hp, h⟩ := h
  refine ⟨(tinb t_t1 hp), ?_⟩
  intro M1 e_M1
  replace h := h (ab M1) ((congrArg ab e_M1).trans (ab_sI (tnatI t_t1) t_t0))
  obtain ⟨hp, h⟩ := h
  refine ⟨(tinb t_x1 hp), ?_⟩
  intro M2 e_M2
  replace h := h (ab M2) ((congrArg ab e_M2).trans (ab_sI (tnatI t_x1) t_x6))
  obtain ⟨hp, h⟩ := h
  refine ⟨(tinb t_x1 hp), ?_⟩
  obtain ⟨rr519, h⟩ := h
  intro M3 e_M3
  replace h := h (ab M3) ((congrArg ab e_M3).trans (ab_sI (tnatI t_x1) (tsubI t_x3 t_x2 rr519)))
  obtain ⟨hp, h⟩ := h
  refine ⟨(tinb t_x1 hp), ?_⟩
  intro M4 e_M4
  replace h := h (ab M4) ((congrArg ab e_M4).trans (ab_sI (tnatI t_x1) (tr_I rfl)))
  obtain ⟨hp, h⟩ := h
  refine ⟨(tinb t_x1 hp), ?_⟩
  intro M5 e_M5
  replace h := h (ab M5) ((congrArg ab e_M5).trans (ab_sI (tnatI t_x1) (show (0 : Int32).toInt = 0 from rfl)))
  obtain ⟨hp, h⟩ := h
  refine ⟨(tinb t_x1 hp), ?_⟩
  intro M6 e_M6
  replace h := h (ab M6) ((congrArg ab e_M6).trans (ab_sL (tnatI t_x1) (show (0 : Int64).toInt = 0 from rfl)))
  obtain ⟨hp, h⟩ := h
  refine ⟨(tinb t_x1 hp), ?_⟩
  intro M7 e_M7
  replace h := h (ab M7) ((congrArg ab e_M7).trans (ab_sL (tnatI t_x1) (show (1 : Int64).toInt = 1 from rfl)))
  obtain ⟨hp, h⟩ := h
  refine ⟨(tinb t_x1 hp), ?_⟩
  intro M8 e_M8
  replace h := h (ab M8) ((congrArg ab e_M8).trans (ab_sL (tnatI t_x1) (show (0 : Int64).toInt = 0 from rfl)))
  obtain ⟨k77, h⟩ := h
  refine ⟨k77, ?_⟩
  refine w_X5_lean_77 t_x1 t_x2 t_x3 t_x4 t_x5 t_x6 t_x2 h hQ (fun x0 x1 y_x1 x2 y_x2 x3 y_x3 x4 y_x4 x5 y_x5 M t_x1 t_x2 t_x3 t_x4 t_x5 h => ?_)
  unfold wp_X5_lean_121
  obtain ⟨rr520, h⟩ := h
  refine ⟨?_, ?_⟩
  · intro hc0
    replace h := h.1 (cneI (tsubI t_x3 t_x2 rr520) (show (1 : Int32).toInt = 1 from rfl) hc0)
    refine w_X5_passed t_x2 t_x3 t_x4 h (fun i13 y_i13 M12 t_i13 h => ?_)
    refine w_X5_divisor (tr_L rfl) (tr_L rfl) h (fun j15 y_j15 M14 t_j15 h => ?_)
    obtain ⟨hp, h⟩ := h
    refine ⟨(tnzJ t_j15 hp), ?_⟩
    obtain ⟨hp, h⟩ := h
    refine ⟨(tinb t_x1 hp), ?_⟩
    obtain ⟨rr522, h⟩ := h
    intro M16 e_M16
    replace h := h (ab M16) ((congrArg ab e_M16).trans (ab_sL (tnatI t_x1) (tdivJ (tr_L rfl) t_j15 rr522)))
    obtain ⟨hp, h⟩ := h
    refine ⟨(tnzJ t_j15 hp), ?_⟩
    obtain ⟨hp, h⟩ := h
    refine ⟨(tinb t_x1 hp), ?_⟩
    obtain ⟨rr523, h⟩ := h
    intro M17 e_M17
    replace h := h (ab M17) ((congrArg ab e_M17).trans (ab_sL (tnatI t_x1) (tdivJ (tr_L rfl) t_j15 rr523)))
    obtain ⟨hp, h⟩ := h
    refine ⟨(tinb t_x1 hp), ?_⟩
    obtain ⟨hp, h⟩ := h
    refine ⟨(tinb t_x1 hp), ?_⟩
    obtain ⟨hp, h⟩ := h
    refine ⟨(tinb (tr_I rfl) hp), ?_⟩
    obtain ⟨hp, h⟩ := h
    refine ⟨(tinb t_x2 hp), ?_⟩
    obtain ⟨hp, h⟩ := h
    refine ⟨(tinb t_x1 hp), ?_⟩
    obtain ⟨rr524, h⟩ := h
    obtain ⟨rr525, h⟩ := h
    obtain ⟨rr526, h⟩ := h
    obtain ⟨rr527, h⟩ := h
    obtain ⟨rr528, h⟩ := h
    obtain ⟨rr529, h⟩ := h
    intro M18 e_M18
    replace h := h (ab M18) ((congrArg ab e_M18).trans (ab_sL (tnatI t_x1) (tsubJ (tmulJ (tr_L (tnatI t_x1)) (ti2l (tsubI (tsubI (tr_I rfl) t_x2 rr524) t_x4 rr525)) rr526) (tmulJ (tr_L (tnatI t_x1)) (tsubJ (tr_L (tnatI (tr_I rfl))) (tr_L (tnatI t_x2)) rr527) rr528) rr529)))
    refine ⟨?_, ?_⟩
    · intro hc0
      replace h := h.1 (cneI t_x5 (show (2 : Int32).toInt = 2 from rfl) hc0)
      unfold wp_X5_lean_251
      exact hQ _  h
    · intro hc0
      replace h := h.2 (ceqI t_x5 (show (2 : Int32).toInt = 2 from rfl) hc0)
      refine w_X5_miss t_x1 h (fun i20 y_i20 M19 t_i20 h => ?_)
      refine ⟨?_, ?_⟩
      · intro hc0
        replace h := h.1 (cleI t_i20 (tr_I rfl) hc0)
        unfold wp_X5_lean_251
        exact hQ _  h
      · intro hc0
        replace h := h.2 (cnleI t_i20 (tr_I rfl) hc0)
        obtain ⟨hp, h⟩ := h
        refine ⟨(tinb t_x1 hp), ?_⟩
        intro M21 e_M21
        replace h := h (ab M21) ((congrArg ab e_M21).trans (ab_sI (tnatI t_x1) (show (1 : Int32).toInt = 1 from rfl)))
        unfold wp_X5_lean_251
        exact hQ _  h
  · intro hc0
    replace h := h.2 (ceqI (tsubI t_x3 t_x2 rr520) (show (1 : Int32).toInt = 1 from rfl) hc0)
    exact hQ _  h
theorem w_X5_lean {Q : Mem → Prop} {bQ : Im → Prop} {x0 : Nat} {x1 : Int32} {y_x1 : Int} {x2 : Int32} {y_x2 : Int} {x3 : Int32} {y_x3 : Int} {x4 : Int32} {y_x4 : Int} {x5 : Int32} {y_x5 : Int} {x6 : Int32} {y_x6 : Int} {M : Mem} (t_x1 : x1.toInt = y_x1) (t_x2 : x2.toInt = y_x2) (t_x3 : x3.toInt = y_x3) (t_x4 : x4.toInt = y_x4) (t_x5 : x5.toInt = y_x5) (t_x6 : x6.toInt = y_x6) (h : sp_X5_lean x0 y_x1 y_x2 y_x3 y_x4 y_x5 y_x6 (ab M) bQ) (hQ : ∀ (m : Mem), bQ (ab m) → Q m) : wp_X5_lean x0 x1 x2 x3 x4 x5 x6 M Q := by
  unfold sp_X5_lean at h
  unfold wp_X5_lean
  obtain ⟨hp, h⟩ := h
  refine ⟨hp, ?_⟩
  obtain ⟨rr532, h⟩ := h
  refine ⟨?_, ?_⟩
  · intro hc0
    replace h := h.1 (cneI (tsubI t_x3 t_x2 rr532) (show (1 : Int32).toInt = 1 from rfl) hc0)
    refine w_X5_lean_18 t_x1 t_x2 t_x3 t_x4 t_x5 t_x6 t_x5 t_x1 h hQ
  · intro hc0
    replace h := h.2 (ceqI (tsubI t_x3 t_x2 rr532) (show (1 : Int32).toInt = 1 from rfl) hc0)
    refine w_X5_lean_18 t_x1 t_x2 t_x3 t_x4 t_x5 t_x6 (show (0 : Int32).toInt = 0 from rfl) t_x1 h hQ
theorem w_X5_make_27 {Q : Int32 → Mem → Prop} {bQ : Int → Im → Prop} {K74 : Int32 → Mem → Prop} {bK74 : Int → Im → Prop} : ∀ {n : Nat} {x0 : Nat} {x1 : Int32} {y_x1 : Int} {x2 : Int32} {y_x2 : Int} {x3 : Int32} {y_x3 : Int} {x4 : Int32} {y_x4 : Int} {x5 : Int32} {y_x5 : Int} {x6 : Int32} {y_x6 : Int} {x7 : Int32} {y_x7 : Int} {M : Mem} (t_x1 : x1.toInt = y_x1) (t_x2 : x2.toInt = y_x2) (t_x3 : x3.toInt = y_x3) (t_x4 : x4.toInt = y_x4) (t_x5 : x5.toInt = y_x5) (t_x6 : x6.toInt = y_x6) (t_x7 : x7.toInt = y_x7) (_ : sp_X5_make_27 n x0 y_x1 y_x2 y_x3 y_x4 y_x5 y_x6 y_x7 (ab M) bQ bK74) (_ : ∀ (z0 : Int32) (u0 : Int) (m : Mem), z0.toInt = u0 → bQ u0 (ab m) → Q z0 m) (_ : ∀ (z0 : Int32) (u0 : Int) (m : Mem), z0.toInt = u0 → bK74 u0 (ab m) → K74 z0 m), wp_X5_make_27 n x0 x1 x2 x3 x4 x5 x6 x7 M Q K74 := by
  intro n
  induction n with
  | zero => intro x0 x1 y_x1 x2 y_x2 x3 y_x3 x4 y_x4 x5 y_x5 x6 y_x6 x7 y_x7 M t_x1 t_x2 t_x3 t_x4 t_x5 t_x6 t_x7 h hQ hK74; exact h.elim
  | succ n ih =>
    intro x0 x1 y_x1 x2 y_x2 x3 y_x3 x4 y_x4 x5 y_x5 x6 y_x6 x7 y_x7 M t_x1 t_x2 t_x3 t_x4 t_x5 t_x6 t_x7 h hQ hK74
    unfold sp_X5_make_27 at h
    unfold wp_X5_make_27
    refine ⟨?_, ?_⟩
    · intro hc0
      replace h := h.1 (cleI t_x1 t_x6 hc0)
      exact hK74 _ _ _ t_x7 h
    · intro hc0
      replace h := h.2 (cnleI t_x1 t_x6 hc0)
      refine w_X5_spanEnd t_x6 t_x1 t_x5 h (fun i2 y_i2 M1 t_i2 h => ?_)
      obtain ⟨rr537, h⟩ := h
      obtain ⟨rr538, h⟩ := h
      refine w_X5_lean (taddI t_x2 t_x7 rr537) t_x6 t_i2 t_x5 t_x4 (taddI t_x3 t_x6 rr538) h (fun M3 h => ?_)
      obtain ⟨rr539, h⟩ := h
      intro i4 e_i4
      have q_i4 := (congrArg Int32.toInt e_i4).trans (taddI t_x7 (show (1 : Int32).toInt = 1 from rfl) rr539)
      replace h := h _ q_i4
      have t_i4 : i4.toInt = i4.toInt := rfl
      refine ih t_x1 t_x2 t_x3 t_x4 t_x5 t_i2 t_i4 h hQ hK74
theorem w_X5_make_19 {Q : Int32 → Mem → Prop} {bQ : Int → Im → Prop} {x0 : Nat} {x1 : Int32} {y_x1 : Int} {x2 : Int32} {y_x2 : Int} {x3 : Int32} {y_x3 : Int} {x4 : Int32} {y_x4 : Int} {t0 : Int32} {y_t0 : Int} {M : Mem} (t_x1 : x1.toInt = y_x1) (t_x2 : x2.toInt = y_x2) (t_x3 : x3.toInt = y_x3) (t_x4 : x4.toInt = y_x4) (t_t0 : t0.toInt = y_t0) (h : sp_X5_make_19 x0 y_x1 y_x2 y_x3 y_x4 y_t0 (ab M) bQ) (hQ : ∀ (z0 : Int32) (u0 : Int) (m : Mem), z0.toInt = u0 → bQ u0 (ab m) → Q z0 m) : wp_X5_make_19 x0 x1 x2 x3 x4 t0 M Q := by
  unfold sp_X5_make_19 at h
  unfold wp_X5_make_19
  obtain ⟨k27, h⟩ := h
  refine ⟨k27, ?_⟩
  refine w_X5_make_27 t_x1 t_x2 t_x3 t_x4 t_t0 (show (0 : Int32).toInt = 0 from rfl) (show (0 : Int32).toInt = 0 from rfl) h hQ (fun x7 y_x7 M t_x7 h => ?_)
  unfold wp_X5_make_74
  exact hQ _ _ _ t_x7 h
theorem w_X5_make {Q : Int32 → Mem → Prop} {bQ : Int → Im → Prop} {x0 : Nat} {x1 : Int32} {y_x1 : Int} {x2 : Int32} {y_x2 : Int} {x3 : Int32} {y_x3 : Int} {x4 : Int32} {y_x4 : Int} {M : Mem} (t_x1 : x1.toInt = y_x1) (t_x2 : x2.toInt = y_x2) (t_x3 : x3.toInt = y_x3) (t_x4 : x4.toInt = y_x4) (h : sp_X5_make x0 y_x1 y_x2 y_x3 y_x4 (ab M) bQ) (hQ : ∀ (z0 : Int32) (u0 : Int) (m : Mem), z0.toInt = u0 → bQ u0 (ab m) → Q z0 m) : wp_X5_make x0 x1 x2 x3 x4 M Q := by
  unfold sp_X5_make at h
  unfold wp_X5_make
  obtain ⟨hp, h⟩ := h
  refine ⟨hp, ?_⟩
  refine ⟨?_, ?_⟩
  · intro hc0
    replace h := h.1 (cneI t_x4 (show (2 : Int32).toInt = 2 from rfl) hc0)
    refine w_X5_make_19 t_x1 t_x2 t_x3 t_x4 (tr_I rfl) h hQ
  · intro hc0
    replace h := h.2 (ceqI t_x4 (show (2 : Int32).toInt = 2 from rfl) hc0)
    obtain ⟨rr541, h⟩ := h
    refine w_X5_make_19 t_x1 t_x2 t_x3 t_x4 (tsubI (tr_I rfl) (show (1 : Int32).toInt = 1 from rfl) rr541) h hQ
theorem w_X5_layersAnew_50 {Q : Mem → Prop} {bQ : Im → Prop} {K88 : Nat → Int32 → Mem → Prop} {bK88 : Nat → Int → Im → Prop} : ∀ {n : Nat} {x0 : Nat} {x1 : Int32} {y_x1 : Int} {x2 : Int32} {y_x2 : Int} {M : Mem} (t_x1 : x1.toInt = y_x1) (t_x2 : x2.toInt = y_x2) (_ : sp_X5_layersAnew_50 n x0 y_x1 y_x2 (ab M) bQ bK88) (_ : ∀ (m : Mem), bQ (ab m) → Q m) (_ : ∀ (z0 : Nat) (z1 : Int32) (u1 : Int) (m : Mem), z1.toInt = u1 → bK88 z0 u1 (ab m) → K88 z0 z1 m), wp_X5_layersAnew_50 n x0 x1 x2 M Q K88 := by
  intro n
  induction n with
  | zero => intro x0 x1 y_x1 x2 y_x2 M t_x1 t_x2 h hQ hK88; exact h.elim
  | succ n ih =>
    intro x0 x1 y_x1 x2 y_x2 M t_x1 t_x2 h hQ hK88
    unfold sp_X5_layersAnew_50 at h
    unfold wp_X5_layersAnew_50
    refine ⟨?_, ?_⟩
    · intro hc0
      replace h := h.1 (cleI t_x1 t_x2 hc0)
      exact hK88 _ _ _ _ t_x1 h
    · intro hc0
      replace h := h.2 (cnleI t_x1 t_x2 hc0)
      obtain ⟨hp, h⟩ := h
      refine ⟨(tinb (tr_I rfl) hp), ?_⟩
      obtain ⟨rr546, h⟩ := h
      obtain ⟨hp, h⟩ := h
      refine ⟨(tinb (taddI (tr_I (tnatI (tr_I rfl))) t_x2 rr546) hp), ?_⟩
      obtain ⟨rr547, h⟩ := h
      obtain ⟨hp, h⟩ := h
      refine ⟨(tinb (tr_I (tnatI (taddI (tr_I (tnatI (tr_I rfl))) t_x2 rr547))) hp), ?_⟩
      obtain ⟨hp, h⟩ := h
      refine ⟨(tinb t_x2 hp), ?_⟩
      obtain ⟨rr548, h⟩ := h
      intro M2 e_M2
      replace h := h (ab M2) ((congrArg ab e_M2).trans (ab_sL (tnatI t_x2) (tr_L (tnatI (tr_I (tnatI (taddI (tr_I (tnatI (tr_I rfl))) t_x2 rr548)))))))
      obtain ⟨rr549, h⟩ := h
      intro i3 e_i3
      have q_i3 := (congrArg Int32.toInt e_i3).trans (taddI t_x2 (show (1 : Int32).toInt = 1 from rfl) rr549)
      replace h := h _ q_i3
      have t_i3 : i3.toInt = i3.toInt := rfl
      refine ih t_x1 t_i3 h hQ hK88
theorem w_X5_layersAnew_88 {Q : Mem → Prop} {bQ : Im → Prop} {K5 : Nat → Mem → Prop} {bK5 : Nat → Im → Prop} {K168 : Mem → Prop} {bK168 : Im → Prop} {x0 : Nat} {x1 : Int32} {y_x1 : Int} {M : Mem} (t_x1 : x1.toInt = y_x1) (h : sp_X5_layersAnew_88 x0 y_x1 (ab M) bQ bK5 bK168) (hQ : ∀ (m : Mem), bQ (ab m) → Q m) (hK5 : ∀ (z0 : Nat) (m : Mem), bK5 z0 (ab m) → K5 z0 m) (hK168 : ∀ (m : Mem), bK168 (ab m) → K168 m) : wp_X5_layersAnew_88 x0 x1 M Q K5 K168 := by
  unfold sp_X5_layersAnew_88 at h
  unfold wp_X5_layersAnew_88
  obtain ⟨hp, h⟩ := h
  refine ⟨(tinb (tr_I rfl) hp), ?_⟩
  obtain ⟨rr554, h⟩ := h
  intro i4 e_i4
  have q_i4 := (congrArg Int32.toInt e_i4).trans (tsubI (tr_I (tnatI (tr_I rfl))) (show (1 : Int32).toInt = 1 from rfl) rr554)
  replace h := h _ q_i4
  have t_i4 : i4.toInt = i4.toInt := rfl
  obtain ⟨hp, h⟩ := h
  refine ⟨(tinb (tr_I rfl) hp), ?_⟩
  intro i5 e_i5
  have q_i5 := (congrArg Int32.toInt e_i5).trans (tr_I (tnatI (tr_I rfl)))
  replace h := h _ q_i5
  have t_i5 : i5.toInt = i5.toInt := rfl
  obtain ⟨hp, h⟩ := h
  refine ⟨(tinb t_i4 hp), ?_⟩
  obtain ⟨hp, h⟩ := h
  refine ⟨(tinb t_i4 hp), ?_⟩
  obtain ⟨rr555, h⟩ := h
  refine w_X5_make t_x1 t_i5 (taddI (tr_I (tnatI t_i4)) (tr_I (tnatI t_i4)) rr555) (show (1 : Int32).toInt = 1 from rfl) h (fun i7 y_i7 M6 t_i7 h => ?_)
  obtain ⟨rr556, h⟩ := h
  intro M8 e_M8
  replace h := h (ab M8) ((congrArg ab e_M8).trans (ab_sI rfl (taddI (tr_I rfl) (show (1 : Int32).toInt = 1 from rfl) rr556)))
  obtain ⟨hp, h⟩ := h
  refine ⟨(tinb (tr_I rfl) hp), ?_⟩
  intro M9 e_M9
  replace h := h (ab M9) ((congrArg ab e_M9).trans (ab_sI (tnatI (tr_I rfl)) t_i5))
  obtain ⟨hp, h⟩ := h
  refine ⟨(tinb (tr_I rfl) hp), ?_⟩
  obtain ⟨rr557, h⟩ := h
  intro M10 e_M10
  replace h := h (ab M10) ((congrArg ab e_M10).trans (ab_sI (tnatI (tr_I rfl)) (taddI t_i5 t_i7 rr557)))
  exact hK5 _ _  h
theorem w_X5_layersAnew_5 {Q : Mem → Prop} {bQ : Im → Prop} {K168 : Mem → Prop} {bK168 : Im → Prop} : ∀ {n : Nat} {x0 : Nat} {M : Mem}  (_ : sp_X5_layersAnew_5 n x0 (ab M) bQ bK168) (_ : ∀ (m : Mem), bQ (ab m) → Q m) (_ : ∀ (m : Mem), bK168 (ab m) → K168 m), wp_X5_layersAnew_5 n x0 M Q K168 := by
  intro n
  induction n with
  | zero => intro x0 M h hQ hK168; exact h.elim
  | succ n ih =>
    intro x0 M h hQ hK168
    unfold sp_X5_layersAnew_5 at h
    unfold wp_X5_layersAnew_5
    obtain ⟨hp, h⟩ := h
    refine ⟨(tinb (tr_I rfl) hp), ?_⟩
    obtain ⟨hp, h⟩ := h
    refine ⟨(tinb (tr_I rfl) hp), ?_⟩
    obtain ⟨rr561, h⟩ := h
    refine ⟨?_, ?_⟩
    · intro hc0
      replace h := h.1 (cleI (tsubI (tr_I (tnatI (tr_I rfl))) (tr_I (tnatI (tr_I rfl))) rr561) (show (1 : Int32).toInt = 1 from rfl) hc0)
      exact hK168 _  h
    · intro hc0
      replace h := h.2 (cnleI (tsubI (tr_I (tnatI (tr_I rfl))) (tr_I (tnatI (tr_I rfl))) rr561) (show (1 : Int32).toInt = 1 from rfl) hc0)
      obtain ⟨hp, h⟩ := h
      refine ⟨(tinb (tr_I rfl) hp), ?_⟩
      obtain ⟨hp, h⟩ := h
      refine ⟨(tinb (tr_I rfl) hp), ?_⟩
      obtain ⟨rr563, h⟩ := h
      intro i1 e_i1
      have q_i1 := (congrArg Int32.toInt e_i1).trans (tsubI (tr_I (tnatI (tr_I rfl))) (tr_I (tnatI (tr_I rfl))) rr563)
      replace h := h _ q_i1
      have t_i1 : i1.toInt = i1.toInt := rfl
      obtain ⟨k50, h⟩ := h
      refine ⟨k50, ?_⟩
      refine w_X5_layersAnew_50 t_i1 (show (0 : Int32).toInt = 0 from rfl) h hQ (fun x0 x1 y_x1 M t_x1 h => ?_)
      refine w_X5_layersAnew_88 t_x1 h hQ (fun x0 M h => ?_) hK168
      refine ih  h hQ hK168
theorem w_X5_layersAnew {Q : Mem → Prop} {bQ : Im → Prop} {x0 : Nat} {M : Mem} (h : sp_X5_layersAnew x0 (ab M) bQ) (hQ : ∀ (m : Mem), bQ (ab m) → Q m) : wp_X5_layersAnew x0 M Q := by
  unfold sp_X5_layersAnew at h
  unfold wp_X5_layersAnew
  obtain ⟨hp, h⟩ := h
  refine ⟨hp, ?_⟩
  intro M11 e_M11
  replace h := h (ab M11) ((congrArg ab e_M11).trans (ab_sI rfl (show (0 : Int32).toInt = 0 from rfl)))
  obtain ⟨k5, h⟩ := h
  refine ⟨k5, ?_⟩
  refine w_X5_layersAnew_5  h hQ (fun M h => ?_)
  unfold wp_X5_layersAnew_168
  exact hQ _  h
theorem w_X5_isThere {Q : Int32 → Mem → Prop} {bQ : Int → Im → Prop} {x0 : Nat} {x1 : Int32} {y_x1 : Int} {x2 : Int32} {y_x2 : Int} {M : Mem} (t_x1 : x1.toInt = y_x1) (t_x2 : x2.toInt = y_x2) (h : sp_X5_isThere x0 y_x1 y_x2 (ab M) bQ) (hQ : ∀ (z0 : Int32) (u0 : Int) (m : Mem), z0.toInt = u0 → bQ u0 (ab m) → Q z0 m) : wp_X5_isThere x0 x1 x2 M Q := by
  unfold sp_X5_isThere at h
  unfold wp_X5_isThere
  obtain ⟨hp, h⟩ := h
  refine ⟨hp, ?_⟩
  obtain ⟨hp, h⟩ := h
  refine ⟨(tinb t_x1 hp), ?_⟩
  obtain ⟨rr567, h⟩ := h
  obtain ⟨hp, h⟩ := h
  refine ⟨(tinb (taddI (tr_I (tnatI t_x1)) t_x2 rr567) hp), ?_⟩
  obtain ⟨rr568, h⟩ := h
  refine ⟨?_, ?_⟩
  · intro hc0
    replace h := h.1 (cneI (tr_I (tnatI (taddI (tr_I (tnatI t_x1)) t_x2 rr568))) (show (0 : Int32).toInt = 0 from rfl) hc0)
    unfold wp_X5_isThere_21
    obtain ⟨hp, h⟩ := h
    refine ⟨(t01 (show (0 : Int32).toInt = 0 from rfl) hp), ?_⟩
    exact hQ _ _ _ (show (0 : Int32).toInt = 0 from rfl) h
  · intro hc0
    replace h := h.2 (ceqI (tr_I (tnatI (taddI (tr_I (tnatI t_x1)) t_x2 rr568))) (show (0 : Int32).toInt = 0 from rfl) hc0)
    unfold wp_X5_isThere_21
    obtain ⟨hp, h⟩ := h
    refine ⟨(t01 (show (1 : Int32).toInt = 1 from rfl) hp), ?_⟩
    exact hQ _ _ _ (show (1 : Int32).toInt = 1 from rfl) h
theorem w_X5_gather_168 {Q : Mem → Prop} {bQ : Im → Prop} {K4 : Nat → Int32 → Int32 → Int32 → Mem → Prop} {bK4 : Nat → Int → Int → Int → Im → Prop} {K173 : Mem → Prop} {bK173 : Im → Prop} {x0 : Nat} {x1 : Int32} {y_x1 : Int} {x2 : Int32} {y_x2 : Int} {t0 : Int32} {y_t0 : Int} {t1 : Int32} {y_t1 : Int} {M : Mem} (t_x1 : x1.toInt = y_x1) (t_x2 : x2.toInt = y_x2) (t_t0 : t0.toInt = y_t0) (t_t1 : t1.toInt = y_t1) (h : sp_X5_gather_168 x0 y_x1 y_x2 y_t0 y_t1 (ab M) bQ bK4 bK173) (hQ : ∀ (m : Mem), bQ (ab m) → Q m) (hK4 : ∀ (z0 : Nat) (z1 : Int32) (u1 : Int) (z2 : Int32) (u2 : Int) (z3 : Int32) (u3 : Int) (m : Mem), z1.toInt = u1 → z2.toInt = u2 → z3.toInt = u3 → bK4 z0 u1 u2 u3 (ab m) → K4 z0 z1 z2 z3 m) (hK173 : ∀ (m : Mem), bK173 (ab m) → K173 m) : wp_X5_gather_168 x0 x1 x2 t0 t1 M Q K4 K173 := by
  unfold sp_X5_gather_168 at h
  unfold wp_X5_gather_168
  obtain ⟨rr571, h⟩ := h
  intro i6 e_i6
  have q_i6 := (congrArg Int32.toInt e_i6).trans (taddI t_t1 t_t0 rr571)
  replace h := h _ q_i6
  have t_i6 : i6.toInt = i6.toInt := rfl
  exact hK4 _ _ _ _ _ _ _ _ t_x1 t_x2 t_i6 h
theorem w_X5_gather_155 {Q : Mem → Prop} {bQ : Im → Prop} {K4 : Nat → Int32 → Int32 → Int32 → Mem → Prop} {bK4 : Nat → Int → Int → Int → Im → Prop} {K173 : Mem → Prop} {bK173 : Im → Prop} {x0 : Nat} {x1 : Int32} {y_x1 : Int} {x3 : Int32} {y_x3 : Int} {x4 : Int32} {y_x4 : Int} {t0 : Int32} {y_t0 : Int} {t1 : Int32} {y_t1 : Int} {M : Mem} (t_x1 : x1.toInt = y_x1) (t_x3 : x3.toInt = y_x3) (t_x4 : x4.toInt = y_x4) (t_t0 : t0.toInt = y_t0) (t_t1 : t1.toInt = y_t1) (h : sp_X5_gather_155 x0 y_x1 y_x3 y_x4 y_t0 y_t1 (ab M) bQ bK4 bK173) (hQ : ∀ (m : Mem), bQ (ab m) → Q m) (hK4 : ∀ (z0 : Nat) (z1 : Int32) (u1 : Int) (z2 : Int32) (u2 : Int) (z3 : Int32) (u3 : Int) (m : Mem), z1.toInt = u1 → z2.toInt = u2 → z3.toInt = u3 → bK4 z0 u1 u2 u3 (ab m) → K4 z0 z1 z2 z3 m) (hK173 : ∀ (m : Mem), bK173 (ab m) → K173 m) : wp_X5_gather_155 x0 x1 x3 x4 t0 t1 M Q K4 K173 := by
  unfold sp_X5_gather_155 at h
  unfold wp_X5_gather_155
  obtain ⟨rr573, h⟩ := h
  intro i5 e_i5
  have q_i5 := (congrArg Int32.toInt e_i5).trans (taddI t_t1 t_t0 rr573)
  replace h := h _ q_i5
  have t_i5 : i5.toInt = i5.toInt := rfl
  refine ⟨?_, ?_⟩
  · intro hc0
    replace h := h.1 (ceqI t_x4 (show (0 : Int32).toInt = 0 from rfl) hc0)
    refine w_X5_gather_168 t_x1 t_i5 (show (1 : Int32).toInt = 1 from rfl) t_x3 h hQ hK4 hK173
  · intro hc0
    replace h := h.2 (cneI t_x4 (show (0 : Int32).toInt = 0 from rfl) hc0)
    refine w_X5_gather_168 t_x1 t_i5 (show (0 : Int32).toInt = 0 from rfl) t_x3 h hQ hK4 hK173
theorem w_X5_gather_144 {Q : Mem → Prop} {bQ : Im → Prop} {K4 : Nat → Int32 → Int32 → Int32 → Mem → Prop} {bK4 : Nat → Int → Int → Int → Im → Prop} {K173 : Mem → Prop} {bK173 : Im → Prop} {x0 : Nat} {x1 : Int32} {y_x1 : Int} {x2 : Int32} {y_x2 : Int} {x3 : Int32} {y_x3 : Int} {x4 : Int32} {y_x4 : Int} {M : Mem} (t_x1 : x1.toInt = y_x1) (t_x2 : x2.toInt = y_x2) (t_x3 : x3.toInt = y_x3) (t_x4 : x4.toInt = y_x4) (h : sp_X5_gather_144 x0 y_x1 y_x2 y_x3 y_x4 (ab M) bQ bK4 bK173) (hQ : ∀ (m : Mem), bQ (ab m) → Q m) (hK4 : ∀ (z0 : Nat) (z1 : Int32) (u1 : Int) (z2 : Int32) (u2 : Int) (z3 : Int32) (u3 : Int) (m : Mem), z1.toInt = u1 → z2.toInt = u2 → z3.toInt = u3 → bK4 z0 u1 u2 u3 (ab m) → K4 z0 z1 z2 z3 m) (hK173 : ∀ (m : Mem), bK173 (ab m) → K173 m) : wp_X5_gather_144 x0 x1 x2 x3 x4 M Q K4 K173 := by
  unfold sp_X5_gather_144 at h
  unfold wp_X5_gather_144
  refine ⟨?_, ?_⟩
  · intro hc0
    replace h := h.1 (ceqI t_x4 (show (0 : Int32).toInt = 0 from rfl) hc0)
    refine w_X5_gather_155 t_x1 t_x3 t_x4 (show (0 : Int32).toInt = 0 from rfl) t_x2 h hQ hK4 hK173
  · intro hc0
    replace h := h.2 (cneI t_x4 (show (0 : Int32).toInt = 0 from rfl) hc0)
    refine w_X5_gather_155 t_x1 t_x3 t_x4 (show (1 : Int32).toInt = 1 from rfl) t_x2 h hQ hK4 hK173
theorem w_X5_gather_133 {Q : Mem → Prop} {bQ : Im → Prop} {K4 : Nat → Int32 → Int32 → Int32 → Mem → Prop} {bK4 : Nat → Int → Int → Int → Im → Prop} {K173 : Mem → Prop} {bK173 : Im → Prop} {x0 : Nat} {x1 : Int32} {y_x1 : Int} {x2 : Int32} {y_x2 : Int} {x3 : Int32} {y_x3 : Int} {x4 : Int32} {y_x4 : Int} {t0 : Int64} {y_t0 : Int} {t1 : Int32} {y_t1 : Int} {t2 : Nat} {M : Mem} (t_x1 : x1.toInt = y_x1) (t_x2 : x2.toInt = y_x2) (t_x3 : x3.toInt = y_x3) (t_x4 : x4.toInt = y_x4) (t_t0 : t0.toInt = y_t0) (t_t1 : t1.toInt = y_t1) (h : sp_X5_gather_133 x0 y_x1 y_x2 y_x3 y_x4 y_t0 y_t1 t2 (ab M) bQ bK4 bK173) (hQ : ∀ (m : Mem), bQ (ab m) → Q m) (hK4 : ∀ (z0 : Nat) (z1 : Int32) (u1 : Int) (z2 : Int32) (u2 : Int) (z3 : Int32) (u3 : Int) (m : Mem), z1.toInt = u1 → z2.toInt = u2 → z3.toInt = u3 → bK4 z0 u1 u2 u3 (ab m) → K4 z0 z1 z2 z3 m) (hK173 : ∀ (m : Mem), bK173 (ab m) → K173 m) : wp_X5_gather_133 x0 x1 x2 x3 x4 t0 t1 t2 M Q K4 K173 := by
  unfold sp_X5_gather_133 at h
  unfold wp_X5_gather_133
  obtain ⟨hp, h⟩ := h
  refine ⟨(tinb t_t1 hp), ?_⟩
  intro M3 e_M3
  replace h := h (ab M3) ((congrArg ab e_M3).trans (ab_sL (tnatI t_t1) t_t0))
  obtain ⟨rr575, h⟩ := h
  intro M4 e_M4
  replace h := h (ab M4) ((congrArg ab e_M4).trans (ab_sI rfl (taddI (tr_I rfl) (show (1 : Int32).toInt = 1 from rfl) rr575)))
  refine w_X5_gather_144 t_x1 t_x2 t_x3 t_x4 h hQ hK4 hK173
theorem w_X5_gather_93 {Q : Mem → Prop} {bQ : Im → Prop} {K4 : Nat → Int32 → Int32 → Int32 → Mem → Prop} {bK4 : Nat → Int → Int → Int → Im → Prop} {K173 : Mem → Prop} {bK173 : Im → Prop} {x0 : Nat} {x1 : Int32} {y_x1 : Int} {x2 : Int32} {y_x2 : Int} {x3 : Int32} {y_x3 : Int} {x4 : Int32} {y_x4 : Int} {M : Mem} (t_x1 : x1.toInt = y_x1) (t_x2 : x2.toInt = y_x2) (t_x3 : x3.toInt = y_x3) (t_x4 : x4.toInt = y_x4) (h : sp_X5_gather_93 x0 y_x1 y_x2 y_x3 y_x4 (ab M) bQ bK4 bK173) (hQ : ∀ (m : Mem), bQ (ab m) → Q m) (hK4 : ∀ (z0 : Nat) (z1 : Int32) (u1 : Int) (z2 : Int32) (u2 : Int) (z3 : Int32) (u3 : Int) (m : Mem), z1.toInt = u1 → z2.toInt = u2 → z3.toInt = u3 → bK4 z0 u1 u2 u3 (ab m) → K4 z0 z1 z2 z3 m) (hK173 : ∀ (m : Mem), bK173 (ab m) → K173 m) : wp_X5_gather_93 x0 x1 x2 x3 x4 M Q K4 K173 := by
  unfold sp_X5_gather_93 at h
  unfold wp_X5_gather_93
  refine ⟨?_, ?_⟩
  · intro hc0
    replace h := h.1 (ceqI t_x4 (show (0 : Int32).toInt = 0 from rfl) hc0)
    obtain ⟨rr582, h⟩ := h
    obtain ⟨rr583, h⟩ := h
    obtain ⟨hp, h⟩ := h
    refine ⟨(tinb (taddI (tmulI (show (16 : Int32).toInt = 16 from rfl) t_x1 rr582) t_x3 rr583) hp), ?_⟩
    obtain ⟨rr584, h⟩ := h
    obtain ⟨rr585, h⟩ := h
    refine w_X5_gather_133 t_x1 t_x2 t_x3 t_x4 (tr_L (tnatI (taddI (tmulI (show (16 : Int32).toInt = 16 from rfl) t_x1 rr584) t_x3 rr585))) (tr_I rfl) h hQ hK4 hK173
  · intro hc0
    replace h := h.2 (cneI t_x4 (show (0 : Int32).toInt = 0 from rfl) hc0)
    obtain ⟨hp, h⟩ := h
    refine ⟨(tinb t_x1 hp), ?_⟩
    obtain ⟨rr586, h⟩ := h
    obtain ⟨hp, h⟩ := h
    refine ⟨(tinb (taddI (tr_I (tnatI t_x1)) t_x2 rr586) hp), ?_⟩
    obtain ⟨rr587, h⟩ := h
    refine w_X5_gather_133 t_x1 t_x2 t_x3 t_x4 (tr_L (tnatI (taddI (tr_I (tnatI t_x1)) t_x2 rr587))) (tr_I rfl) h hQ hK4 hK173
theorem w_X5_gather_77 {Q : Mem → Prop} {bQ : Im → Prop} {K4 : Nat → Int32 → Int32 → Int32 → Mem → Prop} {bK4 : Nat → Int → Int → Int → Im → Prop} {K173 : Mem → Prop} {bK173 : Im → Prop} {x0 : Nat} {x1 : Int32} {y_x1 : Int} {x2 : Int32} {y_x2 : Int} {x3 : Int32} {y_x3 : Int} {t0 : Int32} {y_t0 : Int} {M : Mem} (t_x1 : x1.toInt = y_x1) (t_x2 : x2.toInt = y_x2) (t_x3 : x3.toInt = y_x3) (t_t0 : t0.toInt = y_t0) (h : sp_X5_gather_77 x0 y_x1 y_x2 y_x3 y_t0 (ab M) bQ bK4 bK173) (hQ : ∀ (m : Mem), bQ (ab m) → Q m) (hK4 : ∀ (z0 : Nat) (z1 : Int32) (u1 : Int) (z2 : Int32) (u2 : Int) (z3 : Int32) (u3 : Int) (m : Mem), z1.toInt = u1 → z2.toInt = u2 → z3.toInt = u3 → bK4 z0 u1 u2 u3 (ab m) → K4 z0 z1 z2 z3 m) (hK173 : ∀ (m : Mem), bK173 (ab m) → K173 m) : wp_X5_gather_77 x0 x1 x2 x3 t0 M Q K4 K173 := by
  unfold sp_X5_gather_77 at h
  unfold wp_X5_gather_77
  refine ⟨?_, ?_⟩
  · intro hc0
    replace h := h.1 (ceqI t_t0 (show (0 : Int32).toInt = 0 from rfl) hc0)
    refine w_X5_gather_93 t_x1 t_x2 t_x3 t_t0 h hQ hK4 hK173
  · intro hc0
    replace h := h.2 (cneI t_t0 (show (0 : Int32).toInt = 0 from rfl) hc0)
    refine w_X5_isThere t_x1 t_x2 h (fun i2 y_i2 M1 t_i2 h => ?_)
    refine ⟨?_, ?_⟩
    · intro hc0
      replace h := h.1 (ceqI t_i2 (show (0 : Int32).toInt = 0 from rfl) hc0)
      refine w_X5_gather_144 t_x1 t_x2 t_x3 t_t0 h hQ hK4 hK173
    · intro hc0
      replace h := h.2 (cneI t_i2 (show (0 : Int32).toInt = 0 from rfl) hc0)
      refine w_X5_gather_93 t_x1 t_x2 t_x3 t_t0 h hQ hK4 hK173
theorem w_X5_gather_72 {Q : Mem → Prop} {bQ : Im → Prop} {K4 : Nat → Int32 → Int32 → Int32 → Mem → Prop} {bK4 : Nat → Int → Int → Int → Im → Prop} {K173 : Mem → Prop} {bK173 : Im → Prop} {x0 : Nat} {x1 : Int32} {y_x1 : Int} {x2 : Int32} {y_x2 : Int} {x3 : Int32} {y_x3 : Int} {M : Mem} (t_x1 : x1.toInt = y_x1) (t_x2 : x2.toInt = y_x2) (t_x3 : x3.toInt = y_x3) (h : sp_X5_gather_72 x0 y_x1 y_x2 y_x3 (ab M) bQ bK4 bK173) (hQ : ∀ (m : Mem), bQ (ab m) → Q m) (hK4 : ∀ (z0 : Nat) (z1 : Int32) (u1 : Int) (z2 : Int32) (u2 : Int) (z3 : Int32) (u3 : Int) (m : Mem), z1.toInt = u1 → z2.toInt = u2 → z3.toInt = u3 → bK4 z0 u1 u2 u3 (ab m) → K4 z0 z1 z2 z3 m) (hK173 : ∀ (m : Mem), bK173 (ab m) → K173 m) : wp_X5_gather_72 x0 x1 x2 x3 M Q K4 K173 := by
  unfold sp_X5_gather_72 at h
  unfold wp_X5_gather_72
  refine w_X5_gather_77 t_x1 t_x2 t_x3 (show (1 : Int32).toInt = 1 from rfl) h hQ hK4 hK173
theorem w_X5_gather_76 {Q : Mem → Prop} {bQ : Im → Prop} {K4 : Nat → Int32 → Int32 → Int32 → Mem → Prop} {bK4 : Nat → Int → Int → Int → Im → Prop} {K173 : Mem → Prop} {bK173 : Im → Prop} {x0 : Nat} {x1 : Int32} {y_x1 : Int} {x2 : Int32} {y_x2 : Int} {x3 : Int32} {y_x3 : Int} {M : Mem} (t_x1 : x1.toInt = y_x1) (t_x2 : x2.toInt = y_x2) (t_x3 : x3.toInt = y_x3) (h : sp_X5_gather_76 x0 y_x1 y_x2 y_x3 (ab M) bQ bK4 bK173) (hQ : ∀ (m : Mem), bQ (ab m) → Q m) (hK4 : ∀ (z0 : Nat) (z1 : Int32) (u1 : Int) (z2 : Int32) (u2 : Int) (z3 : Int32) (u3 : Int) (m : Mem), z1.toInt = u1 → z2.toInt = u2 → z3.toInt = u3 → bK4 z0 u1 u2 u3 (ab m) → K4 z0 z1 z2 z3 m) (hK173 : ∀ (m : Mem), bK173 (ab m) → K173 m) : wp_X5_gather_76 x0 x1 x2 x3 M Q K4 K173 := by
  unfold sp_X5_gather_76 at h
  unfold wp_X5_gather_76
  refine w_X5_gather_77 t_x1 t_x2 t_x3 (show (0 : Int32).toInt = 0 from rfl) h hQ hK4 hK173
theorem w_X5_gather_24 {Q : Mem → Prop} {bQ : Im → Prop} {K4 : Nat → Int32 → Int32 → Int32 → Mem → Prop} {bK4 : Nat → Int → Int → Int → Im → Prop} {K173 : Mem → Prop} {bK173 : Im → Prop} {x0 : Nat} {x1 : Int32} {y_x1 : Int} {x2 : Int32} {y_x2 : Int} {x3 : Int32} {y_x3 : Int} {M : Mem} (t_x1 : x1.toInt = y_x1) (t_x2 : x2.toInt = y_x2) (t_x3 : x3.toInt = y_x3) (h : sp_X5_gather_24 x0 y_x1 y_x2 y_x3 (ab M) bQ bK4 bK173) (hQ : ∀ (m : Mem), bQ (ab m) → Q m) (hK4 : ∀ (z0 : Nat) (z1 : Int32) (u1 : Int) (z2 : Int32) (u2 : Int) (z3 : Int32) (u3 : Int) (m : Mem), z1.toInt = u1 → z2.toInt = u2 → z3.toInt = u3 → bK4 z0 u1 u2 u3 (ab m) → K4 z0 z1 z2 z3 m) (hK173 : ∀ (m : Mem), bK173 (ab m) → K173 m) : wp_X5_gather_24 x0 x1 x2 x3 M Q K4 K173 := by
  unfold sp_X5_gather_24 at h
  unfold wp_X5_gather_24
  obtain ⟨hp, h⟩ := h
  refine ⟨(tinb t_x1 hp), ?_⟩
  refine ⟨?_, ?_⟩
  · intro hc0
    replace h := h.1 (ceqI t_x3 (tr_I (tnatI t_x1)) hc0)
    refine w_X5_gather_72 t_x1 t_x2 t_x3 h hQ hK4 hK173
  · intro hc0
    replace h := h.2 (cneI t_x3 (tr_I (tnatI t_x1)) hc0)
    obtain ⟨hp, h⟩ := h
    refine ⟨(tinb t_x1 hp), ?_⟩
    refine ⟨?_, ?_⟩
    · intro hc0
      replace h := h.1 (cleI (tr_I (tnatI t_x1)) t_x2 hc0)
      refine w_X5_gather_76 t_x1 t_x2 t_x3 h hQ hK4 hK173
    · intro hc0
      replace h := h.2 (cnleI (tr_I (tnatI t_x1)) t_x2 hc0)
      obtain ⟨hp, h⟩ := h
      refine ⟨(tinb t_x1 hp), ?_⟩
      obtain ⟨rr597, h⟩ := h
      obtain ⟨hp, h⟩ := h
      refine ⟨(tinb (taddI (tr_I (tnatI t_x1)) t_x2 rr597) hp), ?_⟩
      obtain ⟨rr598, h⟩ := h
      obtain ⟨rr599, h⟩ := h
      obtain ⟨hp, h⟩ := h
      refine ⟨(tinb (taddI (tmulI (show (16 : Int32).toInt = 16 from rfl) t_x1 rr598) t_x3 rr599) hp), ?_⟩
      obtain ⟨rr600, h⟩ := h
      obtain ⟨rr601, h⟩ := h
      obtain ⟨rr602, h⟩ := h
      refine ⟨?_, ?_⟩
      · intro hc0
        replace h := h.1 (cleJ (tr_L (tnatI (taddI (tmulI (show (16 : Int32).toInt = 16 from rfl) t_x1 rr600) t_x3 rr601))) (tr_L (tnatI (taddI (tr_I (tnatI t_x1)) t_x2 rr602))) hc0)
        refine w_X5_gather_76 t_x1 t_x2 t_x3 h hQ hK4 hK173
      · intro hc0
        replace h := h.2 (cnleJ (tr_L (tnatI (taddI (tmulI (show (16 : Int32).toInt = 16 from rfl) t_x1 rr600) t_x3 rr601))) (tr_L (tnatI (taddI (tr_I (tnatI t_x1)) t_x2 rr602))) hc0)
        refine w_X5_gather_72 t_x1 t_x2 t_x3 h hQ hK4 hK173
theorem w_X5_gather_4 {Q : Mem → Prop} {bQ : Im → Prop} {K173 : Mem → Prop} {bK173 : Im → Prop} : ∀ {n : Nat} {x0 : Nat} {x1 : Int32} {y_x1 : Int} {x2 : Int32} {y_x2 : Int} {x3 : Int32} {y_x3 : Int} {M : Mem} (t_x1 : x1.toInt = y_x1) (t_x2 : x2.toInt = y_x2) (t_x3 : x3.toInt = y_x3) (_ : sp_X5_gather_4 n x0 y_x1 y_x2 y_x3 (ab M) bQ bK173) (_ : ∀ (m : Mem), bQ (ab m) → Q m) (_ : ∀ (m : Mem), bK173 (ab m) → K173 m), wp_X5_gather_4 n x0 x1 x2 x3 M Q K173 := by
  intro n
  induction n with
  | zero => intro x0 x1 y_x1 x2 y_x2 x3 y_x3 M t_x1 t_x2 t_x3 h hQ hK173; exact h.elim
  | succ n ih =>
    intro x0 x1 y_x1 x2 y_x2 x3 y_x3 M t_x1 t_x2 t_x3 h hQ hK173
    unfold sp_X5_gather_4 at h
    unfold wp_X5_gather_4
    obtain ⟨hp, h⟩ := h
    refine ⟨(tinb t_x1 hp), ?_⟩
    refine ⟨?_, ?_⟩
    · intro hc0
      replace h := h.1 (cltI t_x2 (tr_I (tnatI t_x1)) hc0)
      refine w_X5_gather_24 t_x1 t_x2 t_x3 h hQ (fun x0 x1 y_x1 x2 y_x2 x3 y_x3 M t_x1 t_x2 t_x3 h => ?_) hK173
      refine ih t_x1 t_x2 t_x3 h hQ hK173
    · intro hc0
      replace h := h.2 (cnltI t_x2 (tr_I (tnatI t_x1)) hc0)
      obtain ⟨hp, h⟩ := h
      refine ⟨(tinb t_x1 hp), ?_⟩
      refine ⟨?_, ?_⟩
      · intro hc0
        replace h := h.1 (cleI (tr_I (tnatI t_x1)) t_x3 hc0)
        exact hK173 _  h
      · intro hc0
        replace h := h.2 (cnleI (tr_I (tnatI t_x1)) t_x3 hc0)
        refine w_X5_gather_24 t_x1 t_x2 t_x3 h hQ (fun x0 x1 y_x1 x2 y_x2 x3 y_x3 M t_x1 t_x2 t_x3 h => ?_) hK173
        refine ih t_x1 t_x2 t_x3 h hQ hK173
theorem w_X5_gather {Q : Mem → Prop} {bQ : Im → Prop} {x0 : Nat} {x1 : Int32} {y_x1 : Int} {M : Mem} (t_x1 : x1.toInt = y_x1) (h : sp_X5_gather x0 y_x1 (ab M) bQ) (hQ : ∀ (m : Mem), bQ (ab m) → Q m) : wp_X5_gather x0 x1 M Q := by
  unfold sp_X5_gather at h
  unfold wp_X5_gather
  obtain ⟨hp, h⟩ := h
  refine ⟨hp, ?_⟩
  obtain ⟨k4, h⟩ := h
  refine ⟨k4, ?_⟩
  refine w_X5_gather_4 t_x1 (show (0 : Int32).toInt = 0 from rfl) (show (0 : Int32).toInt = 0 from rfl) h hQ (fun M h => ?_)
  unfold wp_X5_gather_173
  exact hQ _  h
theorem w_X5_replace_128 {Q : Mem → Prop} {bQ : Im → Prop} {K172 : Nat → Int32 → Int32 → Int32 → Int32 → Int32 → Int32 → Int32 → Mem → Prop} {bK172 : Nat → Int → Int → Int → Int → Int → Int → Int → Im → Prop} : ∀ {n : Nat} {x0 : Nat} {x1 : Int32} {y_x1 : Int} {x2 : Int32} {y_x2 : Int} {x3 : Int32} {y_x3 : Int} {x4 : Int32} {y_x4 : Int} {x5 : Int32} {y_x5 : Int} {x6 : Int32} {y_x6 : Int} {x7 : Int32} {y_x7 : Int} {x8 : Int32} {y_x8 : Int} {M : Mem} (t_x1 : x1.toInt = y_x1) (t_x2 : x2.toInt = y_x2) (t_x3 : x3.toInt = y_x3) (t_x4 : x4.toInt = y_x4) (t_x5 : x5.toInt = y_x5) (t_x6 : x6.toInt = y_x6) (t_x7 : x7.toInt = y_x7) (t_x8 : x8.toInt = y_x8) (_ : sp_X5_replace_128 n x0 y_x1 y_x2 y_x3 y_x4 y_x5 y_x6 y_x7 y_x8 (ab M) bQ bK172) (_ : ∀ (m : Mem), bQ (ab m) → Q m) (_ : ∀ (z0 : Nat) (z1 : Int32) (u1 : Int) (z2 : Int32) (u2 : Int) (z3 : Int32) (u3 : Int) (z4 : Int32) (u4 : Int) (z5 : Int32) (u5 : Int) (z6 : Int32) (u6 : Int) (z7 : Int32) (u7 : Int) (m : Mem), z1.toInt = u1 → z2.toInt = u2 → z3.toInt = u3 → z4.toInt = u4 → z5.toInt = u5 → z6.toInt = u6 → z7.toInt = u7 → bK172 z0 u1 u2 u3 u4 u5 u6 u7 (ab m) → K172 z0 z1 z2 z3 z4 z5 z6 z7 m), wp_X5_replace_128 n x0 x1 x2 x3 x4 x5 x6 x7 x8 M Q K172 := by
  intro n
  induction n with
  | zero => intro x0 x1 y_x1 x2 y_x2 x3 y_x3 x4 y_x4 x5 y_x5 x6 y_x6 x7 y_x7 x8 y_x8 M t_x1 t_x2 t_x3 t_x4 t_x5 t_x6 t_x7 t_x8 h hQ hK172; exact h.elim
  | succ n ih =>
    intro x0 x1 y_x1 x2 y_x2 x3 y_x3 x4 y_x4 x5 y_x5 x6 y_x6 x7 y_x7 x8 y_x8 M t_x1 t_x2 t_x3 t_x4 t_x5 t_x6 t_x7 t_x8 h hQ hK172
    unfold sp_X5_replace_128 at h
    unfold wp_X5_replace_128
    obtain ⟨hp, h⟩ := h
    refine ⟨(tinb t_x7 hp), ?_⟩
    refine ⟨?_, ?_⟩
    · intro hc0
      replace h := h.1 (cleI (tr_I (tnatI t_x7)) t_x8 hc0)
      exact hK172 _ _ _ _ _ _ _ _ _ _ _ _ _ _ _ _ t_x1 t_x2 t_x3 t_x4 t_x5 t_x6 t_x7 h
    · intro hc0
      replace h := h.2 (cnleI (tr_I (tnatI t_x7)) t_x8 hc0)
      obtain ⟨rr615, h⟩ := h
      obtain ⟨rr616, h⟩ := h
      obtain ⟨hp, h⟩ := h
      refine ⟨(tinb (taddI (tmulI (show (16 : Int32).toInt = 16 from rfl) t_x7 rr615) t_x8 rr616) hp), ?_⟩
      obtain ⟨rr617, h⟩ := h
      obtain ⟨rr618, h⟩ := h
      obtain ⟨hp, h⟩ := h
      refine ⟨(tinb (taddI (tmulI (show (16 : Int32).toInt = 16 from rfl) t_x6 rr617) t_x8 rr618) hp), ?_⟩
      obtain ⟨rr619, h⟩ := h
      obtain ⟨rr620, h⟩ := h
      obtain ⟨rr621, h⟩ := h
      obtain ⟨rr622, h⟩ := h
      intro M9 e_M9
      replace h := h (ab M9) ((congrArg ab e_M9).trans (ab_sL (tnatI (taddI (tmulI (show (16 : Int32).toInt = 16 from rfl) t_x6 rr619) t_x8 rr620)) (tr_L (tnatI (taddI (tmulI (show (16 : Int32).toInt = 16 from rfl) t_x7 rr621) t_x8 rr622)))))
      obtain ⟨rr623, h⟩ := h
      intro i10 e_i10
      have q_i10 := (congrArg Int32.toInt e_i10).trans (taddI t_x8 (show (1 : Int32).toInt = 1 from rfl) rr623)
      replace h := h _ q_i10
      have t_i10 : i10.toInt = i10.toInt := rfl
      refine ih t_x1 t_x2 t_x3 t_x4 t_x5 t_x6 t_x7 t_i10 h hQ hK172
theorem w_X5_replace_175 {Q : Mem → Prop} {bQ : Im → Prop} {K240 : Nat → Int32 → Int32 → Int32 → Int32 → Int32 → Int32 → Mem → Prop} {bK240 : Nat → Int → Int → Int → Int → Int → Int → Im → Prop} : ∀ {n : Nat} {x0 : Nat} {x1 : Int32} {y_x1 : Int} {x2 : Int32} {y_x2 : Int} {x3 : Int32} {y_x3 : Int} {x4 : Int32} {y_x4 : Int} {x5 : Int32} {y_x5 : Int} {x6 : Int32} {y_x6 : Int} {x7 : Int32} {y_x7 : Int} {x8 : Int32} {y_x8 : Int} {M : Mem} (t_x1 : x1.toInt = y_x1) (t_x2 : x2.toInt = y_x2) (t_x3 : x3.toInt = y_x3) (t_x4 : x4.toInt = y_x4) (t_x5 : x5.toInt = y_x5) (t_x6 : x6.toInt = y_x6) (t_x7 : x7.toInt = y_x7) (t_x8 : x8.toInt = y_x8) (_ : sp_X5_replace_175 n x0 y_x1 y_x2 y_x3 y_x4 y_x5 y_x6 y_x7 y_x8 (ab M) bQ bK240) (_ : ∀ (m : Mem), bQ (ab m) → Q m) (_ : ∀ (z0 : Nat) (z1 : Int32) (u1 : Int) (z2 : Int32) (u2 : Int) (z3 : Int32) (u3 : Int) (z4 : Int32) (u4 : Int) (z5 : Int32) (u5 : Int) (z6 : Int32) (u6 : Int) (m : Mem), z1.toInt = u1 → z2.toInt = u2 → z3.toInt = u3 → z4.toInt = u4 → z5.toInt = u5 → z6.toInt = u6 → bK240 z0 u1 u2 u3 u4 u5 u6 (ab m) → K240 z0 z1 z2 z3 z4 z5 z6 m), wp_X5_replace_175 n x0 x1 x2 x3 x4 x5 x6 x7 x8 M Q K240 := by
  intro n
  induction n with
  | zero => intro x0 x1 y_x1 x2 y_x2 x3 y_x3 x4 y_x4 x5 y_x5 x6 y_x6 x7 y_x7 x8 y_x8 M t_x1 t_x2 t_x3 t_x4 t_x5 t_x6 t_x7 t_x8 h hQ hK240; exact h.elim
  | succ n ih =>
    intro x0 x1 y_x1 x2 y_x2 x3 y_x3 x4 y_x4 x5 y_x5 x6 y_x6 x7 y_x7 x8 y_x8 M t_x1 t_x2 t_x3 t_x4 t_x5 t_x6 t_x7 t_x8 h hQ hK240
    unfold sp_X5_replace_175 at h
    unfold wp_X5_replace_175
    obtain ⟨hp, h⟩ := h
    refine ⟨(tinb t_x7 hp), ?_⟩
    refine ⟨?_, ?_⟩
    · intro hc0
      replace h := h.1 (cleI (tr_I (tnatI t_x7)) t_x8 hc0)
      exact hK240 _ _ _ _ _ _ _ _ _ _ _ _ _ _ t_x1 t_x2 t_x3 t_x4 t_x5 t_x6 h
    · intro hc0
      replace h := h.2 (cnleI (tr_I (tnatI t_x7)) t_x8 hc0)
      obtain ⟨hp, h⟩ := h
      refine ⟨(tinb t_x7 hp), ?_⟩
      obtain ⟨rr631, h⟩ := h
      obtain ⟨hp, h⟩ := h
      refine ⟨(tinb (taddI (tr_I (tnatI t_x7)) t_x8 rr631) hp), ?_⟩
      obtain ⟨hp, h⟩ := h
      refine ⟨(tinb t_x5 hp), ?_⟩
      obtain ⟨rr632, h⟩ := h
      intro M11 e_M11
      replace h := h (ab M11) ((congrArg ab e_M11).trans (ab_sL (tnatI t_x5) (tr_L (tnatI (taddI (tr_I (tnatI t_x7)) t_x8 rr632)))))
      obtain ⟨hp, h⟩ := h
      refine ⟨(tinb t_x7 hp), ?_⟩
      obtain ⟨rr633, h⟩ := h
      obtain ⟨hp, h⟩ := h
      refine ⟨(tinb (taddI (tr_I (tnatI t_x7)) t_x8 rr633) hp), ?_⟩
      obtain ⟨hp, h⟩ := h
      refine ⟨(tinb t_x5 hp), ?_⟩
      obtain ⟨rr634, h⟩ := h
      obtain ⟨hp, h⟩ := h
      refine ⟨(t01 (tr_I (tnatI (taddI (tr_I (tnatI t_x7)) t_x8 rr634))) hp), ?_⟩
      obtain ⟨rr635, h⟩ := h
      intro M12 e_M12
      replace h := h (ab M12) ((congrArg ab e_M12).trans (ab_sI (tnatI t_x5) (tr_I (tnatI (taddI (tr_I (tnatI t_x7)) t_x8 rr635)))))
      obtain ⟨rr636, h⟩ := h
      intro i13 e_i13
      have q_i13 := (congrArg Int32.toInt e_i13).trans (taddI t_x5 (show (1 : Int32).toInt = 1 from rfl) rr636)
      replace h := h _ q_i13
      have t_i13 : i13.toInt = i13.toInt := rfl
      obtain ⟨rr637, h⟩ := h
      intro i14 e_i14
      have q_i14 := (congrArg Int32.toInt e_i14).trans (taddI t_x8 (show (1 : Int32).toInt = 1 from rfl) rr637)
      replace h := h _ q_i14
      have t_i14 : i14.toInt = i14.toInt := rfl
      refine ih t_x1 t_x2 t_x3 t_x4 t_i13 t_x6 t_x7 t_i14 h hQ hK240
theorem w_X5_replace_240 {Q : Mem → Prop} {bQ : Im → Prop} {K14 : Nat → Int32 → Int32 → Int32 → Int32 → Int32 → Int32 → Mem → Prop} {bK14 : Nat → Int → Int → Int → Int → Int → Int → Im → Prop} {K246 : Nat → Int32 → Int32 → Int32 → Mem → Prop} {bK246 : Nat → Int → Int → Int → Im → Prop} {x0 : Nat} {x1 : Int32} {y_x1 : Int} {x2 : Int32} {y_x2 : Int} {x3 : Int32} {y_x3 : Int} {x4 : Int32} {y_x4 : Int} {x5 : Int32} {y_x5 : Int} {x6 : Int32} {y_x6 : Int} {M : Mem} (t_x1 : x1.toInt = y_x1) (t_x2 : x2.toInt = y_x2) (t_x3 : x3.toInt = y_x3) (t_x4 : x4.toInt = y_x4) (t_x5 : x5.toInt = y_x5) (t_x6 : x6.toInt = y_x6) (h : sp_X5_replace_240 x0 y_x1 y_x2 y_x3 y_x4 y_x5 y_x6 (ab M) bQ bK14 bK246) (hQ : ∀ (m : Mem), bQ (ab m) → Q m) (hK14 : ∀ (z0 : Nat) (z1 : Int32) (u1 : Int) (z2 : Int32) (u2 : Int) (z3 : Int32) (u3 : Int) (z4 : Int32) (u4 : Int) (z5 : Int32) (u5 : Int) (z6 : Int32) (u6 : Int) (m : Mem), z1.toInt = u1 → z2.toInt = u2 → z3.toInt = u3 → z4.toInt = u4 → z5.toInt = u5 → z6.toInt = u6 → bK14 z0 u1 u2 u3 u4 u5 u6 (ab m) → K14 z0 z1 z2 z3 z4 z5 z6 m) (hK246 : ∀ (z0 : Nat) (z1 : Int32) (u1 : Int) (z2 : Int32) (u2 : Int) (z3 : Int32) (u3 : Int) (m : Mem), z1.toInt = u1 → z2.toInt = u2 → z3.toInt = u3 → bK246 z0 u1 u2 u3 (ab m) → K246 z0 z1 z2 z3 m) : wp_X5_replace_240 x0 x1 x2 x3 x4 x5 x6 M Q K14 K246 := by
  unfold sp_X5_replace_240 at h
  unfold wp_X5_replace_240
  obtain ⟨rr639, h⟩ := h
  intro i15 e_i15
  have q_i15 := (congrArg Int32.toInt e_i15).trans (taddI t_x6 (show (1 : Int32).toInt = 1 from rfl) rr639)
  replace h := h _ q_i15
  have t_i15 : i15.toInt = i15.toInt := rfl
  exact hK14 _ _ _ _ _ _ _ _ _ _ _ _ _ _ t_x1 t_x2 t_x3 t_x4 t_x5 t_i15 h
theorem w_X5_replace_439 {Q : Mem → Prop} {bQ : Im → Prop} {K483 : Nat → Int32 → Int32 → Int32 → Int32 → Int32 → Int32 → Int32 → Mem → Prop} {bK483 : Nat → Int → Int → Int → Int → Int → Int → Int → Im → Prop} : ∀ {n : Nat} {x0 : Nat} {x1 : Int32} {y_x1 : Int} {x4 : Int32} {y_x4 : Int} {x5 : Int32} {y_x5 : Int} {x6 : Int32} {y_x6 : Int} {x7 : Int32} {y_x7 : Int} {x8 : Int32} {y_x8 : Int} {x9 : Int32} {y_x9 : Int} {x10 : Int32} {y_x10 : Int} {M : Mem} (t_x1 : x1.toInt = y_x1) (t_x4 : x4.toInt = y_x4) (t_x5 : x5.toInt = y_x5) (t_x6 : x6.toInt = y_x6) (t_x7 : x7.toInt = y_x7) (t_x8 : x8.toInt = y_x8) (t_x9 : x9.toInt = y_x9) (t_x10 : x10.toInt = y_x10) (_ : sp_X5_replace_439 n x0 y_x1 y_x4 y_x5 y_x6 y_x7 y_x8 y_x9 y_x10 (ab M) bQ bK483) (_ : ∀ (m : Mem), bQ (ab m) → Q m) (_ : ∀ (z0 : Nat) (z1 : Int32) (u1 : Int) (z2 : Int32) (u2 : Int) (z3 : Int32) (u3 : Int) (z4 : Int32) (u4 : Int) (z5 : Int32) (u5 : Int) (z6 : Int32) (u6 : Int) (z7 : Int32) (u7 : Int) (m : Mem), z1.toInt = u1 → z2.toInt = u2 → z3.toInt = u3 → z4.toInt = u4 → z5.toInt = u5 → z6.toInt = u6 → z7.toInt = u7 → bK483 z0 u1 u2 u3 u4 u5 u6 u7 (ab m) → K483 z0 z1 z2 z3 z4 z5 z6 z7 m), wp_X5_replace_439 n x0 x1 x4 x5 x6 x7 x8 x9 x10 M Q K483 := by
  intro n
  induction n with
  | zero => intro x0 x1 y_x1 x4 y_x4 x5 y_x5 x6 y_x6 x7 y_x7 x8 y_x8 x9 y_x9 x10 y_x10 M t_x1 t_x4 t_x5 t_x6 t_x7 t_x8 t_x9 t_x10 h hQ hK483; exact h.elim
  | succ n ih =>
    intro x0 x1 y_x1 x4 y_x4 x5 y_x5 x6 y_x6 x7 y_x7 x8 y_x8 x9 y_x9 x10 y_x10 M t_x1 t_x4 t_x5 t_x6 t_x7 t_x8 t_x9 t_x10 h hQ hK483
    unfold sp_X5_replace_439 at h
    unfold wp_X5_replace_439
    obtain ⟨hp, h⟩ := h
    refine ⟨(tinb t_x9 hp), ?_⟩
    refine ⟨?_, ?_⟩
    · intro hc0
      replace h := h.1 (cleI (tr_I (tnatI t_x9)) t_x10 hc0)
      exact hK483 _ _ _ _ _ _ _ _ _ _ _ _ _ _ _ _ t_x1 t_x4 t_x5 t_x6 t_x7 t_x8 t_x9 h
    · intro hc0
      replace h := h.2 (cnleI (tr_I (tnatI t_x9)) t_x10 hc0)
      obtain ⟨rr649, h⟩ := h
      obtain ⟨rr650, h⟩ := h
      obtain ⟨hp, h⟩ := h
      refine ⟨(tinb (taddI (tmulI (show (16 : Int32).toInt = 16 from rfl) t_x8 rr649) t_x10 rr650) hp), ?_⟩
      obtain ⟨rr651, h⟩ := h
      obtain ⟨rr652, h⟩ := h
      obtain ⟨hp, h⟩ := h
      refine ⟨(tinb (taddI (tmulI (show (16 : Int32).toInt = 16 from rfl) t_x9 rr651) t_x10 rr652) hp), ?_⟩
      obtain ⟨rr653, h⟩ := h
      obtain ⟨rr654, h⟩ := h
      obtain ⟨rr655, h⟩ := h
      obtain ⟨rr656, h⟩ := h
      intro M29 e_M29
      replace h := h (ab M29) ((congrArg ab e_M29).trans (ab_sL (tnatI (taddI (tmulI (show (16 : Int32).toInt = 16 from rfl) t_x9 rr653) t_x10 rr654)) (tr_L (tnatI (taddI (tmulI (show (16 : Int32).toInt = 16 from rfl) t_x8 rr655) t_x10 rr656)))))
      obtain ⟨rr657, h⟩ := h
      intro i30 e_i30
      have q_i30 := (congrArg Int32.toInt e_i30).trans (taddI t_x10 (show (1 : Int32).toInt = 1 from rfl) rr657)
      replace h := h _ q_i30
      have t_i30 : i30.toInt = i30.toInt := rfl
      refine ih t_x1 t_x4 t_x5 t_x6 t_x7 t_x8 t_x9 t_i30 h hQ hK483
