/-! sp -> wp, by program -/
theorem w_X0_init {Q : Mem → Prop} {bQ : Im → Prop} {x0 : Nat} {M : Mem} (h : sp_X0_init x0 (ab M) bQ) (hQ : ∀ (m : Mem), bQ (ab m) → Q m) : wp_X0_init x0 M Q := by
  unfold sp_X0_init at h
  unfold wp_X0_init
  obtain ⟨hp, h⟩ := h
  refine ⟨hp, ?_⟩
  exact hQ _  h
theorem w_X0_beFlat {Q : Mem → Prop} {bQ : Im → Prop} {x0 : Nat} {x1 : Int32} {y_x1 : Int} {M : Mem} (t_x1 : x1.toInt = y_x1) (h : sp_X0_beFlat x0 y_x1 (ab M) bQ) (hQ : ∀ (m : Mem), bQ (ab m) → Q m) : wp_X0_beFlat x0 x1 M Q := by
  unfold sp_X0_beFlat at h
  unfold wp_X0_beFlat
  obtain ⟨hp, h⟩ := h
  refine ⟨hp, ?_⟩
  intro M1 e_M1
  replace h := h (ab M1) ((congrArg ab e_M1).trans (ab_sI rfl (show (0 : Int32).toInt = 0 from rfl)))
  intro M2 e_M2
  replace h := h (ab M2) ((congrArg ab e_M2).trans (ab_sI rfl t_x1))
  intro M3 e_M3
  replace h := h (ab M3) ((congrArg ab e_M3).trans (ab_sL rfl (show (0 : Int64).toInt = 0 from rfl)))
  intro M4 e_M4
  replace h := h (ab M4) ((congrArg ab e_M4).trans (ab_sL rfl (show (1 : Int64).toInt = 1 from rfl)))
  intro M5 e_M5
  replace h := h (ab M5) ((congrArg ab e_M5).trans (ab_sL rfl (show (0 : Int64).toInt = 0 from rfl)))
  exact hQ _  h
theorem w_X0_beLike {Q : Mem → Prop} {bQ : Im → Prop} {x0 : Nat} {x1 : Option Nat} {M : Mem} (h : sp_X0_beLike x0 x1 (ab M) bQ) (hQ : ∀ (m : Mem), bQ (ab m) → Q m) : wp_X0_beLike x0 x1 M Q := by
  unfold sp_X0_beLike at h
  unfold wp_X0_beLike
  obtain ⟨hp, h⟩ := h
  refine ⟨hp, ?_⟩
  obtain ⟨a1, hp, h⟩ := h
  refine ⟨a1, hp, ?_⟩
  obtain ⟨hp, h⟩ := h
  refine ⟨hp, ?_⟩
  intro M2 e_M2
  replace h := h (ab M2) ((congrArg ab e_M2).trans (ab_sI rfl (tr_I rfl)))
  intro M3 e_M3
  replace h := h (ab M3) ((congrArg ab e_M3).trans (ab_sI rfl (tr_I rfl)))
  intro M4 e_M4
  replace h := h (ab M4) ((congrArg ab e_M4).trans (ab_sL rfl (tr_L rfl)))
  intro M5 e_M5
  replace h := h (ab M5) ((congrArg ab e_M5).trans (ab_sL rfl (tr_L rfl)))
  intro M6 e_M6
  replace h := h (ab M6) ((congrArg ab e_M6).trans (ab_sL rfl (tr_L rfl)))
  intro M7 e_M7
  replace h := h (ab M7) ((congrArg ab e_M7).trans (ab_sD rfl (tr_D rfl)))
  intro M8 e_M8
  replace h := h (ab M8) ((congrArg ab e_M8).trans (ab_sD rfl (tr_D rfl)))
  exact hQ _  h
theorem w_X0_roundedDown {Q : Int64 → Mem → Prop} {bQ : Int → Im → Prop} {x0 : UInt64} {M : Mem} (h : sp_X0_roundedDown x0 (ab M) bQ) (hQ : ∀ (z0 : Int64) (u0 : Int) (m : Mem), z0.toInt = u0 → bQ u0 (ab m) → Q z0 m) : wp_X0_roundedDown x0 M Q := by
  unfold sp_X0_roundedDown at h
  unfold wp_X0_roundedDown
  intro j1 e_j1
  have q_j1 := (congrArg Int64.toInt e_j1).trans (congrArg (fun a => (FP.d2l a).toInt) rfl)
  replace h := h _ q_j1
  have t_j1 : j1.toInt = j1.toInt := rfl
  refine ⟨?_, ?_⟩
  · intro hc0
    replace h := h.1 (cleI (congrArg Int32.toInt (cg2 (fun a b => Op.cmpValue (FP.dcmp a b) CmpOp.l) (congrArg FP.l2d (of64 t_j1)) rfl)) (show (0 : Int32).toInt = 0 from rfl) hc0)
    unfold wp_X0_roundedDown_17
    exact hQ _ _ _ t_j1 h
  · intro hc0
    replace h := h.2 (cnleI (congrArg Int32.toInt (cg2 (fun a b => Op.cmpValue (FP.dcmp a b) CmpOp.l) (congrArg FP.l2d (of64 t_j1)) rfl)) (show (0 : Int32).toInt = 0 from rfl) hc0)
    unfold wp_X0_roundedDown_17
    obtain ⟨rr2, h⟩ := h
    exact hQ _ _ _ (tsubJ t_j1 (show (1 : Int64).toInt = 1 from rfl) rr2) h
theorem w_J9_floorDiv_f86c9 {Q : Int64 → Mem → Prop} {bQ : Int → Im → Prop} {x0 : Int64} {y_x0 : Int} {x2 : Int64} {y_x2 : Int} {M : Mem} (t_x0 : x0.toInt = y_x0) (t_x2 : x2.toInt = y_x2) (h : sp_J9_floorDiv_f86c9 y_x0 y_x2 (ab M) bQ) (hQ : ∀ (z0 : Int64) (u0 : Int) (m : Mem), z0.toInt = u0 → bQ u0 (ab m) → Q z0 m) : wp_J9_floorDiv_f86c9 x0 x2 M Q := by
  unfold sp_J9_floorDiv_f86c9 at h
  unfold wp_J9_floorDiv_f86c9
  obtain ⟨hp, h⟩ := h
  refine ⟨(tnzJ t_x2 hp), ?_⟩
  obtain ⟨rr8, h⟩ := h
  intro j1 e_j1
  have q_j1 := (congrArg Int64.toInt e_j1).trans (tdivJ t_x0 t_x2 rr8)
  replace h := h _ q_j1
  have t_j1 : j1.toInt = j1.toInt := rfl
  refine ⟨?_, ?_⟩
  · intro hc0
    replace h := h.1 (cleJ (show (0 : Int64).toInt = 0 from rfl) (tbinJ (fun a b => a ^^^ b) t_x0 t_x2) hc0)
    unfold wp_J9_floorDiv_f86c9_27
    exact hQ _ _ _ t_j1 h
  · intro hc0
    replace h := h.2 (cnleJ (show (0 : Int64).toInt = 0 from rfl) (tbinJ (fun a b => a ^^^ b) t_x0 t_x2) hc0)
    obtain ⟨rr9, h⟩ := h
    refine ⟨?_, ?_⟩
    · intro hc0
      replace h := h.1 (ceqJ (tmulJ t_j1 t_x2 rr9) t_x0 hc0)
      unfold wp_J9_floorDiv_f86c9_27
      exact hQ _ _ _ t_j1 h
    · intro hc0
      replace h := h.2 (cneJ (tmulJ t_j1 t_x2 rr9) t_x0 hc0)
      obtain ⟨rr11, h⟩ := h
      exact hQ _ _ _ (tsubJ t_j1 (show (1 : Int64).toInt = 1 from rfl) rr11) h
theorem w_J9_min_f86c9 {Q : Int64 → Mem → Prop} {bQ : Int → Im → Prop} {x0 : Int64} {y_x0 : Int} {x2 : Int64} {y_x2 : Int} {M : Mem} (t_x0 : x0.toInt = y_x0) (t_x2 : x2.toInt = y_x2) (h : sp_J9_min_f86c9 y_x0 y_x2 (ab M) bQ) (hQ : ∀ (z0 : Int64) (u0 : Int) (m : Mem), z0.toInt = u0 → bQ u0 (ab m) → Q z0 m) : wp_J9_min_f86c9 x0 x2 M Q := by
  unfold sp_J9_min_f86c9 at h
  unfold wp_J9_min_f86c9
  refine ⟨?_, ?_⟩
  · intro hc0
    replace h := h.1 (cltJ t_x2 t_x0 hc0)
    unfold wp_J9_min_f86c9_11
    exact hQ _ _ _ t_x2 h
  · intro hc0
    replace h := h.2 (cnltJ t_x2 t_x0 hc0)
    unfold wp_J9_min_f86c9_11
    exact hQ _ _ _ t_x0 h
theorem w_J9_max_f86c9 {Q : Int64 → Mem → Prop} {bQ : Int → Im → Prop} {x0 : Int64} {y_x0 : Int} {x2 : Int64} {y_x2 : Int} {M : Mem} (t_x0 : x0.toInt = y_x0) (t_x2 : x2.toInt = y_x2) (h : sp_J9_max_f86c9 y_x0 y_x2 (ab M) bQ) (hQ : ∀ (z0 : Int64) (u0 : Int) (m : Mem), z0.toInt = u0 → bQ u0 (ab m) → Q z0 m) : wp_J9_max_f86c9 x0 x2 M Q := by
  unfold sp_J9_max_f86c9 at h
  unfold wp_J9_max_f86c9
  refine ⟨?_, ?_⟩
  · intro hc0
    replace h := h.1 (cltJ t_x0 t_x2 hc0)
    unfold wp_J9_max_f86c9_11
    exact hQ _ _ _ t_x2 h
  · intro hc0
    replace h := h.2 (cnltJ t_x0 t_x2 hc0)
    unfold wp_J9_max_f86c9_11
    exact hQ _ _ _ t_x0 h
theorem w_X0_guessAway_62 {Q : Int32 → Mem → Prop} {bQ : Int → Im → Prop} {x0 : Nat} {t0 : Int64} {y_t0 : Int} {M : Mem} (t_t0 : t0.toInt = y_t0) (h : sp_X0_guessAway_62 x0 y_t0 (ab M) bQ) (hQ : ∀ (z0 : Int32) (u0 : Int) (m : Mem), z0.toInt = u0 → bQ u0 (ab m) → Q z0 m) : wp_X0_guessAway_62 x0 t0 M Q := by
  unfold sp_X0_guessAway_62 at h
  unfold wp_X0_guessAway_62
  obtain ⟨rr15, h⟩ := h
  refine w_J9_min_f86c9 t_t0 (tsubJ (ti2l (tr_I rfl)) (show (1 : Int64).toInt = 1 from rfl) rr15) h (fun j2 y_j2 M1 t_j2 h => ?_)
  refine w_J9_max_f86c9 (show (0 : Int64).toInt = 0 from rfl) t_j2 h (fun j4 y_j4 M3 t_j4 h => ?_)
  obtain ⟨rr16, h⟩ := h
  exact hQ _ _ _ (tl2i t_j4 rr16) h
theorem w_X0_guessAway {Q : Int32 → Mem → Prop} {bQ : Int → Im → Prop} {x0 : Nat} {x1 : Int64} {y_x1 : Int} {M : Mem} (t_x1 : x1.toInt = y_x1) (h : sp_X0_guessAway x0 y_x1 (ab M) bQ) (hQ : ∀ (z0 : Int32) (u0 : Int) (m : Mem), z0.toInt = u0 → bQ u0 (ab m) → Q z0 m) : wp_X0_guessAway x0 x1 M Q := by
  unfold sp_X0_guessAway at h
  unfold wp_X0_guessAway
  obtain ⟨hp, h⟩ := h
  refine ⟨hp, ?_⟩
  refine ⟨?_, ?_⟩
  · intro hc0
    replace h := h.1 (ceqI (tr_I rfl) (show (0 : Int32).toInt = 0 from rfl) hc0)
    unfold wp_X0_guessAway_16
    exact hQ _ _ _ (show (0 : Int32).toInt = 0 from rfl) h
  · intro hc0
    replace h := h.2 (cneI (tr_I rfl) (show (0 : Int32).toInt = 0 from rfl) hc0)
    refine ⟨?_, ?_⟩
    · intro hc0
      replace h := h.1 (cleJ (show (1 : Int64).toInt = 1 from rfl) (tr_L rfl) hc0)
      refine ⟨?_, ?_⟩
      · intro hc0
        replace h := h.1 (cneI (tr_I rfl) (show (2 : Int32).toInt = 2 from rfl) hc0)
        obtain ⟨rr20, h⟩ := h
        obtain ⟨rr21, h⟩ := h
        refine w_J9_floorDiv_f86c9 (taddJ (tr_L rfl) (tmulJ (tr_L rfl) t_x1 rr20) rr21) (tr_L rfl) h (fun j6 y_j6 M5 t_j6 h => ?_)
        refine w_X0_guessAway_62 t_j6 h hQ
      · intro hc0
        replace h := h.2 (ceqI (tr_I rfl) (show (2 : Int32).toInt = 2 from rfl) hc0)
        intro f7 e_f7
        replace h := h f7 (alk (cg2 FP.dmul (tr_D rfl) (congrArg FP.l2d (of64 t_x1))) e_f7)
        intro f8 e_f8
        replace h := h f8 (alk (cg2 FP.dadd (tr_D rfl) rfl) e_f8)
        refine w_X0_roundedDown  h (fun j10 y_j10 M9 t_j10 h => ?_)
        refine w_X0_guessAway_62 t_j10 h hQ
    · intro hc0
      replace h := h.2 (cnleJ (show (1 : Int64).toInt = 1 from rfl) (tr_L rfl) hc0)
      unfold wp_X0_guessAway_16
      exact hQ _ _ _ (show (0 : Int32).toInt = 0 from rfl) h
theorem w_X1_init {Q : Mem → Prop} {bQ : Im → Prop} {x0 : Nat} {M : Mem} (h : sp_X1_init x0 (ab M) bQ) (hQ : ∀ (m : Mem), bQ (ab m) → Q m) : wp_X1_init x0 M Q := by
  unfold sp_X1_init at h
  unfold wp_X1_init
  obtain ⟨hp, h⟩ := h
  refine ⟨hp, ?_⟩
  intro M1 e_M1
  replace h := h (ab M1) ((congrArg ab e_M1).trans (ab_sL rfl (show (-1 : Int64).toInt = -1 from rfl)))
  intro M2 e_M2
  replace h := h (ab M2) ((congrArg ab e_M2).trans (ab_sL rfl (show (0 : Int64).toInt = 0 from rfl)))
  intro M3 e_M3
  replace h := h (ab M3) ((congrArg ab e_M3).trans (ab_sL rfl (show (1 : Int64).toInt = 1 from rfl)))
  intro M4 e_M4
  replace h := h (ab M4) ((congrArg ab e_M4).trans (ab_sL rfl (show (0 : Int64).toInt = 0 from rfl)))
  intro M5 e_M5
  replace h := h (ab M5) ((congrArg ab e_M5).trans (ab_sI rfl (show (0 : Int32).toInt = 0 from rfl)))
  exact hQ _  h
theorem w_X1_forget {Q : Mem → Prop} {bQ : Im → Prop} {x0 : Nat} {M : Mem} (h : sp_X1_forget x0 (ab M) bQ) (hQ : ∀ (m : Mem), bQ (ab m) → Q m) : wp_X1_forget x0 M Q := by
  unfold sp_X1_forget at h
  unfold wp_X1_forget
  obtain ⟨hp, h⟩ := h
  refine ⟨hp, ?_⟩
  intro M1 e_M1
  replace h := h (ab M1) ((congrArg ab e_M1).trans (ab_sL rfl (show (-1 : Int64).toInt = -1 from rfl)))
  intro M2 e_M2
  replace h := h (ab M2) ((congrArg ab e_M2).trans (ab_sL rfl (show (0 : Int64).toInt = 0 from rfl)))
  intro M3 e_M3
  replace h := h (ab M3) ((congrArg ab e_M3).trans (ab_sL rfl (show (1 : Int64).toInt = 1 from rfl)))
  intro M4 e_M4
  replace h := h (ab M4) ((congrArg ab e_M4).trans (ab_sL rfl (show (0 : Int64).toInt = 0 from rfl)))
  intro M5 e_M5
  replace h := h (ab M5) ((congrArg ab e_M5).trans (ab_sI rfl (show (0 : Int32).toInt = 0 from rfl)))
  exact hQ _  h
theorem w_X1_narrow_82 {Q : Mem → Prop} {bQ : Im → Prop} {x0 : Nat} {x5 : Int64} {y_x5 : Int} {x9 : Int64} {y_x9 : Int} {M : Mem} (t_x5 : x5.toInt = y_x5) (t_x9 : x9.toInt = y_x9) (h : sp_X1_narrow_82 x0 y_x5 y_x9 (ab M) bQ) (hQ : ∀ (m : Mem), bQ (ab m) → Q m) : wp_X1_narrow_82 x0 x5 x9 M Q := by
  unfold sp_X1_narrow_82 at h
  unfold wp_X1_narrow_82
  obtain ⟨rr26, h⟩ := h
  obtain ⟨rr27, h⟩ := h
  refine ⟨?_, ?_⟩
  · intro hc0
    replace h := h.1 (cleJ (tmulJ t_x9 (tr_L rfl) rr26) (tmulJ (tr_L rfl) t_x5 rr27) hc0)
    unfold wp_X1_narrow_112
    exact hQ _  h
  · intro hc0
    replace h := h.2 (cnleJ (tmulJ t_x9 (tr_L rfl) rr26) (tmulJ (tr_L rfl) t_x5 rr27) hc0)
    intro M1 e_M1
    replace h := h (ab M1) ((congrArg ab e_M1).trans (ab_sL rfl t_x9))
    intro M2 e_M2
    replace h := h (ab M2) ((congrArg ab e_M2).trans (ab_sL rfl t_x5))
    unfold wp_X1_narrow_112
    exact hQ _  h
theorem w_X1_narrow {Q : Mem → Prop} {bQ : Im → Prop} {x0 : Nat} {x1 : Option Nat} {x2 : Int32} {y_x2 : Int} {x3 : Int32} {y_x3 : Int} {x4 : Int32} {y_x4 : Int} {M : Mem} (t_x2 : x2.toInt = y_x2) (t_x3 : x3.toInt = y_x3) (t_x4 : x4.toInt = y_x4) (h : sp_X1_narrow x0 x1 y_x2 y_x3 y_x4 (ab M) bQ) (hQ : ∀ (m : Mem), bQ (ab m) → Q m) : wp_X1_narrow x0 x1 x2 x3 x4 M Q := by
  unfold sp_X1_narrow at h
  unfold wp_X1_narrow
  obtain ⟨hp, h⟩ := h
  refine ⟨hp, ?_⟩
  refine ⟨?_, ?_⟩
  · intro hc0
    replace h := h.1 (cltI t_x2 (show (0 : Int32).toInt = 0 from rfl) hc0)
    unfold wp_X1_narrow_15
    exact hQ _  h
  · intro hc0
    replace h := h.2 (cnltI t_x2 (show (0 : Int32).toInt = 0 from rfl) hc0)
    refine ⟨?_, ?_⟩
    · intro hc0
      replace h := h.1 (cleI t_x3 t_x2 hc0)
      unfold wp_X1_narrow_15
      exact hQ _  h
    · intro hc0
      replace h := h.2 (cnleI t_x3 t_x2 hc0)
      obtain ⟨a3, hp, h⟩ := h
      refine ⟨a3, hp, ?_⟩
      obtain ⟨hp, h⟩ := h
      refine ⟨hp, ?_⟩
      refine ⟨?_, ?_⟩
      · intro hc0
        replace h := h.1 (cltI t_x3 (t_alen _) hc0)
        obtain ⟨hp, h⟩ := h
        refine ⟨(tinb t_x3 hp), ?_⟩
        obtain ⟨hp, h⟩ := h
        refine ⟨(tinb t_x2 hp), ?_⟩
        obtain ⟨rr41, h⟩ := h
        intro j4 e_j4
        have q_j4 := (congrArg Int64.toInt e_j4).trans (tsubJ (tr_L (tnatI t_x3)) (tr_L (tnatI t_x2)) rr41)
        replace h := h _ q_j4
        have t_j4 : j4.toInt = j4.toInt := rfl
        obtain ⟨rr42, h⟩ := h
        obtain ⟨rr43, h⟩ := h
        obtain ⟨rr44, h⟩ := h
        intro j5 e_j5
        have q_j5 := (congrArg Int64.toInt e_j5).trans (ti2l (taddI (tsubI t_x3 t_x2 rr42) (tmulI (show (2 : Int32).toInt = 2 from rfl) t_x4 rr43) rr44))
        replace h := h _ q_j5
        have t_j5 : j5.toInt = j5.toInt := rfl
        obtain ⟨rr45, h⟩ := h
        obtain ⟨rr46, h⟩ := h
        obtain ⟨rr47, h⟩ := h
        intro j6 e_j6
        have q_j6 := (congrArg Int64.toInt e_j6).trans (ti2l (tsubI (tsubI t_x3 t_x2 rr45) (tmulI (show (2 : Int32).toInt = 2 from rfl) t_x4 rr46) rr47))
        replace h := h _ q_j6
        have t_j6 : j6.toInt = j6.toInt := rfl
        obtain ⟨rr48, h⟩ := h
        obtain ⟨rr49, h⟩ := h
        refine ⟨?_, ?_⟩
        · intro hc0
          replace h := h.1 (cleJ (tmulJ (tr_L rfl) t_j4 rr48) (tmulJ t_j5 (tr_L rfl) rr49) hc0)
          refine w_X1_narrow_82 t_j4 t_j6 h hQ
        · intro hc0
          replace h := h.2 (cnleJ (tmulJ (tr_L rfl) t_j4 rr48) (tmulJ t_j5 (tr_L rfl) rr49) hc0)
          intro M7 e_M7
          replace h := h (ab M7) ((congrArg ab e_M7).trans (ab_sL rfl t_j5))
          intro M8 e_M8
          replace h := h (ab M8) ((congrArg ab e_M8).trans (ab_sL rfl t_j4))
          intro M9 e_M9
          replace h := h (ab M9) ((congrArg ab e_M9).trans (ab_sI rfl t_x2))
          refine w_X1_narrow_82 t_j4 t_j6 h hQ
      · intro hc0
        replace h := h.2 (cnltI t_x3 (t_alen _) hc0)
        unfold wp_X1_narrow_15
        exact hQ _  h
theorem w_X1_leaveSome {Q : Int32 → Mem → Prop} {bQ : Int → Im → Prop} {x0 : Nat} {M : Mem} (h : sp_X1_leaveSome x0 (ab M) bQ) (hQ : ∀ (z0 : Int32) (u0 : Int) (m : Mem), z0.toInt = u0 → bQ u0 (ab m) → Q z0 m) : wp_X1_leaveSome x0 M Q := by
  unfold sp_X1_leaveSome at h
  unfold wp_X1_leaveSome
  obtain ⟨hp, h⟩ := h
  refine ⟨hp, ?_⟩
  obtain ⟨rr56, h⟩ := h
  obtain ⟨rr57, h⟩ := h
  refine ⟨?_, ?_⟩
  · intro hc0
    replace h := h.1 (cltJ (tmulJ (tr_L rfl) (tr_L rfl) rr56) (tmulJ (tr_L rfl) (tr_L rfl) rr57) hc0)
    unfold wp_X1_leaveSome_27
    obtain ⟨hp, h⟩ := h
    refine ⟨(t01 (show (0 : Int32).toInt = 0 from rfl) hp), ?_⟩
    exact hQ _ _ _ (show (0 : Int32).toInt = 0 from rfl) h
  · intro hc0
    replace h := h.2 (cnltJ (tmulJ (tr_L rfl) (tr_L rfl) rr56) (tmulJ (tr_L rfl) (tr_L rfl) rr57) hc0)
    unfold wp_X1_leaveSome_27
    obtain ⟨hp, h⟩ := h
    refine ⟨(t01 (show (1 : Int32).toInt = 1 from rfl) hp), ?_⟩
    exact hQ _ _ _ (show (1 : Int32).toInt = 1 from rfl) h
theorem w_X1_admit_21 {Q : Int32 → Mem → Prop} {bQ : Int → Im → Prop} {K43 : Nat → Int64 → Int64 → Int32 → Mem → Prop} {bK43 : Nat → Int → Int → Int → Im → Prop} : ∀ {n : Nat} {x0 : Nat} {x1 : Option Nat} {x3 : Int32} {y_x3 : Int} {x4 : Int32} {y_x4 : Int} {x5 : Int64} {y_x5 : Int} {x7 : Int64} {y_x7 : Int} {x9 : Int32} {y_x9 : Int} {x10 : Int32} {y_x10 : Int} {M : Mem} (t_x3 : x3.toInt = y_x3) (t_x4 : x4.toInt = y_x4) (t_x5 : x5.toInt = y_x5) (t_x7 : x7.toInt = y_x7) (t_x9 : x9.toInt = y_x9) (t_x10 : x10.toInt = y_x10) (_ : sp_X1_admit_21 n x0 x1 y_x3 y_x4 y_x5 y_x7 y_x9 y_x10 (ab M) bQ bK43) (_ : ∀ (z0 : Int32) (u0 : Int) (m : Mem), z0.toInt = u0 → bQ u0 (ab m) → Q z0 m) (_ : ∀ (z0 : Nat) (z1 : Int64) (u1 : Int) (z2 : Int64) (u2 : Int) (z3 : Int32) (u3 : Int) (m : Mem), z1.toInt = u1 → z2.toInt = u2 → z3.toInt = u3 → bK43 z0 u1 u2 u3 (ab m) → K43 z0 z1 z2 z3 m), wp_X1_admit_21 n x0 x1 x3 x4 x5 x7 x9 x10 M Q K43 := by
  intro n
  induction n with
  | zero => intro x0 x1 x3 y_x3 x4 y_x4 x5 y_x5 x7 y_x7 x9 y_x9 x10 y_x10 M t_x3 t_x4 t_x5 t_x7 t_x9 t_x10 h hQ hK43; exact h.elim
  | succ n ih =>
    intro x0 x1 x3 y_x3 x4 y_x4 x5 y_x5 x7 y_x7 x9 y_x9 x10 y_x10 M t_x3 t_x4 t_x5 t_x7 t_x9 t_x10 h hQ hK43
    unfold sp_X1_admit_21 at h
    unfold wp_X1_admit_21
    refine ⟨?_, ?_⟩
    · intro hc0
      replace h := h.1 (cleI t_x3 t_x10 hc0)
      exact hK43 _ _ _ _ _ _ _ _ t_x5 t_x7 t_x9 h
    · intro hc0
      replace h := h.2 (cnleI t_x3 t_x10 hc0)
      refine w_X1_narrow t_x10 t_x3 t_x4 h (fun M1 h => ?_)
      obtain ⟨rr61, h⟩ := h
      intro i2 e_i2
      have q_i2 := (congrArg Int32.toInt e_i2).trans (taddI t_x10 (show (1 : Int32).toInt = 1 from rfl) rr61)
      replace h := h _ q_i2
      have t_i2 : i2.toInt = i2.toInt := rfl
      refine ih t_x3 t_x4 t_x5 t_x7 t_x9 t_i2 h hQ hK43
theorem w_X1_admit {Q : Int32 → Mem → Prop} {bQ : Int → Im → Prop} {x0 : Nat} {x1 : Option Nat} {x2 : Int32} {y_x2 : Int} {x3 : Int32} {y_x3 : Int} {x4 : Int32} {y_x4 : Int} {M : Mem} (t_x2 : x2.toInt = y_x2) (t_x3 : x3.toInt = y_x3) (t_x4 : x4.toInt = y_x4) (h : sp_X1_admit x0 x1 y_x2 y_x3 y_x4 (ab M) bQ) (hQ : ∀ (z0 : Int32) (u0 : Int) (m : Mem), z0.toInt = u0 → bQ u0 (ab m) → Q z0 m) : wp_X1_admit x0 x1 x2 x3 x4 M Q := by
  unfold sp_X1_admit at h
  unfold wp_X1_admit
  obtain ⟨hp, h⟩ := h
  refine ⟨hp, ?_⟩
  intro j8 e_j8
  have q_j8 := (congrArg Int64.toInt e_j8).trans (tr_L rfl)
  replace h := h _ q_j8
  have t_j8 : j8.toInt = j8.toInt := rfl
  intro j9 e_j9
  have q_j9 := (congrArg Int64.toInt e_j9).trans (tr_L rfl)
  replace h := h _ q_j9
  have t_j9 : j9.toInt = j9.toInt := rfl
  intro i10 e_i10
  have q_i10 := (congrArg Int32.toInt e_i10).trans (tr_I rfl)
  replace h := h _ q_i10
  have t_i10 : i10.toInt = i10.toInt := rfl
  obtain ⟨k21, h⟩ := h
  refine ⟨k21, ?_⟩
  refine w_X1_admit_21 t_x3 t_x4 t_j8 t_j9 t_i10 t_x2 h hQ (fun x0 x5 y_x5 x7 y_x7 x9 y_x9 M t_x5 t_x7 t_x9 h => ?_)
  unfold wp_X1_admit_43
  refine w_X1_leaveSome  h (fun i4 y_i4 M3 t_i4 h => ?_)
  refine ⟨?_, ?_⟩
  · intro hc0
    replace h := h.1 (ceqI t_i4 (show (0 : Int32).toInt = 0 from rfl) hc0)
    intro M5 e_M5
    replace h := h (ab M5) ((congrArg ab e_M5).trans (ab_sL rfl t_x5))
    intro M6 e_M6
    replace h := h (ab M6) ((congrArg ab e_M6).trans (ab_sL rfl t_x7))
    intro M7 e_M7
    replace h := h (ab M7) ((congrArg ab e_M7).trans (ab_sI rfl t_x9))
    exact hQ _ _ _ (show (0 : Int32).toInt = 0 from rfl) h
  · intro hc0
    replace h := h.2 (cneI t_i4 (show (0 : Int32).toInt = 0 from rfl) hc0)
    exact hQ _ _ _ (show (1 : Int32).toInt = 1 from rfl) h
theorem w_X1_endOfSpan_9 {Q : Int32 → Mem → Prop} {bQ : Int → Im → Prop} {K34 : Int32 → Mem → Prop} {bK34 : Int → Im → Prop} : ∀ {n : Nat} {x0 : Nat} {x1 : Option Nat} {x2 : Int32} {y_x2 : Int} {x3 : Int32} {y_x3 : Int} {x4 : Int32} {y_x4 : Int} {x5 : Int32} {y_x5 : Int} {M : Mem} (t_x2 : x2.toInt = y_x2) (t_x3 : x3.toInt = y_x3) (t_x4 : x4.toInt = y_x4) (t_x5 : x5.toInt = y_x5) (_ : sp_X1_endOfSpan_9 n x0 x1 y_x2 y_x3 y_x4 y_x5 (ab M) bQ bK34) (_ : ∀ (z0 : Int32) (u0 : Int) (m : Mem), z0.toInt = u0 → bQ u0 (ab m) → Q z0 m) (_ : ∀ (z0 : Int32) (u0 : Int) (m : Mem), z0.toInt = u0 → bK34 u0 (ab m) → K34 z0 m), wp_X1_endOfSpan_9 n x0 x1 x2 x3 x4 x5 M Q K34 := by
  intro n
  induction n with
  | zero => intro x0 x1 x2 y_x2 x3 y_x3 x4 y_x4 x5 y_x5 M t_x2 t_x3 t_x4 t_x5 h hQ hK34; exact h.elim
  | succ n ih =>
    intro x0 x1 x2 y_x2 x3 y_x3 x4 y_x4 x5 y_x5 M t_x2 t_x3 t_x4 t_x5 h hQ hK34
    unfold sp_X1_endOfSpan_9 at h
    unfold wp_X1_endOfSpan_9
    refine ⟨?_, ?_⟩
    · intro hc0
      replace h := h.1 (cleI t_x3 t_x5 hc0)
      exact hK34 _ _ _ t_x5 h
    · intro hc0
      replace h := h.2 (cnleI t_x3 t_x5 hc0)
      refine w_X1_admit t_x2 t_x5 t_x4 h (fun i2 y_i2 M1 t_i2 h => ?_)
      refine ⟨?_, ?_⟩
      · intro hc0
        replace h := h.1 (ceqI t_i2 (show (0 : Int32).toInt = 0 from rfl) hc0)
        exact hK34 _ _ _ t_x5 h
      · intro hc0
        replace h := h.2 (cneI t_i2 (show (0 : Int32).toInt = 0 from rfl) hc0)
        obtain ⟨rr63, h⟩ := h
        intro i3 e_i3
        have q_i3 := (congrArg Int32.toInt e_i3).trans (taddI t_x5 (show (1 : Int32).toInt = 1 from rfl) rr63)
        replace h := h _ q_i3
        have t_i3 : i3.toInt = i3.toInt := rfl
        refine ih t_x2 t_x3 t_x4 t_i3 h hQ hK34
theorem w_X1_endOfSpan {Q : Int32 → Mem → Prop} {bQ : Int → Im → Prop} {x0 : Nat} {x1 : Option Nat} {x2 : Int32} {y_x2 : Int} {x3 : Int32} {y_x3 : Int} {x4 : Int32} {y_x4 : Int} {M : Mem} (t_x2 : x2.toInt = y_x2) (t_x3 : x3.toInt = y_x3) (t_x4 : x4.toInt = y_x4) (h : sp_X1_endOfSpan x0 x1 y_x2 y_x3 y_x4 (ab M) bQ) (hQ : ∀ (z0 : Int32) (u0 : Int) (m : Mem), z0.toInt = u0 → bQ u0 (ab m) → Q z0 m) : wp_X1_endOfSpan x0 x1 x2 x3 x4 M Q := by
  unfold sp_X1_endOfSpan at h
  unfold wp_X1_endOfSpan
  obtain ⟨hp, h⟩ := h
  refine ⟨hp, ?_⟩
  refine w_X1_forget  h (fun M4 h => ?_)
  obtain ⟨rr65, h⟩ := h
  intro i5 e_i5
  have q_i5 := (congrArg Int32.toInt e_i5).trans (taddI t_x2 (show (1 : Int32).toInt = 1 from rfl) rr65)
  replace h := h _ q_i5
  have t_i5 : i5.toInt = i5.toInt := rfl
  obtain ⟨k9, h⟩ := h
  refine ⟨k9, ?_⟩
  refine w_X1_endOfSpan_9 t_x2 t_x3 t_x4 t_i5 h hQ (fun x5 y_x5 M t_x5 h => ?_)
  unfold wp_X1_endOfSpan_34
  exact hQ _ _ _ t_x5 h
theorem w_X1_passThree {Q : Int32 → Mem → Prop} {bQ : Int → Im → Prop} {x0 : Nat} {x1 : Option Nat} {x2 : Int32} {y_x2 : Int} {x3 : Int32} {y_x3 : Int} {x4 : Int32} {y_x4 : Int} {x5 : Int32} {y_x5 : Int} {M : Mem} (t_x2 : x2.toInt = y_x2) (t_x3 : x3.toInt = y_x3) (t_x4 : x4.toInt = y_x4) (t_x5 : x5.toInt = y_x5) (h : sp_X1_passThree x0 x1 y_x2 y_x3 y_x4 y_x5 (ab M) bQ) (hQ : ∀ (z0 : Int32) (u0 : Int) (m : Mem), z0.toInt = u0 → bQ u0 (ab m) → Q z0 m) : wp_X1_passThree x0 x1 x2 x3 x4 x5 M Q := by
  unfold sp_X1_passThree at h
  unfold wp_X1_passThree
  obtain ⟨hp, h⟩ := h
  refine ⟨hp, ?_⟩
  refine w_X1_forget  h (fun M1 h => ?_)
  refine w_X1_narrow t_x2 t_x3 t_x5 h (fun M2 h => ?_)
  refine w_X1_narrow t_x2 t_x4 t_x5 h (fun M3 h => ?_)
  refine w_X1_narrow t_x3 t_x4 t_x5 h (fun M4 h => ?_)
  refine w_X1_leaveSome  h (fun i6 y_i6 M5 t_i6 h => ?_)
  obtain ⟨hp, h⟩ := h
  refine ⟨(t01 t_i6 hp), ?_⟩
  exact hQ _ _ _ t_i6 h
theorem w_X1_commonDivisor_9 {Q : Int64 → Mem → Prop} {bQ : Int → Im → Prop} {K44 : Int64 → Mem → Prop} {bK44 : Int → Im → Prop} : ∀ {n : Nat} {x4 : Int64} {y_x4 : Int} {x6 : Int64} {y_x6 : Int} {x8 : Int32} {y_x8 : Int} {M : Mem} (t_x4 : x4.toInt = y_x4) (t_x6 : x6.toInt = y_x6) (t_x8 : x8.toInt = y_x8) (_ : sp_X1_commonDivisor_9 n y_x4 y_x6 y_x8 (ab M) bQ bK44) (_ : ∀ (z0 : Int64) (u0 : Int) (m : Mem), z0.toInt = u0 → bQ u0 (ab m) → Q z0 m) (_ : ∀ (z0 : Int64) (u0 : Int) (m : Mem), z0.toInt = u0 → bK44 u0 (ab m) → K44 z0 m), wp_X1_commonDivisor_9 n x4 x6 x8 M Q K44 := by
  intro n
  induction n with
  | zero => intro x4 y_x4 x6 y_x6 x8 y_x8 M t_x4 t_x6 t_x8 h hQ hK44; exact h.elim
  | succ n ih =>
    intro x4 y_x4 x6 y_x6 x8 y_x8 M t_x4 t_x6 t_x8 h hQ hK44
    unfold sp_X1_commonDivisor_9 at h
    unfold wp_X1_commonDivisor_9
    refine ⟨?_, ?_⟩
    · intro hc0
      replace h := h.1 (cleI (show (100 : Int32).toInt = 100 from rfl) t_x8 hc0)
      exact hK44 _ _ _ t_x4 h
    · intro hc0
      replace h := h.2 (cnleI (show (100 : Int32).toInt = 100 from rfl) t_x8 hc0)
      refine ⟨?_, ?_⟩
      · intro hc0
        replace h := h.1 (ceqJ t_x6 (show (0 : Int64).toInt = 0 from rfl) hc0)
        exact hK44 _ _ _ t_x4 h
      · intro hc0
        replace h := h.2 (cneJ t_x6 (show (0 : Int64).toInt = 0 from rfl) hc0)
        obtain ⟨hp, h⟩ := h
        refine ⟨(tnzJ t_x6 hp), ?_⟩
        obtain ⟨rr70, h⟩ := h
        obtain ⟨rr71, h⟩ := h
        obtain ⟨rr72, h⟩ := h
        intro j1 e_j1
        have q_j1 := (congrArg Int64.toInt e_j1).trans (tsubJ t_x4 (tmulJ (tdivJ t_x4 t_x6 rr70) t_x6 rr71) rr72)
        replace h := h _ q_j1
        have t_j1 : j1.toInt = j1.toInt := rfl
        obtain ⟨rr73, h⟩ := h
        intro i2 e_i2
        have q_i2 := (congrArg Int32.toInt e_i2).trans (taddI t_x8 (show (1 : Int32).toInt = 1 from rfl) rr73)
        replace h := h _ q_i2
        have t_i2 : i2.toInt = i2.toInt := rfl
        refine ih t_x6 t_j1 t_i2 h hQ hK44
theorem w_X1_commonDivisor {Q : Int64 → Mem → Prop} {bQ : Int → Im → Prop} {x0 : Int64} {y_x0 : Int} {x2 : Int64} {y_x2 : Int} {M : Mem} (t_x0 : x0.toInt = y_x0) (t_x2 : x2.toInt = y_x2) (h : sp_X1_commonDivisor y_x0 y_x2 (ab M) bQ) (hQ : ∀ (z0 : Int64) (u0 : Int) (m : Mem), z0.toInt = u0 → bQ u0 (ab m) → Q z0 m) : wp_X1_commonDivisor x0 x2 M Q := by
  unfold sp_X1_commonDivisor at h
  unfold wp_X1_commonDivisor
  obtain ⟨k9, h⟩ := h
  refine ⟨k9, ?_⟩
  refine w_X1_commonDivisor_9 t_x0 t_x2 (show (0 : Int32).toInt = 0 from rfl) h hQ (fun x4 y_x4 M t_x4 h => ?_)
  unfold wp_X1_commonDivisor_44
  exact hQ _ _ _ t_x4 h
theorem w_X1_tellLine {Q : Mem → Prop} {bQ : Im → Prop} {x0 : Nat} {x1 : Option Nat} {x2 : Option Nat} {x3 : Int32} {y_x3 : Int} {x4 : Int32} {y_x4 : Int} {M : Mem} (t_x3 : x3.toInt = y_x3) (t_x4 : x4.toInt = y_x4) (h : sp_X1_tellLine x0 x1 x2 y_x3 y_x4 (ab M) bQ) (hQ : ∀ (m : Mem), bQ (ab m) → Q m) : wp_X1_tellLine x0 x1 x2 x3 x4 M Q := by
  unfold sp_X1_tellLine at h
  unfold wp_X1_tellLine
  obtain ⟨hp, h⟩ := h
  refine ⟨hp, ?_⟩
  refine w_X1_commonDivisor (tr_L rfl) (tr_L rfl) h (fun j2 y_j2 M1 t_j2 h => ?_)
  refine ⟨?_, ?_⟩
  · intro hc0
    replace h := h.1 (cltJ t_j2 (show (1 : Int64).toInt = 1 from rfl) hc0)
    unfold wp_X1_tellLine_41
    exact hQ _  h
  · intro hc0
    replace h := h.2 (cnltJ t_j2 (show (1 : Int64).toInt = 1 from rfl) hc0)
    refine ⟨?_, ?_⟩
    · intro hc0
      replace h := h.1 (cltI t_x3 (show (0 : Int32).toInt = 0 from rfl) hc0)
      unfold wp_X1_tellLine_41
      exact hQ _  h
    · intro hc0
      replace h := h.2 (cnltI t_x3 (show (0 : Int32).toInt = 0 from rfl) hc0)
      refine ⟨?_, ?_⟩
      · intro hc0
        replace h := h.1 (cltI (tr_I rfl) t_x3 hc0)
        unfold wp_X1_tellLine_41
        exact hQ _  h
      · intro hc0
        replace h := h.2 (cnltI (tr_I rfl) t_x3 hc0)
        obtain ⟨a3, hp, h⟩ := h
        refine ⟨a3, hp, ?_⟩
        obtain ⟨hp, h⟩ := h
        refine ⟨hp, ?_⟩
        refine ⟨?_, ?_⟩
        · intro hc0
          replace h := h.1 (cltI (tr_I rfl) (t_alen _) hc0)
          obtain ⟨hp, h⟩ := h
          refine ⟨(tnzJ t_j2 hp), ?_⟩
          obtain ⟨a4, hp, h⟩ := h
          refine ⟨a4, hp, ?_⟩
          obtain ⟨hp, h⟩ := h
          refine ⟨hp, ?_⟩
          obtain ⟨rr82, h⟩ := h
          intro M5 e_M5
          replace h := h (ab M5) ((congrArg ab e_M5).trans (ab_sL rfl (tdivJ (tr_L rfl) t_j2 rr82)))
          obtain ⟨hp, h⟩ := h
          refine ⟨(tnzJ t_j2 hp), ?_⟩
          obtain ⟨rr83, h⟩ := h
          intro M6 e_M6
          replace h := h (ab M6) ((congrArg ab e_M6).trans (ab_sL rfl (tdivJ (tr_L rfl) t_j2 rr83)))
          obtain ⟨rr84, h⟩ := h
          intro j7 e_j7
          have q_j7 := (congrArg Int64.toInt e_j7).trans (ti2l (tsubI (tr_I rfl) t_x3 rr84))
          replace h := h _ q_j7
          have t_j7 : j7.toInt = j7.toInt := rfl
          obtain ⟨hp, h⟩ := h
          refine ⟨(tinb (tr_I rfl) hp), ?_⟩
          obtain ⟨hp, h⟩ := h
          refine ⟨(tinb t_x3 hp), ?_⟩
          obtain ⟨rr85, h⟩ := h
          obtain ⟨rr86, h⟩ := h
          obtain ⟨rr87, h⟩ := h
          obtain ⟨rr88, h⟩ := h
          obtain ⟨rr89, h⟩ := h
          intro M8 e_M8
          replace h := h (ab M8) ((congrArg ab e_M8).trans (ab_sL rfl (tsubJ (tmulJ (tr_L rfl) (tsubJ t_j7 (ti2l t_x4) rr85) rr86) (tmulJ (tr_L rfl) (tsubJ (tr_L (tnatI (tr_I rfl))) (tr_L (tnatI t_x3)) rr87) rr88) rr89)))
          exact hQ _  h
        · intro hc0
          replace h := h.2 (cnltI (tr_I rfl) (t_alen _) hc0)
          unfold wp_X1_tellLine_41
          exact hQ _  h
theorem w_X2_init_59 {Q : Mem → Prop} {bQ : Im → Prop} {x0 : Nat} {x1 : Int32} {y_x1 : Int} {t0 : Int32} {y_t0 : Int} {t1 : Nat} {M : Mem} (t_x1 : x1.toInt = y_x1) (t_t0 : t0.toInt = y_t0) (h : sp_X2_init_59 x0 y_x1 y_t0 t1 (ab M) bQ) (hQ : ∀ (m : Mem), bQ (ab m) → Q m) : wp_X2_init_59 x0 x1 t0 t1 M Q := by
  unfold sp_X2_init_59 at h
  unfold wp_X2_init_59
  obtain ⟨hp, h⟩ := h
  refine ⟨(tnlI t_t0 hp), ?_⟩
  obtain ⟨hp, h⟩ := h
  refine ⟨hp, ?_⟩
  obtain ⟨hp, h⟩ := h
  refine ⟨(tshp (tnatI t_t0) hp), ?_⟩
  obtain ⟨hp, h⟩ := h
  refine ⟨(tby (tnatI t_t0) hp), ?_⟩
  intro a7 M8 e1 e2
  replace h := h a7 (ab M8) e1 ((congrArg ab e2).trans ab_nw)
  intro M9 e_M9
  replace h := h (ab M9) ((congrArg ab e_M9).trans (ab_sR rfl rfl))
  refine ⟨?_, ?_⟩
  · intro hc0
    replace h := h.1 (cleI t_x1 (show (0 : Int32).toInt = 0 from rfl) hc0)
    unfold wp_X2_init_74
    obtain ⟨hp, h⟩ := h
    refine ⟨(tnlI (show (0 : Int32).toInt = 0 from rfl) hp), ?_⟩
    obtain ⟨hp, h⟩ := h
    refine ⟨hp, ?_⟩
    obtain ⟨hp, h⟩ := h
    refine ⟨(tshp (rfl : (0 : Int32).toNatClampNeg = 0) hp), ?_⟩
    obtain ⟨hp, h⟩ := h
    refine ⟨(tby (rfl : (0 : Int32).toNatClampNeg = 0) hp), ?_⟩
    intro a10 M11 e1 e2
    replace h := h a10 (ab M11) e1 ((congrArg ab e2).trans ab_nw)
    intro M12 e_M12
    replace h := h (ab M12) ((congrArg ab e_M12).trans (ab_sR rfl rfl))
    exact hQ _  h
  · intro hc0
    replace h := h.2 (cnleI t_x1 (show (0 : Int32).toInt = 0 from rfl) hc0)
    unfold wp_X2_init_74
    obtain ⟨hp, h⟩ := h
    refine ⟨(tnlI t_x1 hp), ?_⟩
    obtain ⟨hp, h⟩ := h
    refine ⟨hp, ?_⟩
    obtain ⟨hp, h⟩ := h
    refine ⟨(tshp (tnatI t_x1) hp), ?_⟩
    obtain ⟨hp, h⟩ := h
    refine ⟨(tby (tnatI t_x1) hp), ?_⟩
    intro a10 M11 e1 e2
    replace h := h a10 (ab M11) e1 ((congrArg ab e2).trans ab_nw)
    intro M12 e_M12
    replace h := h (ab M12) ((congrArg ab e_M12).trans (ab_sR rfl rfl))
    exact hQ _  h
theorem w_X2_init_44 {Q : Mem → Prop} {bQ : Im → Prop} {x0 : Nat} {x1 : Int32} {y_x1 : Int} {x2 : Int32} {y_x2 : Int} {t0 : Int32} {y_t0 : Int} {t1 : Nat} {M : Mem} (t_x1 : x1.toInt = y_x1) (t_x2 : x2.toInt = y_x2) (t_t0 : t0.toInt = y_t0) (h : sp_X2_init_44 x0 y_x1 y_x2 y_t0 t1 (ab M) bQ) (hQ : ∀ (m : Mem), bQ (ab m) → Q m) : wp_X2_init_44 x0 x1 x2 t0 t1 M Q := by
  unfold sp_X2_init_44 at h
  unfold wp_X2_init_44
  obtain ⟨hp, h⟩ := h
  refine ⟨(tnlI t_t0 hp), ?_⟩
  obtain ⟨hp, h⟩ := h
  refine ⟨hp, ?_⟩
  obtain ⟨hp, h⟩ := h
  refine ⟨(tshp (tnatI t_t0) hp), ?_⟩
  obtain ⟨hp, h⟩ := h
  refine ⟨(tby (tnatI t_t0) hp), ?_⟩
  intro a4 M5 e1 e2
  replace h := h a4 (ab M5) e1 ((congrArg ab e2).trans ab_nw)
  intro M6 e_M6
  replace h := h (ab M6) ((congrArg ab e_M6).trans (ab_sR rfl rfl))
  refine ⟨?_, ?_⟩
  · intro hc0
    replace h := h.1 (cleI t_x2 (show (0 : Int32).toInt = 0 from rfl) hc0)
    refine w_X2_init_59 t_x1 (show (0 : Int32).toInt = 0 from rfl) h hQ
  · intro hc0
    replace h := h.2 (cnleI t_x2 (show (0 : Int32).toInt = 0 from rfl) hc0)
    refine w_X2_init_59 t_x1 t_x2 h hQ
theorem w_X2_init_29 {Q : Mem → Prop} {bQ : Im → Prop} {x0 : Nat} {x1 : Int32} {y_x1 : Int} {x2 : Int32} {y_x2 : Int} {t0 : Int32} {y_t0 : Int} {t1 : Nat} {M : Mem} (t_x1 : x1.toInt = y_x1) (t_x2 : x2.toInt = y_x2) (t_t0 : t0.toInt = y_t0) (h : sp_X2_init_29 x0 y_x1 y_x2 y_t0 t1 (ab M) bQ) (hQ : ∀ (m : Mem), bQ (ab m) → Q m) : wp_X2_init_29 x0 x1 x2 t0 t1 M Q := by
  unfold sp_X2_init_29 at h
  unfold wp_X2_init_29
  obtain ⟨hp, h⟩ := h
  refine ⟨(tnlI t_t0 hp), ?_⟩
  obtain ⟨hp, h⟩ := h
  refine ⟨hp, ?_⟩
  obtain ⟨hp, h⟩ := h
  refine ⟨(tshp (tnatI t_t0) hp), ?_⟩
  obtain ⟨hp, h⟩ := h
  refine ⟨(tby (tnatI t_t0) hp), ?_⟩
  intro a1 M2 e1 e2
  replace h := h a1 (ab M2) e1 ((congrArg ab e2).trans ab_nw)
  intro M3 e_M3
  replace h := h (ab M3) ((congrArg ab e_M3).trans (ab_sR rfl rfl))
  refine ⟨?_, ?_⟩
  · intro hc0
    replace h := h.1 (cleI t_x1 (show (0 : Int32).toInt = 0 from rfl) hc0)
    refine w_X2_init_44 t_x1 t_x2 (show (0 : Int32).toInt = 0 from rfl) h hQ
  · intro hc0
    replace h := h.2 (cnleI t_x1 (show (0 : Int32).toInt = 0 from rfl) hc0)
    refine w_X2_init_44 t_x1 t_x2 t_x1 h hQ
theorem w_X2_init {Q : Mem → Prop} {bQ : Im → Prop} {x0 : Nat} {x1 : Int32} {y_x1 : Int} {x2 : Int32} {y_x2 : Int} {M : Mem} (t_x1 : x1.toInt = y_x1) (t_x2 : x2.toInt = y_x2) (h : sp_X2_init x0 y_x1 y_x2 (ab M) bQ) (hQ : ∀ (m : Mem), bQ (ab m) → Q m) : wp_X2_init x0 x1 x2 M Q := by
  unfold sp_X2_init at h
  unfold wp_X2_init
  obtain ⟨hp, h⟩ := h
  refine ⟨hp, ?_⟩
  intro M13 e_M13
  replace h := h (ab M13) ((congrArg ab e_M13).trans (ab_sI rfl (show (0 : Int32).toInt = 0 from rfl)))
  intro M14 e_M14
  replace h := h (ab M14) ((congrArg ab e_M14).trans (ab_sI rfl (show (0 : Int32).toInt = 0 from rfl)))
  intro M15 e_M15
  replace h := h (ab M15) ((congrArg ab e_M15).trans (ab_sI rfl (show (0 : Int32).toInt = 0 from rfl)))
  refine ⟨?_, ?_⟩
  · intro hc0
    replace h := h.1 (cleI t_x1 (show (0 : Int32).toInt = 0 from rfl) hc0)
    refine w_X2_init_29 t_x1 t_x2 (show (0 : Int32).toInt = 0 from rfl) h hQ
  · intro hc0
    replace h := h.2 (cnleI t_x1 (show (0 : Int32).toInt = 0 from rfl) hc0)
    refine w_X2_init_29 t_x1 t_x2 t_x1 h hQ
theorem w_X2_empty {Q : Mem → Prop} {bQ : Im → Prop} {x0 : Nat} {M : Mem} (h : sp_X2_empty x0 (ab M) bQ) (hQ : ∀ (m : Mem), bQ (ab m) → Q m) : wp_X2_empty x0 M Q := by
  unfold sp_X2_empty at h
  unfold wp_X2_empty
  obtain ⟨hp, h⟩ := h
  refine ⟨hp, ?_⟩
  intro M1 e_M1
  replace h := h (ab M1) ((congrArg ab e_M1).trans (ab_sI rfl (show (0 : Int32).toInt = 0 from rfl)))
  intro M2 e_M2
  replace h := h (ab M2) ((congrArg ab e_M2).trans (ab_sI rfl (show (0 : Int32).toInt = 0 from rfl)))
  intro M3 e_M3
  replace h := h (ab M3) ((congrArg ab e_M3).trans (ab_sI rfl (show (0 : Int32).toInt = 0 from rfl)))
  exact hQ _  h
theorem w_X2_isFull {Q : Int32 → Mem → Prop} {bQ : Int → Im → Prop} {x0 : Nat} {M : Mem} (h : sp_X2_isFull x0 (ab M) bQ) (hQ : ∀ (z0 : Int32) (u0 : Int) (m : Mem), z0.toInt = u0 → bQ u0 (ab m) → Q z0 m) : wp_X2_isFull x0 M Q := by
  unfold sp_X2_isFull at h
  unfold wp_X2_isFull
  obtain ⟨hp, h⟩ := h
  refine ⟨hp, ?_⟩
  obtain ⟨rr92, h⟩ := h
  refine ⟨?_, ?_⟩
  · intro hc0
    replace h := h.1 (cleI (t_alen _) (taddI (tr_I rfl) (tr_I rfl) rr92) hc0)
    unfold wp_X2_isFull_29
    unfold wp_X2_isFull_34
    obtain ⟨hp, h⟩ := h
    refine ⟨(t01 (show (1 : Int32).toInt = 1 from rfl) hp), ?_⟩
    exact hQ _ _ _ (show (1 : Int32).toInt = 1 from rfl) h
  · intro hc0
    replace h := h.2 (cnleI (t_alen _) (taddI (tr_I rfl) (tr_I rfl) rr92) hc0)
    refine ⟨?_, ?_⟩
    · intro hc0
      replace h := h.1 (cltI (tr_I rfl) (t_alen _) hc0)
      unfold wp_X2_isFull_34
      obtain ⟨hp, h⟩ := h
      refine ⟨(t01 (show (0 : Int32).toInt = 0 from rfl) hp), ?_⟩
      exact hQ _ _ _ (show (0 : Int32).toInt = 0 from rfl) h
    · intro hc0
      replace h := h.2 (cnltI (tr_I rfl) (t_alen _) hc0)
      unfold wp_X2_isFull_29
      unfold wp_X2_isFull_34
      obtain ⟨hp, h⟩ := h
      refine ⟨(t01 (show (1 : Int32).toInt = 1 from rfl) hp), ?_⟩
      exact hQ _ _ _ (show (1 : Int32).toInt = 1 from rfl) h
theorem w_X2_pieceAt {Q : Option Nat → Mem → Prop} {bQ : Option Nat → Im → Prop} {x0 : Nat} {x1 : Int32} {y_x1 : Int} {M : Mem} (t_x1 : x1.toInt = y_x1) (h : sp_X2_pieceAt x0 y_x1 (ab M) bQ) (hQ : ∀ (z0 : Option Nat) (m : Mem), bQ z0 (ab m) → Q z0 m) : wp_X2_pieceAt x0 x1 M Q := by
  unfold sp_X2_pieceAt at h
  unfold wp_X2_pieceAt
  obtain ⟨hp, h⟩ := h
  refine ⟨hp, ?_⟩
  refine ⟨?_, ?_⟩
  · intro hc0
    replace h := h.1 (cltI t_x1 (show (0 : Int32).toInt = 0 from rfl) hc0)
    unfold wp_X2_pieceAt_21
    unfold wp_X2_pieceAt_22
    exact hQ _ _  h
  · intro hc0
    replace h := h.2 (cnltI t_x1 (show (0 : Int32).toInt = 0 from rfl) hc0)
    refine ⟨?_, ?_⟩
    · intro hc0
      replace h := h.1 (cleI (tr_I rfl) t_x1 hc0)
      unfold wp_X2_pieceAt_21
      unfold wp_X2_pieceAt_22
      exact hQ _ _  h
    · intro hc0
      replace h := h.2 (cnleI (tr_I rfl) t_x1 hc0)
      obtain ⟨hp, h⟩ := h
      refine ⟨(tinb t_x1 hp), ?_⟩
      intro r1 e_r1
      replace h := h r1 (e_r1.trans (tr_R (tnatI t_x1)))
      unfold wp_X2_pieceAt_22
      exact hQ _ _  h
theorem w_X2_keyOf {Q : Int64 → Mem → Prop} {bQ : Int → Im → Prop} {x0 : Nat} {x1 : Option Nat} {x2 : Int32} {y_x2 : Int} {M : Mem} (t_x2 : x2.toInt = y_x2) (h : sp_X2_keyOf x0 x1 y_x2 (ab M) bQ) (hQ : ∀ (z0 : Int64) (u0 : Int) (m : Mem), z0.toInt = u0 → bQ u0 (ab m) → Q z0 m) : wp_X2_keyOf x0 x1 x2 M Q := by
  unfold sp_X2_keyOf at h
  unfold wp_X2_keyOf
  obtain ⟨hp, h⟩ := h
  refine ⟨hp, ?_⟩
  obtain ⟨a1, hp, h⟩ := h
  refine ⟨a1, hp, ?_⟩
  obtain ⟨hp, h⟩ := h
  refine ⟨hp, ?_⟩
  intro i2 e_i2
  replace h := h i2.toInt ⟨Int32.le_toInt i2, Int32.toInt_lt i2⟩ (fun rr95 => (congrArg Int32.toInt e_i2).trans (taddI (tr_I rfl) t_x2 rr95))
  have t_i2 : i2.toInt = i2.toInt := rfl
  refine ⟨?_, ?_⟩
  · intro hc0
    replace h := h.1 (cltI t_x2 (show (0 : Int32).toInt = 0 from rfl) hc0)
    unfold wp_X2_keyOf_40
    unfold wp_X2_keyOf_43
    exact hQ _ _ _ (show (-9223372036854775808 : Int64).toInt = -9223372036854775808 from rfl) h
  · intro hc0
    replace h := h.2 (cnltI t_x2 (show (0 : Int32).toInt = 0 from rfl) hc0)
    refine ⟨?_, ?_⟩
    · intro hc0
      replace h := h.1 (cleI (tr_I rfl) t_x2 hc0)
      unfold wp_X2_keyOf_40
      unfold wp_X2_keyOf_43
      exact hQ _ _ _ (show (-9223372036854775808 : Int64).toInt = -9223372036854775808 from rfl) h
    · intro hc0
      replace h := h.2 (cnleI (tr_I rfl) t_x2 hc0)
      refine ⟨?_, ?_⟩
      · intro hc0
        replace h := h.1 (cltI t_i2 (show (0 : Int32).toInt = 0 from rfl) hc0)
        unfold wp_X2_keyOf_40
        unfold wp_X2_keyOf_43
        exact hQ _ _ _ (show (-9223372036854775808 : Int64).toInt = -9223372036854775808 from rfl) h
      · intro hc0
        replace h := h.2 (cnltI t_i2 (show (0 : Int32).toInt = 0 from rfl) hc0)
        refine ⟨?_, ?_⟩
        · intro hc0
          replace h := h.1 (cleI (tr_I rfl) t_i2 hc0)
          unfold wp_X2_keyOf_40
          unfold wp_X2_keyOf_43
          exact hQ _ _ _ (show (-9223372036854775808 : Int64).toInt = -9223372036854775808 from rfl) h
        · intro hc0
          replace h := h.2 (cnleI (tr_I rfl) t_i2 hc0)
          obtain ⟨hp, h⟩ := h
          refine ⟨(tinb t_i2 hp), ?_⟩
          unfold wp_X2_keyOf_43
          exact hQ _ _ _ (tr_L (tnatI t_i2)) h
theorem w_X2_lateOf {Q : Int64 → Mem → Prop} {bQ : Int → Im → Prop} {x0 : Nat} {x1 : Option Nat} {x2 : Int32} {y_x2 : Int} {M : Mem} (t_x2 : x2.toInt = y_x2) (h : sp_X2_lateOf x0 x1 y_x2 (ab M) bQ) (hQ : ∀ (z0 : Int64) (u0 : Int) (m : Mem), z0.toInt = u0 → bQ u0 (ab m) → Q z0 m) : wp_X2_lateOf x0 x1 x2 M Q := by
  unfold sp_X2_lateOf at h
  unfold wp_X2_lateOf
  obtain ⟨hp, h⟩ := h
  refine ⟨hp, ?_⟩
  obtain ⟨a1, hp, h⟩ := h
  refine ⟨a1, hp, ?_⟩
  obtain ⟨hp, h⟩ := h
  refine ⟨hp, ?_⟩
  intro i2 e_i2
  replace h := h i2.toInt ⟨Int32.le_toInt i2, Int32.toInt_lt i2⟩ (fun rr97 => (congrArg Int32.toInt e_i2).trans (taddI (tr_I rfl) t_x2 rr97))
  have t_i2 : i2.toInt = i2.toInt := rfl
  refine ⟨?_, ?_⟩
  · intro hc0
    replace h := h.1 (cltI t_x2 (show (0 : Int32).toInt = 0 from rfl) hc0)
    unfold wp_X2_lateOf_40
    unfold wp_X2_lateOf_43
    exact hQ _ _ _ (show (-9223372036854775808 : Int64).toInt = -9223372036854775808 from rfl) h
  · intro hc0
    replace h := h.2 (cnltI t_x2 (show (0 : Int32).toInt = 0 from rfl) hc0)
    refine ⟨?_, ?_⟩
    · intro hc0
      replace h := h.1 (cleI (tr_I rfl) t_x2 hc0)
      unfold wp_X2_lateOf_40
      unfold wp_X2_lateOf_43
      exact hQ _ _ _ (show (-9223372036854775808 : Int64).toInt = -9223372036854775808 from rfl) h
    · intro hc0
      replace h := h.2 (cnleI (tr_I rfl) t_x2 hc0)
      refine ⟨?_, ?_⟩
      · intro hc0
        replace h := h.1 (cltI t_i2 (show (0 : Int32).toInt = 0 from rfl) hc0)
        unfold wp_X2_lateOf_40
        unfold wp_X2_lateOf_43
        exact hQ _ _ _ (show (-9223372036854775808 : Int64).toInt = -9223372036854775808 from rfl) h
      · intro hc0
        replace h := h.2 (cnltI t_i2 (show (0 : Int32).toInt = 0 from rfl) hc0)
        refine ⟨?_, ?_⟩
        · intro hc0
          replace h := h.1 (cleI (tr_I rfl) t_i2 hc0)
          unfold wp_X2_lateOf_40
          unfold wp_X2_lateOf_43
          exact hQ _ _ _ (show (-9223372036854775808 : Int64).toInt = -9223372036854775808 from rfl) h
        · intro hc0
          replace h := h.2 (cnleI (tr_I rfl) t_i2 hc0)
          obtain ⟨hp, h⟩ := h
          refine ⟨(tinb t_i2 hp), ?_⟩
          unfold wp_X2_lateOf_43
          exact hQ _ _ _ (tr_L (tnatI t_i2)) h
theorem w_X2_isDropped {Q : Int32 → Mem → Prop} {bQ : Int → Im → Prop} {x0 : Nat} {x1 : Option Nat} {x2 : Int32} {y_x2 : Int} {M : Mem} (t_x2 : x2.toInt = y_x2) (h : sp_X2_isDropped x0 x1 y_x2 (ab M) bQ) (hQ : ∀ (z0 : Int32) (u0 : Int) (m : Mem), z0.toInt = u0 → bQ u0 (ab m) → Q z0 m) : wp_X2_isDropped x0 x1 x2 M Q := by
  unfold sp_X2_isDropped at h
  unfold wp_X2_isDropped
  obtain ⟨hp, h⟩ := h
  refine ⟨hp, ?_⟩
  obtain ⟨a1, hp, h⟩ := h
  refine ⟨a1, hp, ?_⟩
  obtain ⟨hp, h⟩ := h
  refine ⟨hp, ?_⟩
  intro i2 e_i2
  replace h := h i2.toInt ⟨Int32.le_toInt i2, Int32.toInt_lt i2⟩ (fun rr99 => (congrArg Int32.toInt e_i2).trans (taddI (tr_I rfl) t_x2 rr99))
  have t_i2 : i2.toInt = i2.toInt := rfl
  refine ⟨?_, ?_⟩
  · intro hc0
    replace h := h.1 (cltI t_x2 (show (0 : Int32).toInt = 0 from rfl) hc0)
    unfold wp_X2_isDropped_44
    unfold wp_X2_isDropped_45
    obtain ⟨hp, h⟩ := h
    refine ⟨(t01 (show (0 : Int32).toInt = 0 from rfl) hp), ?_⟩
    exact hQ _ _ _ (show (0 : Int32).toInt = 0 from rfl) h
  · intro hc0
    replace h := h.2 (cnltI t_x2 (show (0 : Int32).toInt = 0 from rfl) hc0)
    refine ⟨?_, ?_⟩
    · intro hc0
      replace h := h.1 (cleI (tr_I rfl) t_x2 hc0)
      unfold wp_X2_isDropped_44
      unfold wp_X2_isDropped_45
      obtain ⟨hp, h⟩ := h
      refine ⟨(t01 (show (0 : Int32).toInt = 0 from rfl) hp), ?_⟩
      exact hQ _ _ _ (show (0 : Int32).toInt = 0 from rfl) h
    · intro hc0
      replace h := h.2 (cnleI (tr_I rfl) t_x2 hc0)
      refine ⟨?_, ?_⟩
      · intro hc0
        replace h := h.1 (cltI t_i2 (show (0 : Int32).toInt = 0 from rfl) hc0)
        unfold wp_X2_isDropped_44
        unfold wp_X2_isDropped_45
        obtain ⟨hp, h⟩ := h
        refine ⟨(t01 (show (0 : Int32).toInt = 0 from rfl) hp), ?_⟩
        exact hQ _ _ _ (show (0 : Int32).toInt = 0 from rfl) h
      · intro hc0
        replace h := h.2 (cnltI t_i2 (show (0 : Int32).toInt = 0 from rfl) hc0)
        refine ⟨?_, ?_⟩
        · intro hc0
          replace h := h.1 (cleI (tr_I rfl) t_i2 hc0)
          unfold wp_X2_isDropped_44
          unfold wp_X2_isDropped_45
          obtain ⟨hp, h⟩ := h
          refine ⟨(t01 (show (0 : Int32).toInt = 0 from rfl) hp), ?_⟩
          exact hQ _ _ _ (show (0 : Int32).toInt = 0 from rfl) h
        · intro hc0
          replace h := h.2 (cnleI (tr_I rfl) t_i2 hc0)
          obtain ⟨hp, h⟩ := h
          refine ⟨(tinb t_i2 hp), ?_⟩
          refine ⟨?_, ?_⟩
          · intro hc0
            replace h := h.1 (ceqI (tr_I (tnatI t_i2)) (show (0 : Int32).toInt = 0 from rfl) hc0)
            unfold wp_X2_isDropped_44
            unfold wp_X2_isDropped_45
            obtain ⟨hp, h⟩ := h
            refine ⟨(t01 (show (0 : Int32).toInt = 0 from rfl) hp), ?_⟩
            exact hQ _ _ _ (show (0 : Int32).toInt = 0 from rfl) h
          · intro hc0
            replace h := h.2 (cneI (tr_I (tnatI t_i2)) (show (0 : Int32).toInt = 0 from rfl) hc0)
            unfold wp_X2_isDropped_45
            obtain ⟨hp, h⟩ := h
            refine ⟨(t01 (show (1 : Int32).toInt = 1 from rfl) hp), ?_⟩
            exact hQ _ _ _ (show (1 : Int32).toInt = 1 from rfl) h
theorem w_X2_countDropped_27 {Q : Int32 → Mem → Prop} {bQ : Int → Im → Prop} {K4 : Nat → Option Nat → Int32 → Int32 → Mem → Prop} {bK4 : Nat → Option Nat → Int → Int → Im → Prop} {K35 : Int32 → Mem → Prop} {bK35 : Int → Im → Prop} {x0 : Nat} {x1 : Nat} {x3 : Int32} {y_x3 : Int} {t0 : Int32} {y_t0 : Int} {t1 : Int32} {y_t1 : Int} {M : Mem} (t_x3 : x3.toInt = y_x3) (t_t0 : t0.toInt = y_t0) (t_t1 : t1.toInt = y_t1) (h : sp_X2_countDropped_27 x0 x1 y_x3 y_t0 y_t1 (ab M) bQ bK4 bK35) (hQ : ∀ (z0 : Int32) (u0 : Int) (m : Mem), z0.toInt = u0 → bQ u0 (ab m) → Q z0 m) (hK4 : ∀ (z0 : Nat) (z1 : Option Nat) (z2 : Int32) (u2 : Int) (z3 : Int32) (u3 : Int) (m : Mem), z2.toInt = u2 → z3.toInt = u3 → bK4 z0 z1 u2 u3 (ab m) → K4 z0 z1 z2 z3 m) (hK35 : ∀ (z0 : Int32) (u0 : Int) (m : Mem), z0.toInt = u0 → bK35 u0 (ab m) → K35 z0 m) : wp_X2_countDropped_27 x0 x1 x3 t0 t1 M Q K4 K35 := by
  unfold sp_X2_countDropped_27 at h
  unfold wp_X2_countDropped_27
  obtain ⟨rr102, h⟩ := h
  intro i4 e_i4
  have q_i4 := (congrArg Int32.toInt e_i4).trans (taddI t_t1 t_t0 rr102)
  replace h := h _ q_i4
  have t_i4 : i4.toInt = i4.toInt := rfl
  obtain ⟨rr103, h⟩ := h
  intro i5 e_i5
  have q_i5 := (congrArg Int32.toInt e_i5).trans (taddI t_x3 (show (1 : Int32).toInt = 1 from rfl) rr103)
  replace h := h _ q_i5
  have t_i5 : i5.toInt = i5.toInt := rfl
  exact hK4 _ _ _ _ _ _ _ t_i4 t_i5 h
theorem w_X2_countDropped_4 {Q : Int32 → Mem → Prop} {bQ : Int → Im → Prop} {K35 : Int32 → Mem → Prop} {bK35 : Int → Im → Prop} : ∀ {n : Nat} {x0 : Nat} {x1 : Option Nat} {x2 : Int32} {y_x2 : Int} {x3 : Int32} {y_x3 : Int} {M : Mem} (t_x2 : x2.toInt = y_x2) (t_x3 : x3.toInt = y_x3) (_ : sp_X2_countDropped_4 n x0 x1 y_x2 y_x3 (ab M) bQ bK35) (_ : ∀ (z0 : Int32) (u0 : Int) (m : Mem), z0.toInt = u0 → bQ u0 (ab m) → Q z0 m) (_ : ∀ (z0 : Int32) (u0 : Int) (m : Mem), z0.toInt = u0 → bK35 u0 (ab m) → K35 z0 m), wp_X2_countDropped_4 n x0 x1 x2 x3 M Q K35 := by
  intro n
  induction n with
  | zero => intro x0 x1 x2 y_x2 x3 y_x3 M t_x2 t_x3 h hQ hK35; exact h.elim
  | succ n ih =>
    intro x0 x1 x2 y_x2 x3 y_x3 M t_x2 t_x3 h hQ hK35
    unfold sp_X2_countDropped_4 at h
    unfold wp_X2_countDropped_4
    obtain ⟨a1, hp, h⟩ := h
    refine ⟨a1, hp, ?_⟩
    obtain ⟨hp, h⟩ := h
    refine ⟨hp, ?_⟩
    refine ⟨?_, ?_⟩
    · intro hc0
      replace h := h.1 (cleI (tr_I rfl) t_x3 hc0)
      exact hK35 _ _ _ t_x2 h
    · intro hc0
      replace h := h.2 (cnleI (tr_I rfl) t_x3 hc0)
      refine w_X2_isDropped t_x3 h (fun i3 y_i3 M2 t_i3 h => ?_)
      refine ⟨?_, ?_⟩
      · intro hc0
        replace h := h.1 (ceqI t_i3 (show (0 : Int32).toInt = 0 from rfl) hc0)
        refine w_X2_countDropped_27 t_x3 (show (0 : Int32).toInt = 0 from rfl) t_x2 h hQ (fun x0 x1 x2 y_x2 x3 y_x3 M t_x2 t_x3 h => ?_) hK35
        refine ih t_x2 t_x3 h hQ hK35
      · intro hc0
        replace h := h.2 (cneI t_i3 (show (0 : Int32).toInt = 0 from rfl) hc0)
        refine w_X2_countDropped_27 t_x3 (show (1 : Int32).toInt = 1 from rfl) t_x2 h hQ (fun x0 x1 x2 y_x2 x3 y_x3 M t_x2 t_x3 h => ?_) hK35
        refine ih t_x2 t_x3 h hQ hK35
theorem w_X2_countDropped {Q : Int32 → Mem → Prop} {bQ : Int → Im → Prop} {x0 : Nat} {x1 : Option Nat} {M : Mem} (h : sp_X2_countDropped x0 x1 (ab M) bQ) (hQ : ∀ (z0 : Int32) (u0 : Int) (m : Mem), z0.toInt = u0 → bQ u0 (ab m) → Q z0 m) : wp_X2_countDropped x0 x1 M Q := by
  unfold sp_X2_countDropped at h
  unfold wp_X2_countDropped
  obtain ⟨hp, h⟩ := h
  refine ⟨hp, ?_⟩
  obtain ⟨k4, h⟩ := h
  refine ⟨k4, ?_⟩
  refine w_X2_countDropped_4 (show (0 : Int32).toInt = 0 from rfl) (show (0 : Int32).toInt = 0 from rfl) h hQ (fun x2 y_x2 M t_x2 h => ?_)
  unfold wp_X2_countDropped_35
  exact hQ _ _ _ t_x2 h
theorem w_J9_abs_0f7a4 {Q : Int32 → Mem → Prop} {bQ : Int → Im → Prop} {x0 : Int32} {y_x0 : Int} {M : Mem} (t_x0 : x0.toInt = y_x0) (h : sp_J9_abs_0f7a4 y_x0 (ab M) bQ) (hQ : ∀ (z0 : Int32) (u0 : Int) (m : Mem), z0.toInt = u0 → bQ u0 (ab m) → Q z0 m) : wp_J9_abs_0f7a4 x0 M Q := by
  unfold sp_J9_abs_0f7a4 at h
  unfold wp_J9_abs_0f7a4
  refine ⟨?_, ?_⟩
  · intro hc0
    replace h := h.1 (cleI (show (0 : Int32).toInt = 0 from rfl) t_x0 hc0)
    unfold wp_J9_abs_0f7a4_10
    exact hQ _ _ _ t_x0 h
  · intro hc0
    replace h := h.2 (cnleI (show (0 : Int32).toInt = 0 from rfl) t_x0 hc0)
    unfold wp_J9_abs_0f7a4_10
    obtain ⟨rr105, h⟩ := h
    exact hQ _ _ _ (tnegI t_x0 rr105) h
theorem w_J9_max_7cf53 {Q : Int32 → Mem → Prop} {bQ : Int → Im → Prop} {x0 : Int32} {y_x0 : Int} {x1 : Int32} {y_x1 : Int} {M : Mem} (t_x0 : x0.toInt = y_x0) (t_x1 : x1.toInt = y_x1) (h : sp_J9_max_7cf53 y_x0 y_x1 (ab M) bQ) (hQ : ∀ (z0 : Int32) (u0 : Int) (m : Mem), z0.toInt = u0 → bQ u0 (ab m) → Q z0 m) : wp_J9_max_7cf53 x0 x1 M Q := by
  unfold sp_J9_max_7cf53 at h
  unfold wp_J9_max_7cf53
  refine ⟨?_, ?_⟩
  · intro hc0
    replace h := h.1 (cltI t_x0 t_x1 hc0)
    unfold wp_J9_max_7cf53_10
    exact hQ _ _ _ t_x1 h
  · intro hc0
    replace h := h.2 (cnltI t_x0 t_x1 hc0)
    unfold wp_J9_max_7cf53_10
    exact hQ _ _ _ t_x0 h
theorem w_X2_greatestMiss_13 {Q : Int32 → Mem → Prop} {bQ : Int → Im → Prop} {K58 : Int32 → Mem → Prop} {bK58 : Int → Im → Prop} : ∀ {n : Nat} {x0 : Nat} {x1 : Option Nat} {x2 : Int64} {y_x2 : Int} {x4 : Int32} {y_x4 : Int} {x5 : Int32} {y_x5 : Int} {M : Mem} (t_x2 : x2.toInt = y_x2) (t_x4 : x4.toInt = y_x4) (t_x5 : x5.toInt = y_x5) (_ : sp_X2_greatestMiss_13 n x0 x1 y_x2 y_x4 y_x5 (ab M) bQ bK58) (_ : ∀ (z0 : Int32) (u0 : Int) (m : Mem), z0.toInt = u0 → bQ u0 (ab m) → Q z0 m) (_ : ∀ (z0 : Int32) (u0 : Int) (m : Mem), z0.toInt = u0 → bK58 u0 (ab m) → K58 z0 m), wp_X2_greatestMiss_13 n x0 x1 x2 x4 x5 M Q K58 := by
  intro n
  induction n with
  | zero => intro x0 x1 x2 y_x2 x4 y_x4 x5 y_x5 M t_x2 t_x4 t_x5 h hQ hK58; exact h.elim
  | succ n ih =>
    intro x0 x1 x2 y_x2 x4 y_x4 x5 y_x5 M t_x2 t_x4 t_x5 h hQ hK58
    unfold sp_X2_greatestMiss_13 at h
    unfold wp_X2_greatestMiss_13
    obtain ⟨a1, hp, h⟩ := h
    refine ⟨a1, hp, ?_⟩
    obtain ⟨hp, h⟩ := h
    refine ⟨hp, ?_⟩
    refine ⟨?_, ?_⟩
    · intro hc0
      replace h := h.1 (cleI (tr_I rfl) t_x5 hc0)
      exact hK58 _ _ _ t_x4 h
    · intro hc0
      replace h := h.2 (cnleI (tr_I rfl) t_x5 hc0)
      refine w_X2_keyOf t_x5 h (fun j3 y_j3 M2 t_j3 h => ?_)
      obtain ⟨rr110, h⟩ := h
      refine w_X0_guessAway (tsubJ t_j3 t_x2 rr110) h (fun i5 y_i5 M4 t_i5 h => ?_)
      obtain ⟨rr111, h⟩ := h
      refine w_J9_abs_0f7a4 (tsubI t_i5 t_x5 rr111) h (fun i7 y_i7 M6 t_i7 h => ?_)
      refine w_J9_max_7cf53 t_x4 t_i7 h (fun i9 y_i9 M8 t_i9 h => ?_)
      obtain ⟨rr112, h⟩ := h
      intro i10 e_i10
      have q_i10 := (congrArg Int32.toInt e_i10).trans (taddI t_x5 (show (1 : Int32).toInt = 1 from rfl) rr112)
      replace h := h _ q_i10
      have t_i10 : i10.toInt = i10.toInt := rfl
      refine ih t_x2 t_i9 t_i10 h hQ hK58
theorem w_X2_greatestMiss {Q : Int32 → Mem → Prop} {bQ : Int → Im → Prop} {x0 : Nat} {x1 : Option Nat} {M : Mem} (h : sp_X2_greatestMiss x0 x1 (ab M) bQ) (hQ : ∀ (z0 : Int32) (u0 : Int) (m : Mem), z0.toInt = u0 → bQ u0 (ab m) → Q z0 m) : wp_X2_greatestMiss x0 x1 M Q := by
  unfold sp_X2_greatestMiss at h
  unfold wp_X2_greatestMiss
  obtain ⟨hp, h⟩ := h
  refine ⟨hp, ?_⟩
  refine w_X2_keyOf (show (0 : Int32).toInt = 0 from rfl) h (fun j12 y_j12 M11 t_j12 h => ?_)
  obtain ⟨k13, h⟩ := h
  refine ⟨k13, ?_⟩
  refine w_X2_greatestMiss_13 t_j12 (show (0 : Int32).toInt = 0 from rfl) (show (0 : Int32).toInt = 0 from rfl) h hQ (fun x4 y_x4 M t_x4 h => ?_)
  unfold wp_X2_greatestMiss_58
  exact hQ _ _ _ t_x4 h
theorem w_X2_firstKeys_46 {Q : Int32 → Mem → Prop} {bQ : Int → Im → Prop} {K4 : Nat → Option Nat → Int32 → Int32 → Mem → Prop} {bK4 : Nat → Option Nat → Int → Int → Im → Prop} {K56 : Int32 → Mem → Prop} {bK56 : Int → Im → Prop} {x0 : Nat} {x1 : Nat} {x2 : Int32} {y_x2 : Int} {x3 : Int32} {y_x3 : Int} {t0 : Int64} {y_t0 : Int} {t1 : Int32} {y_t1 : Int} {t2 : Nat} {M : Mem} (t_x2 : x2.toInt = y_x2) (t_x3 : x3.toInt = y_x3) (t_t0 : t0.toInt = y_t0) (t_t1 : t1.toInt = y_t1) (h : sp_X2_firstKeys_46 x0 x1 y_x2 y_x3 y_t0 y_t1 t2 (ab M) bQ bK4 bK56) (hQ : ∀ (z0 : Int32) (u0 : Int) (m : Mem), z0.toInt = u0 → bQ u0 (ab m) → Q z0 m) (hK4 : ∀ (z0 : Nat) (z1 : Option Nat) (z2 : Int32) (u2 : Int) (z3 : Int32) (u3 : Int) (m : Mem), z2.toInt = u2 → z3.toInt = u3 → bK4 z0 z1 u2 u3 (ab m) → K4 z0 z1 z2 z3 m) (hK56 : ∀ (z0 : Int32) (u0 : Int) (m : Mem), z0.toInt = u0 → bK56 u0 (ab m) → K56 z0 m) : wp_X2_firstKeys_46 x0 x1 x2 x3 t0 t1 t2 M Q K4 K56 := by
  unfold sp_X2_firstKeys_46 at h
  unfold wp_X2_firstKeys_46
  obtain ⟨hp, h⟩ := h
  refine ⟨(tinb t_t1 hp), ?_⟩
  intro M6 e_M6
  replace h := h (ab M6) ((congrArg ab e_M6).trans (ab_sL (tnatI t_t1) t_t0))
  obtain ⟨rr115, h⟩ := h
  intro i7 e_i7
  have q_i7 := (congrArg Int32.toInt e_i7).trans (taddI t_x2 (show (1 : Int32).toInt = 1 from rfl) rr115)
  replace h := h _ q_i7
  have t_i7 : i7.toInt = i7.toInt := rfl
  obtain ⟨rr116, h⟩ := h
  intro i8 e_i8
  have q_i8 := (congrArg Int32.toInt e_i8).trans (taddI t_x3 (show (1 : Int32).toInt = 1 from rfl) rr116)
  replace h := h _ q_i8
  have t_i8 : i8.toInt = i8.toInt := rfl
  exact hK4 _ _ _ _ _ _ _ t_i7 t_i8 h
theorem w_X2_firstKeys_4 {Q : Int32 → Mem → Prop} {bQ : Int → Im → Prop} {K56 : Int32 → Mem → Prop} {bK56 : Int → Im → Prop} : ∀ {n : Nat} {x0 : Nat} {x1 : Option Nat} {x2 : Int32} {y_x2 : Int} {x3 : Int32} {y_x3 : Int} {M : Mem} (t_x2 : x2.toInt = y_x2) (t_x3 : x3.toInt = y_x3) (_ : sp_X2_firstKeys_4 n x0 x1 y_x2 y_x3 (ab M) bQ bK56) (_ : ∀ (z0 : Int32) (u0 : Int) (m : Mem), z0.toInt = u0 → bQ u0 (ab m) → Q z0 m) (_ : ∀ (z0 : Int32) (u0 : Int) (m : Mem), z0.toInt = u0 → bK56 u0 (ab m) → K56 z0 m), wp_X2_firstKeys_4 n x0 x1 x2 x3 M Q K56 := by
  intro n
  induction n with
  | zero => intro x0 x1 x2 y_x2 x3 y_x3 M t_x2 t_x3 h hQ hK56; exact h.elim
  | succ n ih =>
    intro x0 x1 x2 y_x2 x3 y_x3 M t_x2 t_x3 h hQ hK56
    unfold sp_X2_firstKeys_4 at h
    unfold wp_X2_firstKeys_4
    refine ⟨?_, ?_⟩
    · intro hc0
      replace h := h.1 (cleI (tr_I rfl) t_x3 hc0)
      exact hK56 _ _ _ t_x2 h
    · intro hc0
      replace h := h.2 (cnleI (tr_I rfl) t_x3 hc0)
      obtain ⟨a1, hp, h⟩ := h
      refine ⟨a1, hp, ?_⟩
      obtain ⟨hp, h⟩ := h
      refine ⟨hp, ?_⟩
      refine ⟨?_, ?_⟩
      · intro hc0
        replace h := h.1 (cleI (t_alen _) t_x3 hc0)
        exact hK56 _ _ _ t_x2 h
      · intro hc0
        replace h := h.2 (cnleI (t_alen _) t_x3 hc0)
        obtain ⟨hp, h⟩ := h
        refine ⟨(tinb t_x3 hp), ?_⟩
        intro r2 e_r2
        replace h := h r2 (e_r2.trans (tr_R (tnatI t_x3)))
        refine ⟨?_, ?_⟩
        · intro hc0
          replace h := h.1 hc0
          refine w_X2_firstKeys_46 t_x2 t_x3 (show (-9223372036854775808 : Int64).toInt = -9223372036854775808 from rfl) t_x3 h hQ (fun x0 x1 x2 y_x2 x3 y_x3 M t_x2 t_x3 h => ?_) hK56
          refine ih t_x2 t_x3 h hQ hK56
        · intro a3 hc
          replace h := h.2 a3 hc
          refine w_X2_keyOf (show (0 : Int32).toInt = 0 from rfl) h (fun j5 y_j5 M4 t_j5 h => ?_)
          refine w_X2_firstKeys_46 t_x2 t_x3 t_j5 t_x3 h hQ (fun x0 x1 x2 y_x2 x3 y_x3 M t_x2 t_x3 h => ?_) hK56
          refine ih t_x2 t_x3 h hQ hK56
theorem w_X2_firstKeys {Q : Int32 → Mem → Prop} {bQ : Int → Im → Prop} {x0 : Nat} {x1 : Option Nat} {M : Mem} (h : sp_X2_firstKeys x0 x1 (ab M) bQ) (hQ : ∀ (z0 : Int32) (u0 : Int) (m : Mem), z0.toInt = u0 → bQ u0 (ab m) → Q z0 m) : wp_X2_firstKeys x0 x1 M Q := by
  unfold sp_X2_firstKeys at h
  unfold wp_X2_firstKeys
  obtain ⟨hp, h⟩ := h
  refine ⟨hp, ?_⟩
  obtain ⟨k4, h⟩ := h
  refine ⟨k4, ?_⟩
  refine w_X2_firstKeys_4 (show (0 : Int32).toInt = 0 from rfl) (show (0 : Int32).toInt = 0 from rfl) h hQ (fun x2 y_x2 M t_x2 h => ?_)
  unfold wp_X2_firstKeys_56
  exact hQ _ _ _ t_x2 h
theorem w_J9_min_7cf53 {Q : Int32 → Mem → Prop} {bQ : Int → Im → Prop} {x0 : Int32} {y_x0 : Int} {x1 : Int32} {y_x1 : Int} {M : Mem} (t_x0 : x0.toInt = y_x0) (t_x1 : x1.toInt = y_x1) (h : sp_J9_min_7cf53 y_x0 y_x1 (ab M) bQ) (hQ : ∀ (z0 : Int32) (u0 : Int) (m : Mem), z0.toInt = u0 → bQ u0 (ab m) → Q z0 m) : wp_J9_min_7cf53 x0 x1 M Q := by
  unfold sp_J9_min_7cf53 at h
  unfold wp_J9_min_7cf53
  refine ⟨?_, ?_⟩
  · intro hc0
    replace h := h.1 (cltI t_x1 t_x0 hc0)
    unfold wp_J9_min_7cf53_10
    exact hQ _ _ _ t_x1 h
  · intro hc0
    replace h := h.2 (cnltI t_x1 t_x0 hc0)
    unfold wp_J9_min_7cf53_10
    exact hQ _ _ _ t_x0 h
theorem w_X2_gather_138 {Q : Int32 → Mem → Prop} {bQ : Int → Im → Prop} {K85 : Nat → Option Nat → Int32 → Int32 → Int32 → Int32 → Int32 → Mem → Prop} {bK85 : Nat → Option Nat → Int → Int → Int → Int → Int → Im → Prop} {K195 : Int32 → Mem → Prop} {bK195 : Int → Im → Prop} {x0 : Nat} {x3 : Nat} {x6 : Int32} {y_x6 : Int} {x7 : Int32} {y_x7 : Int} {x8 : Int32} {y_x8 : Int} {x9 : Int32} {y_x9 : Int} {x10 : Int32} {y_x10 : Int} {M : Mem} (t_x6 : x6.toInt = y_x6) (t_x7 : x7.toInt = y_x7) (t_x8 : x8.toInt = y_x8) (t_x9 : x9.toInt = y_x9) (t_x10 : x10.toInt = y_x10) (h : sp_X2_gather_138 x0 x3 y_x6 y_x7 y_x8 y_x9 y_x10 (ab M) bQ bK85 bK195) (hQ : ∀ (z0 : Int32) (u0 : Int) (m : Mem), z0.toInt = u0 → bQ u0 (ab m) → Q z0 m) (hK85 : ∀ (z0 : Nat) (z1 : Option Nat) (z2 : Int32) (u2 : Int) (z3 : Int32) (u3 : Int) (z4 : Int32) (u4 : Int) (z5 : Int32) (u5 : Int) (z6 : Int32) (u6 : Int) (m : Mem), z2.toInt = u2 → z3.toInt = u3 → z4.toInt = u4 → z5.toInt = u5 → z6.toInt = u6 → bK85 z0 z1 u2 u3 u4 u5 u6 (ab m) → K85 z0 z1 z2 z3 z4 z5 z6 m) (hK195 : ∀ (z0 : Int32) (u0 : Int) (m : Mem), z0.toInt = u0 → bK195 u0 (ab m) → K195 z0 m) : wp_X2_gather_138 x0 x3 x6 x7 x8 x9 x10 M Q K85 K195 := by
  unfold sp_X2_gather_138 at h
  unfold wp_X2_gather_138
  obtain ⟨hp, h⟩ := h
  refine ⟨(tinb t_x9 hp), ?_⟩
  obtain ⟨hp, h⟩ := h
  refine ⟨(tinb t_x10 hp), ?_⟩
  intro M2 e_M2
  replace h := h (ab M2) ((congrArg ab e_M2).trans (ab_sL (tnatI t_x10) (tr_L (tnatI t_x9))))
  obtain ⟨rr119, h⟩ := h
  intro i3 e_i3
  have q_i3 := (congrArg Int32.toInt e_i3).trans (taddI t_x10 (show (1 : Int32).toInt = 1 from rfl) rr119)
  replace h := h _ q_i3
  have t_i3 : i3.toInt = i3.toInt := rfl
  obtain ⟨rr120, h⟩ := h
  intro i4 e_i4
  have q_i4 := (congrArg Int32.toInt e_i4).trans (taddI t_x9 (show (1 : Int32).toInt = 1 from rfl) rr120)
  replace h := h _ q_i4
  have t_i4 : i4.toInt = i4.toInt := rfl
  exact hK85 _ _ _ _ _ _ _ _ _ _ _ _ _ t_x6 t_x7 t_x8 t_i4 t_i3 h
theorem w_X2_gather_186 {Q : Int32 → Mem → Prop} {bQ : Int → Im → Prop} {K85 : Nat → Option Nat → Int32 → Int32 → Int32 → Int32 → Int32 → Mem → Prop} {bK85 : Nat → Option Nat → Int → Int → Int → Int → Int → Im → Prop} {K195 : Int32 → Mem → Prop} {bK195 : Int → Im → Prop} {x0 : Nat} {x3 : Nat} {x6 : Int32} {y_x6 : Int} {x7 : Int32} {y_x7 : Int} {x8 : Int32} {y_x8 : Int} {x9 : Int32} {y_x9 : Int} {t0 : Int32} {y_t0 : Int} {t1 : Int32} {y_t1 : Int} {M : Mem} (t_x6 : x6.toInt = y_x6) (t_x7 : x7.toInt = y_x7) (t_x8 : x8.toInt = y_x8) (t_x9 : x9.toInt = y_x9) (t_t0 : t0.toInt = y_t0) (t_t1 : t1.toInt = y_t1) (h : sp_X2_gather_186 x0 x3 y_x6 y_x7 y_x8 y_x9 y_t0 y_t1 (ab M) bQ bK85 bK195) (hQ : ∀ (z0 : Int32) (u0 : Int) (m : Mem), z0.toInt = u0 → bQ u0 (ab m) → Q z0 m) (hK85 : ∀ (z0 : Nat) (z1 : Option Nat) (z2 : Int32) (u2 : Int) (z3 : Int32) (u3 : Int) (z4 : Int32) (u4 : Int) (z5 : Int32) (u5 : Int) (z6 : Int32) (u6 : Int) (m : Mem), z2.toInt = u2 → z3.toInt = u3 → z4.toInt = u4 → z5.toInt = u5 → z6.toInt = u6 → bK85 z0 z1 u2 u3 u4 u5 u6 (ab m) → K85 z0 z1 z2 z3 z4 z5 z6 m) (hK195 : ∀ (z0 : Int32) (u0 : Int) (m : Mem), z0.toInt = u0 → bK195 u0 (ab m) → K195 z0 m) : wp_X2_gather_186 x0 x3 x6 x7 x8 x9 t0 t1 M Q K85 K195 := by
  unfold sp_X2_gather_186 at h
  unfold wp_X2_gather_186
  obtain ⟨rr123, h⟩ := h
  intro i6 e_i6
  have q_i6 := (congrArg Int32.toInt e_i6).trans (taddI t_t1 t_t0 rr123)
  replace h := h _ q_i6
  have t_i6 : i6.toInt = i6.toInt := rfl
  obtain ⟨rr124, h⟩ := h
  intro i7 e_i7
  have q_i7 := (congrArg Int32.toInt e_i7).trans (taddI t_x8 (show (1 : Int32).toInt = 1 from rfl) rr124)
  replace h := h _ q_i7
  have t_i7 : i7.toInt = i7.toInt := rfl
  exact hK85 _ _ _ _ _ _ _ _ _ _ _ _ _ t_x6 t_x7 t_i7 t_x9 t_i6 h
theorem w_X2_gather_158 {Q : Int32 → Mem → Prop} {bQ : Int → Im → Prop} {K85 : Nat → Option Nat → Int32 → Int32 → Int32 → Int32 → Int32 → Mem → Prop} {bK85 : Nat → Option Nat → Int → Int → Int → Int → Int → Im → Prop} {K195 : Int32 → Mem → Prop} {bK195 : Int → Im → Prop} {x0 : Nat} {x3 : Nat} {x6 : Int32} {y_x6 : Int} {x7 : Int32} {y_x7 : Int} {x8 : Int32} {y_x8 : Int} {x9 : Int32} {y_x9 : Int} {x10 : Int32} {y_x10 : Int} {M : Mem} (t_x6 : x6.toInt = y_x6) (t_x7 : x7.toInt = y_x7) (t_x8 : x8.toInt = y_x8) (t_x9 : x9.toInt = y_x9) (t_x10 : x10.toInt = y_x10) (h : sp_X2_gather_158 x0 x3 y_x6 y_x7 y_x8 y_x9 y_x10 (ab M) bQ bK85 bK195) (hQ : ∀ (z0 : Int32) (u0 : Int) (m : Mem), z0.toInt = u0 → bQ u0 (ab m) → Q z0 m) (hK85 : ∀ (z0 : Nat) (z1 : Option Nat) (z2 : Int32) (u2 : Int) (z3 : Int32) (u3 : Int) (z4 : Int32) (u4 : Int) (z5 : Int32) (u5 : Int) (z6 : Int32) (u6 : Int) (m : Mem), z2.toInt = u2 → z3.toInt = u3 → z4.toInt = u4 → z5.toInt = u5 → z6.toInt = u6 → bK85 z0 z1 u2 u3 u4 u5 u6 (ab m) → K85 z0 z1 z2 z3 z4 z5 z6 m) (hK195 : ∀ (z0 : Int32) (u0 : Int) (m : Mem), z0.toInt = u0 → bK195 u0 (ab m) → K195 z0 m) : wp_X2_gather_158 x0 x3 x6 x7 x8 x9 x10 M Q K85 K195 := by
  unfold sp_X2_gather_158 at h
  unfold wp_X2_gather_158
  obtain ⟨hp, h⟩ := h
  refine ⟨(tinb t_x8 hp), ?_⟩
  obtain ⟨hp, h⟩ := h
  refine ⟨(tinb t_x10 hp), ?_⟩
  intro M5 e_M5
  replace h := h (ab M5) ((congrArg ab e_M5).trans (ab_sL (tnatI t_x10) (tr_L (tnatI t_x8))))
  obtain ⟨hp, h⟩ := h
  refine ⟨(tinb t_x8 hp), ?_⟩
  refine ⟨?_, ?_⟩
  · intro hc0
    replace h := h.1 (ceqI (tr_I (tnatI t_x8)) (show (0 : Int32).toInt = 0 from rfl) hc0)
    refine w_X2_gather_186 t_x6 t_x7 t_x8 t_x9 (show (1 : Int32).toInt = 1 from rfl) t_x10 h hQ hK85 hK195
  · intro hc0
    replace h := h.2 (cneI (tr_I (tnatI t_x8)) (show (0 : Int32).toInt = 0 from rfl) hc0)
    refine w_X2_gather_186 t_x6 t_x7 t_x8 t_x9 (show (0 : Int32).toInt = 0 from rfl) t_x10 h hQ hK85 hK195
theorem w_X2_gather_99 {Q : Int32 → Mem → Prop} {bQ : Int → Im → Prop} {K85 : Nat → Option Nat → Int32 → Int32 → Int32 → Int32 → Int32 → Mem → Prop} {bK85 : Nat → Option Nat → Int → Int → Int → Int → Int → Im → Prop} {K195 : Int32 → Mem → Prop} {bK195 : Int → Im → Prop} {x0 : Nat} {x3 : Option Nat} {x6 : Int32} {y_x6 : Int} {x7 : Int32} {y_x7 : Int} {x8 : Int32} {y_x8 : Int} {x9 : Int32} {y_x9 : Int} {x10 : Int32} {y_x10 : Int} {M : Mem} (t_x6 : x6.toInt = y_x6) (t_x7 : x7.toInt = y_x7) (t_x8 : x8.toInt = y_x8) (t_x9 : x9.toInt = y_x9) (t_x10 : x10.toInt = y_x10) (h : sp_X2_gather_99 x0 x3 y_x6 y_x7 y_x8 y_x9 y_x10 (ab M) bQ bK85 bK195) (hQ : ∀ (z0 : Int32) (u0 : Int) (m : Mem), z0.toInt = u0 → bQ u0 (ab m) → Q z0 m) (hK85 : ∀ (z0 : Nat) (z1 : Option Nat) (z2 : Int32) (u2 : Int) (z3 : Int32) (u3 : Int) (z4 : Int32) (u4 : Int) (z5 : Int32) (u5 : Int) (z6 : Int32) (u6 : Int) (m : Mem), z2.toInt = u2 → z3.toInt = u3 → z4.toInt = u4 → z5.toInt = u5 → z6.toInt = u6 → bK85 z0 z1 u2 u3 u4 u5 u6 (ab m) → K85 z0 z1 z2 z3 z4 z5 z6 m) (hK195 : ∀ (z0 : Int32) (u0 : Int) (m : Mem), z0.toInt = u0 → bK195 u0 (ab m) → K195 z0 m) : wp_X2_gather_99 x0 x3 x6 x7 x8 x9 x10 M Q K85 K195 := by
  unfold sp_X2_gather_99 at h
  unfold wp_X2_gather_99
  obtain ⟨a1, hp, h⟩ := h
  refine ⟨a1, hp, ?_⟩
  obtain ⟨hp, h⟩ := h
  refine ⟨hp, ?_⟩
  refine ⟨?_, ?_⟩
  · intro hc0
    replace h := h.1 (cleI (t_alen _) t_x10 hc0)
    exact hK195 _ _ _ t_x10 h
  · intro hc0
    replace h := h.2 (cnleI (t_alen _) t_x10 hc0)
    refine ⟨?_, ?_⟩
    · intro hc0
      replace h := h.1 (cleI t_x7 t_x8 hc0)
      refine w_X2_gather_138 t_x6 t_x7 t_x8 t_x9 t_x10 h hQ hK85 hK195
    · intro hc0
      replace h := h.2 (cnleI t_x7 t_x8 hc0)
      refine ⟨?_, ?_⟩
      · intro hc0
        replace h := h.1 (cleI t_x6 t_x9 hc0)
        refine w_X2_gather_158 t_x6 t_x7 t_x8 t_x9 t_x10 h hQ hK85 hK195
      · intro hc0
        replace h := h.2 (cnleI t_x6 t_x9 hc0)
        obtain ⟨hp, h⟩ := h
        refine ⟨(tinb t_x9 hp), ?_⟩
        obtain ⟨hp, h⟩ := h
        refine ⟨(tinb t_x8 hp), ?_⟩
        refine ⟨?_, ?_⟩
        · intro hc0
          replace h := h.1 (cleJ (tr_L (tnatI t_x8)) (tr_L (tnatI t_x9)) hc0)
          refine w_X2_gather_158 t_x6 t_x7 t_x8 t_x9 t_x10 h hQ hK85 hK195
        · intro hc0
          replace h := h.2 (cnleJ (tr_L (tnatI t_x8)) (tr_L (tnatI t_x9)) hc0)
          refine w_X2_gather_138 t_x6 t_x7 t_x8 t_x9 t_x10 h hQ hK85 hK195
theorem w_X2_gather_85 {Q : Int32 → Mem → Prop} {bQ : Int → Im → Prop} {K195 : Int32 → Mem → Prop} {bK195 : Int → Im → Prop} : ∀ {n : Nat} {x0 : Nat} {x3 : Option Nat} {x6 : Int32} {y_x6 : Int} {x7 : Int32} {y_x7 : Int} {x8 : Int32} {y_x8 : Int} {x9 : Int32} {y_x9 : Int} {x10 : Int32} {y_x10 : Int} {M : Mem} (t_x6 : x6.toInt = y_x6) (t_x7 : x7.toInt = y_x7) (t_x8 : x8.toInt = y_x8) (t_x9 : x9.toInt = y_x9) (t_x10 : x10.toInt = y_x10) (_ : sp_X2_gather_85 n x0 x3 y_x6 y_x7 y_x8 y_x9 y_x10 (ab M) bQ bK195) (_ : ∀ (z0 : Int32) (u0 : Int) (m : Mem), z0.toInt = u0 → bQ u0 (ab m) → Q z0 m) (_ : ∀ (z0 : Int32) (u0 : Int) (m : Mem), z0.toInt = u0 → bK195 u0 (ab m) → K195 z0 m), wp_X2_gather_85 n x0 x3 x6 x7 x8 x9 x10 M Q K195 := by
  intro n
  induction n with
  | zero => intro x0 x3 x6 y_x6 x7 y_x7 x8 y_x8 x9 y_x9 x10 y_x10 M t_x6 t_x7 t_x8 t_x9 t_x10 h hQ hK195; exact h.elim
  | succ n ih =>
    intro x0 x3 x6 y_x6 x7 y_x7 x8 y_x8 x9 y_x9 x10 y_x10 M t_x6 t_x7 t_x8 t_x9 t_x10 h hQ hK195
    unfold sp_X2_gather_85 at h
    unfold wp_X2_gather_85
    refine ⟨?_, ?_⟩
    · intro hc0
      replace h := h.1 (cltI t_x8 t_x7 hc0)
      refine w_X2_gather_99 t_x6 t_x7 t_x8 t_x9 t_x10 h hQ (fun x0 x3 x6 y_x6 x7 y_x7 x8 y_x8 x9 y_x9 x10 y_x10 M t_x6 t_x7 t_x8 t_x9 t_x10 h => ?_) hK195
      refine ih t_x6 t_x7 t_x8 t_x9 t_x10 h hQ hK195
    · intro hc0
      replace h := h.2 (cnltI t_x8 t_x7 hc0)
      refine ⟨?_, ?_⟩
      · intro hc0
        replace h := h.1 (cleI t_x6 t_x9 hc0)
        exact hK195 _ _ _ t_x10 h
      · intro hc0
        replace h := h.2 (cnleI t_x6 t_x9 hc0)
        refine w_X2_gather_99 t_x6 t_x7 t_x8 t_x9 t_x10 h hQ (fun x0 x3 x6 y_x6 x7 y_x7 x8 y_x8 x9 y_x9 x10 y_x10 M t_x6 t_x7 t_x8 t_x9 t_x10 h => ?_) hK195
        refine ih t_x6 t_x7 t_x8 t_x9 t_x10 h hQ hK195
theorem w_X2_gather {Q : Int32 → Mem → Prop} {bQ : Int → Im → Prop} {x0 : Nat} {x1 : Int32} {y_x1 : Int} {x2 : Int32} {y_x2 : Int} {x3 : Option Nat} {M : Mem} (t_x1 : x1.toInt = y_x1) (t_x2 : x2.toInt = y_x2) (h : sp_X2_gather x0 y_x1 y_x2 x3 (ab M) bQ) (hQ : ∀ (z0 : Int32) (u0 : Int) (m : Mem), z0.toInt = u0 → bQ u0 (ab m) → Q z0 m) : wp_X2_gather x0 x1 x2 x3 M Q := by
  unfold sp_X2_gather at h
  unfold wp_X2_gather
  obtain ⟨hp, h⟩ := h
  refine ⟨hp, ?_⟩
  refine w_X2_pieceAt t_x1 h (fun r9 M8 h => ?_)
  obtain ⟨rr128, h⟩ := h
  refine w_X2_pieceAt (tsubI t_x2 (show (1 : Int32).toInt = 1 from rfl) rr128) h (fun r11 M10 h => ?_)
  refine ⟨?_, ?_⟩
  · intro hc0
    replace h := h.1 hc0
    unfold wp_X2_gather_26
    exact hQ _ _ _ (show (0 : Int32).toInt = 0 from rfl) h
  · intro a12 hc
    replace h := h.2 a12 hc
    refine ⟨?_, ?_⟩
    · intro hc0
      replace h := h.1 hc0
      unfold wp_X2_gather_26
      exact hQ _ _ _ (show (0 : Int32).toInt = 0 from rfl) h
    · intro a13 hc
      replace h := h.2 a13 hc
      obtain ⟨hp, h⟩ := h
      refine ⟨hp, ?_⟩
      obtain ⟨rr129, h⟩ := h
      refine w_J9_min_7cf53 (taddI (tr_I rfl) (tr_I rfl) rr129) (tr_I rfl) h (fun i16 y_i16 M15 t_i16 h => ?_)
      obtain ⟨rr130, h⟩ := h
      refine w_J9_min_7cf53 (taddI (tr_I rfl) (tr_I rfl) rr130) (tr_I rfl) h (fun i18 y_i18 M17 t_i18 h => ?_)
      obtain ⟨hp, h⟩ := h
      refine ⟨hp, ?_⟩
      intro i20 e_i20
      have q_i20 := (congrArg Int32.toInt e_i20).trans (tr_I rfl)
      replace h := h _ q_i20
      have t_i20 : i20.toInt = i20.toInt := rfl
      intro i21 e_i21
      have q_i21 := (congrArg Int32.toInt e_i21).trans (tr_I rfl)
      replace h := h _ q_i21
      have t_i21 : i21.toInt = i21.toInt := rfl
      obtain ⟨k85, h⟩ := h
      refine ⟨k85, ?_⟩
      refine w_X2_gather_85 t_i16 t_i18 t_i20 t_i21 (show (0 : Int32).toInt = 0 from rfl) h hQ (fun x10 y_x10 M t_x10 h => ?_)
      unfold wp_X2_gather_195
      exact hQ _ _ _ t_x10 h
theorem w_X2_append_128 {Q : Option Nat → Mem → Prop} {bQ : Option Nat → Im → Prop} {K171 : Nat → Int32 → Nat → Mem → Prop} {bK171 : Nat → Int → Nat → Im → Prop} : ∀ {n : Nat} {x0 : Nat} {x1 : Option Nat} {x2 : Int32} {y_x2 : Int} {x3 : Int32} {y_x3 : Int} {x5 : Nat} {x6 : Int32} {y_x6 : Int} {M : Mem} (t_x2 : x2.toInt = y_x2) (t_x3 : x3.toInt = y_x3) (t_x6 : x6.toInt = y_x6) (_ : sp_X2_append_128 n x0 x1 y_x2 y_x3 x5 y_x6 (ab M) bQ bK171) (_ : ∀ (z0 : Option Nat) (m : Mem), bQ z0 (ab m) → Q z0 m) (_ : ∀ (z0 : Nat) (z1 : Int32) (u1 : Int) (z2 : Nat) (m : Mem), z1.toInt = u1 → bK171 z0 u1 z2 (ab m) → K171 z0 z1 z2 m), wp_X2_append_128 n x0 x1 x2 x3 x5 x6 M Q K171 := by
  intro n
  induction n with
  | zero => intro x0 x1 x2 y_x2 x3 y_x3 x5 x6 y_x6 M t_x2 t_x3 t_x6 h hQ hK171; exact h.elim
  | succ n ih =>
    intro x0 x1 x2 y_x2 x3 y_x3 x5 x6 y_x6 M t_x2 t_x3 t_x6 h hQ hK171
    unfold sp_X2_append_128 at h
    unfold wp_X2_append_128
    refine ⟨?_, ?_⟩
    · intro hc0
      replace h := h.1 (cleI t_x3 t_x6 hc0)
      exact hK171 _ _ _ _ _ t_x3 h
    · intro hc0
      replace h := h.2 (cnleI t_x3 t_x6 hc0)
      obtain ⟨a13, hp, h⟩ := h
      refine ⟨a13, hp, ?_⟩
      obtain ⟨hp, h⟩ := h
      refine ⟨hp, ?_⟩
      obtain ⟨rr138, h⟩ := h
      obtain ⟨hp, h⟩ := h
      refine ⟨(tinb (taddI t_x2 t_x6 rr138) hp), ?_⟩
      obtain ⟨rr139, h⟩ := h
      obtain ⟨hp, h⟩ := h
      refine ⟨(tinb (taddI (tr_I rfl) t_x6 rr139) hp), ?_⟩
      obtain ⟨rr140, h⟩ := h
      obtain ⟨rr141, h⟩ := h
      intro M14 e_M14
      replace h := h (ab M14) ((congrArg ab e_M14).trans (ab_sL (tnatI (taddI (tr_I rfl) t_x6 rr140)) (tr_L (tnatI (taddI t_x2 t_x6 rr141)))))
      obtain ⟨rr142, h⟩ := h
      obtain ⟨hp, h⟩ := h
      refine ⟨(tinb (taddI (tr_I rfl) t_x6 rr142) hp), ?_⟩
      obtain ⟨rr143, h⟩ := h
      intro M15 e_M15
      replace h := h (ab M15) ((congrArg ab e_M15).trans (ab_sI (tnatI (taddI (tr_I rfl) t_x6 rr143)) (show (0 : Int32).toInt = 0 from rfl)))
      obtain ⟨rr144, h⟩ := h
      intro i16 e_i16
      have q_i16 := (congrArg Int32.toInt e_i16).trans (taddI t_x6 (show (1 : Int32).toInt = 1 from rfl) rr144)
      replace h := h _ q_i16
      have t_i16 : i16.toInt = i16.toInt := rfl
      refine ih t_x2 t_x3 t_i16 h hQ hK171
theorem w_X2_append_84 {Q : Option Nat → Mem → Prop} {bQ : Option Nat → Im → Prop} {x0 : Nat} {x1 : Option Nat} {x2 : Int32} {y_x2 : Int} {x3 : Int32} {y_x3 : Int} {M : Mem} (t_x2 : x2.toInt = y_x2) (t_x3 : x3.toInt = y_x3) (h : sp_X2_append_84 x0 x1 y_x2 y_x3 (ab M) bQ) (hQ : ∀ (z0 : Option Nat) (m : Mem), bQ z0 (ab m) → Q z0 m) : wp_X2_append_84 x0 x1 x2 x3 M Q := by
  unfold sp_X2_append_84 at h
  unfold wp_X2_append_84
  obtain ⟨hp, h⟩ := h
  refine ⟨(tinb (tr_I rfl) hp), ?_⟩
  intro r7 e_r7
  replace h := h r7 (e_r7.trans (tr_R (tnatI (tr_I rfl))))
  obtain ⟨a8, hp, h⟩ := h
  refine ⟨a8, hp, ?_⟩
  obtain ⟨hp, h⟩ := h
  refine ⟨hp, ?_⟩
  intro M9 e_M9
  replace h := h (ab M9) ((congrArg ab e_M9).trans (ab_sI rfl (tr_I rfl)))
  intro M10 e_M10
  replace h := h (ab M10) ((congrArg ab e_M10).trans (ab_sI rfl t_x3))
  intro M11 e_M11
  replace h := h (ab M11) ((congrArg ab e_M11).trans (ab_sI rfl (tr_I rfl)))
  intro M12 e_M12
  replace h := h (ab M12) ((congrArg ab e_M12).trans (ab_sI rfl (show (0 : Int32).toInt = 0 from rfl)))
  obtain ⟨k128, h⟩ := h
  refine ⟨k128, ?_⟩
  refine w_X2_append_128 t_x2 t_x3 (show (0 : Int32).toInt = 0 from rfl) h hQ (fun x0 x3 y_x3 x5 M t_x3 h => ?_)
  unfold wp_X2_append_171
  obtain ⟨rr147, h⟩ := h
  intro M17 e_M17
  replace h := h (ab M17) ((congrArg ab e_M17).trans (ab_sI rfl (taddI (tr_I rfl) t_x3 rr147)))
  obtain ⟨rr148, h⟩ := h
  intro M18 e_M18
  replace h := h (ab M18) ((congrArg ab e_M18).trans (ab_sI rfl (taddI (tr_I rfl) (show (1 : Int32).toInt = 1 from rfl) rr148)))
  exact hQ _ _  h
theorem w_X2_append_21 {Q : Option Nat → Mem → Prop} {bQ : Option Nat → Im → Prop} {x0 : Nat} {x1 : Option Nat} {x2 : Int32} {y_x2 : Int} {x3 : Int32} {y_x3 : Int} {t0 : Int32} {y_t0 : Int} {M : Mem} (t_x2 : x2.toInt = y_x2) (t_x3 : x3.toInt = y_x3) (t_t0 : t0.toInt = y_t0) (h : sp_X2_append_21 x0 x1 y_x2 y_x3 y_t0 (ab M) bQ) (hQ : ∀ (z0 : Option Nat) (m : Mem), bQ z0 (ab m) → Q z0 m) : wp_X2_append_21 x0 x1 x2 x3 t0 M Q := by
  unfold sp_X2_append_21 at h
  unfold wp_X2_append_21
  refine ⟨?_, ?_⟩
  · intro hc0
    replace h := h.1 (ceqI t_t0 (show (0 : Int32).toInt = 0 from rfl) hc0)
    unfold wp_X2_append_54
    exact hQ _ _  h
  · intro hc0
    replace h := h.2 (cneI t_t0 (show (0 : Int32).toInt = 0 from rfl) hc0)
    obtain ⟨rr151, h⟩ := h
    refine ⟨?_, ?_⟩
    · intro hc0
      replace h := h.1 (cltI (tsubI (t_alen _) t_x3 rr151) (tr_I rfl) hc0)
      unfold wp_X2_append_54
      exact hQ _ _  h
    · intro hc0
      replace h := h.2 (cnltI (tsubI (t_alen _) t_x3 rr151) (tr_I rfl) hc0)
      refine ⟨?_, ?_⟩
      · intro hc0
        replace h := h.1 (cltI (tr_I rfl) (t_alen _) hc0)
        obtain ⟨hp, h⟩ := h
        refine ⟨(tinb (tr_I rfl) hp), ?_⟩
        intro r1 e_r1
        replace h := h r1 (e_r1.trans (tr_R (tnatI (tr_I rfl))))
        refine ⟨?_, ?_⟩
        · intro hc0
          replace h := h.1 hc0
          obtain ⟨hp, h⟩ := h
          refine ⟨hp, ?_⟩
          intro a3 M4 e1 e2
          replace h := h a3 (ab M4) e1 ((congrArg ab e2).trans ab_nw)
          refine w_X0_init  h (fun M5 h => ?_)
          obtain ⟨hp, h⟩ := h
          refine ⟨(tinb (tr_I rfl) hp), ?_⟩
          intro M6 e_M6
          replace h := h (ab M6) ((congrArg ab e_M6).trans (ab_sR (tnatI (tr_I rfl)) rfl))
          refine w_X2_append_84 t_x2 t_x3 h hQ
        · intro a2 hc
          replace h := h.2 a2 hc
          refine w_X2_append_84 t_x2 t_x3 h hQ
      · intro hc0
        replace h := h.2 (cnltI (tr_I rfl) (t_alen _) hc0)
        unfold wp_X2_append_54
        exact hQ _ _  h
theorem w_X2_append {Q : Option Nat → Mem → Prop} {bQ : Option Nat → Im → Prop} {x0 : Nat} {x1 : Option Nat} {x2 : Int32} {y_x2 : Int} {x3 : Int32} {y_x3 : Int} {M : Mem} (t_x2 : x2.toInt = y_x2) (t_x3 : x3.toInt = y_x3) (h : sp_X2_append x0 x1 y_x2 y_x3 (ab M) bQ) (hQ : ∀ (z0 : Option Nat) (m : Mem), bQ z0 (ab m) → Q z0 m) : wp_X2_append x0 x1 x2 x3 M Q := by
  unfold sp_X2_append at h
  unfold wp_X2_append
  obtain ⟨hp, h⟩ := h
  refine ⟨hp, ?_⟩
  refine ⟨?_, ?_⟩
  · intro hc0
    replace h := h.1 (cltI t_x2 (show (0 : Int32).toInt = 0 from rfl) hc0)
    unfold wp_X2_append_20
    refine w_X2_append_21 t_x2 t_x3 (show (0 : Int32).toInt = 0 from rfl) h hQ
  · intro hc0
    replace h := h.2 (cnltI t_x2 (show (0 : Int32).toInt = 0 from rfl) hc0)
    refine ⟨?_, ?_⟩
    · intro hc0
      replace h := h.1 (cleI t_x3 (show (0 : Int32).toInt = 0 from rfl) hc0)
      unfold wp_X2_append_20
      refine w_X2_append_21 t_x2 t_x3 (show (0 : Int32).toInt = 0 from rfl) h hQ
    · intro hc0
      replace h := h.2 (cnleI t_x3 (show (0 : Int32).toInt = 0 from rfl) hc0)
      obtain ⟨a19, hp, h⟩ := h
      refine ⟨a19, hp, ?_⟩
      obtain ⟨hp, h⟩ := h
      refine ⟨hp, ?_⟩
      obtain ⟨rr155, h⟩ := h
      refine ⟨?_, ?_⟩
      · intro hc0
        replace h := h.1 (cltI (tsubI (t_alen _) t_x3 rr155) t_x2 hc0)
        unfold wp_X2_append_20
        refine w_X2_append_21 t_x2 t_x3 (show (0 : Int32).toInt = 0 from rfl) h hQ
      · intro hc0
        replace h := h.2 (cnltI (tsubI (t_alen _) t_x3 rr155) t_x2 hc0)
        refine w_X2_append_21 t_x2 t_x3 (show (1 : Int32).toInt = 1 from rfl) h hQ
theorem w_X2_makePieces_85 {Q : Int32 → Mem → Prop} {bQ : Int → Im → Prop} {K6 : Nat → Option Nat → Int32 → Int32 → Int32 → Option Nat → Int32 → Int32 → Mem → Prop} {bK6 : Nat → Option Nat → Int → Int → Int → Option Nat → Int → Int → Im → Prop} {K49 : Int32 → Mem → Prop} {bK49 : Int → Im → Prop} {K95 : Int32 → Mem → Prop} {bK95 : Int → Im → Prop} {x0 : Nat} {x1 : Option Nat} {x2 : Int32} {y_x2 : Int} {x3 : Int32} {y_x3 : Int} {x4 : Int32} {y_x4 : Int} {x5 : Nat} {x6 : Int32} {y_x6 : Int} {x8 : Int32} {y_x8 : Int} {M : Mem} (t_x2 : x2.toInt = y_x2) (t_x3 : x3.toInt = y_x3) (t_x4 : x4.toInt = y_x4) (t_x6 : x6.toInt = y_x6) (t_x8 : x8.toInt = y_x8) (h : sp_X2_makePieces_85 x0 x1 y_x2 y_x3 y_x4 x5 y_x6 y_x8 (ab M) bQ bK6 bK49 bK95) (hQ : ∀ (z0 : Int32) (u0 : Int) (m : Mem), z0.toInt = u0 → bQ u0 (ab m) → Q z0 m) (hK6 : ∀ (z0 : Nat) (z1 : Option Nat) (z2 : Int32) (u2 : Int) (z3 : Int32) (u3 : Int) (z4 : Int32) (u4 : Int) (z5 : Option Nat) (z6 : Int32) (u6 : Int) (z7 : Int32) (u7 : Int) (m : Mem), z2.toInt = u2 → z3.toInt = u3 → z4.toInt = u4 → z6.toInt = u6 → z7.toInt = u7 → bK6 z0 z1 u2 u3 u4 z5 u6 u7 (ab m) → K6 z0 z1 z2 z3 z4 z5 z6 z7 m) (hK49 : ∀ (z0 : Int32) (u0 : Int) (m : Mem), z0.toInt = u0 → bK49 u0 (ab m) → K49 z0 m) (hK95 : ∀ (z0 : Int32) (u0 : Int) (m : Mem), z0.toInt = u0 → bK95 u0 (ab m) → K95 z0 m) : wp_X2_makePieces_85 x0 x1 x2 x3 x4 x5 x6 x8 M Q K6 K49 K95 := by
  unfold sp_X2_makePieces_85 at h
  unfold wp_X2_makePieces_85
  obtain ⟨rr158, h⟩ := h
  intro i11 e_i11
  have q_i11 := (congrArg Int32.toInt e_i11).trans (taddI t_x6 (show (1 : Int32).toInt = 1 from rfl) rr158)
  replace h := h _ q_i11
  have t_i11 : i11.toInt = i11.toInt := rfl
  exact hK6 _ _ _ _ _ _ _ _ _ _ _ _ _ _ t_x2 t_x3 t_x4 t_i11 t_x8 h
theorem w_X2_makePieces_6 {Q : Int32 → Mem → Prop} {bQ : Int → Im → Prop} {K49 : Int32 → Mem → Prop} {bK49 : Int → Im → Prop} {K95 : Int32 → Mem → Prop} {bK95 : Int → Im → Prop} : ∀ {n : Nat} {x0 : Nat} {x1 : Option Nat} {x2 : Int32} {y_x2 : Int} {x3 : Int32} {y_x3 : Int} {x4 : Int32} {y_x4 : Int} {x5 : Option Nat} {x6 : Int32} {y_x6 : Int} {x7 : Int32} {y_x7 : Int} {M : Mem} (t_x2 : x2.toInt = y_x2) (t_x3 : x3.toInt = y_x3) (t_x4 : x4.toInt = y_x4) (t_x6 : x6.toInt = y_x6) (t_x7 : x7.toInt = y_x7) (_ : sp_X2_makePieces_6 n x0 x1 y_x2 y_x3 y_x4 x5 y_x6 y_x7 (ab M) bQ bK49 bK95) (_ : ∀ (z0 : Int32) (u0 : Int) (m : Mem), z0.toInt = u0 → bQ u0 (ab m) → Q z0 m) (_ : ∀ (z0 : Int32) (u0 : Int) (m : Mem), z0.toInt = u0 → bK49 u0 (ab m) → K49 z0 m) (_ : ∀ (z0 : Int32) (u0 : Int) (m : Mem), z0.toInt = u0 → bK95 u0 (ab m) → K95 z0 m), wp_X2_makePieces_6 n x0 x1 x2 x3 x4 x5 x6 x7 M Q K49 K95 := by
  intro n
  induction n with
  | zero => intro x0 x1 x2 y_x2 x3 y_x3 x4 y_x4 x5 x6 y_x6 x7 y_x7 M t_x2 t_x3 t_x4 t_x6 t_x7 h hQ hK49 hK95; exact h.elim
  | succ n ih =>
    intro x0 x1 x2 y_x2 x3 y_x3 x4 y_x4 x5 x6 y_x6 x7 y_x7 M t_x2 t_x3 t_x4 t_x6 t_x7 h hQ hK49 hK95
    unfold sp_X2_makePieces_6 at h
    unfold wp_X2_makePieces_6
    refine ⟨?_, ?_⟩
    · intro hc0
      replace h := h.1 (cleI t_x2 t_x7 hc0)
      exact hK95 _ _ _ t_x6 h
    · intro hc0
      replace h := h.2 (cnleI t_x2 t_x7 hc0)
      refine ⟨?_, ?_⟩
      · intro hc0
        replace h := h.1 (cleI t_x2 t_x6 hc0)
        exact hK95 _ _ _ t_x6 h
      · intro hc0
        replace h := h.2 (cnleI t_x2 t_x6 hc0)
        obtain ⟨a1, hp, h⟩ := h
        refine ⟨a1, hp, ?_⟩
        obtain ⟨hp, h⟩ := h
        refine ⟨hp, ?_⟩
        refine w_X1_endOfSpan t_x7 t_x2 t_x3 h (fun i3 y_i3 M2 t_i3 h => ?_)
        obtain ⟨rr162, h⟩ := h
        refine w_X2_append t_x7 (tsubI t_i3 t_x7 rr162) h (fun r5 M4 h => ?_)
        refine ⟨?_, ?_⟩
        · intro hc0
          replace h := h.1 hc0
          exact hK49 _ _ _ t_x6 h
        · intro a6 hc
          replace h := h.2 a6 hc
          obtain ⟨hp, h⟩ := h
          refine ⟨hp, ?_⟩
          refine w_X0_beFlat t_x4 h (fun M8 h => ?_)
          obtain ⟨rr163, h⟩ := h
          refine ⟨?_, ?_⟩
          · intro hc0
            replace h := h.1 (cleI (tsubI t_i3 t_x7 rr163) (show (1 : Int32).toInt = 1 from rfl) hc0)
            refine w_X2_makePieces_85 t_x2 t_x3 t_x4 t_x6 t_i3 h hQ (fun x0 x1 x2 y_x2 x3 y_x3 x4 y_x4 x5 x6 y_x6 x7 y_x7 M t_x2 t_x3 t_x4 t_x6 t_x7 h => ?_) hK49 hK95
            refine ih t_x2 t_x3 t_x4 t_x6 t_x7 h hQ hK49 hK95
          · intro hc0
            replace h := h.2 (cnleI (tsubI t_i3 t_x7 rr163) (show (1 : Int32).toInt = 1 from rfl) hc0)
            intro M9 e_M9
            replace h := h (ab M9) ((congrArg ab e_M9).trans (ab_sI rfl (show (1 : Int32).toInt = 1 from rfl)))
            refine w_X1_tellLine t_x7 t_x3 h (fun M10 h => ?_)
            refine w_X2_makePieces_85 t_x2 t_x3 t_x4 t_x6 t_i3 h hQ (fun x0 x1 x2 y_x2 x3 y_x3 x4 y_x4 x5 x6 y_x6 x7 y_x7 M t_x2 t_x3 t_x4 t_x6 t_x7 h => ?_) hK49 hK95
            refine ih t_x2 t_x3 t_x4 t_x6 t_x7 h hQ hK49 hK95
theorem w_X2_makePieces {Q : Int32 → Mem → Prop} {bQ : Int → Im → Prop} {x0 : Nat} {x1 : Option Nat} {x2 : Int32} {y_x2 : Int} {x3 : Int32} {y_x3 : Int} {x4 : Int32} {y_x4 : Int} {x5 : Option Nat} {M : Mem} (t_x2 : x2.toInt = y_x2) (t_x3 : x3.toInt = y_x3) (t_x4 : x4.toInt = y_x4) (h : sp_X2_makePieces x0 x1 y_x2 y_x3 y_x4 x5 (ab M) bQ) (hQ : ∀ (z0 : Int32) (u0 : Int) (m : Mem), z0.toInt = u0 → bQ u0 (ab m) → Q z0 m) : wp_X2_makePieces x0 x1 x2 x3 x4 x5 M Q := by
  unfold sp_X2_makePieces at h
  unfold wp_X2_makePieces
  obtain ⟨hp, h⟩ := h
  refine ⟨hp, ?_⟩
  obtain ⟨k6, h⟩ := h
  refine ⟨k6, ?_⟩
  refine w_X2_makePieces_6 t_x2 t_x3 t_x4 (show (0 : Int32).toInt = 0 from rfl) (show (0 : Int32).toInt = 0 from rfl) h hQ (fun x6 y_x6 M t_x6 h => ?_) (fun x6 y_x6 M t_x6 h => ?_)
  ·
    unfold wp_X2_makePieces_49
    exact hQ _ _ _ t_x6 h
  ·
    unfold wp_X2_makePieces_95
    exact hQ _ _ _ t_x6 h
theorem w_X2_turnRounded {Q : Int32 → Mem → Prop} {bQ : Int → Im → Prop} {x0 : Nat} {x1 : Option Nat} {M : Mem} (h : sp_X2_turnRounded x0 x1 (ab M) bQ) (hQ : ∀ (z0 : Int32) (u0 : Int) (m : Mem), z0.toInt = u0 → bQ u0 (ab m) → Q z0 m) : wp_X2_turnRounded x0 x1 M Q := by
  unfold sp_X2_turnRounded at h
  unfold wp_X2_turnRounded
  obtain ⟨hp, h⟩ := h
  refine ⟨hp, ?_⟩
  obtain ⟨a1, hp, h⟩ := h
  refine ⟨a1, hp, ?_⟩
  obtain ⟨hp, h⟩ := h
  refine ⟨hp, ?_⟩
  refine ⟨?_, ?_⟩
  · intro hc0
    replace h := h.1 (cleJ (show (1 : Int64).toInt = 1 from rfl) (tr_L rfl) hc0)
    intro M2 e_M2
    replace h := h (ab M2) ((congrArg ab e_M2).trans (ab_sI rfl (show (2 : Int32).toInt = 2 from rfl)))
    intro f3 e_f3
    replace h := h f3 (alk (cg2 FP.ddiv (congrArg FP.l2d (of64 (tr_L rfl))) (congrArg FP.l2d (of64 (tr_L rfl)))) e_f3)
    intro M4 e_M4
    replace h := h (ab M4) ((congrArg ab e_M4).trans (ab_sD rfl rfl))
    intro f5 e_f5
    replace h := h f5 (alk (cg2 FP.ddiv (congrArg FP.l2d (of64 (tr_L rfl))) (congrArg FP.l2d (of64 (tr_L rfl)))) e_f5)
    intro M6 e_M6
    replace h := h (ab M6) ((congrArg ab e_M6).trans (ab_sD rfl rfl))
    refine w_X2_greatestMiss  h (fun i8 y_i8 M7 t_i8 h => ?_)
    refine ⟨?_, ?_⟩
    · intro hc0
      replace h := h.1 (cleI t_i8 (tr_I rfl) hc0)
      exact hQ _ _ _ (show (1 : Int32).toInt = 1 from rfl) h
    · intro hc0
      replace h := h.2 (cnleI t_i8 (tr_I rfl) hc0)
      intro M9 e_M9
      replace h := h (ab M9) ((congrArg ab e_M9).trans (ab_sI rfl (show (1 : Int32).toInt = 1 from rfl)))
      exact hQ _ _ _ (show (0 : Int32).toInt = 0 from rfl) h
  · intro hc0
    replace h := h.2 (cnleJ (show (1 : Int64).toInt = 1 from rfl) (tr_L rfl) hc0)
    exact hQ _ _ _ (show (0 : Int32).toInt = 0 from rfl) h
theorem w_X2_roundPieces_35 {Q : Mem → Prop} {bQ : Im → Prop} {K2 : Nat → Int32 → Int32 → Mem → Prop} {bK2 : Nat → Int → Int → Im → Prop} {K41 : Mem → Prop} {bK41 : Im → Prop} {x0 : Nat} {x2 : Int32} {y_x2 : Int} {x3 : Int32} {y_x3 : Int} {M : Mem} (t_x2 : x2.toInt = y_x2) (t_x3 : x3.toInt = y_x3) (h : sp_X2_roundPieces_35 x0 y_x2 y_x3 (ab M) bQ bK2 bK41) (hQ : ∀ (m : Mem), bQ (ab m) → Q m) (hK2 : ∀ (z0 : Nat) (z1 : Int32) (u1 : Int) (z2 : Int32) (u2 : Int) (m : Mem), z1.toInt = u1 → z2.toInt = u2 → bK2 z0 u1 u2 (ab m) → K2 z0 z1 z2 m) (hK41 : ∀ (m : Mem), bK41 (ab m) → K41 m) : wp_X2_roundPieces_35 x0 x2 x3 M Q K2 K41 := by
  unfold sp_X2_roundPieces_35 at h
  unfold wp_X2_roundPieces_35
  obtain ⟨rr166, h⟩ := h
  intro i7 e_i7
  have q_i7 := (congrArg Int32.toInt e_i7).trans (taddI t_x3 (show (1 : Int32).toInt = 1 from rfl) rr166)
  replace h := h _ q_i7
  have t_i7 : i7.toInt = i7.toInt := rfl
  exact hK2 _ _ _ _ _ _ t_x2 t_i7 h
theorem w_X2_roundPieces_2 {Q : Mem → Prop} {bQ : Im → Prop} {K41 : Mem → Prop} {bK41 : Im → Prop} : ∀ {n : Nat} {x0 : Nat} {x2 : Int32} {y_x2 : Int} {x3 : Int32} {y_x3 : Int} {M : Mem} (t_x2 : x2.toInt = y_x2) (t_x3 : x3.toInt = y_x3) (_ : sp_X2_roundPieces_2 n x0 y_x2 y_x3 (ab M) bQ bK41) (_ : ∀ (m : Mem), bQ (ab m) → Q m) (_ : ∀ (m : Mem), bK41 (ab m) → K41 m), wp_X2_roundPieces_2 n x0 x2 x3 M Q K41 := by
  intro n
  induction n with
  | zero => intro x0 x2 y_x2 x3 y_x3 M t_x2 t_x3 h hQ hK41; exact h.elim
  | succ n ih =>
    intro x0 x2 y_x2 x3 y_x3 M t_x2 t_x3 h hQ hK41
    unfold sp_X2_roundPieces_2 at h
    unfold wp_X2_roundPieces_2
    refine ⟨?_, ?_⟩
    · intro hc0
      replace h := h.1 (cleI t_x2 t_x3 hc0)
      exact hK41 _  h
    · intro hc0
      replace h := h.2 (cnleI t_x2 t_x3 hc0)
      refine w_X2_pieceAt t_x3 h (fun r2 M1 h => ?_)
      refine ⟨?_, ?_⟩
      · intro hc0
        replace h := h.1 hc0
        refine w_X2_roundPieces_35 t_x2 t_x3 h hQ (fun x0 x2 y_x2 x3 y_x3 M t_x2 t_x3 h => ?_) hK41
        refine ih t_x2 t_x3 h hQ hK41
      · intro a3 hc
        replace h := h.2 a3 hc
        obtain ⟨hp, h⟩ := h
        refine ⟨hp, ?_⟩
        refine ⟨?_, ?_⟩
        · intro hc0
          replace h := h.1 (cneI (tr_I rfl) (show (1 : Int32).toInt = 1 from rfl) hc0)
          refine w_X2_roundPieces_35 t_x2 t_x3 h hQ (fun x0 x2 y_x2 x3 y_x3 M t_x2 t_x3 h => ?_) hK41
          refine ih t_x2 t_x3 h hQ hK41
        · intro hc0
          replace h := h.2 (ceqI (tr_I rfl) (show (1 : Int32).toInt = 1 from rfl) hc0)
          refine w_X2_turnRounded  h (fun i6 y_i6 M5 t_i6 h => ?_)
          refine w_X2_roundPieces_35 t_x2 t_x3 h hQ (fun x0 x2 y_x2 x3 y_x3 M t_x2 t_x3 h => ?_) hK41
          refine ih t_x2 t_x3 h hQ hK41
theorem w_X2_roundPieces {Q : Mem → Prop} {bQ : Im → Prop} {x0 : Nat} {x1 : Int32} {y_x1 : Int} {x2 : Int32} {y_x2 : Int} {M : Mem} (t_x1 : x1.toInt = y_x1) (t_x2 : x2.toInt = y_x2) (h : sp_X2_roundPieces x0 y_x1 y_x2 (ab M) bQ) (hQ : ∀ (m : Mem), bQ (ab m) → Q m) : wp_X2_roundPieces x0 x1 x2 M Q := by
  unfold sp_X2_roundPieces at h
  unfold wp_X2_roundPieces
  obtain ⟨hp, h⟩ := h
  refine ⟨hp, ?_⟩
  obtain ⟨k2, h⟩ := h
  refine ⟨k2, ?_⟩
  refine w_X2_roundPieces_2 t_x2 t_x1 h hQ (fun M h => ?_)
  unfold wp_X2_roundPieces_41
  exact hQ _  h
theorem w_X2_takeOver_67 {Q : Mem → Prop} {bQ : Im → Prop} {K104 : Nat → Nat → Int32 → Int32 → Nat → Nat → Mem → Prop} {bK104 : Nat → Nat → Int → Int → Nat → Nat → Im → Prop} : ∀ {n : Nat} {x0 : Nat} {x1 : Nat} {x3 : Int32} {y_x3 : Int} {x4 : Int32} {y_x4 : Int} {x5 : Nat} {x6 : Nat} {x7 : Int32} {y_x7 : Int} {M : Mem} (t_x3 : x3.toInt = y_x3) (t_x4 : x4.toInt = y_x4) (t_x7 : x7.toInt = y_x7) (_ : sp_X2_takeOver_67 n x0 x1 y_x3 y_x4 x5 x6 y_x7 (ab M) bQ bK104) (_ : ∀ (m : Mem), bQ (ab m) → Q m) (_ : ∀ (z0 : Nat) (z1 : Nat) (z2 : Int32) (u2 : Int) (z3 : Int32) (u3 : Int) (z4 : Nat) (z5 : Nat) (m : Mem), z2.toInt = u2 → z3.toInt = u3 → bK104 z0 z1 u2 u3 z4 z5 (ab m) → K104 z0 z1 z2 z3 z4 z5 m), wp_X2_takeOver_67 n x0 x1 x3 x4 x5 x6 x7 M Q K104 := by
  intro n
  induction n with
  | zero => intro x0 x1 x3 y_x3 x4 y_x4 x5 x6 x7 y_x7 M t_x3 t_x4 t_x7 h hQ hK104; exact h.elim
  | succ n ih =>
    intro x0 x1 x3 y_x3 x4 y_x4 x5 x6 x7 y_x7 M t_x3 t_x4 t_x7 h hQ hK104
    unfold sp_X2_takeOver_67 at h
    unfold wp_X2_takeOver_67
    obtain ⟨hp, h⟩ := h
    refine ⟨hp, ?_⟩
    refine ⟨?_, ?_⟩
    · intro hc0
      replace h := h.1 (cleI (tr_I rfl) t_x7 hc0)
      exact hK104 _ _ _ _ _ _ _ _ _ t_x3 t_x4 h
    · intro hc0
      replace h := h.2 (cnleI (tr_I rfl) t_x7 hc0)
      refine w_X2_isDropped t_x7 h (fun i14 y_i14 M13 t_i14 h => ?_)
      obtain ⟨rr170, h⟩ := h
      obtain ⟨hp, h⟩ := h
      refine ⟨(tinb (taddI (tr_I rfl) t_x7 rr170) hp), ?_⟩
      obtain ⟨hp, h⟩ := h
      refine ⟨(t01 t_i14 hp), ?_⟩
      obtain ⟨rr171, h⟩ := h
      intro M15 e_M15
      replace h := h (ab M15) ((congrArg ab e_M15).trans (ab_sI (tnatI (taddI (tr_I rfl) t_x7 rr171)) t_i14))
      obtain ⟨rr172, h⟩ := h
      intro i16 e_i16
      have q_i16 := (congrArg Int32.toInt e_i16).trans (taddI t_x7 (show (1 : Int32).toInt = 1 from rfl) rr172)
      replace h := h _ q_i16
      have t_i16 : i16.toInt = i16.toInt := rfl
      refine ih t_x3 t_x4 t_i16 h hQ hK104
theorem w_X2_takeOver_107 {Q : Mem → Prop} {bQ : Im → Prop} {K173 : Nat → Nat → Int32 → Int32 → Mem → Prop} {bK173 : Nat → Nat → Int → Int → Im → Prop} : ∀ {n : Nat} {x0 : Nat} {x1 : Nat} {x3 : Int32} {y_x3 : Int} {x4 : Int32} {y_x4 : Int} {x5 : Nat} {x6 : Nat} {x7 : Int32} {y_x7 : Int} {M : Mem} (t_x3 : x3.toInt = y_x3) (t_x4 : x4.toInt = y_x4) (t_x7 : x7.toInt = y_x7) (_ : sp_X2_takeOver_107 n x0 x1 y_x3 y_x4 x5 x6 y_x7 (ab M) bQ bK173) (_ : ∀ (m : Mem), bQ (ab m) → Q m) (_ : ∀ (z0 : Nat) (z1 : Nat) (z2 : Int32) (u2 : Int) (z3 : Int32) (u3 : Int) (m : Mem), z2.toInt = u2 → z3.toInt = u3 → bK173 z0 z1 u2 u3 (ab m) → K173 z0 z1 z2 z3 m), wp_X2_takeOver_107 n x0 x1 x3 x4 x5 x6 x7 M Q K173 := by
  intro n
  induction n with
  | zero => intro x0 x1 x3 y_x3 x4 y_x4 x5 x6 x7 y_x7 M t_x3 t_x4 t_x7 h hQ hK173; exact h.elim
  | succ n ih =>
    intro x0 x1 x3 y_x3 x4 y_x4 x5 x6 x7 y_x7 M t_x3 t_x4 t_x7 h hQ hK173
    unfold sp_X2_takeOver_107 at h
    unfold wp_X2_takeOver_107
    refine ⟨?_, ?_⟩
    · intro hc0
      replace h := h.1 (cleI (tr_I rfl) t_x7 hc0)
      exact hK173 _ _ _ _ _ _ _ t_x3 t_x4 h
    · intro hc0
      replace h := h.2 (cnleI (tr_I rfl) t_x7 hc0)
      refine ⟨?_, ?_⟩
      · intro hc0
        replace h := h.1 (cleI (t_alen _) (tr_I rfl) hc0)
        exact hK173 _ _ _ _ _ _ _ t_x3 t_x4 h
      · intro hc0
        replace h := h.2 (cnleI (t_alen _) (tr_I rfl) hc0)
        refine w_X2_lateOf t_x7 h (fun j18 y_j18 M17 t_j18 h => ?_)
        obtain ⟨hp, h⟩ := h
        refine ⟨(tinb (tr_I rfl) hp), ?_⟩
        intro M19 e_M19
        replace h := h (ab M19) ((congrArg ab e_M19).trans (ab_sL (tnatI (tr_I rfl)) t_j18))
        obtain ⟨rr176, h⟩ := h
        intro M20 e_M20
        replace h := h (ab M20) ((congrArg ab e_M20).trans (ab_sI rfl (taddI (tr_I rfl) (show (1 : Int32).toInt = 1 from rfl) rr176)))
        obtain ⟨rr177, h⟩ := h
        intro M21 e_M21
        replace h := h (ab M21) ((congrArg ab e_M21).trans (ab_sI rfl (taddI (tr_I rfl) (show (1 : Int32).toInt = 1 from rfl) rr177)))
        obtain ⟨rr178, h⟩ := h
        intro i22 e_i22
        have q_i22 := (congrArg Int32.toInt e_i22).trans (taddI t_x7 (show (1 : Int32).toInt = 1 from rfl) rr178)
        replace h := h _ q_i22
        have t_i22 : i22.toInt = i22.toInt := rfl
        refine ih t_x3 t_x4 t_i22 h hQ hK173
theorem w_X2_takeOver_173 {Q : Mem → Prop} {bQ : Im → Prop} {K3 : Nat → Option Nat → Int32 → Int32 → Mem → Prop} {bK3 : Nat → Option Nat → Int → Int → Im → Prop} {K56 : Mem → Prop} {bK56 : Im → Prop} {K179 : Mem → Prop} {bK179 : Im → Prop} {x0 : Nat} {x1 : Nat} {x3 : Int32} {y_x3 : Int} {x4 : Int32} {y_x4 : Int} {M : Mem} (t_x3 : x3.toInt = y_x3) (t_x4 : x4.toInt = y_x4) (h : sp_X2_takeOver_173 x0 x1 y_x3 y_x4 (ab M) bQ bK3 bK56 bK179) (hQ : ∀ (m : Mem), bQ (ab m) → Q m) (hK3 : ∀ (z0 : Nat) (z1 : Option Nat) (z2 : Int32) (u2 : Int) (z3 : Int32) (u3 : Int) (m : Mem), z2.toInt = u2 → z3.toInt = u3 → bK3 z0 z1 u2 u3 (ab m) → K3 z0 z1 z2 z3 m) (hK56 : ∀ (m : Mem), bK56 (ab m) → K56 m) (hK179 : ∀ (m : Mem), bK179 (ab m) → K179 m) : wp_X2_takeOver_173 x0 x1 x3 x4 M Q K3 K56 K179 := by
  unfold sp_X2_takeOver_173 at h
  unfold wp_X2_takeOver_173
  obtain ⟨rr180, h⟩ := h
  intro i23 e_i23
  have q_i23 := (congrArg Int32.toInt e_i23).trans (taddI t_x4 (show (1 : Int32).toInt = 1 from rfl) rr180)
  replace h := h _ q_i23
  have t_i23 : i23.toInt = i23.toInt := rfl
  exact hK3 _ _ _ _ _ _ _ t_x3 t_i23 h
theorem w_X2_takeOver_104 {Q : Mem → Prop} {bQ : Im → Prop} {K3 : Nat → Option Nat → Int32 → Int32 → Mem → Prop} {bK3 : Nat → Option Nat → Int → Int → Im → Prop} {K56 : Mem → Prop} {bK56 : Im → Prop} {K179 : Mem → Prop} {bK179 : Im → Prop} {x0 : Nat} {x1 : Nat} {x3 : Int32} {y_x3 : Int} {x4 : Int32} {y_x4 : Int} {x5 : Nat} {x6 : Nat} {M : Mem} (t_x3 : x3.toInt = y_x3) (t_x4 : x4.toInt = y_x4) (h : sp_X2_takeOver_104 x0 x1 y_x3 y_x4 x5 x6 (ab M) bQ bK3 bK56 bK179) (hQ : ∀ (m : Mem), bQ (ab m) → Q m) (hK3 : ∀ (z0 : Nat) (z1 : Option Nat) (z2 : Int32) (u2 : Int) (z3 : Int32) (u3 : Int) (m : Mem), z2.toInt = u2 → z3.toInt = u3 → bK3 z0 z1 u2 u3 (ab m) → K3 z0 z1 z2 z3 m) (hK56 : ∀ (m : Mem), bK56 (ab m) → K56 m) (hK179 : ∀ (m : Mem), bK179 (ab m) → K179 m) : wp_X2_takeOver_104 x0 x1 x3 x4 x5 x6 M Q K3 K56 K179 := by
  unfold sp_X2_takeOver_104 at h
  unfold wp_X2_takeOver_104
  obtain ⟨k107, h⟩ := h
  refine ⟨k107, ?_⟩
  refine w_X2_takeOver_107 t_x3 t_x4 (show (0 : Int32).toInt = 0 from rfl) h hQ (fun x0 x1 x3 y_x3 x4 y_x4 M t_x3 t_x4 h => ?_)
  refine w_X2_takeOver_173 t_x3 t_x4 h hQ hK3 hK56 hK179
theorem w_X2_takeOver_44 {Q : Mem → Prop} {bQ : Im → Prop} {K3 : Nat → Option Nat → Int32 → Int32 → Mem → Prop} {bK3 : Nat → Option Nat → Int → Int → Im → Prop} {K56 : Mem → Prop} {bK56 : Im → Prop} {K179 : Mem → Prop} {bK179 : Im → Prop} {x0 : Nat} {x1 : Nat} {x3 : Int32} {y_x3 : Int} {x4 : Int32} {y_x4 : Int} {x5 : Option Nat} {t0 : Option Nat} {M : Mem} (t_x3 : x3.toInt = y_x3) (t_x4 : x4.toInt = y_x4) (h : sp_X2_takeOver_44 x0 x1 y_x3 y_x4 x5 t0 (ab M) bQ bK3 bK56 bK179) (hQ : ∀ (m : Mem), bQ (ab m) → Q m) (hK3 : ∀ (z0 : Nat) (z1 : Option Nat) (z2 : Int32) (u2 : Int) (z3 : Int32) (u3 : Int) (m : Mem), z2.toInt = u2 → z3.toInt = u3 → bK3 z0 z1 u2 u3 (ab m) → K3 z0 z1 z2 z3 m) (hK56 : ∀ (m : Mem), bK56 (ab m) → K56 m) (hK179 : ∀ (m : Mem), bK179 (ab m) → K179 m) : wp_X2_takeOver_44 x0 x1 x3 x4 x5 t0 M Q K3 K56 K179 := by
  unfold sp_X2_takeOver_44 at h
  unfold wp_X2_takeOver_44
  refine ⟨?_, ?_⟩
  · intro hc0
    replace h := h.1 hc0
    exact hK56 _  h
  · intro a8 hc
    replace h := h.2 a8 hc
    refine ⟨?_, ?_⟩
    · intro hc0
      replace h := h.1 hc0
      exact hK56 _  h
    · intro a9 hc
      replace h := h.2 a9 hc
      obtain ⟨hp, h⟩ := h
      refine ⟨hp, ?_⟩
      refine w_X0_beLike  h (fun M11 h => ?_)
      obtain ⟨k67, h⟩ := h
      refine ⟨k67, ?_⟩
      refine w_X2_takeOver_67 t_x3 t_x4 (show (0 : Int32).toInt = 0 from rfl) h hQ (fun x0 x1 x3 y_x3 x4 y_x4 x5 x6 M t_x3 t_x4 h => ?_)
      refine w_X2_takeOver_104 t_x3 t_x4 h hQ hK3 hK56 hK179
theorem w_X2_takeOver_3 {Q : Mem → Prop} {bQ : Im → Prop} {K56 : Mem → Prop} {bK56 : Im → Prop} {K179 : Mem → Prop} {bK179 : Im → Prop} : ∀ {n : Nat} {x0 : Nat} {x1 : Option Nat} {x3 : Int32} {y_x3 : Int} {x4 : Int32} {y_x4 : Int} {M : Mem} (t_x3 : x3.toInt = y_x3) (t_x4 : x4.toInt = y_x4) (_ : sp_X2_takeOver_3 n x0 x1 y_x3 y_x4 (ab M) bQ bK56 bK179) (_ : ∀ (m : Mem), bQ (ab m) → Q m) (_ : ∀ (m : Mem), bK56 (ab m) → K56 m) (_ : ∀ (m : Mem), bK179 (ab m) → K179 m), wp_X2_takeOver_3 n x0 x1 x3 x4 M Q K56 K179 := by
  intro n
  induction n with
  | zero => intro x0 x1 x3 y_x3 x4 y_x4 M t_x3 t_x4 h hQ hK56 hK179; exact h.elim
  | succ n ih =>
    intro x0 x1 x3 y_x3 x4 y_x4 M t_x3 t_x4 h hQ hK56 hK179
    unfold sp_X2_takeOver_3 at h
    unfold wp_X2_takeOver_3
    refine ⟨?_, ?_⟩
    · intro hc0
      replace h := h.1 (cleI t_x3 t_x4 hc0)
      exact hK179 _  h
    · intro hc0
      replace h := h.2 (cnleI t_x3 t_x4 hc0)
      obtain ⟨a1, hp, h⟩ := h
      refine ⟨a1, hp, ?_⟩
      obtain ⟨hp, h⟩ := h
      refine ⟨hp, ?_⟩
      refine w_X2_pieceAt t_x4 h (fun r3 M2 h => ?_)
      refine ⟨?_, ?_⟩
      · intro hc0
        replace h := h.1 hc0
        refine w_X2_takeOver_44 t_x3 t_x4 h hQ (fun x0 x1 x3 y_x3 x4 y_x4 M t_x3 t_x4 h => ?_) hK56 hK179
        refine ih t_x3 t_x4 h hQ hK56 hK179
      · intro a4 hc
        replace h := h.2 a4 hc
        obtain ⟨hp, h⟩ := h
        refine ⟨hp, ?_⟩
        refine w_X2_append (tr_I rfl) (tr_I rfl) h (fun r7 M6 h => ?_)
        refine w_X2_takeOver_44 t_x3 t_x4 h hQ (fun x0 x1 x3 y_x3 x4 y_x4 M t_x3 t_x4 h => ?_) hK56 hK179
        refine ih t_x3 t_x4 h hQ hK56 hK179
theorem w_X2_takeOver {Q : Mem → Prop} {bQ : Im → Prop} {x0 : Nat} {x1 : Option Nat} {x2 : Int32} {y_x2 : Int} {x3 : Int32} {y_x3 : Int} {M : Mem} (t_x2 : x2.toInt = y_x2) (t_x3 : x3.toInt = y_x3) (h : sp_X2_takeOver x0 x1 y_x2 y_x3 (ab M) bQ) (hQ : ∀ (m : Mem), bQ (ab m) → Q m) : wp_X2_takeOver x0 x1 x2 x3 M Q := by
  unfold sp_X2_takeOver at h
  unfold wp_X2_takeOver
  obtain ⟨hp, h⟩ := h
  refine ⟨hp, ?_⟩
  obtain ⟨k3, h⟩ := h
  refine ⟨k3, ?_⟩
  refine w_X2_takeOver_3 t_x3 t_x2 h hQ (fun M h => ?_) (fun M h => ?_)
  ·
    unfold wp_X2_takeOver_56
    exact hQ _  h
  ·
    unfold wp_X2_takeOver_179
    exact hQ _  h
theorem w_X2_holds {Q : Int32 → Mem → Prop} {bQ : Int → Im → Prop} {x0 : Nat} {x1 : Int32} {y_x1 : Int} {x2 : Int64} {y_x2 : Int} {M : Mem} (t_x1 : x1.toInt = y_x1) (t_x2 : x2.toInt = y_x2) (h : sp_X2_holds x0 y_x1 y_x2 (ab M) bQ) (hQ : ∀ (z0 : Int32) (u0 : Int) (m : Mem), z0.toInt = u0 → bQ u0 (ab m) → Q z0 m) : wp_X2_holds x0 x1 x2 M Q := by
  unfold sp_X2_holds at h
  unfold wp_X2_holds
  obtain ⟨hp, h⟩ := h
  refine ⟨hp, ?_⟩
  refine ⟨?_, ?_⟩
  · intro hc0
    replace h := h.1 (cltI t_x1 (show (0 : Int32).toInt = 0 from rfl) hc0)
    unfold wp_X2_holds_36
    unfold wp_X2_holds_37
    obtain ⟨hp, h⟩ := h
    refine ⟨(t01 (show (0 : Int32).toInt = 0 from rfl) hp), ?_⟩
    exact hQ _ _ _ (show (0 : Int32).toInt = 0 from rfl) h
  · intro hc0
    replace h := h.2 (cnltI t_x1 (show (0 : Int32).toInt = 0 from rfl) hc0)
    refine ⟨?_, ?_⟩
    · intro hc0
      replace h := h.1 (cleI (tr_I rfl) t_x1 hc0)
      unfold wp_X2_holds_36
      unfold wp_X2_holds_37
      obtain ⟨hp, h⟩ := h
      refine ⟨(t01 (show (0 : Int32).toInt = 0 from rfl) hp), ?_⟩
      exact hQ _ _ _ (show (0 : Int32).toInt = 0 from rfl) h
    · intro hc0
      replace h := h.2 (cnleI (tr_I rfl) t_x1 hc0)
      obtain ⟨hp, h⟩ := h
      refine ⟨(tinb t_x1 hp), ?_⟩
      refine ⟨?_, ?_⟩
      · intro hc0
        replace h := h.1 (cneJ (tr_L (tnatI t_x1)) t_x2 hc0)
        unfold wp_X2_holds_36
        unfold wp_X2_holds_37
        obtain ⟨hp, h⟩ := h
        refine ⟨(t01 (show (0 : Int32).toInt = 0 from rfl) hp), ?_⟩
        exact hQ _ _ _ (show (0 : Int32).toInt = 0 from rfl) h
      · intro hc0
        replace h := h.2 (ceqJ (tr_L (tnatI t_x1)) t_x2 hc0)
        obtain ⟨hp, h⟩ := h
        refine ⟨(tinb t_x1 hp), ?_⟩
        refine ⟨?_, ?_⟩
        · intro hc0
          replace h := h.1 (cneI (tr_I (tnatI t_x1)) (show (0 : Int32).toInt = 0 from rfl) hc0)
          unfold wp_X2_holds_36
          unfold wp_X2_holds_37
          obtain ⟨hp, h⟩ := h
          refine ⟨(t01 (show (0 : Int32).toInt = 0 from rfl) hp), ?_⟩
          exact hQ _ _ _ (show (0 : Int32).toInt = 0 from rfl) h
        · intro hc0
          replace h := h.2 (ceqI (tr_I (tnatI t_x1)) (show (0 : Int32).toInt = 0 from rfl) hc0)
          unfold wp_X2_holds_37
          obtain ⟨hp, h⟩ := h
          refine ⟨(t01 (show (1 : Int32).toInt = 1 from rfl) hp), ?_⟩
          exact hQ _ _ _ (show (1 : Int32).toInt = 1 from rfl) h
theorem w_X2_restore {Q : Int32 → Mem → Prop} {bQ : Int → Im → Prop} {x0 : Nat} {x1 : Int32} {y_x1 : Int} {x2 : Int64} {y_x2 : Int} {M : Mem} (t_x1 : x1.toInt = y_x1) (t_x2 : x2.toInt = y_x2) (h : sp_X2_restore x0 y_x1 y_x2 (ab M) bQ) (hQ : ∀ (z0 : Int32) (u0 : Int) (m : Mem), z0.toInt = u0 → bQ u0 (ab m) → Q z0 m) : wp_X2_restore x0 x1 x2 M Q := by
  unfold sp_X2_restore at h
  unfold wp_X2_restore
  obtain ⟨hp, h⟩ := h
  refine ⟨hp, ?_⟩
  refine ⟨?_, ?_⟩
  · intro hc0
    replace h := h.1 (cltI t_x1 (show (0 : Int32).toInt = 0 from rfl) hc0)
    unfold wp_X2_restore_32
    exact hQ _ _ _ (show (0 : Int32).toInt = 0 from rfl) h
  · intro hc0
    replace h := h.2 (cnltI t_x1 (show (0 : Int32).toInt = 0 from rfl) hc0)
    refine ⟨?_, ?_⟩
    · intro hc0
      replace h := h.1 (cleI (tr_I rfl) t_x1 hc0)
      unfold wp_X2_restore_32
      exact hQ _ _ _ (show (0 : Int32).toInt = 0 from rfl) h
    · intro hc0
      replace h := h.2 (cnleI (tr_I rfl) t_x1 hc0)
      obtain ⟨hp, h⟩ := h
      refine ⟨(tinb t_x1 hp), ?_⟩
      refine ⟨?_, ?_⟩
      · intro hc0
        replace h := h.1 (cneJ (tr_L (tnatI t_x1)) t_x2 hc0)
        unfold wp_X2_restore_32
        exact hQ _ _ _ (show (0 : Int32).toInt = 0 from rfl) h
      · intro hc0
        replace h := h.2 (ceqJ (tr_L (tnatI t_x1)) t_x2 hc0)
        obtain ⟨hp, h⟩ := h
        refine ⟨(tinb t_x1 hp), ?_⟩
        refine ⟨?_, ?_⟩
        · intro hc0
          replace h := h.1 (cneI (tr_I (tnatI t_x1)) (show (0 : Int32).toInt = 0 from rfl) hc0)
          obtain ⟨hp, h⟩ := h
          refine ⟨(tinb t_x1 hp), ?_⟩
          intro M1 e_M1
          replace h := h (ab M1) ((congrArg ab e_M1).trans (ab_sI (tnatI t_x1) (show (0 : Int32).toInt = 0 from rfl)))
          exact hQ _ _ _ (show (1 : Int32).toInt = 1 from rfl) h
        · intro hc0
          replace h := h.2 (ceqI (tr_I (tnatI t_x1)) (show (0 : Int32).toInt = 0 from rfl) hc0)
          unfold wp_X2_restore_32
          exact hQ _ _ _ (show (0 : Int32).toInt = 0 from rfl) h
theorem w_X2_markDropped {Q : Mem → Prop} {bQ : Im → Prop} {x0 : Nat} {x1 : Int32} {y_x1 : Int} {M : Mem} (t_x1 : x1.toInt = y_x1) (h : sp_X2_markDropped x0 y_x1 (ab M) bQ) (hQ : ∀ (m : Mem), bQ (ab m) → Q m) : wp_X2_markDropped x0 x1 M Q := by
  unfold sp_X2_markDropped at h
  unfold wp_X2_markDropped
  obtain ⟨hp, h⟩ := h
  refine ⟨hp, ?_⟩
  refine ⟨?_, ?_⟩
  · intro hc0
    replace h := h.1 (cltI t_x1 (show (0 : Int32).toInt = 0 from rfl) hc0)
    unfold wp_X2_markDropped_19
    exact hQ _  h
  · intro hc0
    replace h := h.2 (cnltI t_x1 (show (0 : Int32).toInt = 0 from rfl) hc0)
    refine ⟨?_, ?_⟩
    · intro hc0
      replace h := h.1 (cleI (tr_I rfl) t_x1 hc0)
      unfold wp_X2_markDropped_19
      exact hQ _  h
    · intro hc0
      replace h := h.2 (cnleI (tr_I rfl) t_x1 hc0)
      obtain ⟨hp, h⟩ := h
      refine ⟨(tinb t_x1 hp), ?_⟩
      intro M1 e_M1
      replace h := h (ab M1) ((congrArg ab e_M1).trans (ab_sI (tnatI t_x1) (show (1 : Int32).toInt = 1 from rfl)))
      unfold wp_X2_markDropped_19
      exact hQ _  h
theorem w_X2_changeLate_62 {Q : Mem → Prop} {bQ : Im → Prop} {K2 : Nat → Int32 → Int32 → Int32 → Mem → Prop} {bK2 : Nat → Int → Int → Int → Im → Prop} {K68 : Mem → Prop} {bK68 : Im → Prop} {x0 : Nat} {x1 : Int32} {y_x1 : Int} {x2 : Int32} {y_x2 : Int} {x3 : Int32} {y_x3 : Int} {M : Mem} (t_x1 : x1.toInt = y_x1) (t_x2 : x2.toInt = y_x2) (t_x3 : x3.toInt = y_x3) (h : sp_X2_changeLate_62 x0 y_x1 y_x2 y_x3 (ab M) bQ bK2 bK68) (hQ : ∀ (m : Mem), bQ (ab m) → Q m) (hK2 : ∀ (z0 : Nat) (z1 : Int32) (u1 : Int) (z2 : Int32) (u2 : Int) (z3 : Int32) (u3 : Int) (m : Mem), z1.toInt = u1 → z2.toInt = u2 → z3.toInt = u3 → bK2 z0 u1 u2 u3 (ab m) → K2 z0 z1 z2 z3 m) (hK68 : ∀ (m : Mem), bK68 (ab m) → K68 m) : wp_X2_changeLate_62 x0 x1 x2 x3 M Q K2 K68 := by
  unfold sp_X2_changeLate_62 at h
  unfold wp_X2_changeLate_62
  obtain ⟨rr182, h⟩ := h
  intro i7 e_i7
  have q_i7 := (congrArg Int32.toInt e_i7).trans (taddI t_x3 (show (1 : Int32).toInt = 1 from rfl) rr182)
  replace h := h _ q_i7
  have t_i7 : i7.toInt = i7.toInt := rfl
  exact hK2 _ _ _ _ _ _ _ _ t_x1 t_x2 t_i7 h
theorem w_X2_changeLate_58 {Q : Mem → Prop} {bQ : Im → Prop} {K2 : Nat → Int32 → Int32 → Int32 → Mem → Prop} {bK2 : Nat → Int → Int → Int → Im → Prop} {K68 : Mem → Prop} {bK68 : Im → Prop} {x0 : Nat} {x1 : Int32} {y_x1 : Int} {x2 : Int32} {y_x2 : Int} {x3 : Int32} {y_x3 : Int} {t0 : Int32} {y_t0 : Int} {t1 : Int32} {y_t1 : Int} {t2 : Nat} {M : Mem} (t_x1 : x1.toInt = y_x1) (t_x2 : x2.toInt = y_x2) (t_x3 : x3.toInt = y_x3) (t_t0 : t0.toInt = y_t0) (t_t1 : t1.toInt = y_t1) (h : sp_X2_changeLate_58 x0 y_x1 y_x2 y_x3 y_t0 y_t1 t2 (ab M) bQ bK2 bK68) (hQ : ∀ (m : Mem), bQ (ab m) → Q m) (hK2 : ∀ (z0 : Nat) (z1 : Int32) (u1 : Int) (z2 : Int32) (u2 : Int) (z3 : Int32) (u3 : Int) (m : Mem), z1.toInt = u1 → z2.toInt = u2 → z3.toInt = u3 → bK2 z0 u1 u2 u3 (ab m) → K2 z0 z1 z2 z3 m) (hK68 : ∀ (m : Mem), bK68 (ab m) → K68 m) : wp_X2_changeLate_58 x0 x1 x2 x3 t0 t1 t2 M Q K2 K68 := by
  unfold sp_X2_changeLate_58 at h
  unfold wp_X2_changeLate_58
  obtain ⟨rr184, h⟩ := h
  intro M6 e_M6
  replace h := h (ab M6) ((congrArg ab e_M6).trans (ab_sI rfl (taddI t_t1 t_t0 rr184)))
  refine w_X2_changeLate_62 t_x1 t_x2 t_x3 h hQ hK2 hK68
theorem w_X2_changeLate_38 {Q : Mem → Prop} {bQ : Im → Prop} {K2 : Nat → Int32 → Int32 → Int32 → Mem → Prop} {bK2 : Nat → Int → Int → Int → Im → Prop} {K68 : Mem → Prop} {bK68 : Im → Prop} {x0 : Nat} {x1 : Int32} {y_x1 : Int} {x2 : Int32} {y_x2 : Int} {x3 : Int32} {y_x3 : Int} {x4 : Nat} {t0 : Int32} {y_t0 : Int} {t1 : Int32} {y_t1 : Int} {t2 : Nat} {M : Mem} (t_x1 : x1.toInt = y_x1) (t_x2 : x2.toInt = y_x2) (t_x3 : x3.toInt = y_x3) (t_t0 : t0.toInt = y_t0) (t_t1 : t1.toInt = y_t1) (h : sp_X2_changeLate_38 x0 y_x1 y_x2 y_x3 x4 y_t0 y_t1 t2 (ab M) bQ bK2 bK68) (hQ : ∀ (m : Mem), bQ (ab m) → Q m) (hK2 : ∀ (z0 : Nat) (z1 : Int32) (u1 : Int) (z2 : Int32) (u2 : Int) (z3 : Int32) (u3 : Int) (m : Mem), z1.toInt = u1 → z2.toInt = u2 → z3.toInt = u3 → bK2 z0 u1 u2 u3 (ab m) → K2 z0 z1 z2 z3 m) (hK68 : ∀ (m : Mem), bK68 (ab m) → K68 m) : wp_X2_changeLate_38 x0 x1 x2 x3 x4 t0 t1 t2 M Q K2 K68 := by
  unfold sp_X2_changeLate_38 at h
  unfold wp_X2_changeLate_38
  obtain ⟨rr186, h⟩ := h
  intro M5 e_M5
  replace h := h (ab M5) ((congrArg ab e_M5).trans (ab_sI rfl (taddI t_t1 t_t0 rr186)))
  refine ⟨?_, ?_⟩
  · intro hc0
    replace h := h.1 (cneI t_x3 t_x1 hc0)
    refine w_X2_changeLate_58 t_x1 t_x2 t_x3 t_x2 (tr_I rfl) h hQ hK2 hK68
  · intro hc0
    replace h := h.2 (ceqI t_x3 t_x1 hc0)
    refine w_X2_changeLate_58 t_x1 t_x2 t_x3 (show (0 : Int32).toInt = 0 from rfl) (tr_I rfl) h hQ hK2 hK68
theorem w_X2_changeLate_2 {Q : Mem → Prop} {bQ : Im → Prop} {K68 : Mem → Prop} {bK68 : Im → Prop} : ∀ {n : Nat} {x0 : Nat} {x1 : Int32} {y_x1 : Int} {x2 : Int32} {y_x2 : Int} {x3 : Int32} {y_x3 : Int} {M : Mem} (t_x1 : x1.toInt = y_x1) (t_x2 : x2.toInt = y_x2) (t_x3 : x3.toInt = y_x3) (_ : sp_X2_changeLate_2 n x0 y_x1 y_x2 y_x3 (ab M) bQ bK68) (_ : ∀ (m : Mem), bQ (ab m) → Q m) (_ : ∀ (m : Mem), bK68 (ab m) → K68 m), wp_X2_changeLate_2 n x0 x1 x2 x3 M Q K68 := by
  intro n
  induction n with
  | zero => intro x0 x1 y_x1 x2 y_x2 x3 y_x3 M t_x1 t_x2 t_x3 h hQ hK68; exact h.elim
  | succ n ih =>
    intro x0 x1 y_x1 x2 y_x2 x3 y_x3 M t_x1 t_x2 t_x3 h hQ hK68
    unfold sp_X2_changeLate_2 at h
    unfold wp_X2_changeLate_2
    refine ⟨?_, ?_⟩
    · intro hc0
      replace h := h.1 (cleI (tr_I rfl) t_x3 hc0)
      exact hK68 _  h
    · intro hc0
      replace h := h.2 (cnleI (tr_I rfl) t_x3 hc0)
      refine w_X2_pieceAt t_x3 h (fun r2 M1 h => ?_)
      refine ⟨?_, ?_⟩
      · intro hc0
        replace h := h.1 hc0
        refine w_X2_changeLate_62 t_x1 t_x2 t_x3 h hQ (fun x0 x1 y_x1 x2 y_x2 x3 y_x3 M t_x1 t_x2 t_x3 h => ?_) hK68
        refine ih t_x1 t_x2 t_x3 h hQ hK68
      · intro a3 hc
        replace h := h.2 a3 hc
        obtain ⟨hp, h⟩ := h
        refine ⟨hp, ?_⟩
        refine ⟨?_, ?_⟩
        · intro hc0
          replace h := h.1 (cneI t_x3 t_x1 hc0)
          refine w_X2_changeLate_38 t_x1 t_x2 t_x3 (show (0 : Int32).toInt = 0 from rfl) (tr_I rfl) h hQ (fun x0 x1 y_x1 x2 y_x2 x3 y_x3 M t_x1 t_x2 t_x3 h => ?_) hK68
          refine ih t_x1 t_x2 t_x3 h hQ hK68
        · intro hc0
          replace h := h.2 (ceqI t_x3 t_x1 hc0)
          refine w_X2_changeLate_38 t_x1 t_x2 t_x3 t_x2 (tr_I rfl) h hQ (fun x0 x1 y_x1 x2 y_x2 x3 y_x3 M t_x1 t_x2 t_x3 h => ?_) hK68
          refine ih t_x1 t_x2 t_x3 h hQ hK68
theorem w_X2_changeLate {Q : Mem → Prop} {bQ : Im → Prop} {x0 : Nat} {x1 : Int32} {y_x1 : Int} {x2 : Int32} {y_x2 : Int} {M : Mem} (t_x1 : x1.toInt = y_x1) (t_x2 : x2.toInt = y_x2) (h : sp_X2_changeLate x0 y_x1 y_x2 (ab M) bQ) (hQ : ∀ (m : Mem), bQ (ab m) → Q m) : wp_X2_changeLate x0 x1 x2 M Q := by
  unfold sp_X2_changeLate at h
  unfold wp_X2_changeLate
  obtain ⟨hp, h⟩ := h
  refine ⟨hp, ?_⟩
  obtain ⟨k2, h⟩ := h
  refine ⟨k2, ?_⟩
  refine w_X2_changeLate_2 t_x1 t_x2 t_x1 h hQ (fun M h => ?_)
  unfold wp_X2_changeLate_68
  exact hQ _  h
theorem w_X2_putLate_44 {Q : Int32 → Mem → Prop} {bQ : Int → Im → Prop} {K72 : Nat → Int32 → Int32 → Int64 → Nat → Mem → Prop} {bK72 : Nat → Int → Int → Int → Nat → Im → Prop} : ∀ {n : Nat} {x0 : Nat} {x1 : Int32} {y_x1 : Int} {x2 : Int32} {y_x2 : Int} {x3 : Int64} {y_x3 : Int} {x5 : Nat} {x6 : Int32} {y_x6 : Int} {M : Mem} (t_x1 : x1.toInt = y_x1) (t_x2 : x2.toInt = y_x2) (t_x3 : x3.toInt = y_x3) (t_x6 : x6.toInt = y_x6) (_ : sp_X2_putLate_44 n x0 y_x1 y_x2 y_x3 x5 y_x6 (ab M) bQ bK72) (_ : ∀ (z0 : Int32) (u0 : Int) (m : Mem), z0.toInt = u0 → bQ u0 (ab m) → Q z0 m) (_ : ∀ (z0 : Nat) (z1 : Int32) (u1 : Int) (z2 : Int32) (u2 : Int) (z3 : Int64) (u3 : Int) (z4 : Nat) (m : Mem), z1.toInt = u1 → z2.toInt = u2 → z3.toInt = u3 → bK72 z0 u1 u2 u3 z4 (ab m) → K72 z0 z1 z2 z3 z4 m), wp_X2_putLate_44 n x0 x1 x2 x3 x5 x6 M Q K72 := by
  intro n
  induction n with
  | zero => intro x0 x1 y_x1 x2 y_x2 x3 y_x3 x5 x6 y_x6 M t_x1 t_x2 t_x3 t_x6 h hQ hK72; exact h.elim
  | succ n ih =>
    intro x0 x1 y_x1 x2 y_x2 x3 y_x3 x5 x6 y_x6 M t_x1 t_x2 t_x3 t_x6 h hQ hK72
    unfold sp_X2_putLate_44 at h
    unfold wp_X2_putLate_44
    refine ⟨?_, ?_⟩
    · intro hc0
      replace h := h.1 (cleI t_x6 t_x2 hc0)
      exact hK72 _ _ _ _ _ _ _ _ _ t_x1 t_x2 t_x3 h
    · intro hc0
      replace h := h.2 (cnleI t_x6 t_x2 hc0)
      obtain ⟨rr190, h⟩ := h
      obtain ⟨hp, h⟩ := h
      refine ⟨(tinb (tsubI t_x6 (show (1 : Int32).toInt = 1 from rfl) rr190) hp), ?_⟩
      obtain ⟨hp, h⟩ := h
      refine ⟨(tinb t_x6 hp), ?_⟩
      obtain ⟨rr191, h⟩ := h
      intro M1 e_M1
      replace h := h (ab M1) ((congrArg ab e_M1).trans (ab_sL (tnatI t_x6) (tr_L (tnatI (tsubI t_x6 (show (1 : Int32).toInt = 1 from rfl) rr191)))))
      obtain ⟨rr192, h⟩ := h
      intro i2 e_i2
      have q_i2 := (congrArg Int32.toInt e_i2).trans (taddI t_x6 (show (-1 : Int32).toInt = -1 from rfl) rr192)
      replace h := h _ q_i2
      have t_i2 : i2.toInt = i2.toInt := rfl
      refine ih t_x1 t_x2 t_x3 t_i2 h hQ hK72
theorem w_X2_putLate {Q : Int32 → Mem → Prop} {bQ : Int → Im → Prop} {x0 : Nat} {x1 : Int32} {y_x1 : Int} {x2 : Int32} {y_x2 : Int} {x3 : Int64} {y_x3 : Int} {M : Mem} (t_x1 : x1.toInt = y_x1) (t_x2 : x2.toInt = y_x2) (t_x3 : x3.toInt = y_x3) (h : sp_X2_putLate x0 y_x1 y_x2 y_x3 (ab M) bQ) (hQ : ∀ (z0 : Int32) (u0 : Int) (m : Mem), z0.toInt = u0 → bQ u0 (ab m) → Q z0 m) : wp_X2_putLate x0 x1 x2 x3 M Q := by
  unfold sp_X2_putLate at h
  unfold wp_X2_putLate
  obtain ⟨hp, h⟩ := h
  refine ⟨hp, ?_⟩
  refine w_X2_pieceAt t_x1 h (fun r8 M7 h => ?_)
  refine ⟨?_, ?_⟩
  · intro hc0
    replace h := h.1 hc0
    unfold wp_X2_putLate_36
    exact hQ _ _ _ (show (0 : Int32).toInt = 0 from rfl) h
  · intro a9 hc
    replace h := h.2 a9 hc
    refine ⟨?_, ?_⟩
    · intro hc0
      replace h := h.1 (cltI t_x2 (show (0 : Int32).toInt = 0 from rfl) hc0)
      unfold wp_X2_putLate_36
      exact hQ _ _ _ (show (0 : Int32).toInt = 0 from rfl) h
    · intro hc0
      replace h := h.2 (cnltI t_x2 (show (0 : Int32).toInt = 0 from rfl) hc0)
      refine ⟨?_, ?_⟩
      · intro hc0
        replace h := h.1 (cltI (tr_I rfl) t_x2 hc0)
        unfold wp_X2_putLate_36
        exact hQ _ _ _ (show (0 : Int32).toInt = 0 from rfl) h
      · intro hc0
        replace h := h.2 (cnltI (tr_I rfl) t_x2 hc0)
        refine ⟨?_, ?_⟩
        · intro hc0
          replace h := h.1 (cltI (tr_I rfl) (t_alen _) hc0)
          intro i10 e_i10
          have q_i10 := (congrArg Int32.toInt e_i10).trans (tr_I rfl)
          replace h := h _ q_i10
          have t_i10 : i10.toInt = i10.toInt := rfl
          obtain ⟨k44, h⟩ := h
          refine ⟨k44, ?_⟩
          refine w_X2_putLate_44 t_x1 t_x2 t_x3 t_i10 h hQ (fun x0 x1 y_x1 x2 y_x2 x3 y_x3 x5 M t_x1 t_x2 t_x3 h => ?_)
          unfold wp_X2_putLate_72
          obtain ⟨hp, h⟩ := h
          refine ⟨(tinb t_x2 hp), ?_⟩
          intro M3 e_M3
          replace h := h (ab M3) ((congrArg ab e_M3).trans (ab_sL (tnatI t_x2) t_x3))
          obtain ⟨rr194, h⟩ := h
          intro M4 e_M4
          replace h := h (ab M4) ((congrArg ab e_M4).trans (ab_sI rfl (taddI (tr_I rfl) (show (1 : Int32).toInt = 1 from rfl) rr194)))
          refine w_X2_changeLate t_x1 (show (1 : Int32).toInt = 1 from rfl) h (fun M5 h => ?_)
          obtain ⟨hp, h⟩ := h
          refine ⟨hp, ?_⟩
          exact hQ _ _ _ (tr_I rfl) h
        · intro hc0
          replace h := h.2 (cnltI (tr_I rfl) (t_alen _) hc0)
          unfold wp_X2_putLate_36
          exact hQ _ _ _ (show (0 : Int32).toInt = 0 from rfl) h
theorem w_X2_takeLate_25 {Q : Mem → Prop} {bQ : Im → Prop} {K53 : Nat → Int32 → Mem → Prop} {bK53 : Nat → Int → Im → Prop} : ∀ {n : Nat} {x0 : Nat} {x1 : Int32} {y_x1 : Int} {x3 : Int32} {y_x3 : Int} {M : Mem} (t_x1 : x1.toInt = y_x1) (t_x3 : x3.toInt = y_x3) (_ : sp_X2_takeLate_25 n x0 y_x1 y_x3 (ab M) bQ bK53) (_ : ∀ (m : Mem), bQ (ab m) → Q m) (_ : ∀ (z0 : Nat) (z1 : Int32) (u1 : Int) (m : Mem), z1.toInt = u1 → bK53 z0 u1 (ab m) → K53 z0 z1 m), wp_X2_takeLate_25 n x0 x1 x3 M Q K53 := by
  intro n
  induction n with
  | zero => intro x0 x1 y_x1 x3 y_x3 M t_x1 t_x3 h hQ hK53; exact h.elim
  | succ n ih =>
    intro x0 x1 y_x1 x3 y_x3 M t_x1 t_x3 h hQ hK53
    unfold sp_X2_takeLate_25 at h
    unfold wp_X2_takeLate_25
    refine ⟨?_, ?_⟩
    · intro hc0
      replace h := h.1 (cleI (tr_I rfl) t_x3 hc0)
      exact hK53 _ _ _ _ t_x1 h
    · intro hc0
      replace h := h.2 (cnleI (tr_I rfl) t_x3 hc0)
      obtain ⟨rr198, h⟩ := h
      obtain ⟨hp, h⟩ := h
      refine ⟨(tinb (taddI t_x3 (show (1 : Int32).toInt = 1 from rfl) rr198) hp), ?_⟩
      obtain ⟨hp, h⟩ := h
      refine ⟨(tinb t_x3 hp), ?_⟩
      obtain ⟨rr199, h⟩ := h
      intro M1 e_M1
      replace h := h (ab M1) ((congrArg ab e_M1).trans (ab_sL (tnatI t_x3) (tr_L (tnatI (taddI t_x3 (show (1 : Int32).toInt = 1 from rfl) rr199)))))
      obtain ⟨rr200, h⟩ := h
      intro i2 e_i2
      have q_i2 := (congrArg Int32.toInt e_i2).trans (taddI t_x3 (show (1 : Int32).toInt = 1 from rfl) rr200)
      replace h := h _ q_i2
      have t_i2 : i2.toInt = i2.toInt := rfl
      refine ih t_x1 t_i2 h hQ hK53
theorem w_X2_takeLate {Q : Mem → Prop} {bQ : Im → Prop} {x0 : Nat} {x1 : Int32} {y_x1 : Int} {x2 : Int32} {y_x2 : Int} {M : Mem} (t_x1 : x1.toInt = y_x1) (t_x2 : x2.toInt = y_x2) (h : sp_X2_takeLate x0 y_x1 y_x2 (ab M) bQ) (hQ : ∀ (m : Mem), bQ (ab m) → Q m) : wp_X2_takeLate x0 x1 x2 M Q := by
  unfold sp_X2_takeLate at h
  unfold wp_X2_takeLate
  obtain ⟨hp, h⟩ := h
  refine ⟨hp, ?_⟩
  refine ⟨?_, ?_⟩
  · intro hc0
    replace h := h.1 (cltI t_x2 (show (0 : Int32).toInt = 0 from rfl) hc0)
    unfold wp_X2_takeLate_12
    exact hQ _  h
  · intro hc0
    replace h := h.2 (cnltI t_x2 (show (0 : Int32).toInt = 0 from rfl) hc0)
    refine ⟨?_, ?_⟩
    · intro hc0
      replace h := h.1 (cltI t_x2 (tr_I rfl) hc0)
      obtain ⟨rr202, h⟩ := h
      intro M4 e_M4
      replace h := h (ab M4) ((congrArg ab e_M4).trans (ab_sI rfl (tsubI (tr_I rfl) (show (1 : Int32).toInt = 1 from rfl) rr202)))
      obtain ⟨k25, h⟩ := h
      refine ⟨k25, ?_⟩
      refine w_X2_takeLate_25 t_x1 t_x2 h hQ (fun x0 x1 y_x1 M t_x1 h => ?_)
      unfold wp_X2_takeLate_53
      refine w_X2_changeLate t_x1 (show (-1 : Int32).toInt = -1 from rfl) h (fun M3 h => ?_)
      exact hQ _  h
    · intro hc0
      replace h := h.2 (cnltI t_x2 (tr_I rfl) hc0)
      unfold wp_X2_takeLate_12
      exact hQ _  h
theorem w_X3_init {Q : Mem → Prop} {bQ : Im → Prop} {x0 : Nat} {M : Mem} (h : sp_X3_init x0 (ab M) bQ) (hQ : ∀ (m : Mem), bQ (ab m) → Q m) : wp_X3_init x0 M Q := by
  unfold sp_X3_init at h
  unfold wp_X3_init
  obtain ⟨hp, h⟩ := h
  refine ⟨hp, ?_⟩
  obtain ⟨hp, h⟩ := h
  refine ⟨(tnlI (show (34 : Int32).toInt = 34 from rfl) hp), ?_⟩
  obtain ⟨hp, h⟩ := h
  refine ⟨hp, ?_⟩
  obtain ⟨hp, h⟩ := h
  refine ⟨(tshp (rfl : (34 : Int32).toNatClampNeg = 34) hp), ?_⟩
  obtain ⟨hp, h⟩ := h
  refine ⟨(tby (rfl : (34 : Int32).toNatClampNeg = 34) hp), ?_⟩
  intro a1 M2 e1 e2
  replace h := h a1 (ab M2) e1 ((congrArg ab e2).trans ab_nw)
  intro M3 e_M3
  replace h := h (ab M3) ((congrArg ab e_M3).trans (ab_sR rfl rfl))
  intro M4 e_M4
  replace h := h (ab M4) ((congrArg ab e_M4).trans (ab_sI rfl (show (0 : Int32).toInt = 0 from rfl)))
  intro M5 e_M5
  replace h := h (ab M5) ((congrArg ab e_M5).trans (ab_sI rfl (show (0 : Int32).toInt = 0 from rfl)))
  intro M6 e_M6
  replace h := h (ab M6) ((congrArg ab e_M6).trans (ab_sI rfl (show (0 : Int32).toInt = 0 from rfl)))
  intro M7 e_M7
  replace h := h (ab M7) ((congrArg ab e_M7).trans (ab_sI rfl (show (0 : Int32).toInt = 0 from rfl)))
  intro M8 e_M8
  replace h := h (ab M8) ((congrArg ab e_M8).trans (ab_sI rfl (show (0 : Int32).toInt = 0 from rfl)))
  intro M9 e_M9
  replace h := h (ab M9) ((congrArg ab e_M9).trans (ab_sI rfl (show (0 : Int32).toInt = 0 from rfl)))
  exact hQ _  h
theorem w_X3_tell {Q : Mem → Prop} {bQ : Im → Prop} {x0 : Nat} {x1 : Int32} {y_x1 : Int} {M : Mem} (t_x1 : x1.toInt = y_x1) (h : sp_X3_tell x0 y_x1 (ab M) bQ) (hQ : ∀ (m : Mem), bQ (ab m) → Q m) : wp_X3_tell x0 x1 M Q := by
  unfold sp_X3_tell at h
  unfold wp_X3_tell
  obtain ⟨hp, h⟩ := h
  refine ⟨hp, ?_⟩
  refine ⟨?_, ?_⟩
  · intro hc0
    replace h := h.1 (cleI (t_alen _) (tr_I rfl) hc0)
    unfold wp_X3_tell_32
    exact hQ _  h
  · intro hc0
    replace h := h.2 (cnleI (t_alen _) (tr_I rfl) hc0)
    obtain ⟨hp, h⟩ := h
    refine ⟨(tinb (tr_I rfl) hp), ?_⟩
    intro M1 e_M1
    replace h := h (ab M1) ((congrArg ab e_M1).trans (ab_sI (tnatI (tr_I rfl)) t_x1))
    obtain ⟨rr204, h⟩ := h
    intro M2 e_M2
    replace h := h (ab M2) ((congrArg ab e_M2).trans (ab_sI rfl (taddI (tr_I rfl) (show (1 : Int32).toInt = 1 from rfl) rr204)))
    unfold wp_X3_tell_32
    exact hQ _  h
theorem w_X3_descend_105 {Q : Int32 → Mem → Prop} {bQ : Int → Im → Prop} {K53 : Nat → Nat → Int32 → Int64 → Nat → Int32 → Int32 → Int32 → Mem → Prop} {bK53 : Nat → Nat → Int → Int → Nat → Int → Int → Int → Im → Prop} {K111 : Nat → Int32 → Nat → Int32 → Int32 → Mem → Prop} {bK111 : Nat → Int → Nat → Int → Int → Im → Prop} {x0 : Nat} {x1 : Nat} {x2 : Int32} {y_x2 : Int} {x3 : Int64} {y_x3 : Int} {x5 : Nat} {x6 : Int32} {y_x6 : Int} {x8 : Int32} {y_x8 : Int} {t0 : Int32} {y_t0 : Int} {t1 : Int32} {y_t1 : Int} {M : Mem} (t_x2 : x2.toInt = y_x2) (t_x3 : x3.toInt = y_x3) (t_x6 : x6.toInt = y_x6) (t_x8 : x8.toInt = y_x8) (t_t0 : t0.toInt = y_t0) (t_t1 : t1.toInt = y_t1) (h : sp_X3_descend_105 x0 x1 y_x2 y_x3 x5 y_x6 y_x8 y_t0 y_t1 (ab M) bQ bK53 bK111) (hQ : ∀ (z0 : Int32) (u0 : Int) (m : Mem), z0.toInt = u0 → bQ u0 (ab m) → Q z0 m) (hK53 : ∀ (z0 : Nat) (z1 : Nat) (z2 : Int32) (u2 : Int) (z3 : Int64) (u3 : Int) (z4 : Nat) (z5 : Int32) (u5 : Int) (z6 : Int32) (u6 : Int) (z7 : Int32) (u7 : Int) (m : Mem), z2.toInt = u2 → z3.toInt = u3 → z5.toInt = u5 → z6.toInt = u6 → z7.toInt = u7 → bK53 z0 z1 u2 u3 z4 u5 u6 u7 (ab m) → K53 z0 z1 z2 z3 z4 z5 z6 z7 m) (hK111 : ∀ (z0 : Nat) (z1 : Int32) (u1 : Int) (z2 : Nat) (z3 : Int32) (u3 : Int) (z4 : Int32) (u4 : Int) (m : Mem), z1.toInt = u1 → z3.toInt = u3 → z4.toInt = u4 → bK111 z0 u1 z2 u3 u4 (ab m) → K111 z0 z1 z2 z3 z4 m) : wp_X3_descend_105 x0 x1 x2 x3 x5 x6 x8 t0 t1 M Q K53 K111 := by
  unfold sp_X3_descend_105 at h
  unfold wp_X3_descend_105
  obtain ⟨rr206, h⟩ := h
  intro i4 e_i4
  have q_i4 := (congrArg Int32.toInt e_i4).trans (tsubI t_t1 t_t0 rr206)
  replace h := h _ q_i4
  have t_i4 : i4.toInt = i4.toInt := rfl
  exact hK53 _ _ _ _ _ _ _ _ _ _ _ _ _ _ t_x2 t_x3 t_x6 t_i4 t_x8 h
theorem w_X3_descend_91 {Q : Int32 → Mem → Prop} {bQ : Int → Im → Prop} {K53 : Nat → Nat → Int32 → Int64 → Nat → Int32 → Int32 → Int32 → Mem → Prop} {bK53 : Nat → Nat → Int → Int → Nat → Int → Int → Int → Im → Prop} {K111 : Nat → Int32 → Nat → Int32 → Int32 → Mem → Prop} {bK111 : Nat → Int → Nat → Int → Int → Im → Prop} {x0 : Nat} {x1 : Nat} {x2 : Int32} {y_x2 : Int} {x3 : Int64} {y_x3 : Int} {x5 : Nat} {x6 : Int32} {y_x6 : Int} {x7 : Int32} {y_x7 : Int} {t0 : Int32} {y_t0 : Int} {M : Mem} (t_x2 : x2.toInt = y_x2) (t_x3 : x3.toInt = y_x3) (t_x6 : x6.toInt = y_x6) (t_x7 : x7.toInt = y_x7) (t_t0 : t0.toInt = y_t0) (h : sp_X3_descend_91 x0 x1 y_x2 y_x3 x5 y_x6 y_x7 y_t0 (ab M) bQ bK53 bK111) (hQ : ∀ (z0 : Int32) (u0 : Int) (m : Mem), z0.toInt = u0 → bQ u0 (ab m) → Q z0 m) (hK53 : ∀ (z0 : Nat) (z1 : Nat) (z2 : Int32) (u2 : Int) (z3 : Int64) (u3 : Int) (z4 : Nat) (z5 : Int32) (u5 : Int) (z6 : Int32) (u6 : Int) (z7 : Int32) (u7 : Int) (m : Mem), z2.toInt = u2 → z3.toInt = u3 → z5.toInt = u5 → z6.toInt = u6 → z7.toInt = u7 → bK53 z0 z1 u2 u3 z4 u5 u6 u7 (ab m) → K53 z0 z1 z2 z3 z4 z5 z6 z7 m) (hK111 : ∀ (z0 : Nat) (z1 : Int32) (u1 : Int) (z2 : Nat) (z3 : Int32) (u3 : Int) (z4 : Int32) (u4 : Int) (m : Mem), z1.toInt = u1 → z3.toInt = u3 → z4.toInt = u4 → bK111 z0 u1 z2 u3 u4 (ab m) → K111 z0 z1 z2 z3 z4 m) : wp_X3_descend_91 x0 x1 x2 x3 x5 x6 x7 t0 M Q K53 K111 := by
  unfold sp_X3_descend_91 at h
  unfold wp_X3_descend_91
  refine ⟨?_, ?_⟩
  · intro hc0
    replace h := h.1 (ceqI t_t0 (show (0 : Int32).toInt = 0 from rfl) hc0)
    refine w_X3_descend_105 t_x2 t_x3 t_x6 t_t0 (show (0 : Int32).toInt = 0 from rfl) t_x7 h hQ hK53 hK111
  · intro hc0
    replace h := h.2 (cneI t_t0 (show (0 : Int32).toInt = 0 from rfl) hc0)
    refine w_X3_descend_105 t_x2 t_x3 t_x6 t_t0 (show (1 : Int32).toInt = 1 from rfl) t_x7 h hQ hK53 hK111
theorem w_X3_descend_53 {Q : Int32 → Mem → Prop} {bQ : Int → Im → Prop} {K111 : Nat → Int32 → Nat → Int32 → Int32 → Mem → Prop} {bK111 : Nat → Int → Nat → Int → Int → Im → Prop} : ∀ {n : Nat} {x0 : Nat} {x1 : Nat} {x2 : Int32} {y_x2 : Int} {x3 : Int64} {y_x3 : Int} {x5 : Nat} {x6 : Int32} {y_x6 : Int} {x7 : Int32} {y_x7 : Int} {x8 : Int32} {y_x8 : Int} {M : Mem} (t_x2 : x2.toInt = y_x2) (t_x3 : x3.toInt = y_x3) (t_x6 : x6.toInt = y_x6) (t_x7 : x7.toInt = y_x7) (t_x8 : x8.toInt = y_x8) (_ : sp_X3_descend_53 n x0 x1 y_x2 y_x3 x5 y_x6 y_x7 y_x8 (ab M) bQ bK111) (_ : ∀ (z0 : Int32) (u0 : Int) (m : Mem), z0.toInt = u0 → bQ u0 (ab m) → Q z0 m) (_ : ∀ (z0 : Nat) (z1 : Int32) (u1 : Int) (z2 : Nat) (z3 : Int32) (u3 : Int) (z4 : Int32) (u4 : Int) (m : Mem), z1.toInt = u1 → z3.toInt = u3 → z4.toInt = u4 → bK111 z0 u1 z2 u3 u4 (ab m) → K111 z0 z1 z2 z3 z4 m), wp_X3_descend_53 n x0 x1 x2 x3 x5 x6 x7 x8 M Q K111 := by
  intro n
  induction n with
  | zero => intro x0 x1 x2 y_x2 x3 y_x3 x5 x6 y_x6 x7 y_x7 x8 y_x8 M t_x2 t_x3 t_x6 t_x7 t_x8 h hQ hK111; exact h.elim
  | succ n ih =>
    intro x0 x1 x2 y_x2 x3 y_x3 x5 x6 y_x6 x7 y_x7 x8 y_x8 M t_x2 t_x3 t_x6 t_x7 t_x8 h hQ hK111
    unfold sp_X3_descend_53 at h
    unfold wp_X3_descend_53
    refine ⟨?_, ?_⟩
    · intro hc0
      replace h := h.1 (cleI t_x7 (show (0 : Int32).toInt = 0 from rfl) hc0)
      exact hK111 _ _ _ _ _ _ _ _ _ t_x2 t_x6 t_x7 h
    · intro hc0
      replace h := h.2 (cnleI t_x7 (show (0 : Int32).toInt = 0 from rfl) hc0)
      refine ⟨?_, ?_⟩
      · intro hc0
        replace h := h.1 (ceqI t_x8 (show (0 : Int32).toInt = 0 from rfl) hc0)
        exact hK111 _ _ _ _ _ _ _ _ _ t_x2 t_x6 t_x7 h
      · intro hc0
        replace h := h.2 (cneI t_x8 (show (0 : Int32).toInt = 0 from rfl) hc0)
        obtain ⟨rr208, h⟩ := h
        intro M1 e_M1
        replace h := h (ab M1) ((congrArg ab e_M1).trans (ab_sI rfl (taddI (tr_I rfl) (show (1 : Int32).toInt = 1 from rfl) rr208)))
        refine w_X2_keyOf t_x7 h (fun j3 y_j3 M2 t_j3 h => ?_)
        refine ⟨?_, ?_⟩
        · intro hc0
          replace h := h.1 (cleJ t_j3 t_x3 hc0)
          refine w_X3_descend_91 t_x2 t_x3 t_x6 t_x7 (show (0 : Int32).toInt = 0 from rfl) h hQ (fun x0 x1 x2 y_x2 x3 y_x3 x5 x6 y_x6 x7 y_x7 x8 y_x8 M t_x2 t_x3 t_x6 t_x7 t_x8 h => ?_) hK111
          refine ih t_x2 t_x3 t_x6 t_x7 t_x8 h hQ hK111
        · intro hc0
          replace h := h.2 (cnleJ t_j3 t_x3 hc0)
          refine w_X3_descend_91 t_x2 t_x3 t_x6 t_x7 (show (1 : Int32).toInt = 1 from rfl) h hQ (fun x0 x1 x2 y_x2 x3 y_x3 x5 x6 y_x6 x7 y_x7 x8 y_x8 M t_x2 t_x3 t_x6 t_x7 t_x8 h => ?_) hK111
          refine ih t_x2 t_x3 t_x6 t_x7 t_x8 h hQ hK111
theorem w_X3_descend {Q : Int32 → Mem → Prop} {bQ : Int → Im → Prop} {x0 : Nat} {x1 : Option Nat} {x2 : Int32} {y_x2 : Int} {x3 : Int64} {y_x3 : Int} {M : Mem} (t_x2 : x2.toInt = y_x2) (t_x3 : x3.toInt = y_x3) (h : sp_X3_descend x0 x1 y_x2 y_x3 (ab M) bQ) (hQ : ∀ (z0 : Int32) (u0 : Int) (m : Mem), z0.toInt = u0 → bQ u0 (ab m) → Q z0 m) : wp_X3_descend x0 x1 x2 x3 M Q := by
  unfold sp_X3_descend at h
  unfold wp_X3_descend
  obtain ⟨hp, h⟩ := h
  refine ⟨hp, ?_⟩
  obtain ⟨a8, hp, h⟩ := h
  refine ⟨a8, hp, ?_⟩
  obtain ⟨hp, h⟩ := h
  refine ⟨hp, ?_⟩
  refine w_X2_pieceAt t_x2 h (fun r10 M9 h => ?_)
  refine ⟨?_, ?_⟩
  · intro hc0
    replace h := h.1 hc0
    exact hQ _ _ _ (show (0 : Int32).toInt = 0 from rfl) h
  · intro a11 hc
    replace h := h.2 a11 hc
    refine w_X2_keyOf (show (0 : Int32).toInt = 0 from rfl) h (fun j13 y_j13 M12 t_j13 h => ?_)
    obtain ⟨hp, h⟩ := h
    refine ⟨hp, ?_⟩
    obtain ⟨rr213, h⟩ := h
    refine w_X0_guessAway (tsubJ t_x3 t_j13 rr213) h (fun i16 y_i16 M15 t_i16 h => ?_)
    obtain ⟨rr214, h⟩ := h
    obtain ⟨rr215, h⟩ := h
    refine w_J9_min_7cf53 (taddI t_i16 (tr_I rfl) rr214) (tsubI (tr_I rfl) (show (1 : Int32).toInt = 1 from rfl) rr215) h (fun i18 y_i18 M17 t_i18 h => ?_)
    obtain ⟨k53, h⟩ := h
    refine ⟨k53, ?_⟩
    refine w_X3_descend_53 t_x2 t_x3 t_i16 t_i18 (show (1 : Int32).toInt = 1 from rfl) h hQ (fun x0 x2 y_x2 x5 x6 y_x6 x7 y_x7 M t_x2 t_x6 t_x7 h => ?_)
    unfold wp_X3_descend_111
    refine w_X3_tell t_x2 h (fun M5 h => ?_)
    refine w_X3_tell t_x6 h (fun M6 h => ?_)
    refine w_X3_tell t_x7 h (fun M7 h => ?_)
    obtain ⟨rr216, h⟩ := h
    exact hQ _ _ _ (taddI (tr_I rfl) t_x7 rr216) h
