/-! sp -> wp, by program -/
theorem w_X3_seekLate_100 {Q : Mem → Prop} {bQ : Im → Prop} {K26 : Nat → Nat → Int64 → Nat → Int32 → Int32 → Mem → Prop} {bK26 : Nat → Nat → Int → Nat → Int → Int → Im → Prop} {K106 : Nat → Nat → Int32 → Mem → Prop} {bK106 : Nat → Nat → Int → Im → Prop} {x0 : Nat} {x1 : Nat} {x2 : Int64} {y_x2 : Int} {x4 : Nat} {x5 : Int32} {y_x5 : Int} {x6 : Int32} {y_x6 : Int} {t0 : Int32} {y_t0 : Int} {t1 : Nat} {M : Mem} (t_x2 : x2.toInt = y_x2) (t_x5 : x5.toInt = y_x5) (t_x6 : x6.toInt = y_x6) (t_t0 : t0.toInt = y_t0) (h : sp_X3_seekLate_100 x0 x1 y_x2 x4 y_x5 y_x6 y_t0 t1 (ab M) bQ bK26 bK106) (hQ : ∀ (m : Mem), bQ (ab m) → Q m) (hK26 : ∀ (z0 : Nat) (z1 : Nat) (z2 : Int64) (u2 : Int) (z3 : Nat) (z4 : Int32) (u4 : Int) (z5 : Int32) (u5 : Int) (m : Mem), z2.toInt = u2 → z4.toInt = u4 → z5.toInt = u5 → bK26 z0 z1 u2 z3 u4 u5 (ab m) → K26 z0 z1 z2 z3 z4 z5 m) (hK106 : ∀ (z0 : Nat) (z1 : Nat) (z2 : Int32) (u2 : Int) (m : Mem), z2.toInt = u2 → bK106 z0 z1 u2 (ab m) → K106 z0 z1 z2 m) : wp_X3_seekLate_100 x0 x1 x2 x4 x5 x6 t0 t1 M Q K26 K106 := by
  unfold sp_X3_seekLate_100 at h
  unfold wp_X3_seekLate_100
  intro M5 e_M5
  replace h := h (ab M5) ((congrArg ab e_M5).trans (ab_sI rfl t_t0))
  exact hK26 _ _ _ _ _ _ _ _ _ _ t_x2 t_x5 t_x6 h
theorem w_X3_seekLate_84 {Q : Mem → Prop} {bQ : Im → Prop} {K26 : Nat → Nat → Int64 → Nat → Int32 → Int32 → Mem → Prop} {bK26 : Nat → Nat → Int → Nat → Int → Int → Im → Prop} {K106 : Nat → Nat → Int32 → Mem → Prop} {bK106 : Nat → Nat → Int → Im → Prop} {x0 : Nat} {x1 : Nat} {x2 : Int64} {y_x2 : Int} {x4 : Nat} {x6 : Int32} {y_x6 : Int} {x7 : Int64} {y_x7 : Int} {t0 : Int32} {y_t0 : Int} {t1 : Int32} {y_t1 : Int} {M : Mem} (t_x2 : x2.toInt = y_x2) (t_x6 : x6.toInt = y_x6) (t_x7 : x7.toInt = y_x7) (t_t0 : t0.toInt = y_t0) (t_t1 : t1.toInt = y_t1) (h : sp_X3_seekLate_84 x0 x1 y_x2 x4 y_x6 y_x7 y_t0 y_t1 (ab M) bQ bK26 bK106) (hQ : ∀ (m : Mem), bQ (ab m) → Q m) (hK26 : ∀ (z0 : Nat) (z1 : Nat) (z2 : Int64) (u2 : Int) (z3 : Nat) (z4 : Int32) (u4 : Int) (z5 : Int32) (u5 : Int) (m : Mem), z2.toInt = u2 → z4.toInt = u4 → z5.toInt = u5 → bK26 z0 z1 u2 z3 u4 u5 (ab m) → K26 z0 z1 z2 z3 z4 z5 m) (hK106 : ∀ (z0 : Nat) (z1 : Nat) (z2 : Int32) (u2 : Int) (m : Mem), z2.toInt = u2 → bK106 z0 z1 u2 (ab m) → K106 z0 z1 z2 m) : wp_X3_seekLate_84 x0 x1 x2 x4 x6 x7 t0 t1 M Q K26 K106 := by
  unfold sp_X3_seekLate_84 at h
  unfold wp_X3_seekLate_84
  obtain ⟨rr219, h⟩ := h
  intro i4 e_i4
  have q_i4 := (congrArg Int32.toInt e_i4).trans (tsubI t_t1 t_t0 rr219)
  replace h := h _ q_i4
  have t_i4 : i4.toInt = i4.toInt := rfl
  refine ⟨?_, ?_⟩
  · intro hc0
    replace h := h.1 (cneJ t_x7 t_x2 hc0)
    refine w_X3_seekLate_100 t_x2 t_i4 t_x6 (show (0 : Int32).toInt = 0 from rfl) h hQ hK26 hK106
  · intro hc0
    replace h := h.2 (ceqJ t_x7 t_x2 hc0)
    refine w_X3_seekLate_100 t_x2 t_i4 t_x6 (show (1 : Int32).toInt = 1 from rfl) h hQ hK26 hK106
theorem w_X3_seekLate_70 {Q : Mem → Prop} {bQ : Im → Prop} {K26 : Nat → Nat → Int64 → Nat → Int32 → Int32 → Mem → Prop} {bK26 : Nat → Nat → Int → Nat → Int → Int → Im → Prop} {K106 : Nat → Nat → Int32 → Mem → Prop} {bK106 : Nat → Nat → Int → Im → Prop} {x0 : Nat} {x1 : Nat} {x2 : Int64} {y_x2 : Int} {x4 : Nat} {x5 : Int32} {y_x5 : Int} {x7 : Int64} {y_x7 : Int} {t0 : Int32} {y_t0 : Int} {M : Mem} (t_x2 : x2.toInt = y_x2) (t_x5 : x5.toInt = y_x5) (t_x7 : x7.toInt = y_x7) (t_t0 : t0.toInt = y_t0) (h : sp_X3_seekLate_70 x0 x1 y_x2 x4 y_x5 y_x7 y_t0 (ab M) bQ bK26 bK106) (hQ : ∀ (m : Mem), bQ (ab m) → Q m) (hK26 : ∀ (z0 : Nat) (z1 : Nat) (z2 : Int64) (u2 : Int) (z3 : Nat) (z4 : Int32) (u4 : Int) (z5 : Int32) (u5 : Int) (m : Mem), z2.toInt = u2 → z4.toInt = u4 → z5.toInt = u5 → bK26 z0 z1 u2 z3 u4 u5 (ab m) → K26 z0 z1 z2 z3 z4 z5 m) (hK106 : ∀ (z0 : Nat) (z1 : Nat) (z2 : Int32) (u2 : Int) (m : Mem), z2.toInt = u2 → bK106 z0 z1 u2 (ab m) → K106 z0 z1 z2 m) : wp_X3_seekLate_70 x0 x1 x2 x4 x5 x7 t0 M Q K26 K106 := by
  unfold sp_X3_seekLate_70 at h
  unfold wp_X3_seekLate_70
  refine ⟨?_, ?_⟩
  · intro hc0
    replace h := h.1 (ceqI t_t0 (show (0 : Int32).toInt = 0 from rfl) hc0)
    refine w_X3_seekLate_84 t_x2 t_t0 t_x7 (show (0 : Int32).toInt = 0 from rfl) t_x5 h hQ hK26 hK106
  · intro hc0
    replace h := h.2 (cneI t_t0 (show (0 : Int32).toInt = 0 from rfl) hc0)
    refine w_X3_seekLate_84 t_x2 t_t0 t_x7 (show (1 : Int32).toInt = 1 from rfl) t_x5 h hQ hK26 hK106
theorem w_X3_seekLate_26 {Q : Mem → Prop} {bQ : Im → Prop} {K106 : Nat → Nat → Int32 → Mem → Prop} {bK106 : Nat → Nat → Int → Im → Prop} : ∀ {n : Nat} {x0 : Nat} {x1 : Nat} {x2 : Int64} {y_x2 : Int} {x4 : Nat} {x5 : Int32} {y_x5 : Int} {x6 : Int32} {y_x6 : Int} {M : Mem} (t_x2 : x2.toInt = y_x2) (t_x5 : x5.toInt = y_x5) (t_x6 : x6.toInt = y_x6) (_ : sp_X3_seekLate_26 n x0 x1 y_x2 x4 y_x5 y_x6 (ab M) bQ bK106) (_ : ∀ (m : Mem), bQ (ab m) → Q m) (_ : ∀ (z0 : Nat) (z1 : Nat) (z2 : Int32) (u2 : Int) (m : Mem), z2.toInt = u2 → bK106 z0 z1 u2 (ab m) → K106 z0 z1 z2 m), wp_X3_seekLate_26 n x0 x1 x2 x4 x5 x6 M Q K106 := by
  intro n
  induction n with
  | zero => intro x0 x1 x2 y_x2 x4 x5 y_x5 x6 y_x6 M t_x2 t_x5 t_x6 h hQ hK106; exact h.elim
  | succ n ih =>
    intro x0 x1 x2 y_x2 x4 x5 y_x5 x6 y_x6 M t_x2 t_x5 t_x6 h hQ hK106
    unfold sp_X3_seekLate_26 at h
    unfold wp_X3_seekLate_26
    refine ⟨?_, ?_⟩
    · intro hc0
      replace h := h.1 (cleI t_x5 (show (0 : Int32).toInt = 0 from rfl) hc0)
      exact hK106 _ _ _ _ _ t_x5 h
    · intro hc0
      replace h := h.2 (cnleI t_x5 (show (0 : Int32).toInt = 0 from rfl) hc0)
      refine ⟨?_, ?_⟩
      · intro hc0
        replace h := h.1 (ceqI t_x6 (show (0 : Int32).toInt = 0 from rfl) hc0)
        exact hK106 _ _ _ _ _ t_x5 h
      · intro hc0
        replace h := h.2 (cneI t_x6 (show (0 : Int32).toInt = 0 from rfl) hc0)
        obtain ⟨rr222, h⟩ := h
        intro M1 e_M1
        replace h := h (ab M1) ((congrArg ab e_M1).trans (ab_sI rfl (taddI (tr_I rfl) (show (1 : Int32).toInt = 1 from rfl) rr222)))
        obtain ⟨rr223, h⟩ := h
        refine w_X2_lateOf (tsubI t_x5 (show (1 : Int32).toInt = 1 from rfl) rr223) h (fun j3 y_j3 M2 t_j3 h => ?_)
        refine ⟨?_, ?_⟩
        · intro hc0
          replace h := h.1 (cleJ t_j3 t_x2 hc0)
          refine w_X3_seekLate_70 t_x2 t_x5 t_j3 (show (0 : Int32).toInt = 0 from rfl) h hQ (fun x0 x1 x2 y_x2 x4 x5 y_x5 x6 y_x6 M t_x2 t_x5 t_x6 h => ?_) hK106
          refine ih t_x2 t_x5 t_x6 h hQ hK106
        · intro hc0
          replace h := h.2 (cnleJ t_j3 t_x2 hc0)
          refine w_X3_seekLate_70 t_x2 t_x5 t_j3 (show (1 : Int32).toInt = 1 from rfl) h hQ (fun x0 x1 x2 y_x2 x4 x5 y_x5 x6 y_x6 M t_x2 t_x5 t_x6 h => ?_) hK106
          refine ih t_x2 t_x5 t_x6 h hQ hK106
theorem w_X3_seekLate {Q : Mem → Prop} {bQ : Im → Prop} {x0 : Nat} {x1 : Option Nat} {x2 : Int64} {y_x2 : Int} {M : Mem} (t_x2 : x2.toInt = y_x2) (h : sp_X3_seekLate x0 x1 y_x2 (ab M) bQ) (hQ : ∀ (m : Mem), bQ (ab m) → Q m) : wp_X3_seekLate x0 x1 x2 M Q := by
  unfold sp_X3_seekLate at h
  unfold wp_X3_seekLate
  obtain ⟨hp, h⟩ := h
  refine ⟨hp, ?_⟩
  obtain ⟨a7, hp, h⟩ := h
  refine ⟨a7, hp, ?_⟩
  obtain ⟨hp, h⟩ := h
  refine ⟨hp, ?_⟩
  refine w_X2_pieceAt (tr_I rfl) h (fun r9 M8 h => ?_)
  refine ⟨?_, ?_⟩
  · intro hc0
    replace h := h.1 hc0
    exact hQ _  h
  · intro a10 hc
    replace h := h.2 a10 hc
    obtain ⟨hp, h⟩ := h
    refine ⟨hp, ?_⟩
    intro i12 e_i12
    have q_i12 := (congrArg Int32.toInt e_i12).trans (tr_I rfl)
    replace h := h _ q_i12
    have t_i12 : i12.toInt = i12.toInt := rfl
    obtain ⟨k26, h⟩ := h
    refine ⟨k26, ?_⟩
    refine w_X3_seekLate_26 t_x2 t_i12 (show (1 : Int32).toInt = 1 from rfl) h hQ (fun x0 x4 x5 y_x5 M t_x5 h => ?_)
    unfold wp_X3_seekLate_106
    obtain ⟨rr225, h⟩ := h
    intro M6 e_M6
    replace h := h (ab M6) ((congrArg ab e_M6).trans (ab_sI rfl (taddI (tr_I rfl) t_x5 rr225)))
    exact hQ _  h
theorem w_X3_follow_26 {Q : Mem → Prop} {bQ : Im → Prop} {K63 : Nat → Int64 → Option Nat → Mem → Prop} {bK63 : Nat → Int → Option Nat → Im → Prop} : ∀ {n : Nat} {x0 : Nat} {x1 : Int64} {y_x1 : Int} {x3 : Option Nat} {x4 : Option Nat} {x6 : Int32} {y_x6 : Int} {M : Mem} (t_x1 : x1.toInt = y_x1) (t_x6 : x6.toInt = y_x6) (_ : sp_X3_follow_26 n x0 y_x1 x3 x4 y_x6 (ab M) bQ bK63) (_ : ∀ (m : Mem), bQ (ab m) → Q m) (_ : ∀ (z0 : Nat) (z1 : Int64) (u1 : Int) (z2 : Option Nat) (m : Mem), z1.toInt = u1 → bK63 z0 u1 z2 (ab m) → K63 z0 z1 z2 m), wp_X3_follow_26 n x0 x1 x3 x4 x6 M Q K63 := by
  intro n
  induction n with
  | zero => intro x0 x1 y_x1 x3 x4 x6 y_x6 M t_x1 t_x6 h hQ hK63; exact h.elim
  | succ n ih =>
    intro x0 x1 y_x1 x3 x4 x6 y_x6 M t_x1 t_x6 h hQ hK63
    unfold sp_X3_follow_26 at h
    unfold wp_X3_follow_26
    refine ⟨?_, ?_⟩
    · intro hc0
      replace h := h.1 (cltI t_x6 (show (0 : Int32).toInt = 0 from rfl) hc0)
      exact hK63 _ _ _ _ _ t_x1 h
    · intro hc0
      replace h := h.2 (cnltI t_x6 (show (0 : Int32).toInt = 0 from rfl) hc0)
      obtain ⟨a1, hp, h⟩ := h
      refine ⟨a1, hp, ?_⟩
      obtain ⟨hp, h⟩ := h
      refine ⟨hp, ?_⟩
      refine ⟨?_, ?_⟩
      · intro hc0
        replace h := h.1 (cleI (t_alen _) t_x6 hc0)
        exact hK63 _ _ _ _ _ t_x1 h
      · intro hc0
        replace h := h.2 (cnleI (t_alen _) t_x6 hc0)
        obtain ⟨hp, h⟩ := h
        refine ⟨(tinb t_x6 hp), ?_⟩
        intro r2 e_r2
        replace h := h r2 (e_r2.trans (tr_Z (tnatI t_x6)))
        refine w_X3_descend (tr_I rfl) t_x1 h (fun i4 y_i4 M3 t_i4 h => ?_)
        intro M5 e_M5
        replace h := h (ab M5) ((congrArg ab e_M5).trans (ab_sI rfl t_i4))
        obtain ⟨rr227, h⟩ := h
        intro i6 e_i6
        have q_i6 := (congrArg Int32.toInt e_i6).trans (taddI t_x6 (show (-1 : Int32).toInt = -1 from rfl) rr227)
        replace h := h _ q_i6
        have t_i6 : i6.toInt = i6.toInt := rfl
        refine ih t_x1 t_i6 h hQ hK63
theorem w_X3_follow_113 {Q : Mem → Prop} {bQ : Im → Prop} {x0 : Nat} {M : Mem} (h : sp_X3_follow_113 x0 (ab M) bQ) (hQ : ∀ (m : Mem), bQ (ab m) → Q m) : wp_X3_follow_113 x0 M Q := by
  unfold sp_X3_follow_113 at h
  unfold wp_X3_follow_113
  refine w_X3_tell (tr_I rfl) h (fun M16 h => ?_)
  exact hQ _  h
theorem w_X3_follow {Q : Mem → Prop} {bQ : Im → Prop} {x0 : Nat} {x1 : Int64} {y_x1 : Int} {x3 : Option Nat} {x4 : Option Nat} {x5 : Int32} {y_x5 : Int} {M : Mem} (t_x1 : x1.toInt = y_x1) (t_x5 : x5.toInt = y_x5) (h : sp_X3_follow x0 y_x1 x3 x4 y_x5 (ab M) bQ) (hQ : ∀ (m : Mem), bQ (ab m) → Q m) : wp_X3_follow x0 x1 x3 x4 x5 M Q := by
  unfold sp_X3_follow at h
  unfold wp_X3_follow
  obtain ⟨hp, h⟩ := h
  refine ⟨hp, ?_⟩
  intro M17 e_M17
  replace h := h (ab M17) ((congrArg ab e_M17).trans (ab_sI rfl (show (0 : Int32).toInt = 0 from rfl)))
  intro M18 e_M18
  replace h := h (ab M18) ((congrArg ab e_M18).trans (ab_sI rfl (show (0 : Int32).toInt = 0 from rfl)))
  intro M19 e_M19
  replace h := h (ab M19) ((congrArg ab e_M19).trans (ab_sI rfl (show (0 : Int32).toInt = 0 from rfl)))
  intro M20 e_M20
  replace h := h (ab M20) ((congrArg ab e_M20).trans (ab_sI rfl (show (0 : Int32).toInt = 0 from rfl)))
  obtain ⟨rr230, h⟩ := h
  intro i21 e_i21
  have q_i21 := (congrArg Int32.toInt e_i21).trans (tsubI t_x5 (show (1 : Int32).toInt = 1 from rfl) rr230)
  replace h := h _ q_i21
  have t_i21 : i21.toInt = i21.toInt := rfl
  obtain ⟨k26, h⟩ := h
  refine ⟨k26, ?_⟩
  refine w_X3_follow_26 t_x1 t_i21 h hQ (fun x0 x1 y_x1 x3 M t_x1 h => ?_)
  unfold wp_X3_follow_63
  refine w_X3_descend (tr_I rfl) t_x1 h (fun i8 y_i8 M7 t_i8 h => ?_)
  intro M9 e_M9
  replace h := h (ab M9) ((congrArg ab e_M9).trans (ab_sI rfl t_i8))
  obtain ⟨rr231, h⟩ := h
  intro M10 e_M10
  replace h := h (ab M10) ((congrArg ab e_M10).trans (ab_sI rfl (taddI (tr_I rfl) (show (1 : Int32).toInt = 1 from rfl) rr231)))
  obtain ⟨a11, hp, h⟩ := h
  refine ⟨a11, hp, ?_⟩
  obtain ⟨hp, h⟩ := h
  refine ⟨hp, ?_⟩
  refine w_X2_holds (tr_I rfl) t_x1 h (fun i13 y_i13 M12 t_i13 h => ?_)
  refine ⟨?_, ?_⟩
  · intro hc0
    replace h := h.1 (ceqI t_i13 (show (0 : Int32).toInt = 0 from rfl) hc0)
    refine w_X3_seekLate t_x1 h (fun M14 h => ?_)
    refine w_X3_follow_113  h hQ
  · intro hc0
    replace h := h.2 (cneI t_i13 (show (0 : Int32).toInt = 0 from rfl) hc0)
    intro M15 e_M15
    replace h := h (ab M15) ((congrArg ab e_M15).trans (ab_sI rfl (show (1 : Int32).toInt = 1 from rfl)))
    refine w_X3_follow_113  h hQ
theorem w_X3_tellsTheSame_15 {Q : Int32 → Mem → Prop} {bQ : Int → Im → Prop} {K38 : Mem → Prop} {bK38 : Im → Prop} {K46 : Mem → Prop} {bK46 : Im → Prop} : ∀ {n : Nat} {x0 : Nat} {x1 : Nat} {x2 : Int32} {y_x2 : Int} {M : Mem} (t_x2 : x2.toInt = y_x2) (_ : sp_X3_tellsTheSame_15 n x0 x1 y_x2 (ab M) bQ bK38 bK46) (_ : ∀ (z0 : Int32) (u0 : Int) (m : Mem), z0.toInt = u0 → bQ u0 (ab m) → Q z0 m) (_ : ∀ (m : Mem), bK38 (ab m) → K38 m) (_ : ∀ (m : Mem), bK46 (ab m) → K46 m), wp_X3_tellsTheSame_15 n x0 x1 x2 M Q K38 K46 := by
  intro n
  induction n with
  | zero => intro x0 x1 x2 y_x2 M t_x2 h hQ hK38 hK46; exact h.elim
  | succ n ih =>
    intro x0 x1 x2 y_x2 M t_x2 h hQ hK38 hK46
    unfold sp_X3_tellsTheSame_15 at h
    unfold wp_X3_tellsTheSame_15
    refine ⟨?_, ?_⟩
    · intro hc0
      replace h := h.1 (cleI (tr_I rfl) t_x2 hc0)
      exact hK46 _  h
    · intro hc0
      replace h := h.2 (cnleI (tr_I rfl) t_x2 hc0)
      obtain ⟨hp, h⟩ := h
      refine ⟨(tinb t_x2 hp), ?_⟩
      obtain ⟨hp, h⟩ := h
      refine ⟨(tinb t_x2 hp), ?_⟩
      refine ⟨?_, ?_⟩
      · intro hc0
        replace h := h.1 (ceqI (tr_I (tnatI t_x2)) (tr_I (tnatI t_x2)) hc0)
        obtain ⟨rr233, h⟩ := h
        intro i1 e_i1
        have q_i1 := (congrArg Int32.toInt e_i1).trans (taddI t_x2 (show (1 : Int32).toInt = 1 from rfl) rr233)
        replace h := h _ q_i1
        have t_i1 : i1.toInt = i1.toInt := rfl
        refine ih t_i1 h hQ hK38 hK46
      · intro hc0
        replace h := h.2 (cneI (tr_I (tnatI t_x2)) (tr_I (tnatI t_x2)) hc0)
        exact hK38 _  h
theorem w_X3_tellsTheSame {Q : Int32 → Mem → Prop} {bQ : Int → Im → Prop} {x0 : Nat} {x1 : Option Nat} {M : Mem} (h : sp_X3_tellsTheSame x0 x1 (ab M) bQ) (hQ : ∀ (z0 : Int32) (u0 : Int) (m : Mem), z0.toInt = u0 → bQ u0 (ab m) → Q z0 m) : wp_X3_tellsTheSame x0 x1 M Q := by
  unfold sp_X3_tellsTheSame at h
  unfold wp_X3_tellsTheSame
  obtain ⟨hp, h⟩ := h
  refine ⟨hp, ?_⟩
  obtain ⟨a2, hp, h⟩ := h
  refine ⟨a2, hp, ?_⟩
  obtain ⟨hp, h⟩ := h
  refine ⟨hp, ?_⟩
  refine ⟨?_, ?_⟩
  · intro hc0
    replace h := h.1 (ceqI (tr_I rfl) (tr_I rfl) hc0)
    obtain ⟨k15, h⟩ := h
    refine ⟨k15, ?_⟩
    refine w_X3_tellsTheSame_15 (show (0 : Int32).toInt = 0 from rfl) h hQ (fun M h => ?_) (fun M h => ?_)
    ·
      unfold wp_X3_tellsTheSame_38
      exact hQ _ _ _ (show (0 : Int32).toInt = 0 from rfl) h
    ·
      unfold wp_X3_tellsTheSame_46
      exact hQ _ _ _ (show (1 : Int32).toInt = 1 from rfl) h
  · intro hc0
    replace h := h.2 (cneI (tr_I rfl) (tr_I rfl) hc0)
    exact hQ _ _ _ (show (0 : Int32).toInt = 0 from rfl) h
theorem w_X4_init_135 {Q : Mem → Prop} {bQ : Im → Prop} {K168 : Mem → Prop} {bK168 : Im → Prop} : ∀ {n : Nat} {x0 : Nat} {x1 : Int32} {y_x1 : Int} {x2 : Int32} {y_x2 : Int} {M : Mem} (t_x1 : x1.toInt = y_x1) (t_x2 : x2.toInt = y_x2) (_ : sp_X4_init_135 n x0 y_x1 y_x2 (ab M) bQ bK168) (_ : ∀ (m : Mem), bQ (ab m) → Q m) (_ : ∀ (m : Mem), bK168 (ab m) → K168 m), wp_X4_init_135 n x0 x1 x2 M Q K168 := by
  intro n
  induction n with
  | zero => intro x0 x1 y_x1 x2 y_x2 M t_x1 t_x2 h hQ hK168; exact h.elim
  | succ n ih =>
    intro x0 x1 y_x1 x2 y_x2 M t_x1 t_x2 h hQ hK168
    unfold sp_X4_init_135 at h
    unfold wp_X4_init_135
    refine ⟨?_, ?_⟩
    · intro hc0
      replace h := h.1 (cleI (show (10 : Int32).toInt = 10 from rfl) t_x2 hc0)
      exact hK168 _  h
    · intro hc0
      replace h := h.2 (cnleI (show (10 : Int32).toInt = 10 from rfl) t_x2 hc0)
      intro r1 e_r1
      replace h := h r1 (e_r1.trans (tr_R rfl))
      obtain ⟨hp, h⟩ := h
      refine ⟨hp, ?_⟩
      obtain ⟨hp, h⟩ := h
      refine ⟨hp, ?_⟩
      intro a2 M3 e1 e2
      replace h := h a2 (ab M3) e1 ((congrArg ab e2).trans ab_nw)
      refine w_X2_init t_x1 (show (0 : Int32).toInt = 0 from rfl) h (fun M4 h => ?_)
      obtain ⟨a5, hp, h⟩ := h
      refine ⟨a5, hp, ?_⟩
      obtain ⟨hp, h⟩ := h
      refine ⟨hp, ?_⟩
      obtain ⟨hp, h⟩ := h
      refine ⟨(tinb t_x2 hp), ?_⟩
      intro M6 e_M6
      replace h := h (ab M6) ((congrArg ab e_M6).trans (ab_sR (tnatI t_x2) rfl))
      obtain ⟨hp, h⟩ := h
      refine ⟨(tnzI (show (2 : Int32).toInt = 2 from rfl) hp), ?_⟩
      obtain ⟨rr237, h⟩ := h
      obtain ⟨rr238, h⟩ := h
      intro i7 e_i7
      have q_i7 := (congrArg Int32.toInt e_i7).trans (tdivI (taddI t_x1 (show (1 : Int32).toInt = 1 from rfl) rr237) (show (2 : Int32).toInt = 2 from rfl) rr238)
      replace h := h _ q_i7
      have t_i7 : i7.toInt = i7.toInt := rfl
      obtain ⟨rr239, h⟩ := h
      intro i8 e_i8
      have q_i8 := (congrArg Int32.toInt e_i8).trans (taddI t_x2 (show (1 : Int32).toInt = 1 from rfl) rr239)
      replace h := h _ q_i8
      have t_i8 : i8.toInt = i8.toInt := rfl
      refine ih t_i7 t_i8 h hQ hK168
theorem w_X4_init {Q : Mem → Prop} {bQ : Im → Prop} {x0 : Nat} {M : Mem} (h : sp_X4_init x0 (ab M) bQ) (hQ : ∀ (m : Mem), bQ (ab m) → Q m) : wp_X4_init x0 M Q := by
  unfold sp_X4_init at h
  unfold wp_X4_init
  obtain ⟨hp, h⟩ := h
  refine ⟨hp, ?_⟩
  obtain ⟨hp, h⟩ := h
  refine ⟨(tnlI (show (300 : Int32).toInt = 300 from rfl) hp), ?_⟩
  obtain ⟨hp, h⟩ := h
  refine ⟨hp, ?_⟩
  obtain ⟨hp, h⟩ := h
  refine ⟨(tshp (rfl : (300 : Int32).toNatClampNeg = 300) hp), ?_⟩
  obtain ⟨hp, h⟩ := h
  refine ⟨(tby (rfl : (300 : Int32).toNatClampNeg = 300) hp), ?_⟩
  intro a9 M10 e1 e2
  replace h := h a9 (ab M10) e1 ((congrArg ab e2).trans ab_nw)
  intro M11 e_M11
  replace h := h (ab M11) ((congrArg ab e_M11).trans (ab_sR rfl rfl))
  intro M12 e_M12
  replace h := h (ab M12) ((congrArg ab e_M12).trans (ab_sI rfl (show (0 : Int32).toInt = 0 from rfl)))
  intro M13 e_M13
  replace h := h (ab M13) ((congrArg ab e_M13).trans (ab_sI rfl (show (8 : Int32).toInt = 8 from rfl)))
  obtain ⟨hp, h⟩ := h
  refine ⟨hp, ?_⟩
  obtain ⟨hp, h⟩ := h
  refine ⟨hp, ?_⟩
  intro a14 M15 e1 e2
  replace h := h a14 (ab M15) e1 ((congrArg ab e2).trans ab_nw)
  refine w_X2_init (show (600 : Int32).toInt = 600 from rfl) (show (300 : Int32).toInt = 300 from rfl) h (fun M16 h => ?_)
  intro M17 e_M17
  replace h := h (ab M17) ((congrArg ab e_M17).trans (ab_sR rfl rfl))
  obtain ⟨hp, h⟩ := h
  refine ⟨hp, ?_⟩
  obtain ⟨hp, h⟩ := h
  refine ⟨hp, ?_⟩
  intro a18 M19 e1 e2
  replace h := h a18 (ab M19) e1 ((congrArg ab e2).trans ab_nw)
  refine w_X2_init (show (600 : Int32).toInt = 600 from rfl) (show (300 : Int32).toInt = 300 from rfl) h (fun M20 h => ?_)
  intro M21 e_M21
  replace h := h (ab M21) ((congrArg ab e_M21).trans (ab_sR rfl rfl))
  obtain ⟨hp, h⟩ := h
  refine ⟨(tnlI (show (10 : Int32).toInt = 10 from rfl) hp), ?_⟩
  obtain ⟨hp, h⟩ := h
  refine ⟨hp, ?_⟩
  obtain ⟨hp, h⟩ := h
  refine ⟨(tshp (rfl : (10 : Int32).toNatClampNeg = 10) hp), ?_⟩
  obtain ⟨hp, h⟩ := h
  refine ⟨(tby (rfl : (10 : Int32).toNatClampNeg = 10) hp), ?_⟩
  intro a22 M23 e1 e2
  replace h := h a22 (ab M23) e1 ((congrArg ab e2).trans ab_nw)
  intro M24 e_M24
  replace h := h (ab M24) ((congrArg ab e_M24).trans (ab_sR rfl rfl))
  intro M25 e_M25
  replace h := h (ab M25) ((congrArg ab e_M25).trans (ab_sI rfl (show (0 : Int32).toInt = 0 from rfl)))
  intro M26 e_M26
  replace h := h (ab M26) ((congrArg ab e_M26).trans (ab_sI rfl (show (0 : Int32).toInt = 0 from rfl)))
  intro M27 e_M27
  replace h := h (ab M27) ((congrArg ab e_M27).trans (ab_sI rfl (show (0 : Int32).toInt = 0 from rfl)))
  intro M28 e_M28
  replace h := h (ab M28) ((congrArg ab e_M28).trans (ab_sI rfl (show (0 : Int32).toInt = 0 from rfl)))
  obtain ⟨hp, h⟩ := h
  refine ⟨hp, ?_⟩
  obtain ⟨hp, h⟩ := h
  refine ⟨hp, ?_⟩
  intro a29 M30 e1 e2
  replace h := h a29 (ab M30) e1 ((congrArg ab e2).trans ab_nw)
  refine w_X3_init  h (fun M31 h => ?_)
  intro M32 e_M32
  replace h := h (ab M32) ((congrArg ab e_M32).trans (ab_sR rfl rfl))
  obtain ⟨hp, h⟩ := h
  refine ⟨hp, ?_⟩
  obtain ⟨hp, h⟩ := h
  refine ⟨hp, ?_⟩
  intro a33 M34 e1 e2
  replace h := h a33 (ab M34) e1 ((congrArg ab e2).trans ab_nw)
  refine w_X3_init  h (fun M35 h => ?_)
  intro M36 e_M36
  replace h := h (ab M36) ((congrArg ab e_M36).trans (ab_sR rfl rfl))
  obtain ⟨hp, h⟩ := h
  refine ⟨hp, ?_⟩
  obtain ⟨hp, h⟩ := h
  refine ⟨hp, ?_⟩
  intro a37 M38 e1 e2
  replace h := h a37 (ab M38) e1 ((congrArg ab e2).trans ab_nw)
  refine w_X1_init  h (fun M39 h => ?_)
  intro M40 e_M40
  replace h := h (ab M40) ((congrArg ab e_M40).trans (ab_sR rfl rfl))
  obtain ⟨hp, h⟩ := h
  refine ⟨(tnlI (show (600 : Int32).toInt = 600 from rfl) hp), ?_⟩
  obtain ⟨hp, h⟩ := h
  refine ⟨hp, ?_⟩
  obtain ⟨hp, h⟩ := h
  refine ⟨(tshp (rfl : (600 : Int32).toNatClampNeg = 600) hp), ?_⟩
  obtain ⟨hp, h⟩ := h
  refine ⟨(tby (rfl : (600 : Int32).toNatClampNeg = 600) hp), ?_⟩
  intro a41 M42 e1 e2
  replace h := h a41 (ab M42) e1 ((congrArg ab e2).trans ab_nw)
  intro M43 e_M43
  replace h := h (ab M43) ((congrArg ab e_M43).trans (ab_sR rfl rfl))
  obtain ⟨k135, h⟩ := h
  refine ⟨k135, ?_⟩
  refine w_X4_init_135 (show (600 : Int32).toInt = 600 from rfl) (show (0 : Int32).toInt = 0 from rfl) h hQ (fun M h => ?_)
  unfold wp_X4_init_168
  exact hQ _  h
theorem w_X4_isKey {Q : Int32 → Mem → Prop} {bQ : Int → Im → Prop} {x0 : Int64} {y_x0 : Int} {M : Mem} (t_x0 : x0.toInt = y_x0) (h : sp_X4_isKey y_x0 (ab M) bQ) (hQ : ∀ (z0 : Int32) (u0 : Int) (m : Mem), z0.toInt = u0 → bQ u0 (ab m) → Q z0 m) : wp_X4_isKey x0 M Q := by
  unfold sp_X4_isKey at h
  unfold wp_X4_isKey
  refine ⟨?_, ?_⟩
  · intro hc0
    replace h := h.1 (cltJ t_x0 (show (-1000000000000 : Int64).toInt = -1000000000000 from rfl) hc0)
    unfold wp_X4_isKey_20
    unfold wp_X4_isKey_21
    obtain ⟨hp, h⟩ := h
    refine ⟨(t01 (show (0 : Int32).toInt = 0 from rfl) hp), ?_⟩
    exact hQ _ _ _ (show (0 : Int32).toInt = 0 from rfl) h
  · intro hc0
    replace h := h.2 (cnltJ t_x0 (show (-1000000000000 : Int64).toInt = -1000000000000 from rfl) hc0)
    refine ⟨?_, ?_⟩
    · intro hc0
      replace h := h.1 (cltJ (show (1000000000000 : Int64).toInt = 1000000000000 from rfl) t_x0 hc0)
      unfold wp_X4_isKey_20
      unfold wp_X4_isKey_21
      obtain ⟨hp, h⟩ := h
      refine ⟨(t01 (show (0 : Int32).toInt = 0 from rfl) hp), ?_⟩
      exact hQ _ _ _ (show (0 : Int32).toInt = 0 from rfl) h
    · intro hc0
      replace h := h.2 (cnltJ (show (1000000000000 : Int64).toInt = 1000000000000 from rfl) t_x0 hc0)
      unfold wp_X4_isKey_21
      obtain ⟨hp, h⟩ := h
      refine ⟨(t01 (show (1 : Int32).toInt = 1 from rfl) hp), ?_⟩
      exact hQ _ _ _ (show (1 : Int32).toInt = 1 from rfl) h
theorem w_X4_isAboveRow {Q : Int32 → Mem → Prop} {bQ : Int → Im → Prop} {x0 : Nat} {x1 : Int64} {y_x1 : Int} {M : Mem} (t_x1 : x1.toInt = y_x1) (h : sp_X4_isAboveRow x0 y_x1 (ab M) bQ) (hQ : ∀ (z0 : Int32) (u0 : Int) (m : Mem), z0.toInt = u0 → bQ u0 (ab m) → Q z0 m) : wp_X4_isAboveRow x0 x1 M Q := by
  unfold sp_X4_isAboveRow at h
  unfold wp_X4_isAboveRow
  obtain ⟨hp, h⟩ := h
  refine ⟨hp, ?_⟩
  refine ⟨?_, ?_⟩
  · intro hc0
    replace h := h.1 (ceqI (tr_I rfl) (show (0 : Int32).toInt = 0 from rfl) hc0)
    unfold wp_X4_isAboveRow_23
    unfold wp_X4_isAboveRow_28
    obtain ⟨hp, h⟩ := h
    refine ⟨(t01 (show (1 : Int32).toInt = 1 from rfl) hp), ?_⟩
    exact hQ _ _ _ (show (1 : Int32).toInt = 1 from rfl) h
  · intro hc0
    replace h := h.2 (cneI (tr_I rfl) (show (0 : Int32).toInt = 0 from rfl) hc0)
    obtain ⟨rr243, h⟩ := h
    obtain ⟨hp, h⟩ := h
    refine ⟨(tinb (tsubI (tr_I rfl) (show (1 : Int32).toInt = 1 from rfl) rr243) hp), ?_⟩
    obtain ⟨rr244, h⟩ := h
    refine ⟨?_, ?_⟩
    · intro hc0
      replace h := h.1 (cleJ t_x1 (tr_L (tnatI (tsubI (tr_I rfl) (show (1 : Int32).toInt = 1 from rfl) rr244))) hc0)
      unfold wp_X4_isAboveRow_28
      obtain ⟨hp, h⟩ := h
      refine ⟨(t01 (show (0 : Int32).toInt = 0 from rfl) hp), ?_⟩
      exact hQ _ _ _ (show (0 : Int32).toInt = 0 from rfl) h
    · intro hc0
      replace h := h.2 (cnleJ t_x1 (tr_L (tnatI (tsubI (tr_I rfl) (show (1 : Int32).toInt = 1 from rfl) rr244))) hc0)
      unfold wp_X4_isAboveRow_23
      unfold wp_X4_isAboveRow_28
      obtain ⟨hp, h⟩ := h
      refine ⟨(t01 (show (1 : Int32).toInt = 1 from rfl) hp), ?_⟩
      exact hQ _ _ _ (show (1 : Int32).toInt = 1 from rfl) h
theorem w_X4_load {Q : Int32 → Mem → Prop} {bQ : Int → Im → Prop} {x0 : Nat} {x1 : Int64} {y_x1 : Int} {M : Mem} (t_x1 : x1.toInt = y_x1) (h : sp_X4_load x0 y_x1 (ab M) bQ) (hQ : ∀ (z0 : Int32) (u0 : Int) (m : Mem), z0.toInt = u0 → bQ u0 (ab m) → Q z0 m) : wp_X4_load x0 x1 M Q := by
  unfold sp_X4_load at h
  unfold wp_X4_load
  obtain ⟨hp, h⟩ := h
  refine ⟨hp, ?_⟩
  refine w_X4_isKey t_x1 h (fun i2 y_i2 M1 t_i2 h => ?_)
  refine ⟨?_, ?_⟩
  · intro hc0
    replace h := h.1 (ceqI t_i2 (show (0 : Int32).toInt = 0 from rfl) hc0)
    unfold wp_X4_load_15
    exact hQ _ _ _ (show (-2 : Int32).toInt = -2 from rfl) h
  · intro hc0
    replace h := h.2 (cneI t_i2 (show (0 : Int32).toInt = 0 from rfl) hc0)
    refine w_X4_isAboveRow t_x1 h (fun i4 y_i4 M3 t_i4 h => ?_)
    refine ⟨?_, ?_⟩
    · intro hc0
      replace h := h.1 (cneI t_i4 (show (0 : Int32).toInt = 0 from rfl) hc0)
      refine ⟨?_, ?_⟩
      · intro hc0
        replace h := h.1 (cltI (tr_I rfl) (show (300 : Int32).toInt = 300 from rfl) hc0)
        obtain ⟨hp, h⟩ := h
        refine ⟨(tinb (tr_I rfl) hp), ?_⟩
        intro M5 e_M5
        replace h := h (ab M5) ((congrArg ab e_M5).trans (ab_sL (tnatI (tr_I rfl)) t_x1))
        obtain ⟨rr247, h⟩ := h
        intro M6 e_M6
        replace h := h (ab M6) ((congrArg ab e_M6).trans (ab_sI rfl (taddI (tr_I rfl) (show (1 : Int32).toInt = 1 from rfl) rr247)))
        exact hQ _ _ _ (tr_I rfl) h
      · intro hc0
        replace h := h.2 (cnltI (tr_I rfl) (show (300 : Int32).toInt = 300 from rfl) hc0)
        exact hQ _ _ _ (show (-3 : Int32).toInt = -3 from rfl) h
    · intro hc0
      replace h := h.2 (ceqI t_i4 (show (0 : Int32).toInt = 0 from rfl) hc0)
      unfold wp_X4_load_15
      exact hQ _ _ _ (show (-2 : Int32).toInt = -2 from rfl) h
theorem w_X4_fill_68 {Q : Int32 → Mem → Prop} {bQ : Int → Im → Prop} {K100 : Nat → Int32 → Mem → Prop} {bK100 : Nat → Int → Im → Prop} : ∀ {n : Nat} {x0 : Nat} {x1 : Int64} {y_x1 : Int} {x3 : Int64} {y_x3 : Int} {x5 : Int32} {y_x5 : Int} {x6 : Int32} {y_x6 : Int} {M : Mem} (t_x1 : x1.toInt = y_x1) (t_x3 : x3.toInt = y_x3) (t_x5 : x5.toInt = y_x5) (t_x6 : x6.toInt = y_x6) (_ : sp_X4_fill_68 n x0 y_x1 y_x3 y_x5 y_x6 (ab M) bQ bK100) (_ : ∀ (z0 : Int32) (u0 : Int) (m : Mem), z0.toInt = u0 → bQ u0 (ab m) → Q z0 m) (_ : ∀ (z0 : Nat) (z1 : Int32) (u1 : Int) (m : Mem), z1.toInt = u1 → bK100 z0 u1 (ab m) → K100 z0 z1 m), wp_X4_fill_68 n x0 x1 x3 x5 x6 M Q K100 := by
  intro n
  induction n with
  | zero => intro x0 x1 y_x1 x3 y_x3 x5 y_x5 x6 y_x6 M t_x1 t_x3 t_x5 t_x6 h hQ hK100; exact h.elim
  | succ n ih =>
    intro x0 x1 y_x1 x3 y_x3 x5 y_x5 x6 y_x6 M t_x1 t_x3 t_x5 t_x6 h hQ hK100
    unfold sp_X4_fill_68 at h
    unfold wp_X4_fill_68
    refine ⟨?_, ?_⟩
    · intro hc0
      replace h := h.1 (cleI t_x5 t_x6 hc0)
      exact hK100 _ _ _ _ t_x5 h
    · intro hc0
      replace h := h.2 (cnleI t_x5 t_x6 hc0)
      obtain ⟨rr253, h⟩ := h
      obtain ⟨hp, h⟩ := h
      refine ⟨(tinb (taddI (tr_I rfl) t_x6 rr253) hp), ?_⟩
      obtain ⟨rr254, h⟩ := h
      obtain ⟨rr255, h⟩ := h
      obtain ⟨rr256, h⟩ := h
      intro M1 e_M1
      replace h := h (ab M1) ((congrArg ab e_M1).trans (ab_sL (tnatI (taddI (tr_I rfl) t_x6 rr254)) (taddJ t_x1 (tmulJ (ti2l t_x6) t_x3 rr255) rr256)))
      obtain ⟨rr257, h⟩ := h
      intro i2 e_i2
      have q_i2 := (congrArg Int32.toInt e_i2).trans (taddI t_x6 (show (1 : Int32).toInt = 1 from rfl) rr257)
      replace h := h _ q_i2
      have t_i2 : i2.toInt = i2.toInt := rfl
      refine ih t_x1 t_x3 t_x5 t_i2 h hQ hK100
theorem w_X4_fill {Q : Int32 → Mem → Prop} {bQ : Int → Im → Prop} {x0 : Nat} {x1 : Int64} {y_x1 : Int} {x3 : Int64} {y_x3 : Int} {x5 : Int32} {y_x5 : Int} {M : Mem} (t_x1 : x1.toInt = y_x1) (t_x3 : x3.toInt = y_x3) (t_x5 : x5.toInt = y_x5) (h : sp_X4_fill x0 y_x1 y_x3 y_x5 (ab M) bQ) (hQ : ∀ (z0 : Int32) (u0 : Int) (m : Mem), z0.toInt = u0 → bQ u0 (ab m) → Q z0 m) : wp_X4_fill x0 x1 x3 x5 M Q := by
  unfold sp_X4_fill at h
  unfold wp_X4_fill
  obtain ⟨hp, h⟩ := h
  refine ⟨hp, ?_⟩
  refine ⟨?_, ?_⟩
  · intro hc0
    replace h := h.1 (cltI t_x5 (show (1 : Int32).toInt = 1 from rfl) hc0)
    unfold wp_X4_fill_27
    exact hQ _ _ _ (show (-2 : Int32).toInt = -2 from rfl) h
  · intro hc0
    replace h := h.2 (cnltI t_x5 (show (1 : Int32).toInt = 1 from rfl) hc0)
    refine ⟨?_, ?_⟩
    · intro hc0
      replace h := h.1 (cltJ t_x3 (show (1 : Int64).toInt = 1 from rfl) hc0)
      unfold wp_X4_fill_27
      exact hQ _ _ _ (show (-2 : Int32).toInt = -2 from rfl) h
    · intro hc0
      replace h := h.2 (cnltJ t_x3 (show (1 : Int64).toInt = 1 from rfl) hc0)
      refine w_X4_isKey t_x1 h (fun i5 y_i5 M4 t_i5 h => ?_)
      refine ⟨?_, ?_⟩
      · intro hc0
        replace h := h.1 (ceqI t_i5 (show (0 : Int32).toInt = 0 from rfl) hc0)
        unfold wp_X4_fill_27
        exact hQ _ _ _ (show (-2 : Int32).toInt = -2 from rfl) h
      · intro hc0
        replace h := h.2 (cneI t_i5 (show (0 : Int32).toInt = 0 from rfl) hc0)
        refine w_X4_isAboveRow t_x1 h (fun i7 y_i7 M6 t_i7 h => ?_)
        refine ⟨?_, ?_⟩
        · intro hc0
          replace h := h.1 (cneI t_i7 (show (0 : Int32).toInt = 0 from rfl) hc0)
          obtain ⟨hp, h⟩ := h
          refine ⟨(tnzJ t_x3 hp), ?_⟩
          obtain ⟨rr267, h⟩ := h
          obtain ⟨rr268, h⟩ := h
          obtain ⟨rr269, h⟩ := h
          refine ⟨?_, ?_⟩
          · intro hc0
            replace h := h.1 (cleJ (ti2l (tsubI t_x5 (show (1 : Int32).toInt = 1 from rfl) rr267)) (tdivJ (tsubJ (show (1000000000000 : Int64).toInt = 1000000000000 from rfl) t_x1 rr268) t_x3 rr269) hc0)
            obtain ⟨rr273, h⟩ := h
            refine ⟨?_, ?_⟩
            · intro hc0
              replace h := h.1 (cleI t_x5 (tsubI (show (300 : Int32).toInt = 300 from rfl) (tr_I rfl) rr273) hc0)
              obtain ⟨k68, h⟩ := h
              refine ⟨k68, ?_⟩
              refine w_X4_fill_68 t_x1 t_x3 t_x5 (show (0 : Int32).toInt = 0 from rfl) h hQ (fun x0 x5 y_x5 M t_x5 h => ?_)
              unfold wp_X4_fill_100
              obtain ⟨rr275, h⟩ := h
              intro M3 e_M3
              replace h := h (ab M3) ((congrArg ab e_M3).trans (ab_sI rfl (taddI (tr_I rfl) t_x5 rr275)))
              exact hQ _ _ _ (tr_I rfl) h
            · intro hc0
              replace h := h.2 (cnleI t_x5 (tsubI (show (300 : Int32).toInt = 300 from rfl) (tr_I rfl) rr273) hc0)
              exact hQ _ _ _ (show (-3 : Int32).toInt = -3 from rfl) h
          · intro hc0
            replace h := h.2 (cnleJ (ti2l (tsubI t_x5 (show (1 : Int32).toInt = 1 from rfl) rr267)) (tdivJ (tsubJ (show (1000000000000 : Int64).toInt = 1000000000000 from rfl) t_x1 rr268) t_x3 rr269) hc0)
            exact hQ _ _ _ (show (-2 : Int32).toInt = -2 from rfl) h
        · intro hc0
          replace h := h.2 (ceqI t_i7 (show (0 : Int32).toInt = 0 from rfl) hc0)
          unfold wp_X4_fill_27
          exact hQ _ _ _ (show (-2 : Int32).toInt = -2 from rfl) h
theorem w_X4_wipe {Q : Int32 → Mem → Prop} {bQ : Int → Im → Prop} {x0 : Nat} {M : Mem} (h : sp_X4_wipe x0 (ab M) bQ) (hQ : ∀ (z0 : Int32) (u0 : Int) (m : Mem), z0.toInt = u0 → bQ u0 (ab m) → Q z0 m) : wp_X4_wipe x0 M Q := by
  unfold sp_X4_wipe at h
  unfold wp_X4_wipe
  obtain ⟨hp, h⟩ := h
  refine ⟨hp, ?_⟩
  intro i1 e_i1
  have q_i1 := (congrArg Int32.toInt e_i1).trans (tr_I rfl)
  replace h := h _ q_i1
  have t_i1 : i1.toInt = i1.toInt := rfl
  intro M2 e_M2
  replace h := h (ab M2) ((congrArg ab e_M2).trans (ab_sI rfl (show (0 : Int32).toInt = 0 from rfl)))
  exact hQ _ _ _ t_i1 h
theorem w_X4_isMargin {Q : Int32 → Mem → Prop} {bQ : Int → Im → Prop} {x0 : Int32} {y_x0 : Int} {M : Mem} (t_x0 : x0.toInt = y_x0) (h : sp_X4_isMargin y_x0 (ab M) bQ) (hQ : ∀ (z0 : Int32) (u0 : Int) (m : Mem), z0.toInt = u0 → bQ u0 (ab m) → Q z0 m) : wp_X4_isMargin x0 M Q := by
  unfold sp_X4_isMargin at h
  unfold wp_X4_isMargin
  refine ⟨?_, ?_⟩
  · intro hc0
    replace h := h.1 (cltI t_x0 (show (0 : Int32).toInt = 0 from rfl) hc0)
    unfold wp_X4_isMargin_14
    unfold wp_X4_isMargin_15
    obtain ⟨hp, h⟩ := h
    refine ⟨(t01 (show (0 : Int32).toInt = 0 from rfl) hp), ?_⟩
    exact hQ _ _ _ (show (0 : Int32).toInt = 0 from rfl) h
  · intro hc0
    replace h := h.2 (cnltI t_x0 (show (0 : Int32).toInt = 0 from rfl) hc0)
    refine ⟨?_, ?_⟩
    · intro hc0
      replace h := h.1 (cltI (show (40 : Int32).toInt = 40 from rfl) t_x0 hc0)
      unfold wp_X4_isMargin_14
      unfold wp_X4_isMargin_15
      obtain ⟨hp, h⟩ := h
      refine ⟨(t01 (show (0 : Int32).toInt = 0 from rfl) hp), ?_⟩
      exact hQ _ _ _ (show (0 : Int32).toInt = 0 from rfl) h
    · intro hc0
      replace h := h.2 (cnltI (show (40 : Int32).toInt = 40 from rfl) t_x0 hc0)
      unfold wp_X4_isMargin_15
      obtain ⟨hp, h⟩ := h
      refine ⟨(t01 (show (1 : Int32).toInt = 1 from rfl) hp), ?_⟩
      exact hQ _ _ _ (show (1 : Int32).toInt = 1 from rfl) h
theorem w_X4_margin {Q : Int32 → Mem → Prop} {bQ : Int → Im → Prop} {x0 : Nat} {x1 : Int32} {y_x1 : Int} {M : Mem} (t_x1 : x1.toInt = y_x1) (h : sp_X4_margin x0 y_x1 (ab M) bQ) (hQ : ∀ (z0 : Int32) (u0 : Int) (m : Mem), z0.toInt = u0 → bQ u0 (ab m) → Q z0 m) : wp_X4_margin x0 x1 M Q := by
  unfold sp_X4_margin at h
  unfold wp_X4_margin
  obtain ⟨hp, h⟩ := h
  refine ⟨hp, ?_⟩
  refine w_X4_isMargin t_x1 h (fun i2 y_i2 M1 t_i2 h => ?_)
  refine ⟨?_, ?_⟩
  · intro hc0
    replace h := h.1 (cneI t_i2 (show (0 : Int32).toInt = 0 from rfl) hc0)
    intro i3 e_i3
    have q_i3 := (congrArg Int32.toInt e_i3).trans (tr_I rfl)
    replace h := h _ q_i3
    have t_i3 : i3.toInt = i3.toInt := rfl
    intro M4 e_M4
    replace h := h (ab M4) ((congrArg ab e_M4).trans (ab_sI rfl t_x1))
    exact hQ _ _ _ t_i3 h
  · intro hc0
    replace h := h.2 (ceqI t_i2 (show (0 : Int32).toInt = 0 from rfl) hc0)
    exact hQ _ _ _ (show (-2 : Int32).toInt = -2 from rfl) h
theorem w_X4_few_14 {Q : Int32 → Mem → Prop} {bQ : Int → Im → Prop} {K54 : Int32 → Mem → Prop} {bK54 : Int → Im → Prop} : ∀ {n : Nat} {x0 : Nat} {x1 : Int32} {y_x1 : Int} {x2 : Int32} {y_x2 : Int} {x3 : Int32} {y_x3 : Int} {M : Mem} (t_x1 : x1.toInt = y_x1) (t_x2 : x2.toInt = y_x2) (t_x3 : x3.toInt = y_x3) (_ : sp_X4_few_14 n x0 y_x1 y_x2 y_x3 (ab M) bQ bK54) (_ : ∀ (z0 : Int32) (u0 : Int) (m : Mem), z0.toInt = u0 → bQ u0 (ab m) → Q z0 m) (_ : ∀ (z0 : Int32) (u0 : Int) (m : Mem), z0.toInt = u0 → bK54 u0 (ab m) → K54 z0 m), wp_X4_few_14 n x0 x1 x2 x3 M Q K54 := by
  intro n
  induction n with
  | zero => intro x0 x1 y_x1 x2 y_x2 x3 y_x3 M t_x1 t_x2 t_x3 h hQ hK54; exact h.elim
  | succ n ih =>
    intro x0 x1 y_x1 x2 y_x2 x3 y_x3 M t_x1 t_x2 t_x3 h hQ hK54
    unfold sp_X4_few_14 at h
    unfold wp_X4_few_14
    refine ⟨?_, ?_⟩
    · intro hc0
      replace h := h.1 (cleI (tr_I rfl) t_x3 hc0)
      exact hK54 _ _ _ t_x2 h
    · intro hc0
      replace h := h.2 (cnleI (tr_I rfl) t_x3 hc0)
      refine ⟨?_, ?_⟩
      · intro hc0
        replace h := h.1 (cleI (tr_I rfl) t_x2 hc0)
        exact hK54 _ _ _ t_x2 h
      · intro hc0
        replace h := h.2 (cnleI (tr_I rfl) t_x2 hc0)
        refine w_X1_endOfSpan t_x3 (tr_I rfl) t_x1 h (fun i2 y_i2 M1 t_i2 h => ?_)
        obtain ⟨rr277, h⟩ := h
        intro i3 e_i3
        have q_i3 := (congrArg Int32.toInt e_i3).trans (taddI t_x2 (show (1 : Int32).toInt = 1 from rfl) rr277)
        replace h := h _ q_i3
        have t_i3 : i3.toInt = i3.toInt := rfl
        refine ih t_x1 t_i3 t_i2 h hQ hK54
theorem w_X4_few {Q : Int32 → Mem → Prop} {bQ : Int → Im → Prop} {x0 : Nat} {x1 : Int32} {y_x1 : Int} {M : Mem} (t_x1 : x1.toInt = y_x1) (h : sp_X4_few x0 y_x1 (ab M) bQ) (hQ : ∀ (z0 : Int32) (u0 : Int) (m : Mem), z0.toInt = u0 → bQ u0 (ab m) → Q z0 m) : wp_X4_few x0 x1 M Q := by
  unfold sp_X4_few at h
  unfold wp_X4_few
  obtain ⟨hp, h⟩ := h
  refine ⟨hp, ?_⟩
  refine w_X4_isMargin t_x1 h (fun i5 y_i5 M4 t_i5 h => ?_)
  refine ⟨?_, ?_⟩
  · intro hc0
    replace h := h.1 (cneI t_i5 (show (0 : Int32).toInt = 0 from rfl) hc0)
    obtain ⟨k14, h⟩ := h
    refine ⟨k14, ?_⟩
    refine w_X4_few_14 t_x1 (show (0 : Int32).toInt = 0 from rfl) (show (0 : Int32).toInt = 0 from rfl) h hQ (fun x2 y_x2 M t_x2 h => ?_)
    unfold wp_X4_few_54
    exact hQ _ _ _ t_x2 h
  · intro hc0
    replace h := h.2 (ceqI t_i5 (show (0 : Int32).toInt = 0 from rfl) hc0)
    exact hQ _ _ _ (show (-2 : Int32).toInt = -2 from rfl) h
theorem w_X4_passes {Q : Int32 → Mem → Prop} {bQ : Int → Im → Prop} {x0 : Nat} {x1 : Int32} {y_x1 : Int} {x2 : Int32} {y_x2 : Int} {x3 : Int32} {y_x3 : Int} {x4 : Int32} {y_x4 : Int} {M : Mem} (t_x1 : x1.toInt = y_x1) (t_x2 : x2.toInt = y_x2) (t_x3 : x3.toInt = y_x3) (t_x4 : x4.toInt = y_x4) (h : sp_X4_passes x0 y_x1 y_x2 y_x3 y_x4 (ab M) bQ) (hQ : ∀ (z0 : Int32) (u0 : Int) (m : Mem), z0.toInt = u0 → bQ u0 (ab m) → Q z0 m) : wp_X4_passes x0 x1 x2 x3 x4 M Q := by
  unfold sp_X4_passes at h
  unfold wp_X4_passes
  obtain ⟨hp, h⟩ := h
  refine ⟨hp, ?_⟩
  refine w_X4_isMargin t_x4 h (fun i2 y_i2 M1 t_i2 h => ?_)
  refine ⟨?_, ?_⟩
  · intro hc0
    replace h := h.1 (ceqI t_i2 (show (0 : Int32).toInt = 0 from rfl) hc0)
    unfold wp_X4_passes_30
    exact hQ _ _ _ (show (-2 : Int32).toInt = -2 from rfl) h
  · intro hc0
    replace h := h.2 (cneI t_i2 (show (0 : Int32).toInt = 0 from rfl) hc0)
    refine ⟨?_, ?_⟩
    · intro hc0
      replace h := h.1 (cltI t_x1 (show (0 : Int32).toInt = 0 from rfl) hc0)
      unfold wp_X4_passes_30
      exact hQ _ _ _ (show (-2 : Int32).toInt = -2 from rfl) h
    · intro hc0
      replace h := h.2 (cnltI t_x1 (show (0 : Int32).toInt = 0 from rfl) hc0)
      refine ⟨?_, ?_⟩
      · intro hc0
        replace h := h.1 (cleI t_x2 t_x1 hc0)
        unfold wp_X4_passes_30
        exact hQ _ _ _ (show (-2 : Int32).toInt = -2 from rfl) h
      · intro hc0
        replace h := h.2 (cnleI t_x2 t_x1 hc0)
        refine ⟨?_, ?_⟩
        · intro hc0
          replace h := h.1 (cleI t_x3 t_x2 hc0)
          unfold wp_X4_passes_30
          exact hQ _ _ _ (show (-2 : Int32).toInt = -2 from rfl) h
        · intro hc0
          replace h := h.2 (cnleI t_x3 t_x2 hc0)
          refine ⟨?_, ?_⟩
          · intro hc0
            replace h := h.1 (cltI t_x3 (tr_I rfl) hc0)
            refine w_X1_passThree t_x1 t_x2 t_x3 t_x4 h (fun i4 y_i4 M3 t_i4 h => ?_)
            refine ⟨?_, ?_⟩
            · intro hc0
              replace h := h.1 (ceqI t_i4 (show (0 : Int32).toInt = 0 from rfl) hc0)
              unfold wp_X4_passes_57
              exact hQ _ _ _ (show (0 : Int32).toInt = 0 from rfl) h
            · intro hc0
              replace h := h.2 (cneI t_i4 (show (0 : Int32).toInt = 0 from rfl) hc0)
              unfold wp_X4_passes_57
              exact hQ _ _ _ (show (1 : Int32).toInt = 1 from rfl) h
          · intro hc0
            replace h := h.2 (cnltI t_x3 (tr_I rfl) hc0)
            unfold wp_X4_passes_30
            exact hQ _ _ _ (show (-2 : Int32).toInt = -2 from rfl) h
theorem w_X4_oneOfTwoThatBar_15 {Q : Int32 → Mem → Prop} {bQ : Int → Im → Prop} {K44 : Int32 → Int32 → Int32 → Mem → Prop} {bK44 : Int → Int → Int → Im → Prop} {K62 : Nat → Int32 → Int32 → Int32 → Mem → Prop} {bK62 : Nat → Int → Int → Int → Im → Prop} : ∀ {n : Nat} {x0 : Nat} {x2 : Int32} {y_x2 : Int} {x3 : Int32} {y_x3 : Int} {x4 : Int32} {y_x4 : Int} {x5 : Int32} {y_x5 : Int} {M : Mem} (t_x2 : x2.toInt = y_x2) (t_x3 : x3.toInt = y_x3) (t_x4 : x4.toInt = y_x4) (t_x5 : x5.toInt = y_x5) (_ : sp_X4_oneOfTwoThatBar_15 n x0 y_x2 y_x3 y_x4 y_x5 (ab M) bQ bK44 bK62) (_ : ∀ (z0 : Int32) (u0 : Int) (m : Mem), z0.toInt = u0 → bQ u0 (ab m) → Q z0 m) (_ : ∀ (z0 : Int32) (u0 : Int) (z1 : Int32) (u1 : Int) (z2 : Int32) (u2 : Int) (m : Mem), z0.toInt = u0 → z1.toInt = u1 → z2.toInt = u2 → bK44 u0 u1 u2 (ab m) → K44 z0 z1 z2 m) (_ : ∀ (z0 : Nat) (z1 : Int32) (u1 : Int) (z2 : Int32) (u2 : Int) (z3 : Int32) (u3 : Int) (m : Mem), z1.toInt = u1 → z2.toInt = u2 → z3.toInt = u3 → bK62 z0 u1 u2 u3 (ab m) → K62 z0 z1 z2 z3 m), wp_X4_oneOfTwoThatBar_15 n x0 x2 x3 x4 x5 M Q K44 K62 := by
  intro n
  induction n with
  | zero => intro x0 x2 y_x2 x3 y_x3 x4 y_x4 x5 y_x5 M t_x2 t_x3 t_x4 t_x5 h hQ hK44 hK62; exact h.elim
  | succ n ih =>
    intro x0 x2 y_x2 x3 y_x3 x4 y_x4 x5 y_x5 M t_x2 t_x3 t_x4 t_x5 h hQ hK44 hK62
    unfold sp_X4_oneOfTwoThatBar_15 at h
    unfold wp_X4_oneOfTwoThatBar_15
    refine ⟨?_, ?_⟩
    · intro hc0
      replace h := h.1 (cleI t_x2 t_x5 hc0)
      exact hK62 _ _ _ _ _ _ _ _ t_x2 t_x3 t_x4 h
    · intro hc0
      replace h := h.2 (cnleI t_x2 t_x5 hc0)
      refine w_X1_passThree t_x4 t_x5 t_x2 (tr_I rfl) h (fun i3 y_i3 M2 t_i3 h => ?_)
      refine ⟨?_, ?_⟩
      · intro hc0
        replace h := h.1 (cneI t_i3 (show (0 : Int32).toInt = 0 from rfl) hc0)
        obtain ⟨rr279, h⟩ := h
        intro i4 e_i4
        have q_i4 := (congrArg Int32.toInt e_i4).trans (taddI t_x5 (show (1 : Int32).toInt = 1 from rfl) rr279)
        replace h := h _ q_i4
        have t_i4 : i4.toInt = i4.toInt := rfl
        refine ih t_x2 t_x3 t_x4 t_i4 h hQ hK44 hK62
      · intro hc0
        replace h := h.2 (ceqI t_i3 (show (0 : Int32).toInt = 0 from rfl) hc0)
        exact hK44 _ _ _ _ _ _ _ t_x3 t_x4 t_x5 h
theorem w_X4_oneOfTwoThatBar_62 {Q : Int32 → Mem → Prop} {bQ : Int → Im → Prop} {K3 : Nat → Int32 → Int32 → Int32 → Mem → Prop} {bK3 : Nat → Int → Int → Int → Im → Prop} {K44 : Int32 → Int32 → Int32 → Mem → Prop} {bK44 : Int → Int → Int → Im → Prop} {K68 : Mem → Prop} {bK68 : Im → Prop} {x0 : Nat} {x2 : Int32} {y_x2 : Int} {x3 : Int32} {y_x3 : Int} {x4 : Int32} {y_x4 : Int} {M : Mem} (t_x2 : x2.toInt = y_x2) (t_x3 : x3.toInt = y_x3) (t_x4 : x4.toInt = y_x4) (h : sp_X4_oneOfTwoThatBar_62 x0 y_x2 y_x3 y_x4 (ab M) bQ bK3 bK44 bK68) (hQ : ∀ (z0 : Int32) (u0 : Int) (m : Mem), z0.toInt = u0 → bQ u0 (ab m) → Q z0 m) (hK3 : ∀ (z0 : Nat) (z1 : Int32) (u1 : Int) (z2 : Int32) (u2 : Int) (z3 : Int32) (u3 : Int) (m : Mem), z1.toInt = u1 → z2.toInt = u2 → z3.toInt = u3 → bK3 z0 u1 u2 u3 (ab m) → K3 z0 z1 z2 z3 m) (hK44 : ∀ (z0 : Int32) (u0 : Int) (z1 : Int32) (u1 : Int) (z2 : Int32) (u2 : Int) (m : Mem), z0.toInt = u0 → z1.toInt = u1 → z2.toInt = u2 → bK44 u0 u1 u2 (ab m) → K44 z0 z1 z2 m) (hK68 : ∀ (m : Mem), bK68 (ab m) → K68 m) : wp_X4_oneOfTwoThatBar_62 x0 x2 x3 x4 M Q K3 K44 K68 := by
  unfold sp_X4_oneOfTwoThatBar_62 at h
  unfold wp_X4_oneOfTwoThatBar_62
  obtain ⟨rr281, h⟩ := h
  intro i5 e_i5
  have q_i5 := (congrArg Int32.toInt e_i5).trans (taddI t_x4 (show (1 : Int32).toInt = 1 from rfl) rr281)
  replace h := h _ q_i5
  have t_i5 : i5.toInt = i5.toInt := rfl
  exact hK3 _ _ _ _ _ _ _ _ t_x2 t_x3 t_i5 h
theorem w_X4_oneOfTwoThatBar_3 {Q : Int32 → Mem → Prop} {bQ : Int → Im → Prop} {K44 : Int32 → Int32 → Int32 → Mem → Prop} {bK44 : Int → Int → Int → Im → Prop} {K68 : Mem → Prop} {bK68 : Im → Prop} : ∀ {n : Nat} {x0 : Nat} {x2 : Int32} {y_x2 : Int} {x3 : Int32} {y_x3 : Int} {x4 : Int32} {y_x4 : Int} {M : Mem} (t_x2 : x2.toInt = y_x2) (t_x3 : x3.toInt = y_x3) (t_x4 : x4.toInt = y_x4) (_ : sp_X4_oneOfTwoThatBar_3 n x0 y_x2 y_x3 y_x4 (ab M) bQ bK44 bK68) (_ : ∀ (z0 : Int32) (u0 : Int) (m : Mem), z0.toInt = u0 → bQ u0 (ab m) → Q z0 m) (_ : ∀ (z0 : Int32) (u0 : Int) (z1 : Int32) (u1 : Int) (z2 : Int32) (u2 : Int) (m : Mem), z0.toInt = u0 → z1.toInt = u1 → z2.toInt = u2 → bK44 u0 u1 u2 (ab m) → K44 z0 z1 z2 m) (_ : ∀ (m : Mem), bK68 (ab m) → K68 m), wp_X4_oneOfTwoThatBar_3 n x0 x2 x3 x4 M Q K44 K68 := by
  intro n
  induction n with
  | zero => intro x0 x2 y_x2 x3 y_x3 x4 y_x4 M t_x2 t_x3 t_x4 h hQ hK44 hK68; exact h.elim
  | succ n ih =>
    intro x0 x2 y_x2 x3 y_x3 x4 y_x4 M t_x2 t_x3 t_x4 h hQ hK44 hK68
    unfold sp_X4_oneOfTwoThatBar_3 at h
    unfold wp_X4_oneOfTwoThatBar_3
    refine ⟨?_, ?_⟩
    · intro hc0
      replace h := h.1 (cleI t_x2 t_x4 hc0)
      exact hK68 _  h
    · intro hc0
      replace h := h.2 (cnleI t_x2 t_x4 hc0)
      obtain ⟨rr283, h⟩ := h
      intro i1 e_i1
      have q_i1 := (congrArg Int32.toInt e_i1).trans (taddI t_x4 (show (1 : Int32).toInt = 1 from rfl) rr283)
      replace h := h _ q_i1
      have t_i1 : i1.toInt = i1.toInt := rfl
      obtain ⟨k15, h⟩ := h
      refine ⟨k15, ?_⟩
      refine w_X4_oneOfTwoThatBar_15 t_x2 t_x3 t_x4 t_i1 h hQ (fun x3 y_x3 x4 y_x4 x5 y_x5 M t_x3 t_x4 t_x5 h => ?_) (fun x0 x2 y_x2 x3 y_x3 x4 y_x4 M t_x2 t_x3 t_x4 h => ?_)
      ·
        exact hK44 _ _ _ _ _ _ _ t_x3 t_x4 t_x5 h
      ·
        refine w_X4_oneOfTwoThatBar_62 t_x2 t_x3 t_x4 h hQ (fun x0 x2 y_x2 x3 y_x3 x4 y_x4 M t_x2 t_x3 t_x4 h => ?_) hK44 hK68
        refine ih t_x2 t_x3 t_x4 h hQ hK44 hK68
theorem w_X4_oneOfTwoThatBar {Q : Int32 → Mem → Prop} {bQ : Int → Im → Prop} {x0 : Nat} {x1 : Int32} {y_x1 : Int} {x2 : Int32} {y_x2 : Int} {x3 : Int32} {y_x3 : Int} {M : Mem} (t_x1 : x1.toInt = y_x1) (t_x2 : x2.toInt = y_x2) (t_x3 : x3.toInt = y_x3) (h : sp_X4_oneOfTwoThatBar x0 y_x1 y_x2 y_x3 (ab M) bQ) (hQ : ∀ (z0 : Int32) (u0 : Int) (m : Mem), z0.toInt = u0 → bQ u0 (ab m) → Q z0 m) : wp_X4_oneOfTwoThatBar x0 x1 x2 x3 M Q := by
  unfold sp_X4_oneOfTwoThatBar at h
  unfold wp_X4_oneOfTwoThatBar
  obtain ⟨hp, h⟩ := h
  refine ⟨hp, ?_⟩
  obtain ⟨k3, h⟩ := h
  refine ⟨k3, ?_⟩
  refine w_X4_oneOfTwoThatBar_3 t_x2 t_x3 t_x1 h hQ (fun x3 y_x3 x4 y_x4 x5 y_x5 M t_x3 t_x4 t_x5 h => ?_) (fun M h => ?_)
  ·
    unfold wp_X4_oneOfTwoThatBar_44
    refine ⟨?_, ?_⟩
    · intro hc0
      replace h := h.1 (ceqI t_x3 (show (0 : Int32).toInt = 0 from rfl) hc0)
      unfold wp_X4_oneOfTwoThatBar_55
      exact hQ _ _ _ t_x5 h
    · intro hc0
      replace h := h.2 (cneI t_x3 (show (0 : Int32).toInt = 0 from rfl) hc0)
      unfold wp_X4_oneOfTwoThatBar_55
      exact hQ _ _ _ t_x4 h
  ·
    unfold wp_X4_oneOfTwoThatBar_68
    exact hQ _ _ _ (show (-1 : Int32).toInt = -1 from rfl) h
theorem w_X4_span_34 {Q : Int32 → Mem → Prop} {bQ : Int → Im → Prop} {K82 : Nat → Int32 → Int32 → Int32 → Mem → Prop} {bK82 : Nat → Int → Int → Int → Im → Prop} : ∀ {n : Nat} {x0 : Nat} {x1 : Int32} {y_x1 : Int} {x2 : Int32} {y_x2 : Int} {x4 : Int32} {y_x4 : Int} {x5 : Int32} {y_x5 : Int} {x6 : Int32} {y_x6 : Int} {M : Mem} (t_x1 : x1.toInt = y_x1) (t_x2 : x2.toInt = y_x2) (t_x4 : x4.toInt = y_x4) (t_x5 : x5.toInt = y_x5) (t_x6 : x6.toInt = y_x6) (_ : sp_X4_span_34 n x0 y_x1 y_x2 y_x4 y_x5 y_x6 (ab M) bQ bK82) (_ : ∀ (z0 : Int32) (u0 : Int) (m : Mem), z0.toInt = u0 → bQ u0 (ab m) → Q z0 m) (_ : ∀ (z0 : Nat) (z1 : Int32) (u1 : Int) (z2 : Int32) (u2 : Int) (z3 : Int32) (u3 : Int) (m : Mem), z1.toInt = u1 → z2.toInt = u2 → z3.toInt = u3 → bK82 z0 u1 u2 u3 (ab m) → K82 z0 z1 z2 z3 m), wp_X4_span_34 n x0 x1 x2 x4 x5 x6 M Q K82 := by
  intro n
  induction n with
  | zero => intro x0 x1 y_x1 x2 y_x2 x4 y_x4 x5 y_x5 x6 y_x6 M t_x1 t_x2 t_x4 t_x5 t_x6 h hQ hK82; exact h.elim
  | succ n ih =>
    intro x0 x1 y_x1 x2 y_x2 x4 y_x4 x5 y_x5 x6 y_x6 M t_x1 t_x2 t_x4 t_x5 t_x6 h hQ hK82
    unfold sp_X4_span_34 at h
    unfold wp_X4_span_34
    refine ⟨?_, ?_⟩
    · intro hc0
      replace h := h.1 (cleI t_x1 t_x6 hc0)
      exact hK82 _ _ _ _ _ _ _ _ t_x2 t_x4 t_x5 h
    · intro hc0
      replace h := h.2 (cnleI t_x1 t_x6 hc0)
      refine ⟨?_, ?_⟩
      · intro hc0
        replace h := h.1 (cleI (tr_I rfl) t_x5 hc0)
        exact hK82 _ _ _ _ _ _ _ _ t_x2 t_x4 t_x5 h
      · intro hc0
        replace h := h.2 (cnleI (tr_I rfl) t_x5 hc0)
        refine w_X1_endOfSpan t_x5 (tr_I rfl) (tr_I rfl) h (fun i2 y_i2 M1 t_i2 h => ?_)
        obtain ⟨rr285, h⟩ := h
        intro i3 e_i3
        have q_i3 := (congrArg Int32.toInt e_i3).trans (taddI t_x6 (show (1 : Int32).toInt = 1 from rfl) rr285)
        replace h := h _ q_i3
        have t_i3 : i3.toInt = i3.toInt := rfl
        refine ih t_x1 t_x2 t_x5 t_i2 t_i3 h hQ hK82
theorem w_X4_span_145 {Q : Int32 → Mem → Prop} {bQ : Int → Im → Prop} {t0 : Int32} {y_t0 : Int} {t1 : Int32} {y_t1 : Int} {t2 : Int32} {y_t2 : Int} {t3 : Nat} {M : Mem} (t_t0 : t0.toInt = y_t0) (t_t1 : t1.toInt = y_t1) (t_t2 : t2.toInt = y_t2) (h : sp_X4_span_145 y_t0 y_t1 y_t2 t3 (ab M) bQ) (hQ : ∀ (z0 : Int32) (u0 : Int) (m : Mem), z0.toInt = u0 → bQ u0 (ab m) → Q z0 m) : wp_X4_span_145 t0 t1 t2 t3 M Q := by
  unfold sp_X4_span_145 at h
  unfold wp_X4_span_145
  refine w_X4_oneOfTwoThatBar t_t2 t_t1 t_t0 h (fun i7 y_i7 M6 t_i7 h => ?_)
  exact hQ _ _ _ t_i7 h
theorem w_X4_span_9 {Q : Int32 → Mem → Prop} {bQ : Int → Im → Prop} {x0 : Nat} {x1 : Int32} {y_x1 : Int} {x2 : Int32} {y_x2 : Int} {t0 : Int32} {y_t0 : Int} {M : Mem} (t_x1 : x1.toInt = y_x1) (t_x2 : x2.toInt = y_x2) (t_t0 : t0.toInt = y_t0) (h : sp_X4_span_9 x0 y_x1 y_x2 y_t0 (ab M) bQ) (hQ : ∀ (z0 : Int32) (u0 : Int) (m : Mem), z0.toInt = u0 → bQ u0 (ab m) → Q z0 m) : wp_X4_span_9 x0 x1 x2 t0 M Q := by
  unfold sp_X4_span_9 at h
  unfold wp_X4_span_9
  refine ⟨?_, ?_⟩
  · intro hc0
    replace h := h.1 (cltI t_x1 (show (0 : Int32).toInt = 0 from rfl) hc0)
    unfold wp_X4_span_23
    exact hQ _ _ _ (show (-1 : Int32).toInt = -1 from rfl) h
  · intro hc0
    replace h := h.2 (cnltI t_x1 (show (0 : Int32).toInt = 0 from rfl) hc0)
    refine ⟨?_, ?_⟩
    · intro hc0
      replace h := h.1 (cltI t_x2 (show (0 : Int32).toInt = 0 from rfl) hc0)
      unfold wp_X4_span_23
      exact hQ _ _ _ (show (-1 : Int32).toInt = -1 from rfl) h
    · intro hc0
      replace h := h.2 (cnltI t_x2 (show (0 : Int32).toInt = 0 from rfl) hc0)
      refine ⟨?_, ?_⟩
      · intro hc0
        replace h := h.1 (cleI t_x2 t_t0 hc0)
        obtain ⟨k34, h⟩ := h
        refine ⟨k34, ?_⟩
        refine w_X4_span_34 t_x1 t_x2 (show (0 : Int32).toInt = 0 from rfl) (show (0 : Int32).toInt = 0 from rfl) (show (0 : Int32).toInt = 0 from rfl) h hQ (fun x0 x2 y_x2 x4 y_x4 x5 y_x5 M t_x2 t_x4 t_x5 h => ?_)
        unfold wp_X4_span_82
        refine ⟨?_, ?_⟩
        · intro hc0
          replace h := h.1 (cltI t_x5 (tr_I rfl) hc0)
          refine ⟨?_, ?_⟩
          · intro hc0
            replace h := h.1 (cneI t_x2 (show (0 : Int32).toInt = 0 from rfl) hc0)
            refine ⟨?_, ?_⟩
            · intro hc0
              replace h := h.1 (cneI t_x2 (show (1 : Int32).toInt = 1 from rfl) hc0)
              refine ⟨?_, ?_⟩
              · intro hc0
                replace h := h.1 (cneI t_x2 (show (2 : Int32).toInt = 2 from rfl) hc0)
                refine w_X4_span_145 (show (0 : Int32).toInt = 0 from rfl) t_x5 t_x4 h hQ
              · intro hc0
                replace h := h.2 (ceqI t_x2 (show (2 : Int32).toInt = 2 from rfl) hc0)
                refine w_X4_span_145 (show (1 : Int32).toInt = 1 from rfl) t_x5 t_x4 h hQ
            · intro hc0
              replace h := h.2 (ceqI t_x2 (show (1 : Int32).toInt = 1 from rfl) hc0)
              refine w_X1_endOfSpan t_x5 (tr_I rfl) (tr_I rfl) h (fun i5 y_i5 M4 t_i5 h => ?_)
              obtain ⟨rr287, h⟩ := h
              exact hQ _ _ _ (tsubI t_i5 t_x5 rr287) h
          · intro hc0
            replace h := h.2 (ceqI t_x2 (show (0 : Int32).toInt = 0 from rfl) hc0)
            exact hQ _ _ _ t_x5 h
        · intro hc0
          replace h := h.2 (cnltI t_x5 (tr_I rfl) hc0)
          exact hQ _ _ _ (show (-1 : Int32).toInt = -1 from rfl) h
      · intro hc0
        replace h := h.2 (cnleI t_x2 t_t0 hc0)
        unfold wp_X4_span_23
        exact hQ _ _ _ (show (-1 : Int32).toInt = -1 from rfl) h
theorem w_X4_span {Q : Int32 → Mem → Prop} {bQ : Int → Im → Prop} {x0 : Nat} {x1 : Int32} {y_x1 : Int} {x2 : Int32} {y_x2 : Int} {M : Mem} (t_x1 : x1.toInt = y_x1) (t_x2 : x2.toInt = y_x2) (h : sp_X4_span x0 y_x1 y_x2 (ab M) bQ) (hQ : ∀ (z0 : Int32) (u0 : Int) (m : Mem), z0.toInt = u0 → bQ u0 (ab m) → Q z0 m) : wp_X4_span x0 x1 x2 M Q := by
  unfold sp_X4_span at h
  unfold wp_X4_span
  obtain ⟨hp, h⟩ := h
  refine ⟨hp, ?_⟩
  refine ⟨?_, ?_⟩
  · intro hc0
    replace h := h.1 (cleI t_x1 (show (0 : Int32).toInt = 0 from rfl) hc0)
    refine w_X4_span_9 t_x1 t_x2 (show (1 : Int32).toInt = 1 from rfl) h hQ
  · intro hc0
    replace h := h.2 (cnleI t_x1 (show (0 : Int32).toInt = 0 from rfl) hc0)
    refine w_X4_span_9 t_x1 t_x2 (show (3 : Int32).toInt = 3 from rfl) h hQ
theorem w_X4_isKindToMake {Q : Int32 → Mem → Prop} {bQ : Int → Im → Prop} {x0 : Nat} {x1 : Int32} {y_x1 : Int} {M : Mem} (t_x1 : x1.toInt = y_x1) (h : sp_X4_isKindToMake x0 y_x1 (ab M) bQ) (hQ : ∀ (z0 : Int32) (u0 : Int) (m : Mem), z0.toInt = u0 → bQ u0 (ab m) → Q z0 m) : wp_X4_isKindToMake x0 x1 M Q := by
  unfold sp_X4_isKindToMake at h
  unfold wp_X4_isKindToMake
  obtain ⟨hp, h⟩ := h
  refine ⟨hp, ?_⟩
  refine ⟨?_, ?_⟩
  · intro hc0
    replace h := h.1 (ceqI t_x1 (show (1 : Int32).toInt = 1 from rfl) hc0)
    unfold wp_X4_isKindToMake_17
    unfold wp_X4_isKindToMake_22
    obtain ⟨hp, h⟩ := h
    refine ⟨(t01 (show (1 : Int32).toInt = 1 from rfl) hp), ?_⟩
    exact hQ _ _ _ (show (1 : Int32).toInt = 1 from rfl) h
  · intro hc0
    replace h := h.2 (cneI t_x1 (show (1 : Int32).toInt = 1 from rfl) hc0)
    refine ⟨?_, ?_⟩
    · intro hc0
      replace h := h.1 (cneI t_x1 (show (2 : Int32).toInt = 2 from rfl) hc0)
      unfold wp_X4_isKindToMake_21
      unfold wp_X4_isKindToMake_22
      obtain ⟨hp, h⟩ := h
      refine ⟨(t01 (show (0 : Int32).toInt = 0 from rfl) hp), ?_⟩
      exact hQ _ _ _ (show (0 : Int32).toInt = 0 from rfl) h
    · intro hc0
      replace h := h.2 (ceqI t_x1 (show (2 : Int32).toInt = 2 from rfl) hc0)
      refine ⟨?_, ?_⟩
      · intro hc0
        replace h := h.1 (cleI (tr_I rfl) (show (0 : Int32).toInt = 0 from rfl) hc0)
        unfold wp_X4_isKindToMake_21
        unfold wp_X4_isKindToMake_22
        obtain ⟨hp, h⟩ := h
        refine ⟨(t01 (show (0 : Int32).toInt = 0 from rfl) hp), ?_⟩
        exact hQ _ _ _ (show (0 : Int32).toInt = 0 from rfl) h
      · intro hc0
        replace h := h.2 (cnleI (tr_I rfl) (show (0 : Int32).toInt = 0 from rfl) hc0)
        unfold wp_X4_isKindToMake_17
        unfold wp_X4_isKindToMake_22
        obtain ⟨hp, h⟩ := h
        refine ⟨(t01 (show (1 : Int32).toInt = 1 from rfl) hp), ?_⟩
        exact hQ _ _ _ (show (1 : Int32).toInt = 1 from rfl) h
theorem w_X4_makeLayers_10 {Q : Mem → Prop} {bQ : Im → Prop} {K87 : Mem → Prop} {bK87 : Im → Prop} : ∀ {n : Nat} {x0 : Nat} {x1 : Option Nat} {M : Mem}  (_ : sp_X4_makeLayers_10 n x0 x1 (ab M) bQ bK87) (_ : ∀ (m : Mem), bQ (ab m) → Q m) (_ : ∀ (m : Mem), bK87 (ab m) → K87 m), wp_X4_makeLayers_10 n x0 x1 M Q K87 := by
  intro n
  induction n with
  | zero => intro x0 x1 M h hQ hK87; exact h.elim
  | succ n ih =>
    intro x0 x1 M h hQ hK87
    unfold sp_X4_makeLayers_10 at h
    unfold wp_X4_makeLayers_10
    obtain ⟨a1, hp, h⟩ := h
    refine ⟨a1, hp, ?_⟩
    obtain ⟨hp, h⟩ := h
    refine ⟨hp, ?_⟩
    refine ⟨?_, ?_⟩
    · intro hc0
      replace h := h.1 (cleI (tr_I rfl) (show (1 : Int32).toInt = 1 from rfl) hc0)
      exact hK87 _  h
    · intro hc0
      replace h := h.2 (cnleI (tr_I rfl) (show (1 : Int32).toInt = 1 from rfl) hc0)
      refine ⟨?_, ?_⟩
      · intro hc0
        replace h := h.1 (cleI (show (10 : Int32).toInt = 10 from rfl) (tr_I rfl) hc0)
        exact hK87 _  h
      · intro hc0
        replace h := h.2 (cnleI (show (10 : Int32).toInt = 10 from rfl) (tr_I rfl) hc0)
        refine w_X2_firstKeys  h (fun i3 y_i3 M2 t_i3 h => ?_)
        obtain ⟨hp, h⟩ := h
        refine ⟨(tinb (tr_I rfl) hp), ?_⟩
        intro r4 e_r4
        replace h := h r4 (e_r4.trans (tr_Z (tnatI (tr_I rfl))))
        obtain ⟨a5, hp, h⟩ := h
        refine ⟨a5, hp, ?_⟩
        obtain ⟨hp, h⟩ := h
        refine ⟨hp, ?_⟩
        refine w_X2_empty  h (fun M6 h => ?_)
        refine w_X2_makePieces t_i3 (tr_I rfl) (tr_I rfl) h (fun i8 y_i8 M7 t_i8 h => ?_)
        obtain ⟨rr290, h⟩ := h
        intro M9 e_M9
        replace h := h (ab M9) ((congrArg ab e_M9).trans (ab_sI rfl (taddI (tr_I rfl) (show (1 : Int32).toInt = 1 from rfl) rr290)))
        refine ih  h hQ hK87
theorem w_X4_makeLayers {Q : Mem → Prop} {bQ : Im → Prop} {x0 : Nat} {M : Mem} (h : sp_X4_makeLayers x0 (ab M) bQ) (hQ : ∀ (m : Mem), bQ (ab m) → Q m) : wp_X4_makeLayers x0 M Q := by
  unfold sp_X4_makeLayers at h
  unfold wp_X4_makeLayers
  obtain ⟨hp, h⟩ := h
  refine ⟨hp, ?_⟩
  intro M10 e_M10
  replace h := h (ab M10) ((congrArg ab e_M10).trans (ab_sI rfl (show (0 : Int32).toInt = 0 from rfl)))
  intro r11 e_r11
  replace h := h r11 (e_r11.trans (tr_R rfl))
  obtain ⟨k10, h⟩ := h
  refine ⟨k10, ?_⟩
  refine w_X4_makeLayers_10  h hQ (fun M h => ?_)
  unfold wp_X4_makeLayers_87
  exact hQ _  h
theorem w_X4_replace_83 {Q : Int32 → Mem → Prop} {bQ : Int → Im → Prop} {x0 : Nat} {x2 : Int32} {y_x2 : Int} {x6 : Int32} {y_x6 : Int} {M : Mem} (t_x2 : x2.toInt = y_x2) (t_x6 : x6.toInt = y_x6) (h : sp_X4_replace_83 x0 y_x2 y_x6 (ab M) bQ) (hQ : ∀ (z0 : Int32) (u0 : Int) (m : Mem), z0.toInt = u0 → bQ u0 (ab m) → Q z0 m) : wp_X4_replace_83 x0 x2 x6 M Q := by
  unfold sp_X4_replace_83 at h
  unfold wp_X4_replace_83
  intro r8 e_r8
  replace h := h r8 (e_r8.trans (tr_R rfl))
  intro r9 e_r9
  replace h := h r9 (e_r9.trans (tr_R rfl))
  intro r10 e_r10
  replace h := h r10 (e_r10.trans (tr_R rfl))
  obtain ⟨a11, hp, h⟩ := h
  refine ⟨a11, hp, ?_⟩
  obtain ⟨hp, h⟩ := h
  refine ⟨hp, ?_⟩
  obtain ⟨a12, hp, h⟩ := h
  refine ⟨a12, hp, ?_⟩
  obtain ⟨hp, h⟩ := h
  refine ⟨hp, ?_⟩
  refine w_X2_takeOver t_x2 (tr_I rfl) h (fun M13 h => ?_)
  intro r14 e_r14
  replace h := h r14 (e_r14.trans (tr_R rfl))
  intro r15 e_r15
  replace h := h r15 (e_r15.trans (tr_R rfl))
  intro M16 e_M16
  replace h := h (ab M16) ((congrArg ab e_M16).trans (ab_sR rfl rfl))
  intro M17 e_M17
  replace h := h (ab M17) ((congrArg ab e_M17).trans (ab_sR rfl rfl))
  obtain ⟨rr292, h⟩ := h
  intro M18 e_M18
  replace h := h (ab M18) ((congrArg ab e_M18).trans (ab_sI rfl (taddI (tr_I rfl) t_x6 rr292)))
  refine w_X4_makeLayers  h (fun M19 h => ?_)
  exact hQ _ _ _ t_x6 h
theorem w_X4_replace_39 {Q : Int32 → Mem → Prop} {bQ : Int → Im → Prop} {x0 : Nat} {x1 : Int32} {y_x1 : Int} {x2 : Int32} {y_x2 : Int} {x3 : Int32} {y_x3 : Int} {x4 : Int32} {y_x4 : Int} {t0 : Int32} {y_t0 : Int} {M : Mem} (t_x1 : x1.toInt = y_x1) (t_x2 : x2.toInt = y_x2) (t_x3 : x3.toInt = y_x3) (t_x4 : x4.toInt = y_x4) (t_t0 : t0.toInt = y_t0) (h : sp_X4_replace_39 x0 y_x1 y_x2 y_x3 y_x4 y_t0 (ab M) bQ) (hQ : ∀ (z0 : Int32) (u0 : Int) (m : Mem), z0.toInt = u0 → bQ u0 (ab m) → Q z0 m) : wp_X4_replace_39 x0 x1 x2 x3 x4 t0 M Q := by
  unfold sp_X4_replace_39 at h
  unfold wp_X4_replace_39
  intro r1 e_r1
  replace h := h r1 (e_r1.trans (tr_R rfl))
  obtain ⟨a2, hp, h⟩ := h
  refine ⟨a2, hp, ?_⟩
  obtain ⟨hp, h⟩ := h
  refine ⟨hp, ?_⟩
  refine w_X2_makePieces t_x3 t_t0 (tr_I rfl) h (fun i4 y_i4 M3 t_i4 h => ?_)
  refine ⟨?_, ?_⟩
  · intro hc0
    replace h := h.1 (cneI t_x4 (show (2 : Int32).toInt = 2 from rfl) hc0)
    refine w_X4_replace_83 t_x2 t_i4 h hQ
  · intro hc0
    replace h := h.2 (ceqI t_x4 (show (2 : Int32).toInt = 2 from rfl) hc0)
    intro r5 e_r5
    replace h := h r5 (e_r5.trans (tr_R rfl))
    obtain ⟨a6, hp, h⟩ := h
    refine ⟨a6, hp, ?_⟩
    obtain ⟨hp, h⟩ := h
    refine ⟨hp, ?_⟩
    obtain ⟨rr294, h⟩ := h
    refine w_X2_roundPieces t_x1 (taddI t_x1 t_i4 rr294) h (fun M7 h => ?_)
    refine w_X4_replace_83 t_x2 t_i4 h hQ
theorem w_X4_replace {Q : Int32 → Mem → Prop} {bQ : Int → Im → Prop} {x0 : Nat} {x1 : Int32} {y_x1 : Int} {x2 : Int32} {y_x2 : Int} {x3 : Int32} {y_x3 : Int} {x4 : Int32} {y_x4 : Int} {M : Mem} (t_x1 : x1.toInt = y_x1) (t_x2 : x2.toInt = y_x2) (t_x3 : x3.toInt = y_x3) (t_x4 : x4.toInt = y_x4) (h : sp_X4_replace x0 y_x1 y_x2 y_x3 y_x4 (ab M) bQ) (hQ : ∀ (z0 : Int32) (u0 : Int) (m : Mem), z0.toInt = u0 → bQ u0 (ab m) → Q z0 m) : wp_X4_replace x0 x1 x2 x3 x4 M Q := by
  unfold sp_X4_replace at h
  unfold wp_X4_replace
  obtain ⟨hp, h⟩ := h
  refine ⟨hp, ?_⟩
  intro r20 e_r20
  replace h := h r20 (e_r20.trans (tr_R rfl))
  obtain ⟨a21, hp, h⟩ := h
  refine ⟨a21, hp, ?_⟩
  obtain ⟨hp, h⟩ := h
  refine ⟨hp, ?_⟩
  refine w_X2_empty  h (fun M22 h => ?_)
  intro r23 e_r23
  replace h := h r23 (e_r23.trans (tr_R rfl))
  intro r24 e_r24
  replace h := h r24 (e_r24.trans (tr_R rfl))
  obtain ⟨a25, hp, h⟩ := h
  refine ⟨a25, hp, ?_⟩
  obtain ⟨hp, h⟩ := h
  refine ⟨hp, ?_⟩
  refine w_X2_takeOver (show (0 : Int32).toInt = 0 from rfl) t_x1 h (fun M26 h => ?_)
  refine ⟨?_, ?_⟩
  · intro hc0
    replace h := h.1 (cneI t_x4 (show (2 : Int32).toInt = 2 from rfl) hc0)
    refine w_X4_replace_39 t_x1 t_x2 t_x3 t_x4 (tr_I rfl) h hQ
  · intro hc0
    replace h := h.2 (ceqI t_x4 (show (2 : Int32).toInt = 2 from rfl) hc0)
    obtain ⟨rr296, h⟩ := h
    refine w_X4_replace_39 t_x1 t_x2 t_x3 t_x4 (tsubI (tr_I rfl) (show (1 : Int32).toInt = 1 from rfl) rr296) h hQ
theorem w_X4_build {Q : Int32 → Mem → Prop} {bQ : Int → Im → Prop} {x0 : Nat} {x1 : Int32} {y_x1 : Int} {M : Mem} (t_x1 : x1.toInt = y_x1) (h : sp_X4_build x0 y_x1 (ab M) bQ) (hQ : ∀ (z0 : Int32) (u0 : Int) (m : Mem), z0.toInt = u0 → bQ u0 (ab m) → Q z0 m) : wp_X4_build x0 x1 M Q := by
  unfold sp_X4_build at h
  unfold wp_X4_build
  obtain ⟨hp, h⟩ := h
  refine ⟨hp, ?_⟩
  refine w_X4_isKindToMake t_x1 h (fun i2 y_i2 M1 t_i2 h => ?_)
  refine ⟨?_, ?_⟩
  · intro hc0
    replace h := h.1 (ceqI t_i2 (show (0 : Int32).toInt = 0 from rfl) hc0)
    unfold wp_X4_build_15
    exact hQ _ _ _ (show (-2 : Int32).toInt = -2 from rfl) h
  · intro hc0
    replace h := h.2 (cneI t_i2 (show (0 : Int32).toInt = 0 from rfl) hc0)
    refine ⟨?_, ?_⟩
    · intro hc0
      replace h := h.1 (cneI (tr_I rfl) (show (0 : Int32).toInt = 0 from rfl) hc0)
      obtain ⟨hp, h⟩ := h
      refine ⟨(tnlI (show (0 : Int32).toInt = 0 from rfl) hp), ?_⟩
      obtain ⟨hp, h⟩ := h
      refine ⟨(tnlI (show (0 : Int32).toInt = 0 from rfl) hp), ?_⟩
      obtain ⟨hp, h⟩ := h
      refine ⟨(tnlI (tr_I rfl) hp), ?_⟩
      obtain ⟨hp, h⟩ := h
      refine ⟨(tcp (rfl : (0 : Int32).toNatClampNeg = 0) (tnatI (tr_I rfl)) hp), ?_⟩
      obtain ⟨hp, h⟩ := h
      refine ⟨(tcp (rfl : (0 : Int32).toNatClampNeg = 0) (tnatI (tr_I rfl)) hp), ?_⟩
      intro M3 e_M3
      replace h := h (ab M3) ((congrArg ab e_M3).trans (ab_cp (rfl : (0 : Int32).toNatClampNeg = 0) (rfl : (0 : Int32).toNatClampNeg = 0) (tnatI (tr_I rfl))))
      intro M4 e_M4
      replace h := h (ab M4) ((congrArg ab e_M4).trans (ab_sI rfl (tr_I rfl)))
      intro r5 e_r5
      replace h := h r5 (e_r5.trans (tr_R rfl))
      obtain ⟨a6, hp, h⟩ := h
      refine ⟨a6, hp, ?_⟩
      obtain ⟨hp, h⟩ := h
      refine ⟨hp, ?_⟩
      refine w_X4_replace (show (0 : Int32).toInt = 0 from rfl) (tr_I rfl) (tr_I rfl) t_x1 h (fun i8 y_i8 M7 t_i8 h => ?_)
      exact hQ _ _ _ t_i8 h
    · intro hc0
      replace h := h.2 (ceqI (tr_I rfl) (show (0 : Int32).toInt = 0 from rfl) hc0)
      unfold wp_X4_build_15
      exact hQ _ _ _ (show (-2 : Int32).toInt = -2 from rfl) h
theorem w_X4_hasIndex {Q : Int32 → Mem → Prop} {bQ : Int → Im → Prop} {x0 : Nat} {M : Mem} (h : sp_X4_hasIndex x0 (ab M) bQ) (hQ : ∀ (z0 : Int32) (u0 : Int) (m : Mem), z0.toInt = u0 → bQ u0 (ab m) → Q z0 m) : wp_X4_hasIndex x0 M Q := by
  unfold sp_X4_hasIndex at h
  unfold wp_X4_hasIndex
  obtain ⟨hp, h⟩ := h
  refine ⟨hp, ?_⟩
  intro r1 e_r1
  replace h := h r1 (e_r1.trans (tr_R rfl))
  obtain ⟨a2, hp, h⟩ := h
  refine ⟨a2, hp, ?_⟩
  obtain ⟨hp, h⟩ := h
  refine ⟨hp, ?_⟩
  refine ⟨?_, ?_⟩
  · intro hc0
    replace h := h.1 (cleI (tr_I rfl) (show (0 : Int32).toInt = 0 from rfl) hc0)
    unfold wp_X4_hasIndex_15
    obtain ⟨hp, h⟩ := h
    refine ⟨(t01 (show (0 : Int32).toInt = 0 from rfl) hp), ?_⟩
    exact hQ _ _ _ (show (0 : Int32).toInt = 0 from rfl) h
  · intro hc0
    replace h := h.2 (cnleI (tr_I rfl) (show (0 : Int32).toInt = 0 from rfl) hc0)
    unfold wp_X4_hasIndex_15
    obtain ⟨hp, h⟩ := h
    refine ⟨(t01 (show (1 : Int32).toInt = 1 from rfl) hp), ?_⟩
    exact hQ _ _ _ (show (1 : Int32).toInt = 1 from rfl) h
theorem w_X4_gatherAll {Q : Int32 → Mem → Prop} {bQ : Int → Im → Prop} {x0 : Nat} {M : Mem} (h : sp_X4_gatherAll x0 (ab M) bQ) (hQ : ∀ (z0 : Int32) (u0 : Int) (m : Mem), z0.toInt = u0 → bQ u0 (ab m) → Q z0 m) : wp_X4_gatherAll x0 M Q := by
  unfold sp_X4_gatherAll at h
  unfold wp_X4_gatherAll
  obtain ⟨hp, h⟩ := h
  refine ⟨hp, ?_⟩
  intro r1 e_r1
  replace h := h r1 (e_r1.trans (tr_R rfl))
  intro r2 e_r2
  replace h := h r2 (e_r2.trans (tr_R rfl))
  obtain ⟨a3, hp, h⟩ := h
  refine ⟨a3, hp, ?_⟩
  obtain ⟨hp, h⟩ := h
  refine ⟨hp, ?_⟩
  obtain ⟨a4, hp, h⟩ := h
  refine ⟨a4, hp, ?_⟩
  obtain ⟨hp, h⟩ := h
  refine ⟨hp, ?_⟩
  refine w_X2_gather (show (0 : Int32).toInt = 0 from rfl) (tr_I rfl) h (fun i6 y_i6 M5 t_i6 h => ?_)
  exact hQ _ _ _ t_i6 h
theorem w_X4_again {Q : Int32 → Mem → Prop} {bQ : Int → Im → Prop} {x0 : Nat} {x1 : Int32} {y_x1 : Int} {M : Mem} (t_x1 : x1.toInt = y_x1) (h : sp_X4_again x0 y_x1 (ab M) bQ) (hQ : ∀ (z0 : Int32) (u0 : Int) (m : Mem), z0.toInt = u0 → bQ u0 (ab m) → Q z0 m) : wp_X4_again x0 x1 M Q := by
  unfold sp_X4_again at h
  unfold wp_X4_again
  obtain ⟨hp, h⟩ := h
  refine ⟨hp, ?_⟩
  refine w_X4_hasIndex  h (fun i2 y_i2 M1 t_i2 h => ?_)
  refine ⟨?_, ?_⟩
  · intro hc0
    replace h := h.1 (cneI t_i2 (show (0 : Int32).toInt = 0 from rfl) hc0)
    refine w_X4_isKindToMake t_x1 h (fun i4 y_i4 M3 t_i4 h => ?_)
    refine ⟨?_, ?_⟩
    · intro hc0
      replace h := h.1 (cneI t_i4 (show (0 : Int32).toInt = 0 from rfl) hc0)
      intro r5 e_r5
      replace h := h r5 (e_r5.trans (tr_R rfl))
      obtain ⟨a6, hp, h⟩ := h
      refine ⟨a6, hp, ?_⟩
      obtain ⟨hp, h⟩ := h
      refine ⟨hp, ?_⟩
      refine w_X4_gatherAll  h (fun i8 y_i8 M7 t_i8 h => ?_)
      refine w_X4_replace (show (0 : Int32).toInt = 0 from rfl) (tr_I rfl) t_i8 t_x1 h (fun i10 y_i10 M9 t_i10 h => ?_)
      exact hQ _ _ _ t_i10 h
    · intro hc0
      replace h := h.2 (ceqI t_i4 (show (0 : Int32).toInt = 0 from rfl) hc0)
      exact hQ _ _ _ (show (-2 : Int32).toInt = -2 from rfl) h
  · intro hc0
    replace h := h.2 (ceqI t_i2 (show (0 : Int32).toInt = 0 from rfl) hc0)
    exact hQ _ _ _ (show (-1 : Int32).toInt = -1 from rfl) h
theorem w_X4_clear {Q : Int32 → Mem → Prop} {bQ : Int → Im → Prop} {x0 : Nat} {M : Mem} (h : sp_X4_clear x0 (ab M) bQ) (hQ : ∀ (z0 : Int32) (u0 : Int) (m : Mem), z0.toInt = u0 → bQ u0 (ab m) → Q z0 m) : wp_X4_clear x0 M Q := by
  unfold sp_X4_clear at h
  unfold wp_X4_clear
  obtain ⟨hp, h⟩ := h
  refine ⟨hp, ?_⟩
  intro i1 e_i1
  have q_i1 := (congrArg Int32.toInt e_i1).trans (tr_I rfl)
  replace h := h _ q_i1
  have t_i1 : i1.toInt = i1.toInt := rfl
  intro r2 e_r2
  replace h := h r2 (e_r2.trans (tr_R rfl))
  obtain ⟨a3, hp, h⟩ := h
  refine ⟨a3, hp, ?_⟩
  obtain ⟨hp, h⟩ := h
  refine ⟨hp, ?_⟩
  refine w_X2_empty  h (fun M4 h => ?_)
  intro M5 e_M5
  replace h := h (ab M5) ((congrArg ab e_M5).trans (ab_sI rfl (show (0 : Int32).toInt = 0 from rfl)))
  intro M6 e_M6
  replace h := h (ab M6) ((congrArg ab e_M6).trans (ab_sI rfl (show (0 : Int32).toInt = 0 from rfl)))
  exact hQ _ _ _ t_i1 h
theorem w_X4_round {Q : Int32 → Mem → Prop} {bQ : Int → Im → Prop} {x0 : Nat} {x1 : Int32} {y_x1 : Int} {M : Mem} (t_x1 : x1.toInt = y_x1) (h : sp_X4_round x0 y_x1 (ab M) bQ) (hQ : ∀ (z0 : Int32) (u0 : Int) (m : Mem), z0.toInt = u0 → bQ u0 (ab m) → Q z0 m) : wp_X4_round x0 x1 M Q := by
  unfold sp_X4_round at h
  unfold wp_X4_round
  obtain ⟨hp, h⟩ := h
  refine ⟨hp, ?_⟩
  intro r1 e_r1
  replace h := h r1 (e_r1.trans (tr_R rfl))
  obtain ⟨a2, hp, h⟩ := h
  refine ⟨a2, hp, ?_⟩
  obtain ⟨hp, h⟩ := h
  refine ⟨hp, ?_⟩
  refine w_X2_pieceAt t_x1 h (fun r4 M3 h => ?_)
  refine ⟨?_, ?_⟩
  · intro hc0
    replace h := h.1 hc0
    exact hQ _ _ _ (show (-1 : Int32).toInt = -1 from rfl) h
  · intro a5 hc
    replace h := h.2 a5 hc
    obtain ⟨hp, h⟩ := h
    refine ⟨hp, ?_⟩
    refine ⟨?_, ?_⟩
    · intro hc0
      replace h := h.1 (ceqI (tr_I rfl) (show (1 : Int32).toInt = 1 from rfl) hc0)
      intro r7 e_r7
      replace h := h r7 (e_r7.trans (tr_R rfl))
      obtain ⟨a8, hp, h⟩ := h
      refine ⟨a8, hp, ?_⟩
      obtain ⟨hp, h⟩ := h
      refine ⟨hp, ?_⟩
      refine w_X2_turnRounded  h (fun i10 y_i10 M9 t_i10 h => ?_)
      refine ⟨?_, ?_⟩
      · intro hc0
        replace h := h.1 (ceqI t_i10 (show (0 : Int32).toInt = 0 from rfl) hc0)
        unfold wp_X4_round_42
        exact hQ _ _ _ (show (0 : Int32).toInt = 0 from rfl) h
      · intro hc0
        replace h := h.2 (cneI t_i10 (show (0 : Int32).toInt = 0 from rfl) hc0)
        unfold wp_X4_round_42
        exact hQ _ _ _ (show (1 : Int32).toInt = 1 from rfl) h
    · intro hc0
      replace h := h.2 (cneI (tr_I rfl) (show (1 : Int32).toInt = 1 from rfl) hc0)
      exact hQ _ _ _ (show (-2 : Int32).toInt = -2 from rfl) h
theorem w_X4_merge {Q : Int32 → Mem → Prop} {bQ : Int → Im → Prop} {x0 : Nat} {x1 : Int32} {y_x1 : Int} {M : Mem} (t_x1 : x1.toInt = y_x1) (h : sp_X4_merge x0 y_x1 (ab M) bQ) (hQ : ∀ (z0 : Int32) (u0 : Int) (m : Mem), z0.toInt = u0 → bQ u0 (ab m) → Q z0 m) : wp_X4_merge x0 x1 M Q := by
  unfold sp_X4_merge at h
  unfold wp_X4_merge
  obtain ⟨hp, h⟩ := h
  refine ⟨hp, ?_⟩
  refine ⟨?_, ?_⟩
  · intro hc0
    replace h := h.1 (cltI t_x1 (show (0 : Int32).toInt = 0 from rfl) hc0)
    unfold wp_X4_merge_17
    exact hQ _ _ _ (show (-1 : Int32).toInt = -1 from rfl) h
  · intro hc0
    replace h := h.2 (cnltI t_x1 (show (0 : Int32).toInt = 0 from rfl) hc0)
    intro r1 e_r1
    replace h := h r1 (e_r1.trans (tr_R rfl))
    obtain ⟨a2, hp, h⟩ := h
    refine ⟨a2, hp, ?_⟩
    obtain ⟨hp, h⟩ := h
    refine ⟨hp, ?_⟩
    obtain ⟨rr301, h⟩ := h
    refine ⟨?_, ?_⟩
    · intro hc0
      replace h := h.1 (cltI t_x1 (tsubI (tr_I rfl) (show (1 : Int32).toInt = 1 from rfl) rr301) hc0)
      intro r3 e_r3
      replace h := h r3 (e_r3.trans (tr_R rfl))
      obtain ⟨a4, hp, h⟩ := h
      refine ⟨a4, hp, ?_⟩
      obtain ⟨hp, h⟩ := h
      refine ⟨hp, ?_⟩
      obtain ⟨rr303, h⟩ := h
      refine w_X2_gather t_x1 (taddI t_x1 (show (2 : Int32).toInt = 2 from rfl) rr303) h (fun i6 y_i6 M5 t_i6 h => ?_)
      obtain ⟨rr304, h⟩ := h
      refine w_X4_replace t_x1 (taddI t_x1 (show (2 : Int32).toInt = 2 from rfl) rr304) t_i6 (show (1 : Int32).toInt = 1 from rfl) h (fun i8 y_i8 M7 t_i8 h => ?_)
      exact hQ _ _ _ t_i8 h
    · intro hc0
      replace h := h.2 (cnltI t_x1 (tsubI (tr_I rfl) (show (1 : Int32).toInt = 1 from rfl) rr301) hc0)
      unfold wp_X4_merge_17
      exact hQ _ _ _ (show (-1 : Int32).toInt = -1 from rfl) h
theorem w_X4_find {Q : Int32 → Mem → Prop} {bQ : Int → Im → Prop} {x0 : Nat} {x1 : Int64} {y_x1 : Int} {M : Mem} (t_x1 : x1.toInt = y_x1) (h : sp_X4_find x0 y_x1 (ab M) bQ) (hQ : ∀ (z0 : Int32) (u0 : Int) (m : Mem), z0.toInt = u0 → bQ u0 (ab m) → Q z0 m) : wp_X4_find x0 x1 M Q := by
  unfold sp_X4_find at h
  unfold wp_X4_find
  obtain ⟨hp, h⟩ := h
  refine ⟨hp, ?_⟩
  refine w_X4_hasIndex  h (fun i2 y_i2 M1 t_i2 h => ?_)
  refine ⟨?_, ?_⟩
  · intro hc0
    replace h := h.1 (cneI t_i2 (show (0 : Int32).toInt = 0 from rfl) hc0)
    refine w_X4_isKey t_x1 h (fun i4 y_i4 M3 t_i4 h => ?_)
    refine ⟨?_, ?_⟩
    · intro hc0
      replace h := h.1 (cneI t_i4 (show (0 : Int32).toInt = 0 from rfl) hc0)
      intro r5 e_r5
      replace h := h r5 (e_r5.trans (tr_R rfl))
      refine w_X3_follow t_x1 (tr_I rfl) h (fun M6 h => ?_)
      exact hQ _ _ _ (tr_I rfl) h
    · intro hc0
      replace h := h.2 (ceqI t_i4 (show (0 : Int32).toInt = 0 from rfl) hc0)
      exact hQ _ _ _ (show (-2 : Int32).toInt = -2 from rfl) h
  · intro hc0
    replace h := h.2 (ceqI t_i2 (show (0 : Int32).toInt = 0 from rfl) hc0)
    exact hQ _ _ _ (show (-1 : Int32).toInt = -1 from rfl) h
theorem w_X4_insert {Q : Int32 → Mem → Prop} {bQ : Int → Im → Prop} {x0 : Nat} {x1 : Int64} {y_x1 : Int} {M : Mem} (t_x1 : x1.toInt = y_x1) (h : sp_X4_insert x0 y_x1 (ab M) bQ) (hQ : ∀ (z0 : Int32) (u0 : Int) (m : Mem), z0.toInt = u0 → bQ u0 (ab m) → Q z0 m) : wp_X4_insert x0 x1 M Q := by
  unfold sp_X4_insert at h
  unfold wp_X4_insert
  obtain ⟨hp, h⟩ := h
  refine ⟨hp, ?_⟩
  refine w_X4_hasIndex  h (fun i2 y_i2 M1 t_i2 h => ?_)
  refine ⟨?_, ?_⟩
  · intro hc0
    replace h := h.1 (cneI t_i2 (show (0 : Int32).toInt = 0 from rfl) hc0)
    refine w_X4_isKey t_x1 h (fun i4 y_i4 M3 t_i4 h => ?_)
    refine ⟨?_, ?_⟩
    · intro hc0
      replace h := h.1 (cneI t_i4 (show (0 : Int32).toInt = 0 from rfl) hc0)
      intro r5 e_r5
      replace h := h r5 (e_r5.trans (tr_R rfl))
      refine w_X3_follow t_x1 (tr_I rfl) h (fun M6 h => ?_)
      refine ⟨?_, ?_⟩
      · intro hc0
        replace h := h.1 (cneI (tr_I rfl) (show (1 : Int32).toInt = 1 from rfl) hc0)
        refine ⟨?_, ?_⟩
        · intro hc0
          replace h := h.1 (cleI (show (300 : Int32).toInt = 300 from rfl) (tr_I rfl) hc0)
          unfold wp_X4_insert_72
          exact hQ _ _ _ (show (-3 : Int32).toInt = -3 from rfl) h
        · intro hc0
          replace h := h.2 (cnleI (show (300 : Int32).toInt = 300 from rfl) (tr_I rfl) hc0)
          intro r7 e_r7
          replace h := h r7 (e_r7.trans (tr_R rfl))
          obtain ⟨a8, hp, h⟩ := h
          refine ⟨a8, hp, ?_⟩
          obtain ⟨hp, h⟩ := h
          refine ⟨hp, ?_⟩
          refine w_X2_isFull  h (fun i10 y_i10 M9 t_i10 h => ?_)
          refine ⟨?_, ?_⟩
          · intro hc0
            replace h := h.1 (ceqI t_i10 (show (0 : Int32).toInt = 0 from rfl) hc0)
            obtain ⟨rr309, h⟩ := h
            intro M11 e_M11
            replace h := h (ab M11) ((congrArg ab e_M11).trans (ab_sI rfl (taddI (tr_I rfl) (show (1 : Int32).toInt = 1 from rfl) rr309)))
            intro r12 e_r12
            replace h := h r12 (e_r12.trans (tr_R rfl))
            obtain ⟨a13, hp, h⟩ := h
            refine ⟨a13, hp, ?_⟩
            obtain ⟨hp, h⟩ := h
            refine ⟨hp, ?_⟩
            refine w_X2_restore (tr_I rfl) t_x1 h (fun i15 y_i15 M14 t_i15 h => ?_)
            refine ⟨?_, ?_⟩
            · intro hc0
              replace h := h.1 (ceqI t_i15 (show (0 : Int32).toInt = 0 from rfl) hc0)
              intro i16 e_i16
              have q_i16 := (congrArg Int32.toInt e_i16).trans (tr_I rfl)
              replace h := h _ q_i16
              have t_i16 : i16.toInt = i16.toInt := rfl
              intro r17 e_r17
              replace h := h r17 (e_r17.trans (tr_R rfl))
              obtain ⟨a18, hp, h⟩ := h
              refine ⟨a18, hp, ?_⟩
              obtain ⟨hp, h⟩ := h
              refine ⟨hp, ?_⟩
              refine w_X2_putLate t_i16 (tr_I rfl) t_x1 h (fun i20 y_i20 M19 t_i20 h => ?_)
              refine ⟨?_, ?_⟩
              · intro hc0
                replace h := h.1 (cleI t_i20 (show (15 : Int32).toInt = 15 from rfl) hc0)
                unfold wp_X4_insert_169
                exact hQ _ _ _ (show (1 : Int32).toInt = 1 from rfl) h
              · intro hc0
                replace h := h.2 (cnleI t_i20 (show (15 : Int32).toInt = 15 from rfl) hc0)
                obtain ⟨rr310, h⟩ := h
                intro M21 e_M21
                replace h := h (ab M21) ((congrArg ab e_M21).trans (ab_sI rfl (taddI (tr_I rfl) (show (1 : Int32).toInt = 1 from rfl) rr310)))
                intro r22 e_r22
                replace h := h r22 (e_r22.trans (tr_R rfl))
                obtain ⟨a23, hp, h⟩ := h
                refine ⟨a23, hp, ?_⟩
                obtain ⟨hp, h⟩ := h
                refine ⟨hp, ?_⟩
                obtain ⟨rr311, h⟩ := h
                refine w_X2_gather t_i16 (taddI t_i16 (show (1 : Int32).toInt = 1 from rfl) rr311) h (fun i25 y_i25 M24 t_i25 h => ?_)
                obtain ⟨rr312, h⟩ := h
                refine w_X4_replace t_i16 (taddI t_i16 (show (1 : Int32).toInt = 1 from rfl) rr312) t_i25 (show (1 : Int32).toInt = 1 from rfl) h (fun i27 y_i27 M26 t_i27 h => ?_)
                unfold wp_X4_insert_169
                exact hQ _ _ _ (show (1 : Int32).toInt = 1 from rfl) h
            · intro hc0
              replace h := h.2 (cneI t_i15 (show (0 : Int32).toInt = 0 from rfl) hc0)
              exact hQ _ _ _ (show (1 : Int32).toInt = 1 from rfl) h
          · intro hc0
            replace h := h.2 (cneI t_i10 (show (0 : Int32).toInt = 0 from rfl) hc0)
            unfold wp_X4_insert_72
            exact hQ _ _ _ (show (-3 : Int32).toInt = -3 from rfl) h
      · intro hc0
        replace h := h.2 (ceqI (tr_I rfl) (show (1 : Int32).toInt = 1 from rfl) hc0)
        exact hQ _ _ _ (show (0 : Int32).toInt = 0 from rfl) h
    · intro hc0
      replace h := h.2 (ceqI t_i4 (show (0 : Int32).toInt = 0 from rfl) hc0)
      exact hQ _ _ _ (show (-2 : Int32).toInt = -2 from rfl) h
  · intro hc0
    replace h := h.2 (ceqI t_i2 (show (0 : Int32).toInt = 0 from rfl) hc0)
    exact hQ _ _ _ (show (-1 : Int32).toInt = -1 from rfl) h
theorem w_X4_drop {Q : Int32 → Mem → Prop} {bQ : Int → Im → Prop} {x0 : Nat} {x1 : Int64} {y_x1 : Int} {M : Mem} (t_x1 : x1.toInt = y_x1) (h : sp_X4_drop x0 y_x1 (ab M) bQ) (hQ : ∀ (z0 : Int32) (u0 : Int) (m : Mem), z0.toInt = u0 → bQ u0 (ab m) → Q z0 m) : wp_X4_drop x0 x1 M Q := by
  unfold sp_X4_drop at h
  unfold wp_X4_drop
  obtain ⟨hp, h⟩ := h
  refine ⟨hp, ?_⟩
  refine w_X4_hasIndex  h (fun i3 y_i3 M2 t_i3 h => ?_)
  refine ⟨?_, ?_⟩
  · intro hc0
    replace h := h.1 (cneI t_i3 (show (0 : Int32).toInt = 0 from rfl) hc0)
    refine w_X4_isKey t_x1 h (fun i5 y_i5 M4 t_i5 h => ?_)
    refine ⟨?_, ?_⟩
    · intro hc0
      replace h := h.1 (cneI t_i5 (show (0 : Int32).toInt = 0 from rfl) hc0)
      intro r6 e_r6
      replace h := h r6 (e_r6.trans (tr_R rfl))
      refine w_X3_follow t_x1 (tr_I rfl) h (fun M7 h => ?_)
      refine ⟨?_, ?_⟩
      · intro hc0
        replace h := h.1 (cneI (tr_I rfl) (show (0 : Int32).toInt = 0 from rfl) hc0)
        intro r8 e_r8
        replace h := h r8 (e_r8.trans (tr_R rfl))
        obtain ⟨a9, hp, h⟩ := h
        refine ⟨a9, hp, ?_⟩
        obtain ⟨hp, h⟩ := h
        refine ⟨hp, ?_⟩
        refine w_X2_holds (tr_I rfl) t_x1 h (fun i11 y_i11 M10 t_i11 h => ?_)
        refine ⟨?_, ?_⟩
        · intro hc0
          replace h := h.1 (ceqI t_i11 (show (0 : Int32).toInt = 0 from rfl) hc0)
          intro r12 e_r12
          replace h := h r12 (e_r12.trans (tr_R rfl))
          obtain ⟨a13, hp, h⟩ := h
          refine ⟨a13, hp, ?_⟩
          obtain ⟨hp, h⟩ := h
          refine ⟨hp, ?_⟩
          obtain ⟨rr316, h⟩ := h
          refine w_X2_takeLate (tr_I rfl) (tsubI (tr_I rfl) (show (1 : Int32).toInt = 1 from rfl) rr316) h (fun M14 h => ?_)
          unfold wp_X4_drop_109
          obtain ⟨rr317, h⟩ := h
          intro M1 e_M1
          replace h := h (ab M1) ((congrArg ab e_M1).trans (ab_sI rfl (tsubI (tr_I rfl) (show (1 : Int32).toInt = 1 from rfl) rr317)))
          exact hQ _ _ _ (show (1 : Int32).toInt = 1 from rfl) h
        · intro hc0
          replace h := h.2 (cneI t_i11 (show (0 : Int32).toInt = 0 from rfl) hc0)
          intro r15 e_r15
          replace h := h r15 (e_r15.trans (tr_R rfl))
          obtain ⟨a16, hp, h⟩ := h
          refine ⟨a16, hp, ?_⟩
          obtain ⟨hp, h⟩ := h
          refine ⟨hp, ?_⟩
          refine w_X2_markDropped (tr_I rfl) h (fun M17 h => ?_)
          unfold wp_X4_drop_109
          obtain ⟨rr318, h⟩ := h
          intro M1 e_M1
          replace h := h (ab M1) ((congrArg ab e_M1).trans (ab_sI rfl (tsubI (tr_I rfl) (show (1 : Int32).toInt = 1 from rfl) rr318)))
          exact hQ _ _ _ (show (1 : Int32).toInt = 1 from rfl) h
      · intro hc0
        replace h := h.2 (ceqI (tr_I rfl) (show (0 : Int32).toInt = 0 from rfl) hc0)
        exact hQ _ _ _ (show (0 : Int32).toInt = 0 from rfl) h
    · intro hc0
      replace h := h.2 (ceqI t_i5 (show (0 : Int32).toInt = 0 from rfl) hc0)
      exact hQ _ _ _ (show (-2 : Int32).toInt = -2 from rfl) h
  · intro hc0
    replace h := h.2 (ceqI t_i3 (show (0 : Int32).toInt = 0 from rfl) hc0)
    exact hQ _ _ _ (show (-1 : Int32).toInt = -1 from rfl) h
theorem w_X4_at {Q : Int64 → Mem → Prop} {bQ : Int → Im → Prop} {x0 : Nat} {x1 : Int32} {y_x1 : Int} {M : Mem} (t_x1 : x1.toInt = y_x1) (h : sp_X4_at x0 y_x1 (ab M) bQ) (hQ : ∀ (z0 : Int64) (u0 : Int) (m : Mem), z0.toInt = u0 → bQ u0 (ab m) → Q z0 m) : wp_X4_at x0 x1 M Q := by
  unfold sp_X4_at at h
  unfold wp_X4_at
  obtain ⟨hp, h⟩ := h
  refine ⟨hp, ?_⟩
  refine w_X4_gatherAll  h (fun i2 y_i2 M1 t_i2 h => ?_)
  refine ⟨?_, ?_⟩
  · intro hc0
    replace h := h.1 (cltI t_x1 (show (0 : Int32).toInt = 0 from rfl) hc0)
    unfold wp_X4_at_23
    unfold wp_X4_at_26
    exact hQ _ _ _ (show (-9223372036854775808 : Int64).toInt = -9223372036854775808 from rfl) h
  · intro hc0
    replace h := h.2 (cnltI t_x1 (show (0 : Int32).toInt = 0 from rfl) hc0)
    refine ⟨?_, ?_⟩
    · intro hc0
      replace h := h.1 (cleI t_i2 t_x1 hc0)
      unfold wp_X4_at_23
      unfold wp_X4_at_26
      exact hQ _ _ _ (show (-9223372036854775808 : Int64).toInt = -9223372036854775808 from rfl) h
    · intro hc0
      replace h := h.2 (cnleI t_i2 t_x1 hc0)
      obtain ⟨hp, h⟩ := h
      refine ⟨(tinb t_x1 hp), ?_⟩
      unfold wp_X4_at_26
      exact hQ _ _ _ (tr_L (tnatI t_x1)) h
theorem w_X4_countBelow_8 {Q : Int32 → Mem → Prop} {bQ : Int → Im → Prop} {K32 : Int32 → Mem → Prop} {bK32 : Int → Im → Prop} : ∀ {n : Nat} {x0 : Nat} {x1 : Int64} {y_x1 : Int} {x3 : Int32} {y_x3 : Int} {x4 : Int32} {y_x4 : Int} {M : Mem} (t_x1 : x1.toInt = y_x1) (t_x3 : x3.toInt = y_x3) (t_x4 : x4.toInt = y_x4) (_ : sp_X4_countBelow_8 n x0 y_x1 y_x3 y_x4 (ab M) bQ bK32) (_ : ∀ (z0 : Int32) (u0 : Int) (m : Mem), z0.toInt = u0 → bQ u0 (ab m) → Q z0 m) (_ : ∀ (z0 : Int32) (u0 : Int) (m : Mem), z0.toInt = u0 → bK32 u0 (ab m) → K32 z0 m), wp_X4_countBelow_8 n x0 x1 x3 x4 M Q K32 := by
  intro n
  induction n with
  | zero => intro x0 x1 y_x1 x3 y_x3 x4 y_x4 M t_x1 t_x3 t_x4 h hQ hK32; exact h.elim
  | succ n ih =>
    intro x0 x1 y_x1 x3 y_x3 x4 y_x4 M t_x1 t_x3 t_x4 h hQ hK32
    unfold sp_X4_countBelow_8 at h
    unfold wp_X4_countBelow_8
    refine ⟨?_, ?_⟩
    · intro hc0
      replace h := h.1 (cleI t_x3 t_x4 hc0)
      exact hK32 _ _ _ t_x4 h
    · intro hc0
      replace h := h.2 (cnleI t_x3 t_x4 hc0)
      obtain ⟨hp, h⟩ := h
      refine ⟨(tinb t_x4 hp), ?_⟩
      refine ⟨?_, ?_⟩
      · intro hc0
        replace h := h.1 (cleJ t_x1 (tr_L (tnatI t_x4)) hc0)
        exact hK32 _ _ _ t_x4 h
      · intro hc0
        replace h := h.2 (cnleJ t_x1 (tr_L (tnatI t_x4)) hc0)
        obtain ⟨rr320, h⟩ := h
        intro i1 e_i1
        have q_i1 := (congrArg Int32.toInt e_i1).trans (taddI t_x4 (show (1 : Int32).toInt = 1 from rfl) rr320)
        replace h := h _ q_i1
        have t_i1 : i1.toInt = i1.toInt := rfl
        refine ih t_x1 t_x3 t_i1 h hQ hK32
theorem w_X4_countBelow {Q : Int32 → Mem → Prop} {bQ : Int → Im → Prop} {x0 : Nat} {x1 : Int64} {y_x1 : Int} {M : Mem} (t_x1 : x1.toInt = y_x1) (h : sp_X4_countBelow x0 y_x1 (ab M) bQ) (hQ : ∀ (z0 : Int32) (u0 : Int) (m : Mem), z0.toInt = u0 → bQ u0 (ab m) → Q z0 m) : wp_X4_countBelow x0 x1 M Q := by
  unfold sp_X4_countBelow at h
  unfold wp_X4_countBelow
  obtain ⟨hp, h⟩ := h
  refine ⟨hp, ?_⟩
  refine w_X4_gatherAll  h (fun i3 y_i3 M2 t_i3 h => ?_)
  obtain ⟨k8, h⟩ := h
  refine ⟨k8, ?_⟩
  refine w_X4_countBelow_8 t_x1 t_i3 (show (0 : Int32).toInt = 0 from rfl) h hQ (fun x4 y_x4 M t_x4 h => ?_)
  unfold wp_X4_countBelow_32
  exact hQ _ _ _ t_x4 h
theorem w_X4_below {Q : Int32 → Mem → Prop} {bQ : Int → Im → Prop} {x0 : Nat} {x1 : Int64} {y_x1 : Int} {M : Mem} (t_x1 : x1.toInt = y_x1) (h : sp_X4_below x0 y_x1 (ab M) bQ) (hQ : ∀ (z0 : Int32) (u0 : Int) (m : Mem), z0.toInt = u0 → bQ u0 (ab m) → Q z0 m) : wp_X4_below x0 x1 M Q := by
  unfold sp_X4_below at h
  unfold wp_X4_below
  obtain ⟨hp, h⟩ := h
  refine ⟨hp, ?_⟩
  refine w_X4_hasIndex  h (fun i2 y_i2 M1 t_i2 h => ?_)
  refine ⟨?_, ?_⟩
  · intro hc0
    replace h := h.1 (cneI t_i2 (show (0 : Int32).toInt = 0 from rfl) hc0)
    refine w_X4_isKey t_x1 h (fun i4 y_i4 M3 t_i4 h => ?_)
    refine ⟨?_, ?_⟩
    · intro hc0
      replace h := h.1 (cneI t_i4 (show (0 : Int32).toInt = 0 from rfl) hc0)
      refine w_X4_countBelow t_x1 h (fun i6 y_i6 M5 t_i6 h => ?_)
      exact hQ _ _ _ t_i6 h
    · intro hc0
      replace h := h.2 (ceqI t_i4 (show (0 : Int32).toInt = 0 from rfl) hc0)
      exact hQ _ _ _ (show (-2 : Int32).toInt = -2 from rfl) h
  · intro hc0
    replace h := h.2 (ceqI t_i2 (show (0 : Int32).toInt = 0 from rfl) hc0)
    exact hQ _ _ _ (show (-1 : Int32).toInt = -1 from rfl) h
theorem w_X4_above_8 {Q : Int64 → Mem → Prop} {bQ : Int → Im → Prop} {K26 : Nat → Int32 → Mem → Prop} {bK26 : Nat → Int → Im → Prop} {K40 : Mem → Prop} {bK40 : Im → Prop} : ∀ {n : Nat} {x0 : Nat} {x1 : Int64} {y_x1 : Int} {x3 : Int32} {y_x3 : Int} {x4 : Int32} {y_x4 : Int} {M : Mem} (t_x1 : x1.toInt = y_x1) (t_x3 : x3.toInt = y_x3) (t_x4 : x4.toInt = y_x4) (_ : sp_X4_above_8 n x0 y_x1 y_x3 y_x4 (ab M) bQ bK26 bK40) (_ : ∀ (z0 : Int64) (u0 : Int) (m : Mem), z0.toInt = u0 → bQ u0 (ab m) → Q z0 m) (_ : ∀ (z0 : Nat) (z1 : Int32) (u1 : Int) (m : Mem), z1.toInt = u1 → bK26 z0 u1 (ab m) → K26 z0 z1 m) (_ : ∀ (m : Mem), bK40 (ab m) → K40 m), wp_X4_above_8 n x0 x1 x3 x4 M Q K26 K40 := by
  intro n
  induction n with
  | zero => intro x0 x1 y_x1 x3 y_x3 x4 y_x4 M t_x1 t_x3 t_x4 h hQ hK26 hK40; exact h.elim
  | succ n ih =>
    intro x0 x1 y_x1 x3 y_x3 x4 y_x4 M t_x1 t_x3 t_x4 h hQ hK26 hK40
    unfold sp_X4_above_8 at h
    unfold wp_X4_above_8
    refine ⟨?_, ?_⟩
    · intro hc0
      replace h := h.1 (cleI t_x3 t_x4 hc0)
      exact hK40 _  h
    · intro hc0
      replace h := h.2 (cnleI t_x3 t_x4 hc0)
      obtain ⟨hp, h⟩ := h
      refine ⟨(tinb t_x4 hp), ?_⟩
      refine ⟨?_, ?_⟩
      · intro hc0
        replace h := h.1 (cleJ (tr_L (tnatI t_x4)) t_x1 hc0)
        obtain ⟨rr322, h⟩ := h
        intro i1 e_i1
        have q_i1 := (congrArg Int32.toInt e_i1).trans (taddI t_x4 (show (1 : Int32).toInt = 1 from rfl) rr322)
        replace h := h _ q_i1
        have t_i1 : i1.toInt = i1.toInt := rfl
        refine ih t_x1 t_x3 t_i1 h hQ hK26 hK40
      · intro hc0
        replace h := h.2 (cnleJ (tr_L (tnatI t_x4)) t_x1 hc0)
        exact hK26 _ _ _ _ t_x4 h
theorem w_X4_above {Q : Int64 → Mem → Prop} {bQ : Int → Im → Prop} {x0 : Nat} {x1 : Int64} {y_x1 : Int} {M : Mem} (t_x1 : x1.toInt = y_x1) (h : sp_X4_above x0 y_x1 (ab M) bQ) (hQ : ∀ (z0 : Int64) (u0 : Int) (m : Mem), z0.toInt = u0 → bQ u0 (ab m) → Q z0 m) : wp_X4_above x0 x1 M Q := by
  unfold sp_X4_above at h
  unfold wp_X4_above
  obtain ⟨hp, h⟩ := h
  refine ⟨hp, ?_⟩
  refine w_X4_gatherAll  h (fun i3 y_i3 M2 t_i3 h => ?_)
  obtain ⟨k8, h⟩ := h
  refine ⟨k8, ?_⟩
  refine w_X4_above_8 t_x1 t_i3 (show (0 : Int32).toInt = 0 from rfl) h hQ (fun x0 x4 y_x4 M t_x4 h => ?_) (fun M h => ?_)
  ·
    unfold wp_X4_above_26
    obtain ⟨hp, h⟩ := h
    refine ⟨(tinb t_x4 hp), ?_⟩
    exact hQ _ _ _ (tr_L (tnatI t_x4)) h
  ·
    unfold wp_X4_above_40
    exact hQ _ _ _ (show (-9223372036854775808 : Int64).toInt = -9223372036854775808 from rfl) h
theorem w_X4_between {Q : Int32 → Mem → Prop} {bQ : Int → Im → Prop} {x0 : Nat} {x1 : Int64} {y_x1 : Int} {x3 : Int64} {y_x3 : Int} {M : Mem} (t_x1 : x1.toInt = y_x1) (t_x3 : x3.toInt = y_x3) (h : sp_X4_between x0 y_x1 y_x3 (ab M) bQ) (hQ : ∀ (z0 : Int32) (u0 : Int) (m : Mem), z0.toInt = u0 → bQ u0 (ab m) → Q z0 m) : wp_X4_between x0 x1 x3 M Q := by
  unfold sp_X4_between at h
  unfold wp_X4_between
  obtain ⟨hp, h⟩ := h
  refine ⟨hp, ?_⟩
  refine w_X4_hasIndex  h (fun i2 y_i2 M1 t_i2 h => ?_)
  refine ⟨?_, ?_⟩
  · intro hc0
    replace h := h.1 (cneI t_i2 (show (0 : Int32).toInt = 0 from rfl) hc0)
    refine w_X4_isKey t_x1 h (fun i4 y_i4 M3 t_i4 h => ?_)
    refine ⟨?_, ?_⟩
    · intro hc0
      replace h := h.1 (ceqI t_i4 (show (0 : Int32).toInt = 0 from rfl) hc0)
      unfold wp_X4_between_23
      exact hQ _ _ _ (show (-2 : Int32).toInt = -2 from rfl) h
    · intro hc0
      replace h := h.2 (cneI t_i4 (show (0 : Int32).toInt = 0 from rfl) hc0)
      refine w_X4_isKey t_x3 h (fun i6 y_i6 M5 t_i6 h => ?_)
      refine ⟨?_, ?_⟩
      · intro hc0
        replace h := h.1 (cneI t_i6 (show (0 : Int32).toInt = 0 from rfl) hc0)
        refine ⟨?_, ?_⟩
        · intro hc0
          replace h := h.1 (cleJ t_x3 t_x1 hc0)
          unfold wp_X4_between_47
          exact hQ _ _ _ (show (0 : Int32).toInt = 0 from rfl) h
        · intro hc0
          replace h := h.2 (cnleJ t_x3 t_x1 hc0)
          refine w_X4_countBelow t_x3 h (fun i8 y_i8 M7 t_i8 h => ?_)
          refine w_X4_countBelow t_x1 h (fun i10 y_i10 M9 t_i10 h => ?_)
          unfold wp_X4_between_47
          obtain ⟨rr324, h⟩ := h
          exact hQ _ _ _ (tsubI t_i8 t_i10 rr324) h
      · intro hc0
        replace h := h.2 (ceqI t_i6 (show (0 : Int32).toInt = 0 from rfl) hc0)
        unfold wp_X4_between_23
        exact hQ _ _ _ (show (-2 : Int32).toInt = -2 from rfl) h
  · intro hc0
    replace h := h.2 (ceqI t_i2 (show (0 : Int32).toInt = 0 from rfl) hc0)
    exact hQ _ _ _ (show (-1 : Int32).toInt = -1 from rfl) h
theorem w_X4_layers {Q : Int32 → Mem → Prop} {bQ : Int → Im → Prop} {x0 : Nat} {M : Mem} (h : sp_X4_layers x0 (ab M) bQ) (hQ : ∀ (z0 : Int32) (u0 : Int) (m : Mem), z0.toInt = u0 → bQ u0 (ab m) → Q z0 m) : wp_X4_layers x0 M Q := by
  unfold sp_X4_layers at h
  unfold wp_X4_layers
  obtain ⟨hp, h⟩ := h
  refine ⟨hp, ?_⟩
  refine w_X4_hasIndex  h (fun i2 y_i2 M1 t_i2 h => ?_)
  refine ⟨?_, ?_⟩
  · intro hc0
    replace h := h.1 (ceqI t_i2 (show (0 : Int32).toInt = 0 from rfl) hc0)
    unfold wp_X4_layers_15
    exact hQ _ _ _ (show (-1 : Int32).toInt = -1 from rfl) h
  · intro hc0
    replace h := h.2 (cneI t_i2 (show (0 : Int32).toInt = 0 from rfl) hc0)
    unfold wp_X4_layers_15
    exact hQ _ _ _ (tr_I rfl) h
theorem w_X4_tierOf {Q : Option Nat → Mem → Prop} {bQ : Option Nat → Im → Prop} {x0 : Nat} {x1 : Int32} {y_x1 : Int} {M : Mem} (t_x1 : x1.toInt = y_x1) (h : sp_X4_tierOf x0 y_x1 (ab M) bQ) (hQ : ∀ (z0 : Option Nat) (m : Mem), bQ z0 (ab m) → Q z0 m) : wp_X4_tierOf x0 x1 M Q := by
  unfold sp_X4_tierOf at h
  unfold wp_X4_tierOf
  obtain ⟨hp, h⟩ := h
  refine ⟨hp, ?_⟩
  refine w_X4_hasIndex  h (fun i2 y_i2 M1 t_i2 h => ?_)
  refine ⟨?_, ?_⟩
  · intro hc0
    replace h := h.1 (ceqI t_i2 (show (0 : Int32).toInt = 0 from rfl) hc0)
    unfold wp_X4_tierOf_20
    exact hQ _ _  h
  · intro hc0
    replace h := h.2 (cneI t_i2 (show (0 : Int32).toInt = 0 from rfl) hc0)
    refine ⟨?_, ?_⟩
    · intro hc0
      replace h := h.1 (cltI t_x1 (show (-1 : Int32).toInt = -1 from rfl) hc0)
      unfold wp_X4_tierOf_20
      exact hQ _ _  h
    · intro hc0
      replace h := h.2 (cnltI t_x1 (show (-1 : Int32).toInt = -1 from rfl) hc0)
      refine ⟨?_, ?_⟩
      · intro hc0
        replace h := h.1 (cltI t_x1 (tr_I rfl) hc0)
        refine ⟨?_, ?_⟩
        · intro hc0
          replace h := h.1 (cneI t_x1 (show (-1 : Int32).toInt = -1 from rfl) hc0)
          obtain ⟨hp, h⟩ := h
          refine ⟨(tinb t_x1 hp), ?_⟩
          intro r3 e_r3
          replace h := h r3 (e_r3.trans (tr_Z (tnatI t_x1)))
          unfold wp_X4_tierOf_40
          exact hQ _ _  h
        · intro hc0
          replace h := h.2 (ceqI t_x1 (show (-1 : Int32).toInt = -1 from rfl) hc0)
          intro r4 e_r4
          replace h := h r4 (e_r4.trans (tr_R rfl))
          unfold wp_X4_tierOf_40
          exact hQ _ _  h
      · intro hc0
        replace h := h.2 (cnltI t_x1 (tr_I rfl) hc0)
        unfold wp_X4_tierOf_20
        exact hQ _ _  h
theorem w_X4_pieces {Q : Int32 → Mem → Prop} {bQ : Int → Im → Prop} {x0 : Nat} {x1 : Int32} {y_x1 : Int} {M : Mem} (t_x1 : x1.toInt = y_x1) (h : sp_X4_pieces x0 y_x1 (ab M) bQ) (hQ : ∀ (z0 : Int32) (u0 : Int) (m : Mem), z0.toInt = u0 → bQ u0 (ab m) → Q z0 m) : wp_X4_pieces x0 x1 M Q := by
  unfold sp_X4_pieces at h
  unfold wp_X4_pieces
  obtain ⟨hp, h⟩ := h
  refine ⟨hp, ?_⟩
  refine w_X4_tierOf t_x1 h (fun r2 M1 h => ?_)
  refine ⟨?_, ?_⟩
  · intro hc0
    replace h := h.1 hc0
    unfold wp_X4_pieces_18
    exact hQ _ _ _ (show (-1 : Int32).toInt = -1 from rfl) h
  · intro a3 hc
    replace h := h.2 a3 hc
    obtain ⟨hp, h⟩ := h
    refine ⟨hp, ?_⟩
    unfold wp_X4_pieces_18
    exact hQ _ _ _ (tr_I rfl) h
theorem w_X4_piece_22 {Q : Int32 → Mem → Prop} {bQ : Int → Im → Prop} {x3 : Int32} {y_x3 : Int} {x4 : Option Nat} {t0 : Option Nat} {M : Mem} (t_x3 : x3.toInt = y_x3) (h : sp_X4_piece_22 y_x3 x4 t0 (ab M) bQ) (hQ : ∀ (z0 : Int32) (u0 : Int) (m : Mem), z0.toInt = u0 → bQ u0 (ab m) → Q z0 m) : wp_X4_piece_22 x3 x4 t0 M Q := by
  unfold sp_X4_piece_22 at h
  unfold wp_X4_piece_22
  refine ⟨?_, ?_⟩
  · intro hc0
    replace h := h.1 hc0
    unfold wp_X4_piece_34
    exact hQ _ _ _ (show (-1 : Int32).toInt = -1 from rfl) h
  · intro a1 hc
    replace h := h.2 a1 hc
    refine ⟨?_, ?_⟩
    · intro hc0
      replace h := h.1 hc0
      unfold wp_X4_piece_34
      exact hQ _ _ _ (show (-1 : Int32).toInt = -1 from rfl) h
    · intro a2 hc
      replace h := h.2 a2 hc
      refine ⟨?_, ?_, ?_, ?_, ?_, ?_, ?_⟩
      · intro hc0
        replace h := h.1 (ceqI t_x3 (show (0 : Int32).toInt = 0 from rfl) hc0)
        obtain ⟨hp, h⟩ := h
        refine ⟨hp, ?_⟩
        exact hQ _ _ _ (tr_I rfl) h
      · intro hc0
        replace h := h.2.1 (ceqI t_x3 (show (1 : Int32).toInt = 1 from rfl) hc0)
        obtain ⟨hp, h⟩ := h
        refine ⟨hp, ?_⟩
        exact hQ _ _ _ (tr_I rfl) h
      · intro hc0
        replace h := h.2.2.1 (ceqI t_x3 (show (2 : Int32).toInt = 2 from rfl) hc0)
        obtain ⟨hp, h⟩ := h
        refine ⟨hp, ?_⟩
        refine w_X2_countDropped  h (fun i7 y_i7 M6 t_i7 h => ?_)
        exact hQ _ _ _ t_i7 h
      · intro hc0
        replace h := h.2.2.2.1 (ceqI t_x3 (show (3 : Int32).toInt = 3 from rfl) hc0)
        obtain ⟨hp, h⟩ := h
        refine ⟨hp, ?_⟩
        exact hQ _ _ _ (tr_I rfl) h
      · intro hc0
        replace h := h.2.2.2.2.1 (ceqI t_x3 (show (4 : Int32).toInt = 4 from rfl) hc0)
        obtain ⟨hp, h⟩ := h
        refine ⟨hp, ?_⟩
        exact hQ _ _ _ (tr_I rfl) h
      · intro hc0
        replace h := h.2.2.2.2.2.1 (ceqI t_x3 (show (5 : Int32).toInt = 5 from rfl) hc0)
        obtain ⟨hp, h⟩ := h
        refine ⟨hp, ?_⟩
        refine w_X2_greatestMiss  h (fun i12 y_i12 M11 t_i12 h => ?_)
        exact hQ _ _ _ t_i12 h
      · intro hc0 hc1 hc2 hc3 hc4 hc5
        replace h := h.2.2.2.2.2.2 (cneI t_x3 (show (0 : Int32).toInt = 0 from rfl) hc0) (cneI t_x3 (show (1 : Int32).toInt = 1 from rfl) hc1) (cneI t_x3 (show (2 : Int32).toInt = 2 from rfl) hc2) (cneI t_x3 (show (3 : Int32).toInt = 3 from rfl) hc3) (cneI t_x3 (show (4 : Int32).toInt = 4 from rfl) hc4) (cneI t_x3 (show (5 : Int32).toInt = 5 from rfl) hc5)
        exact hQ _ _ _ (show (-1 : Int32).toInt = -1 from rfl) h
theorem w_X4_piece {Q : Int32 → Mem → Prop} {bQ : Int → Im → Prop} {x0 : Nat} {x1 : Int32} {y_x1 : Int} {x2 : Int32} {y_x2 : Int} {x3 : Int32} {y_x3 : Int} {M : Mem} (t_x1 : x1.toInt = y_x1) (t_x2 : x2.toInt = y_x2) (t_x3 : x3.toInt = y_x3) (h : sp_X4_piece x0 y_x1 y_x2 y_x3 (ab M) bQ) (hQ : ∀ (z0 : Int32) (u0 : Int) (m : Mem), z0.toInt = u0 → bQ u0 (ab m) → Q z0 m) : wp_X4_piece x0 x1 x2 x3 M Q := by
  unfold sp_X4_piece at h
  unfold wp_X4_piece
  obtain ⟨hp, h⟩ := h
  refine ⟨hp, ?_⟩
  refine w_X4_tierOf t_x1 h (fun r14 M13 h => ?_)
  refine ⟨?_, ?_⟩
  · intro hc0
    replace h := h.1 hc0
    refine w_X4_piece_22 t_x3 h hQ
  · intro a15 hc
    replace h := h.2 a15 hc
    obtain ⟨hp, h⟩ := h
    refine ⟨hp, ?_⟩
    refine w_X2_pieceAt t_x2 h (fun r18 M17 h => ?_)
    refine w_X4_piece_22 t_x3 h hQ
theorem w_X4_line_22 {Q : Int64 → Mem → Prop} {bQ : Int → Im → Prop} {x3 : Int32} {y_x3 : Int} {x4 : Option Nat} {t0 : Option Nat} {M : Mem} (t_x3 : x3.toInt = y_x3) (h : sp_X4_line_22 y_x3 x4 t0 (ab M) bQ) (hQ : ∀ (z0 : Int64) (u0 : Int) (m : Mem), z0.toInt = u0 → bQ u0 (ab m) → Q z0 m) : wp_X4_line_22 x3 x4 t0 M Q := by
  unfold sp_X4_line_22 at h
  unfold wp_X4_line_22
  refine ⟨?_, ?_⟩
  · intro hc0
    replace h := h.1 hc0
    unfold wp_X4_line_34
    exact hQ _ _ _ (show (-9223372036854775808 : Int64).toInt = -9223372036854775808 from rfl) h
  · intro a1 hc
    replace h := h.2 a1 hc
    refine ⟨?_, ?_⟩
    · intro hc0
      replace h := h.1 hc0
      unfold wp_X4_line_34
      exact hQ _ _ _ (show (-9223372036854775808 : Int64).toInt = -9223372036854775808 from rfl) h
    · intro a2 hc
      replace h := h.2 a2 hc
      refine ⟨?_, ?_, ?_, ?_, ?_, ?_⟩
      · intro hc0
        replace h := h.1 (ceqI t_x3 (show (0 : Int32).toInt = 0 from rfl) hc0)
        obtain ⟨hp, h⟩ := h
        refine ⟨hp, ?_⟩
        exact hQ _ _ _ (tr_L rfl) h
      · intro hc0
        replace h := h.2.1 (ceqI t_x3 (show (1 : Int32).toInt = 1 from rfl) hc0)
        obtain ⟨hp, h⟩ := h
        refine ⟨hp, ?_⟩
        exact hQ _ _ _ (tr_L rfl) h
      · intro hc0
        replace h := h.2.2.1 (ceqI t_x3 (show (2 : Int32).toInt = 2 from rfl) hc0)
        obtain ⟨hp, h⟩ := h
        refine ⟨hp, ?_⟩
        exact hQ _ _ _ (tr_L rfl) h
      · intro hc0
        replace h := h.2.2.2.1 (ceqI t_x3 (show (3 : Int32).toInt = 3 from rfl) hc0)
        obtain ⟨hp, h⟩ := h
        refine ⟨hp, ?_⟩
        refine w_X2_keyOf (show (0 : Int32).toInt = 0 from rfl) h (fun j8 y_j8 M7 t_j8 h => ?_)
        exact hQ _ _ _ t_j8 h
      · intro hc0
        replace h := h.2.2.2.2.1 (ceqI t_x3 (show (4 : Int32).toInt = 4 from rfl) hc0)
        obtain ⟨hp, h⟩ := h
        refine ⟨hp, ?_⟩
        obtain ⟨hp, h⟩ := h
        refine ⟨hp, ?_⟩
        obtain ⟨rr327, h⟩ := h
        refine w_X2_keyOf (tsubI (tr_I rfl) (show (1 : Int32).toInt = 1 from rfl) rr327) h (fun j12 y_j12 M11 t_j12 h => ?_)
        exact hQ _ _ _ t_j12 h
      · intro hc0 hc1 hc2 hc3 hc4
        replace h := h.2.2.2.2.2 (cneI t_x3 (show (0 : Int32).toInt = 0 from rfl) hc0) (cneI t_x3 (show (1 : Int32).toInt = 1 from rfl) hc1) (cneI t_x3 (show (2 : Int32).toInt = 2 from rfl) hc2) (cneI t_x3 (show (3 : Int32).toInt = 3 from rfl) hc3) (cneI t_x3 (show (4 : Int32).toInt = 4 from rfl) hc4)
        exact hQ _ _ _ (show (-9223372036854775808 : Int64).toInt = -9223372036854775808 from rfl) h
theorem w_X4_line {Q : Int64 → Mem → Prop} {bQ : Int → Im → Prop} {x0 : Nat} {x1 : Int32} {y_x1 : Int} {x2 : Int32} {y_x2 : Int} {x3 : Int32} {y_x3 : Int} {M : Mem} (t_x1 : x1.toInt = y_x1) (t_x2 : x2.toInt = y_x2) (t_x3 : x3.toInt = y_x3) (h : sp_X4_line x0 y_x1 y_x2 y_x3 (ab M) bQ) (hQ : ∀ (z0 : Int64) (u0 : Int) (m : Mem), z0.toInt = u0 → bQ u0 (ab m) → Q z0 m) : wp_X4_line x0 x1 x2 x3 M Q := by
  unfold sp_X4_line at h
  unfold wp_X4_line
  obtain ⟨hp, h⟩ := h
  refine ⟨hp, ?_⟩
  refine w_X4_tierOf t_x1 h (fun r14 M13 h => ?_)
  refine ⟨?_, ?_⟩
  · intro hc0
    replace h := h.1 hc0
    refine w_X4_line_22 t_x3 h hQ
  · intro a15 hc
    replace h := h.2 a15 hc
    obtain ⟨hp, h⟩ := h
    refine ⟨hp, ?_⟩
    refine w_X2_pieceAt t_x2 h (fun r18 M17 h => ?_)
    refine w_X4_line_22 t_x3 h hQ
theorem w_X4_guess_22 {Q : Int32 → Mem → Prop} {bQ : Int → Im → Prop} {x3 : Int64} {y_x3 : Int} {x5 : Option Nat} {t0 : Option Nat} {M : Mem} (t_x3 : x3.toInt = y_x3) (h : sp_X4_guess_22 y_x3 x5 t0 (ab M) bQ) (hQ : ∀ (z0 : Int32) (u0 : Int) (m : Mem), z0.toInt = u0 → bQ u0 (ab m) → Q z0 m) : wp_X4_guess_22 x3 x5 t0 M Q := by
  unfold sp_X4_guess_22 at h
  unfold wp_X4_guess_22
  refine ⟨?_, ?_⟩
  · intro hc0
    replace h := h.1 hc0
    unfold wp_X4_guess_34
    exact hQ _ _ _ (show (-1 : Int32).toInt = -1 from rfl) h
  · intro a1 hc
    replace h := h.2 a1 hc
    refine ⟨?_, ?_⟩
    · intro hc0
      replace h := h.1 hc0
      unfold wp_X4_guess_34
      exact hQ _ _ _ (show (-1 : Int32).toInt = -1 from rfl) h
    · intro a2 hc
      replace h := h.2 a2 hc
      refine w_X4_isKey t_x3 h (fun i4 y_i4 M3 t_i4 h => ?_)
      refine ⟨?_, ?_⟩
      · intro hc0
        replace h := h.1 (ceqI t_i4 (show (0 : Int32).toInt = 0 from rfl) hc0)
        unfold wp_X4_guess_63
        exact hQ _ _ _ (show (-2 : Int32).toInt = -2 from rfl) h
      · intro hc0
        replace h := h.2 (cneI t_i4 (show (0 : Int32).toInt = 0 from rfl) hc0)
        obtain ⟨hp, h⟩ := h
        refine ⟨hp, ?_⟩
        refine w_X2_keyOf (show (0 : Int32).toInt = 0 from rfl) h (fun j7 y_j7 M6 t_j7 h => ?_)
        obtain ⟨hp, h⟩ := h
        refine ⟨hp, ?_⟩
        obtain ⟨rr329, h⟩ := h
        refine w_X0_guessAway (tsubJ t_x3 t_j7 rr329) h (fun i10 y_i10 M9 t_i10 h => ?_)
        unfold wp_X4_guess_63
        exact hQ _ _ _ t_i10 h
theorem w_X4_guess {Q : Int32 → Mem → Prop} {bQ : Int → Im → Prop} {x0 : Nat} {x1 : Int32} {y_x1 : Int} {x2 : Int32} {y_x2 : Int} {x3 : Int64} {y_x3 : Int} {M : Mem} (t_x1 : x1.toInt = y_x1) (t_x2 : x2.toInt = y_x2) (t_x3 : x3.toInt = y_x3) (h : sp_X4_guess x0 y_x1 y_x2 y_x3 (ab M) bQ) (hQ : ∀ (z0 : Int32) (u0 : Int) (m : Mem), z0.toInt = u0 → bQ u0 (ab m) → Q z0 m) : wp_X4_guess x0 x1 x2 x3 M Q := by
  unfold sp_X4_guess at h
  unfold wp_X4_guess
  obtain ⟨hp, h⟩ := h
  refine ⟨hp, ?_⟩
  refine w_X4_tierOf t_x1 h (fun r12 M11 h => ?_)
  refine ⟨?_, ?_⟩
  · intro hc0
    replace h := h.1 hc0
    refine w_X4_guess_22 t_x3 h hQ
  · intro a13 hc
    replace h := h.2 a13 hc
    obtain ⟨hp, h⟩ := h
    refine ⟨hp, ?_⟩
    refine w_X2_pieceAt t_x2 h (fun r16 M15 h => ?_)
    refine w_X4_guess_22 t_x3 h hQ
theorem w_X4_bitsOf_24 {Q : Int64 → Mem → Prop} {bQ : Int → Im → Prop} {K52 : UInt64 → UInt64 → Int32 → Mem → Prop} {bK52 : UInt64 → UInt64 → Int → Im → Prop} : ∀ {n : Nat} {x0 : UInt64} {x2 : UInt64} {x4 : Int32} {y_x4 : Int} {M : Mem} (t_x4 : x4.toInt = y_x4) (_ : sp_X4_bitsOf_24 n x0 x2 y_x4 (ab M) bQ bK52) (_ : ∀ (z0 : Int64) (u0 : Int) (m : Mem), z0.toInt = u0 → bQ u0 (ab m) → Q z0 m) (_ : ∀ (z0 : UInt64) (z1 : UInt64) (z2 : Int32) (u2 : Int) (m : Mem), z2.toInt = u2 → bK52 z0 z1 u2 (ab m) → K52 z0 z1 z2 m), wp_X4_bitsOf_24 n x0 x2 x4 M Q K52 := by
  intro n
  induction n with
  | zero => intro x0 x2 x4 y_x4 M t_x4 h hQ hK52; exact h.elim
  | succ n ih =>
    intro x0 x2 x4 y_x4 M t_x4 h hQ hK52
    unfold sp_X4_bitsOf_24 at h
    unfold wp_X4_bitsOf_24
    refine ⟨?_, ?_⟩
    · intro hc0
      replace h := h.1 (cltI (congrArg Int32.toInt (cg2 (fun a b => Op.cmpValue (FP.dcmp a b) CmpOp.l) rfl rfl)) (show (0 : Int32).toInt = 0 from rfl) hc0)
      exact hK52 _ _ _ _ _ t_x4 h
    · intro hc0
      replace h := h.2 (cnltI (congrArg Int32.toInt (cg2 (fun a b => Op.cmpValue (FP.dcmp a b) CmpOp.l) rfl rfl)) (show (0 : Int32).toInt = 0 from rfl) hc0)
      refine ⟨?_, ?_⟩
      · intro hc0
        replace h := h.1 (cleI (show (1023 : Int32).toInt = 1023 from rfl) t_x4 hc0)
        exact hK52 _ _ _ _ _ t_x4 h
      · intro hc0
        replace h := h.2 (cnleI (show (1023 : Int32).toInt = 1023 from rfl) t_x4 hc0)
        intro f1 e_f1
        replace h := h f1 (alk (cg2 FP.ddiv rfl rfl) e_f1)
        obtain ⟨rr331, h⟩ := h
        intro i2 e_i2
        have q_i2 := (congrArg Int32.toInt e_i2).trans (taddI t_x4 (show (1 : Int32).toInt = 1 from rfl) rr331)
        replace h := h _ q_i2
        have t_i2 : i2.toInt = i2.toInt := rfl
        refine ih t_i2 h hQ hK52
theorem w_X4_bitsOf_52 {Q : Int64 → Mem → Prop} {bQ : Int → Im → Prop} {K78 : UInt64 → UInt64 → Int32 → Mem → Prop} {bK78 : UInt64 → UInt64 → Int → Im → Prop} : ∀ {n : Nat} {x0 : UInt64} {x2 : UInt64} {x4 : Int32} {y_x4 : Int} {M : Mem} (t_x4 : x4.toInt = y_x4) (_ : sp_X4_bitsOf_52 n x0 x2 y_x4 (ab M) bQ bK78) (_ : ∀ (z0 : Int64) (u0 : Int) (m : Mem), z0.toInt = u0 → bQ u0 (ab m) → Q z0 m) (_ : ∀ (z0 : UInt64) (z1 : UInt64) (z2 : Int32) (u2 : Int) (m : Mem), z2.toInt = u2 → bK78 z0 z1 u2 (ab m) → K78 z0 z1 z2 m), wp_X4_bitsOf_52 n x0 x2 x4 M Q K78 := by
  intro n
  induction n with
  | zero => intro x0 x2 x4 y_x4 M t_x4 h hQ hK78; exact h.elim
  | succ n ih =>
    intro x0 x2 x4 y_x4 M t_x4 h hQ hK78
    unfold sp_X4_bitsOf_52 at h
    unfold wp_X4_bitsOf_52
    refine ⟨?_, ?_⟩
    · intro hc0
      replace h := h.1 (cleI (show (0 : Int32).toInt = 0 from rfl) (congrArg Int32.toInt (cg2 (fun a b => Op.cmpValue (FP.dcmp a b) CmpOp.g) rfl rfl)) hc0)
      exact hK78 _ _ _ _ _ t_x4 h
    · intro hc0
      replace h := h.2 (cnleI (show (0 : Int32).toInt = 0 from rfl) (congrArg Int32.toInt (cg2 (fun a b => Op.cmpValue (FP.dcmp a b) CmpOp.g) rfl rfl)) hc0)
      refine ⟨?_, ?_⟩
      · intro hc0
        replace h := h.1 (cleI t_x4 (show (-1022 : Int32).toInt = -1022 from rfl) hc0)
        exact hK78 _ _ _ _ _ t_x4 h
      · intro hc0
        replace h := h.2 (cnleI t_x4 (show (-1022 : Int32).toInt = -1022 from rfl) hc0)
        intro f3 e_f3
        replace h := h f3 (alk (cg2 FP.dmul rfl rfl) e_f3)
        obtain ⟨rr333, h⟩ := h
        intro i4 e_i4
        have q_i4 := (congrArg Int32.toInt e_i4).trans (taddI t_x4 (show (-1 : Int32).toInt = -1 from rfl) rr333)
        replace h := h _ q_i4
        have t_i4 : i4.toInt = i4.toInt := rfl
        refine ih t_i4 h hQ hK78
theorem w_X4_bitsOf_20 {Q : Int64 → Mem → Prop} {bQ : Int → Im → Prop} {x0 : UInt64} {t0 : UInt64} {M : Mem} (h : sp_X4_bitsOf_20 x0 t0 (ab M) bQ) (hQ : ∀ (z0 : Int64) (u0 : Int) (m : Mem), z0.toInt = u0 → bQ u0 (ab m) → Q z0 m) : wp_X4_bitsOf_20 x0 t0 M Q := by
  unfold sp_X4_bitsOf_20 at h
  unfold wp_X4_bitsOf_20
  obtain ⟨k24, h⟩ := h
  refine ⟨k24, ?_⟩
  refine w_X4_bitsOf_24 (show (0 : Int32).toInt = 0 from rfl) h hQ (fun x0 x2 x4 y_x4 M t_x4 h => ?_)
  obtain ⟨k52, h⟩ := h
  refine ⟨k52, ?_⟩
  refine w_X4_bitsOf_52 t_x4 h hQ (fun x0 x2 x4 y_x4 M t_x4 h => ?_)
  unfold wp_X4_bitsOf_78
  intro f5 e_f5
  replace h := h f5 (alk (cg2 FP.dsub rfl rfl) e_f5)
  intro f6 e_f6
  replace h := h f6 (alk (cg2 FP.dmul rfl rfl) e_f6)
  intro j7 e_j7
  have q_j7 := (congrArg Int64.toInt e_j7).trans (congrArg (fun a => (FP.d2l a).toInt) rfl)
  replace h := h _ q_j7
  have t_j7 : j7.toInt = j7.toInt := rfl
  obtain ⟨rr335, h⟩ := h
  intro j8 e_j8
  have q_j8 := (congrArg Int64.toInt e_j8).trans (tbinJ (fun a b => a ||| b) (tbinJ (fun a b => a <<< b) (taddJ (ti2l t_x4) (show (1023 : Int64).toInt = 1023 from rfl) rr335) (tbinJ (fun a b => a &&& b) (ti2l (show (52 : Int32).toInt = 52 from rfl)) (show (63 : Int64).toInt = 63 from rfl))) t_j7)
  replace h := h _ q_j8
  have t_j8 : j8.toInt = j8.toInt := rfl
  refine ⟨?_, ?_⟩
  · intro hc0
    replace h := h.1 (cleI (show (0 : Int32).toInt = 0 from rfl) (congrArg Int32.toInt (cg2 (fun a b => Op.cmpValue (FP.dcmp a b) CmpOp.g) rfl rfl)) hc0)
    unfold wp_X4_bitsOf_120
    exact hQ _ _ _ t_j8 h
  · intro hc0
    replace h := h.2 (cnleI (show (0 : Int32).toInt = 0 from rfl) (congrArg Int32.toInt (cg2 (fun a b => Op.cmpValue (FP.dcmp a b) CmpOp.g) rfl rfl)) hc0)
    unfold wp_X4_bitsOf_120
    exact hQ _ _ _ (tbinJ (fun a b => a ||| b) t_j8 (show (-9223372036854775808 : Int64).toInt = -9223372036854775808 from rfl)) h
theorem w_X4_bitsOf {Q : Int64 → Mem → Prop} {bQ : Int → Im → Prop} {x0 : UInt64} {M : Mem} (h : sp_X4_bitsOf x0 (ab M) bQ) (hQ : ∀ (z0 : Int64) (u0 : Int) (m : Mem), z0.toInt = u0 → bQ u0 (ab m) → Q z0 m) : wp_X4_bitsOf x0 M Q := by
  unfold sp_X4_bitsOf at h
  unfold wp_X4_bitsOf
  refine ⟨?_, ?_⟩
  · intro hc0
    replace h := h.1 (cneI (congrArg Int32.toInt (cg2 (fun a b => Op.cmpValue (FP.dcmp a b) CmpOp.l) rfl rfl)) (show (0 : Int32).toInt = 0 from rfl) hc0)
    refine ⟨?_, ?_⟩
    · intro hc0
      replace h := h.1 (cleI (show (0 : Int32).toInt = 0 from rfl) (congrArg Int32.toInt (cg2 (fun a b => Op.cmpValue (FP.dcmp a b) CmpOp.g) rfl rfl)) hc0)
      refine w_X4_bitsOf_20  h hQ
    · intro hc0
      replace h := h.2 (cnleI (show (0 : Int32).toInt = 0 from rfl) (congrArg Int32.toInt (cg2 (fun a b => Op.cmpValue (FP.dcmp a b) CmpOp.g) rfl rfl)) hc0)
      refine w_X4_bitsOf_20  h hQ
  · intro hc0
    replace h := h.2 (ceqI (congrArg Int32.toInt (cg2 (fun a b => Op.cmpValue (FP.dcmp a b) CmpOp.l) rfl rfl)) (show (0 : Int32).toInt = 0 from rfl) hc0)
    exact hQ _ _ _ (show (0 : Int64).toInt = 0 from rfl) h
theorem w_X4_bits_47 {Q : Int64 → Mem → Prop} {bQ : Int → Im → Prop} {t0 : UInt64} {M : Mem} (h : sp_X4_bits_47 t0 (ab M) bQ) (hQ : ∀ (z0 : Int64) (u0 : Int) (m : Mem), z0.toInt = u0 → bQ u0 (ab m) → Q z0 m) : wp_X4_bits_47 t0 M Q := by
  unfold sp_X4_bits_47 at h
  unfold wp_X4_bits_47
  refine w_X4_bitsOf  h (fun j2 y_j2 M1 t_j2 h => ?_)
  exact hQ _ _ _ t_j2 h
theorem w_X4_bits {Q : Int64 → Mem → Prop} {bQ : Int → Im → Prop} {x0 : Nat} {x1 : Int32} {y_x1 : Int} {x2 : Int32} {y_x2 : Int} {M : Mem} (t_x1 : x1.toInt = y_x1) (t_x2 : x2.toInt = y_x2) (h : sp_X4_bits x0 y_x1 y_x2 (ab M) bQ) (hQ : ∀ (z0 : Int64) (u0 : Int) (m : Mem), z0.toInt = u0 → bQ u0 (ab m) → Q z0 m) : wp_X4_bits x0 x1 x2 M Q := by
  unfold sp_X4_bits at h
  unfold wp_X4_bits
  obtain ⟨hp, h⟩ := h
  refine ⟨hp, ?_⟩
  intro r3 e_r3
  replace h := h r3 (e_r3.trans (tr_R rfl))
  obtain ⟨a4, hp, h⟩ := h
  refine ⟨a4, hp, ?_⟩
  obtain ⟨hp, h⟩ := h
  refine ⟨hp, ?_⟩
  refine w_X2_pieceAt t_x1 h (fun r6 M5 h => ?_)
  refine ⟨?_, ?_⟩
  · intro hc0
    replace h := h.1 hc0
    unfold wp_X4_bits_30
    exact hQ _ _ _ (show (0 : Int64).toInt = 0 from rfl) h
  · intro a7 hc
    replace h := h.2 a7 hc
    obtain ⟨hp, h⟩ := h
    refine ⟨hp, ?_⟩
    refine ⟨?_, ?_⟩
    · intro hc0
      replace h := h.1 (cneI (tr_I rfl) (show (2 : Int32).toInt = 2 from rfl) hc0)
      unfold wp_X4_bits_30
      exact hQ _ _ _ (show (0 : Int64).toInt = 0 from rfl) h
    · intro hc0
      replace h := h.2 (ceqI (tr_I rfl) (show (2 : Int32).toInt = 2 from rfl) hc0)
      refine ⟨?_, ?_⟩
      · intro hc0
        replace h := h.1 (cltI t_x2 (show (0 : Int32).toInt = 0 from rfl) hc0)
        unfold wp_X4_bits_30
        exact hQ _ _ _ (show (0 : Int64).toInt = 0 from rfl) h
      · intro hc0
        replace h := h.2 (cnltI t_x2 (show (0 : Int32).toInt = 0 from rfl) hc0)
        refine ⟨?_, ?_⟩
        · intro hc0
          replace h := h.1 (cleI t_x2 (show (1 : Int32).toInt = 1 from rfl) hc0)
          refine ⟨?_, ?_⟩
          · intro hc0
            replace h := h.1 (cneI t_x2 (show (0 : Int32).toInt = 0 from rfl) hc0)
            refine w_X4_bits_47  h hQ
          · intro hc0
            replace h := h.2 (ceqI t_x2 (show (0 : Int32).toInt = 0 from rfl) hc0)
            refine w_X4_bits_47  h hQ
        · intro hc0
          replace h := h.2 (cnleI t_x2 (show (1 : Int32).toInt = 1 from rfl) hc0)
          unfold wp_X4_bits_30
          exact hQ _ _ _ (show (0 : Int64).toInt = 0 from rfl) h
theorem w_X4_key {Q : Int64 → Mem → Prop} {bQ : Int → Im → Prop} {x0 : Nat} {x1 : Int32} {y_x1 : Int} {x2 : Int32} {y_x2 : Int} {x3 : Int32} {y_x3 : Int} {M : Mem} (t_x1 : x1.toInt = y_x1) (t_x2 : x2.toInt = y_x2) (t_x3 : x3.toInt = y_x3) (h : sp_X4_key x0 y_x1 y_x2 y_x3 (ab M) bQ) (hQ : ∀ (z0 : Int64) (u0 : Int) (m : Mem), z0.toInt = u0 → bQ u0 (ab m) → Q z0 m) : wp_X4_key x0 x1 x2 x3 M Q := by
  unfold sp_X4_key at h
  unfold wp_X4_key
  obtain ⟨hp, h⟩ := h
  refine ⟨hp, ?_⟩
  intro r1 e_r1
  replace h := h r1 (e_r1.trans (tr_R rfl))
  obtain ⟨a2, hp, h⟩ := h
  refine ⟨a2, hp, ?_⟩
  obtain ⟨hp, h⟩ := h
  refine ⟨hp, ?_⟩
  refine w_X2_pieceAt t_x1 h (fun r4 M3 h => ?_)
  refine ⟨?_, ?_⟩
  · intro hc0
    replace h := h.1 hc0
    exact hQ _ _ _ (show (-9223372036854775808 : Int64).toInt = -9223372036854775808 from rfl) h
  · intro a5 hc
    replace h := h.2 a5 hc
    refine ⟨?_, ?_⟩
    · intro hc0
      replace h := h.1 (ceqI t_x3 (show (0 : Int32).toInt = 0 from rfl) hc0)
      intro r6 e_r6
      replace h := h r6 (e_r6.trans (tr_R rfl))
      obtain ⟨a7, hp, h⟩ := h
      refine ⟨a7, hp, ?_⟩
      obtain ⟨hp, h⟩ := h
      refine ⟨hp, ?_⟩
      refine w_X2_keyOf t_x2 h (fun j9 y_j9 M8 t_j9 h => ?_)
      unfold wp_X4_key_46
      exact hQ _ _ _ t_j9 h
    · intro hc0
      replace h := h.2 (cneI t_x3 (show (0 : Int32).toInt = 0 from rfl) hc0)
      intro r10 e_r10
      replace h := h r10 (e_r10.trans (tr_R rfl))
      obtain ⟨a11, hp, h⟩ := h
      refine ⟨a11, hp, ?_⟩
      obtain ⟨hp, h⟩ := h
      refine ⟨hp, ?_⟩
      refine w_X2_lateOf t_x2 h (fun j13 y_j13 M12 t_j13 h => ?_)
      unfold wp_X4_key_46
      exact hQ _ _ _ t_j13 h
theorem w_X4_looks {Q : Int32 → Mem → Prop} {bQ : Int → Im → Prop} {x0 : Nat} {M : Mem} (h : sp_X4_looks x0 (ab M) bQ) (hQ : ∀ (z0 : Int32) (u0 : Int) (m : Mem), z0.toInt = u0 → bQ u0 (ab m) → Q z0 m) : wp_X4_looks x0 M Q := by
  unfold sp_X4_looks at h
  unfold wp_X4_looks
  obtain ⟨hp, h⟩ := h
  refine ⟨hp, ?_⟩
  exact hQ _ _ _ (tr_I rfl) h
