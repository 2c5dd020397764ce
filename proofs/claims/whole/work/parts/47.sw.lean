/-! sp -> wp, by program -/
theorem w_X5_replace_486 {Q : Mem → Prop} {bQ : Im → Prop} {K538 : Nat → Int32 → Int32 → Int32 → Int32 → Int32 → Int32 → Mem → Prop} {bK538 : Nat → Int → Int → Int → Int → Int → Int → Im → Prop} : ∀ {n : Nat} {x0 : Nat} {x1 : Int32} {y_x1 : Int} {x4 : Int32} {y_x4 : Int} {x5 : Int32} {y_x5 : Int} {x6 : Int32} {y_x6 : Int} {x7 : Int32} {y_x7 : Int} {x8 : Int32} {y_x8 : Int} {x9 : Int32} {y_x9 : Int} {x10 : Int32} {y_x10 : Int} {M : Mem} (t_x1 : x1.toInt = y_x1) (t_x4 : x4.toInt = y_x4) (t_x5 : x5.toInt = y_x5) (t_x6 : x6.toInt = y_x6) (t_x7 : x7.toInt = y_x7) (t_x8 : x8.toInt = y_x8) (t_x9 : x9.toInt = y_x9) (t_x10 : x10.toInt = y_x10) (_ : sp_X5_replace_486 n x0 y_x1 y_x4 y_x5 y_x6 y_x7 y_x8 y_x9 y_x10 (ab M) bQ bK538) (_ : ∀ (m : Mem), bQ (ab m) → Q m) (_ : ∀ (z0 : Nat) (z1 : Int32) (u1 : Int) (z2 : Int32) (u2 : Int) (z3 : Int32) (u3 : Int) (z4 : Int32) (u4 : Int) (z5 : Int32) (u5 : Int) (z6 : Int32) (u6 : Int) (m : Mem), z1.toInt = u1 → z2.toInt = u2 → z3.toInt = u3 → z4.toInt = u4 → z5.toInt = u5 → z6.toInt = u6 → bK538 z0 u1 u2 u3 u4 u5 u6 (ab m) → K538 z0 z1 z2 z3 z4 z5 z6 m), wp_X5_replace_486 n x0 x1 x4 x5 x6 x7 x8 x9 x10 M Q K538 := by
  intro n
  induction n with
  | zero => intro x0 x1 y_x1 x4 y_x4 x5 y_x5 x6 y_x6 x7 y_x7 x8 y_x8 x9 y_x9 x10 y_x10 M t_x1 t_x4 t_x5 t_x6 t_x7 t_x8 t_x9 t_x10 h hQ hK538; exact h.elim
  | succ n ih =>
    intro x0 x1 y_x1 x4 y_x4 x5 y_x5 x6 y_x6 x7 y_x7 x8 y_x8 x9 y_x9 x10 y_x10 M t_x1 t_x4 t_x5 t_x6 t_x7 t_x8 t_x9 t_x10 h hQ hK538
    unfold sp_X5_replace_486 at h
    unfold wp_X5_replace_486
    obtain ⟨hp, h⟩ := h
    refine ⟨(tinb t_x9 hp), ?_⟩
    refine ⟨?_, ?_⟩
    · intro hc0
      replace h := h.1 (cleI (tr_I (tnatI t_x9)) t_x10 hc0)
      exact hK538 _ _ _ _ _ _ _ _ _ _ _ _ _ _ t_x1 t_x4 t_x5 t_x6 t_x7 t_x8 h
    · intro hc0
      replace h := h.2 (cnleI (tr_I (tnatI t_x9)) t_x10 hc0)
      obtain ⟨hp, h⟩ := h
      refine ⟨(tinb t_x5 hp), ?_⟩
      obtain ⟨hp, h⟩ := h
      refine ⟨(tinb t_x6 hp), ?_⟩
      intro M31 e_M31
      replace h := h (ab M31) ((congrArg ab e_M31).trans (ab_sL (tnatI t_x6) (tr_L (tnatI t_x5))))
      obtain ⟨hp, h⟩ := h
      refine ⟨(tinb t_x5 hp), ?_⟩
      obtain ⟨hp, h⟩ := h
      refine ⟨(tinb t_x6 hp), ?_⟩
      obtain ⟨hp, h⟩ := h
      refine ⟨(t01 (tr_I (tnatI t_x5)) hp), ?_⟩
      intro M32 e_M32
      replace h := h (ab M32) ((congrArg ab e_M32).trans (ab_sI (tnatI t_x6) (tr_I (tnatI t_x5))))
      obtain ⟨rr661, h⟩ := h
      intro i33 e_i33
      have q_i33 := (congrArg Int32.toInt e_i33).trans (taddI t_x6 (show (1 : Int32).toInt = 1 from rfl) rr661)
      replace h := h _ q_i33
      have t_i33 : i33.toInt = i33.toInt := rfl
      obtain ⟨rr662, h⟩ := h
      intro i34 e_i34
      have q_i34 := (congrArg Int32.toInt e_i34).trans (taddI t_x5 (show (1 : Int32).toInt = 1 from rfl) rr662)
      replace h := h _ q_i34
      have t_i34 : i34.toInt = i34.toInt := rfl
      obtain ⟨rr663, h⟩ := h
      intro i35 e_i35
      have q_i35 := (congrArg Int32.toInt e_i35).trans (taddI t_x10 (show (1 : Int32).toInt = 1 from rfl) rr663)
      replace h := h _ q_i35
      have t_i35 : i35.toInt = i35.toInt := rfl
      refine ih t_x1 t_x4 t_i34 t_i33 t_x7 t_x8 t_x9 t_i35 h hQ hK538
theorem w_X5_replace_538 {Q : Mem → Prop} {bQ : Im → Prop} {K313 : Nat → Int32 → Int32 → Int32 → Int32 → Int32 → Int32 → Mem → Prop} {bK313 : Nat → Int → Int → Int → Int → Int → Int → Im → Prop} {K544 : Nat → Int32 → Int32 → Int32 → Mem → Prop} {bK544 : Nat → Int → Int → Int → Im → Prop} {x0 : Nat} {x1 : Int32} {y_x1 : Int} {x4 : Int32} {y_x4 : Int} {x5 : Int32} {y_x5 : Int} {x6 : Int32} {y_x6 : Int} {x7 : Int32} {y_x7 : Int} {x8 : Int32} {y_x8 : Int} {M : Mem} (t_x1 : x1.toInt = y_x1) (t_x4 : x4.toInt = y_x4) (t_x5 : x5.toInt = y_x5) (t_x6 : x6.toInt = y_x6) (t_x7 : x7.toInt = y_x7) (t_x8 : x8.toInt = y_x8) (h : sp_X5_replace_538 x0 y_x1 y_x4 y_x5 y_x6 y_x7 y_x8 (ab M) bQ bK313 bK544) (hQ : ∀ (m : Mem), bQ (ab m) → Q m) (hK313 : ∀ (z0 : Nat) (z1 : Int32) (u1 : Int) (z2 : Int32) (u2 : Int) (z3 : Int32) (u3 : Int) (z4 : Int32) (u4 : Int) (z5 : Int32) (u5 : Int) (z6 : Int32) (u6 : Int) (m : Mem), z1.toInt = u1 → z2.toInt = u2 → z3.toInt = u3 → z4.toInt = u4 → z5.toInt = u5 → z6.toInt = u6 → bK313 z0 u1 u2 u3 u4 u5 u6 (ab m) → K313 z0 z1 z2 z3 z4 z5 z6 m) (hK544 : ∀ (z0 : Nat) (z1 : Int32) (u1 : Int) (z2 : Int32) (u2 : Int) (z3 : Int32) (u3 : Int) (m : Mem), z1.toInt = u1 → z2.toInt = u2 → z3.toInt = u3 → bK544 z0 u1 u2 u3 (ab m) → K544 z0 z1 z2 z3 m) : wp_X5_replace_538 x0 x1 x4 x5 x6 x7 x8 M Q K313 K544 := by
  unfold sp_X5_replace_538 at h
  unfold wp_X5_replace_538
  obtain ⟨rr665, h⟩ := h
  intro i36 e_i36
  have q_i36 := (congrArg Int32.toInt e_i36).trans (taddI t_x8 (show (1 : Int32).toInt = 1 from rfl) rr665)
  replace h := h _ q_i36
  have t_i36 : i36.toInt = i36.toInt := rfl
  exact hK313 _ _ _ _ _ _ _ _ _ _ _ _ _ _ t_x1 t_x4 t_x5 t_x6 t_x7 t_i36 h
theorem w_X5_replace_172 {Q : Mem → Prop} {bQ : Im → Prop} {K14 : Nat → Int32 → Int32 → Int32 → Int32 → Int32 → Int32 → Mem → Prop} {bK14 : Nat → Int → Int → Int → Int → Int → Int → Im → Prop} {K246 : Nat → Int32 → Int32 → Int32 → Mem → Prop} {bK246 : Nat → Int → Int → Int → Im → Prop} {x0 : Nat} {x1 : Int32} {y_x1 : Int} {x2 : Int32} {y_x2 : Int} {x3 : Int32} {y_x3 : Int} {x4 : Int32} {y_x4 : Int} {x5 : Int32} {y_x5 : Int} {x6 : Int32} {y_x6 : Int} {x7 : Int32} {y_x7 : Int} {M : Mem} (t_x1 : x1.toInt = y_x1) (t_x2 : x2.toInt = y_x2) (t_x3 : x3.toInt = y_x3) (t_x4 : x4.toInt = y_x4) (t_x5 : x5.toInt = y_x5) (t_x6 : x6.toInt = y_x6) (t_x7 : x7.toInt = y_x7) (h : sp_X5_replace_172 x0 y_x1 y_x2 y_x3 y_x4 y_x5 y_x6 y_x7 (ab M) bQ bK14 bK246) (hQ : ∀ (m : Mem), bQ (ab m) → Q m) (hK14 : ∀ (z0 : Nat) (z1 : Int32) (u1 : Int) (z2 : Int32) (u2 : Int) (z3 : Int32) (u3 : Int) (z4 : Int32) (u4 : Int) (z5 : Int32) (u5 : Int) (z6 : Int32) (u6 : Int) (m : Mem), z1.toInt = u1 → z2.toInt = u2 → z3.toInt = u3 → z4.toInt = u4 → z5.toInt = u5 → z6.toInt = u6 → bK14 z0 u1 u2 u3 u4 u5 u6 (ab m) → K14 z0 z1 z2 z3 z4 z5 z6 m) (hK246 : ∀ (z0 : Nat) (z1 : Int32) (u1 : Int) (z2 : Int32) (u2 : Int) (z3 : Int32) (u3 : Int) (m : Mem), z1.toInt = u1 → z2.toInt = u2 → z3.toInt = u3 → bK246 z0 u1 u2 u3 (ab m) → K246 z0 z1 z2 z3 m) : wp_X5_replace_172 x0 x1 x2 x3 x4 x5 x6 x7 M Q K14 K246 := by
  unfold sp_X5_replace_172 at h
  unfold wp_X5_replace_172
  obtain ⟨k175, h⟩ := h
  refine ⟨k175, ?_⟩
  refine w_X5_replace_175 t_x1 t_x2 t_x3 t_x4 t_x5 t_x6 t_x7 (show (0 : Int32).toInt = 0 from rfl) h hQ (fun x0 x1 y_x1 x2 y_x2 x3 y_x3 x4 y_x4 x5 y_x5 x6 y_x6 M t_x1 t_x2 t_x3 t_x4 t_x5 t_x6 h => ?_)
  refine w_X5_replace_240 t_x1 t_x2 t_x3 t_x4 t_x5 t_x6 h hQ hK14 hK246
theorem w_X5_replace_483 {Q : Mem → Prop} {bQ : Im → Prop} {K313 : Nat → Int32 → Int32 → Int32 → Int32 → Int32 → Int32 → Mem → Prop} {bK313 : Nat → Int → Int → Int → Int → Int → Int → Im → Prop} {K544 : Nat → Int32 → Int32 → Int32 → Mem → Prop} {bK544 : Nat → Int → Int → Int → Im → Prop} {x0 : Nat} {x1 : Int32} {y_x1 : Int} {x4 : Int32} {y_x4 : Int} {x5 : Int32} {y_x5 : Int} {x6 : Int32} {y_x6 : Int} {x7 : Int32} {y_x7 : Int} {x8 : Int32} {y_x8 : Int} {x9 : Int32} {y_x9 : Int} {M : Mem} (t_x1 : x1.toInt = y_x1) (t_x4 : x4.toInt = y_x4) (t_x5 : x5.toInt = y_x5) (t_x6 : x6.toInt = y_x6) (t_x7 : x7.toInt = y_x7) (t_x8 : x8.toInt = y_x8) (t_x9 : x9.toInt = y_x9) (h : sp_X5_replace_483 x0 y_x1 y_x4 y_x5 y_x6 y_x7 y_x8 y_x9 (ab M) bQ bK313 bK544) (hQ : ∀ (m : Mem), bQ (ab m) → Q m) (hK313 : ∀ (z0 : Nat) (z1 : Int32) (u1 : Int) (z2 : Int32) (u2 : Int) (z3 : Int32) (u3 : Int) (z4 : Int32) (u4 : Int) (z5 : Int32) (u5 : Int) (z6 : Int32) (u6 : Int) (m : Mem), z1.toInt = u1 → z2.toInt = u2 → z3.toInt = u3 → z4.toInt = u4 → z5.toInt = u5 → z6.toInt = u6 → bK313 z0 u1 u2 u3 u4 u5 u6 (ab m) → K313 z0 z1 z2 z3 z4 z5 z6 m) (hK544 : ∀ (z0 : Nat) (z1 : Int32) (u1 : Int) (z2 : Int32) (u2 : Int) (z3 : Int32) (u3 : Int) (m : Mem), z1.toInt = u1 → z2.toInt = u2 → z3.toInt = u3 → bK544 z0 u1 u2 u3 (ab m) → K544 z0 z1 z2 z3 m) : wp_X5_replace_483 x0 x1 x4 x5 x6 x7 x8 x9 M Q K313 K544 := by
  unfold sp_X5_replace_483 at h
  unfold wp_X5_replace_483
  obtain ⟨k486, h⟩ := h
  refine ⟨k486, ?_⟩
  refine w_X5_replace_486 t_x1 t_x4 t_x5 t_x6 t_x7 t_x8 t_x9 (show (0 : Int32).toInt = 0 from rfl) h hQ (fun x0 x1 y_x1 x4 y_x4 x5 y_x5 x6 y_x6 x7 y_x7 x8 y_x8 M t_x1 t_x4 t_x5 t_x6 t_x7 t_x8 h => ?_)
  refine w_X5_replace_538 t_x1 t_x4 t_x5 t_x6 t_x7 t_x8 h hQ hK313 hK544
theorem w_X5_replace_577 {Q : Mem → Prop} {bQ : Im → Prop} {x0 : Nat} {t0 : Int32} {y_t0 : Int} {t1 : Nat} {M : Mem} (t_t0 : t0.toInt = y_t0) (h : sp_X5_replace_577 x0 y_t0 t1 (ab M) bQ) (hQ : ∀ (m : Mem), bQ (ab m) → Q m) : wp_X5_replace_577 x0 t0 t1 M Q := by
  unfold sp_X5_replace_577 at h
  unfold wp_X5_replace_577
  obtain ⟨hp, h⟩ := h
  refine ⟨(t01 t_t0 hp), ?_⟩
  intro M41 e_M41
  replace h := h (ab M41) ((congrArg ab e_M41).trans (ab_sI rfl t_t0))
  refine ⟨?_, ?_⟩
  · intro hc0
    replace h := h.1 (ceqI (tr_I rfl) (show (0 : Int32).toInt = 0 from rfl) hc0)
    intro M42 e_M42
    replace h := h (ab M42) ((congrArg ab e_M42).trans (ab_sI rfl (show (0 : Int32).toInt = 0 from rfl)))
    unfold wp_X5_replace_599
    exact hQ _  h
  · intro hc0
    replace h := h.2 (cneI (tr_I rfl) (show (0 : Int32).toInt = 0 from rfl) hc0)
    refine w_X5_layersAnew  h (fun M43 h => ?_)
    unfold wp_X5_replace_599
    exact hQ _  h
theorem w_X5_replace_14 {Q : Mem → Prop} {bQ : Im → Prop} {K246 : Nat → Int32 → Int32 → Int32 → Mem → Prop} {bK246 : Nat → Int → Int → Int → Im → Prop} : ∀ {n : Nat} {x0 : Nat} {x1 : Int32} {y_x1 : Int} {x2 : Int32} {y_x2 : Int} {x3 : Int32} {y_x3 : Int} {x4 : Int32} {y_x4 : Int} {x5 : Int32} {y_x5 : Int} {x6 : Int32} {y_x6 : Int} {M : Mem} (t_x1 : x1.toInt = y_x1) (t_x2 : x2.toInt = y_x2) (t_x3 : x3.toInt = y_x3) (t_x4 : x4.toInt = y_x4) (t_x5 : x5.toInt = y_x5) (t_x6 : x6.toInt = y_x6) (_ : sp_X5_replace_14 n x0 y_x1 y_x2 y_x3 y_x4 y_x5 y_x6 (ab M) bQ bK246) (_ : ∀ (m : Mem), bQ (ab m) → Q m) (_ : ∀ (z0 : Nat) (z1 : Int32) (u1 : Int) (z2 : Int32) (u2 : Int) (z3 : Int32) (u3 : Int) (m : Mem), z1.toInt = u1 → z2.toInt = u2 → z3.toInt = u3 → bK246 z0 u1 u2 u3 (ab m) → K246 z0 z1 z2 z3 m), wp_X5_replace_14 n x0 x1 x2 x3 x4 x5 x6 M Q K246 := by
  intro n
  induction n with
  | zero => intro x0 x1 y_x1 x2 y_x2 x3 y_x3 x4 y_x4 x5 y_x5 x6 y_x6 M t_x1 t_x2 t_x3 t_x4 t_x5 t_x6 h hQ hK246; exact h.elim
  | succ n ih =>
    intro x0 x1 y_x1 x2 y_x2 x3 y_x3 x4 y_x4 x5 y_x5 x6 y_x6 M t_x1 t_x2 t_x3 t_x4 t_x5 t_x6 h hQ hK246
    unfold sp_X5_replace_14 at h
    unfold wp_X5_replace_14
    refine ⟨?_, ?_⟩
    · intro hc0
      replace h := h.1 (cleI t_x4 t_x6 hc0)
      exact hK246 _ _ _ _ _ _ _ _ t_x1 t_x3 t_x4 h
    · intro hc0
      replace h := h.2 (cnleI t_x4 t_x6 hc0)
      obtain ⟨rr667, h⟩ := h
      intro i1 e_i1
      have q_i1 := (congrArg Int32.toInt e_i1).trans (taddI t_x2 t_x6 rr667)
      replace h := h _ q_i1
      have t_i1 : i1.toInt = i1.toInt := rfl
      obtain ⟨hp, h⟩ := h
      refine ⟨(tinb t_i1 hp), ?_⟩
      obtain ⟨hp, h⟩ := h
      refine ⟨(tinb t_x6 hp), ?_⟩
      intro M2 e_M2
      replace h := h (ab M2) ((congrArg ab e_M2).trans (ab_sI (tnatI t_x6) (tr_I (tnatI t_i1))))
      obtain ⟨hp, h⟩ := h
      refine ⟨(tinb t_i1 hp), ?_⟩
      obtain ⟨hp, h⟩ := h
      refine ⟨(tinb t_x6 hp), ?_⟩
      intro M3 e_M3
      replace h := h (ab M3) ((congrArg ab e_M3).trans (ab_sI (tnatI t_x6) (tr_I (tnatI t_i1))))
      obtain ⟨hp, h⟩ := h
      refine ⟨(tinb t_i1 hp), ?_⟩
      obtain ⟨hp, h⟩ := h
      refine ⟨(tinb t_x6 hp), ?_⟩
      intro M4 e_M4
      replace h := h (ab M4) ((congrArg ab e_M4).trans (ab_sI (tnatI t_x6) (tr_I (tnatI t_i1))))
      obtain ⟨hp, h⟩ := h
      refine ⟨(tinb t_i1 hp), ?_⟩
      obtain ⟨hp, h⟩ := h
      refine ⟨(tinb t_x6 hp), ?_⟩
      intro M5 e_M5
      replace h := h (ab M5) ((congrArg ab e_M5).trans (ab_sI (tnatI t_x6) (tr_I (tnatI t_i1))))
      obtain ⟨hp, h⟩ := h
      refine ⟨(tinb t_i1 hp), ?_⟩
      obtain ⟨hp, h⟩ := h
      refine ⟨(tinb t_x6 hp), ?_⟩
      intro M6 e_M6
      replace h := h (ab M6) ((congrArg ab e_M6).trans (ab_sL (tnatI t_x6) (tr_L (tnatI t_i1))))
      obtain ⟨hp, h⟩ := h
      refine ⟨(tinb t_i1 hp), ?_⟩
      obtain ⟨hp, h⟩ := h
      refine ⟨(tinb t_x6 hp), ?_⟩
      intro M7 e_M7
      replace h := h (ab M7) ((congrArg ab e_M7).trans (ab_sL (tnatI t_x6) (tr_L (tnatI t_i1))))
      obtain ⟨hp, h⟩ := h
      refine ⟨(tinb t_i1 hp), ?_⟩
      obtain ⟨hp, h⟩ := h
      refine ⟨(tinb t_x6 hp), ?_⟩
      intro M8 e_M8
      replace h := h (ab M8) ((congrArg ab e_M8).trans (ab_sL (tnatI t_x6) (tr_L (tnatI t_i1))))
      obtain ⟨k128, h⟩ := h
      refine ⟨k128, ?_⟩
      refine w_X5_replace_128 t_x1 t_x2 t_x3 t_x4 t_x5 t_x6 t_i1 (show (0 : Int32).toInt = 0 from rfl) h hQ (fun x0 x1 y_x1 x2 y_x2 x3 y_x3 x4 y_x4 x5 y_x5 x6 y_x6 x7 y_x7 M t_x1 t_x2 t_x3 t_x4 t_x5 t_x6 t_x7 h => ?_)
      refine w_X5_replace_172 t_x1 t_x2 t_x3 t_x4 t_x5 t_x6 t_x7 h hQ (fun x0 x1 y_x1 x2 y_x2 x3 y_x3 x4 y_x4 x5 y_x5 x6 y_x6 M t_x1 t_x2 t_x3 t_x4 t_x5 t_x6 h => ?_) hK246
      refine ih t_x1 t_x2 t_x3 t_x4 t_x5 t_x6 h hQ hK246
theorem w_X5_replace_313 {Q : Mem → Prop} {bQ : Im → Prop} {K544 : Nat → Int32 → Int32 → Int32 → Mem → Prop} {bK544 : Nat → Int → Int → Int → Im → Prop} : ∀ {n : Nat} {x0 : Nat} {x1 : Int32} {y_x1 : Int} {x4 : Int32} {y_x4 : Int} {x5 : Int32} {y_x5 : Int} {x6 : Int32} {y_x6 : Int} {x7 : Int32} {y_x7 : Int} {x8 : Int32} {y_x8 : Int} {M : Mem} (t_x1 : x1.toInt = y_x1) (t_x4 : x4.toInt = y_x4) (t_x5 : x5.toInt = y_x5) (t_x6 : x6.toInt = y_x6) (t_x7 : x7.toInt = y_x7) (t_x8 : x8.toInt = y_x8) (_ : sp_X5_replace_313 n x0 y_x1 y_x4 y_x5 y_x6 y_x7 y_x8 (ab M) bQ bK544) (_ : ∀ (m : Mem), bQ (ab m) → Q m) (_ : ∀ (z0 : Nat) (z1 : Int32) (u1 : Int) (z2 : Int32) (u2 : Int) (z3 : Int32) (u3 : Int) (m : Mem), z1.toInt = u1 → z2.toInt = u2 → z3.toInt = u3 → bK544 z0 u1 u2 u3 (ab m) → K544 z0 z1 z2 z3 m), wp_X5_replace_313 n x0 x1 x4 x5 x6 x7 x8 M Q K544 := by
  intro n
  induction n with
  | zero => intro x0 x1 y_x1 x4 y_x4 x5 y_x5 x6 y_x6 x7 y_x7 x8 y_x8 M t_x1 t_x4 t_x5 t_x6 t_x7 t_x8 h hQ hK544; exact h.elim
  | succ n ih =>
    intro x0 x1 y_x1 x4 y_x4 x5 y_x5 x6 y_x6 x7 y_x7 x8 y_x8 M t_x1 t_x4 t_x5 t_x6 t_x7 t_x8 h hQ hK544
    unfold sp_X5_replace_313 at h
    unfold wp_X5_replace_313
    refine ⟨?_, ?_⟩
    · intro hc0
      replace h := h.1 (cleI t_x4 t_x8 hc0)
      exact hK544 _ _ _ _ _ _ _ _ t_x1 t_x4 t_x7 h
    · intro hc0
      replace h := h.2 (cnleI t_x4 t_x8 hc0)
      obtain ⟨rr670, h⟩ := h
      obtain ⟨rr671, h⟩ := h
      intro i20 e_i20
      have q_i20 := (congrArg Int32.toInt e_i20).trans (taddI (taddI t_x1 t_x7 rr670) t_x8 rr671)
      replace h := h _ q_i20
      have t_i20 : i20.toInt = i20.toInt := rfl
      obtain ⟨hp, h⟩ := h
      refine ⟨(tinb t_x8 hp), ?_⟩
      obtain ⟨hp, h⟩ := h
      refine ⟨(tinb t_i20 hp), ?_⟩
      intro M21 e_M21
      replace h := h (ab M21) ((congrArg ab e_M21).trans (ab_sI (tnatI t_i20) (tr_I (tnatI t_x8))))
      obtain ⟨hp, h⟩ := h
      refine ⟨(tinb t_x8 hp), ?_⟩
      obtain ⟨hp, h⟩ := h
      refine ⟨(tinb t_i20 hp), ?_⟩
      intro M22 e_M22
      replace h := h (ab M22) ((congrArg ab e_M22).trans (ab_sI (tnatI t_i20) (tr_I (tnatI t_x8))))
      obtain ⟨hp, h⟩ := h
      refine ⟨(tinb t_x8 hp), ?_⟩
      obtain ⟨hp, h⟩ := h
      refine ⟨(tinb t_i20 hp), ?_⟩
      intro M23 e_M23
      replace h := h (ab M23) ((congrArg ab e_M23).trans (ab_sI (tnatI t_i20) (tr_I (tnatI t_x8))))
      obtain ⟨hp, h⟩ := h
      refine ⟨(tinb t_x8 hp), ?_⟩
      obtain ⟨hp, h⟩ := h
      refine ⟨(tinb t_i20 hp), ?_⟩
      intro M24 e_M24
      replace h := h (ab M24) ((congrArg ab e_M24).trans (ab_sI (tnatI t_i20) (tr_I (tnatI t_x8))))
      obtain ⟨hp, h⟩ := h
      refine ⟨(tinb t_x8 hp), ?_⟩
      obtain ⟨hp, h⟩ := h
      refine ⟨(tinb t_i20 hp), ?_⟩
      intro M25 e_M25
      replace h := h (ab M25) ((congrArg ab e_M25).trans (ab_sL (tnatI t_i20) (tr_L (tnatI t_x8))))
      obtain ⟨hp, h⟩ := h
      refine ⟨(tinb t_x8 hp), ?_⟩
      obtain ⟨hp, h⟩ := h
      refine ⟨(tinb t_i20 hp), ?_⟩
      intro M26 e_M26
      replace h := h (ab M26) ((congrArg ab e_M26).trans (ab_sL (tnatI t_i20) (tr_L (tnatI t_x8))))
      obtain ⟨hp, h⟩ := h
      refine ⟨(tinb t_x8 hp), ?_⟩
      obtain ⟨hp, h⟩ := h
      refine ⟨(tinb t_i20 hp), ?_⟩
      intro M27 e_M27
      replace h := h (ab M27) ((congrArg ab e_M27).trans (ab_sL (tnatI t_i20) (tr_L (tnatI t_x8))))
      obtain ⟨hp, h⟩ := h
      refine ⟨(tinb t_i20 hp), ?_⟩
      intro M28 e_M28
      replace h := h (ab M28) ((congrArg ab e_M28).trans (ab_sI (tnatI t_i20) t_x6))
      obtain ⟨k439, h⟩ := h
      refine ⟨k439, ?_⟩
      refine w_X5_replace_439 t_x1 t_x4 t_x5 t_x6 t_x7 t_x8 t_i20 (show (0 : Int32).toInt = 0 from rfl) h hQ (fun x0 x1 y_x1 x4 y_x4 x5 y_x5 x6 y_x6 x7 y_x7 x8 y_x8 x9 y_x9 M t_x1 t_x4 t_x5 t_x6 t_x7 t_x8 t_x9 h => ?_)
      refine w_X5_replace_483 t_x1 t_x4 t_x5 t_x6 t_x7 t_x8 t_x9 h hQ (fun x0 x1 y_x1 x4 y_x4 x5 y_x5 x6 y_x6 x7 y_x7 x8 y_x8 M t_x1 t_x4 t_x5 t_x6 t_x7 t_x8 h => ?_) hK544
      refine ih t_x1 t_x4 t_x5 t_x6 t_x7 t_x8 h hQ hK544
theorem w_X5_replace_271 {Q : Mem → Prop} {bQ : Im → Prop} {x0 : Nat} {x1 : Int32} {y_x1 : Int} {x3 : Int32} {y_x3 : Int} {x4 : Int32} {y_x4 : Int} {t0 : Int32} {y_t0 : Int} {M : Mem} (t_x1 : x1.toInt = y_x1) (t_x3 : x3.toInt = y_x3) (t_x4 : x4.toInt = y_x4) (t_t0 : t0.toInt = y_t0) (h : sp_X5_replace_271 x0 y_x1 y_x3 y_x4 y_t0 (ab M) bQ) (hQ : ∀ (m : Mem), bQ (ab m) → Q m) : wp_X5_replace_271 x0 x1 x3 x4 t0 M Q := by
  unfold sp_X5_replace_271 at h
  unfold wp_X5_replace_271
  refine w_X5_make (tr_I rfl) t_x1 t_t0 t_x3 h (fun i17 y_i17 M16 t_i17 h => ?_)
  obtain ⟨rr676, h⟩ := h
  intro M18 e_M18
  replace h := h (ab M18) ((congrArg ab e_M18).trans (ab_sI rfl (taddI (tr_I rfl) t_i17 rr676)))
  obtain ⟨rr677, h⟩ := h
  intro i19 e_i19
  have q_i19 := (congrArg Int32.toInt e_i19).trans (taddI t_t0 (tr_I rfl) rr677)
  replace h := h _ q_i19
  have t_i19 : i19.toInt = i19.toInt := rfl
  obtain ⟨k313, h⟩ := h
  refine ⟨k313, ?_⟩
  refine w_X5_replace_313 t_x1 t_x4 (show (0 : Int32).toInt = 0 from rfl) t_i19 t_i17 (show (0 : Int32).toInt = 0 from rfl) h hQ (fun x0 x1 y_x1 x4 y_x4 x7 y_x7 M t_x1 t_x4 t_x7 h => ?_)
  unfold wp_X5_replace_544
  obtain ⟨hp, h⟩ := h
  refine ⟨(tinb (show (0 : Int32).toInt = 0 from rfl) hp), ?_⟩
  intro M37 e_M37
  replace h := h (ab M37) ((congrArg ab e_M37).trans (ab_sI (rfl : (0 : Int32).toNatClampNeg = 0) (show (0 : Int32).toInt = 0 from rfl)))
  obtain ⟨hp, h⟩ := h
  refine ⟨(tinb (show (0 : Int32).toInt = 0 from rfl) hp), ?_⟩
  obtain ⟨rr678, h⟩ := h
  obtain ⟨rr679, h⟩ := h
  intro M38 e_M38
  replace h := h (ab M38) ((congrArg ab e_M38).trans (ab_sI (rfl : (0 : Int32).toNatClampNeg = 0) (taddI (taddI t_x1 t_x7 rr678) t_x4 rr679)))
  refine w_X5_pieces  h (fun i40 y_i40 M39 t_i40 h => ?_)
  refine ⟨?_, ?_⟩
  · intro hc0
    replace h := h.1 (cleI t_i40 (show (0 : Int32).toInt = 0 from rfl) hc0)
    refine w_X5_replace_577 (show (0 : Int32).toInt = 0 from rfl) h hQ
  · intro hc0
    replace h := h.2 (cnleI t_i40 (show (0 : Int32).toInt = 0 from rfl) hc0)
    refine w_X5_replace_577 (show (1 : Int32).toInt = 1 from rfl) h hQ
theorem w_X5_replace {Q : Mem → Prop} {bQ : Im → Prop} {x0 : Nat} {x1 : Int32} {y_x1 : Int} {x2 : Int32} {y_x2 : Int} {x3 : Int32} {y_x3 : Int} {M : Mem} (t_x1 : x1.toInt = y_x1) (t_x2 : x2.toInt = y_x2) (t_x3 : x3.toInt = y_x3) (h : sp_X5_replace x0 y_x1 y_x2 y_x3 (ab M) bQ) (hQ : ∀ (m : Mem), bQ (ab m) → Q m) : wp_X5_replace x0 x1 x2 x3 M Q := by
  unfold sp_X5_replace at h
  unfold wp_X5_replace
  obtain ⟨hp, h⟩ := h
  refine ⟨hp, ?_⟩
  refine w_X5_pieces  h (fun i45 y_i45 M44 t_i45 h => ?_)
  obtain ⟨rr686, h⟩ := h
  intro i46 e_i46
  have q_i46 := (congrArg Int32.toInt e_i46).trans (tsubI t_i45 t_x2 rr686)
  replace h := h _ q_i46
  have t_i46 : i46.toInt = i46.toInt := rfl
  obtain ⟨k14, h⟩ := h
  refine ⟨k14, ?_⟩
  refine w_X5_replace_14 t_x1 t_x2 t_x3 t_i46 (show (0 : Int32).toInt = 0 from rfl) (show (0 : Int32).toInt = 0 from rfl) h hQ (fun x0 x1 y_x1 x3 y_x3 x4 y_x4 M t_x1 t_x3 t_x4 h => ?_)
  unfold wp_X5_replace_246
  refine ⟨?_, ?_⟩
  · intro hc0
    replace h := h.1 (cneI t_x1 (show (0 : Int32).toInt = 0 from rfl) hc0)
    obtain ⟨rr687, h⟩ := h
    obtain ⟨hp, h⟩ := h
    refine ⟨(tinb (tsubI t_x1 (show (1 : Int32).toInt = 1 from rfl) rr687) hp), ?_⟩
    obtain ⟨rr688, h⟩ := h
    obtain ⟨hp, h⟩ := h
    refine ⟨(tinb (tsubI t_x1 (show (1 : Int32).toInt = 1 from rfl) rr688) hp), ?_⟩
    obtain ⟨rr689, h⟩ := h
    obtain ⟨rr690, h⟩ := h
    obtain ⟨rr691, h⟩ := h
    refine w_X5_replace_271 t_x1 t_x3 t_x4 (taddI (tr_I (tnatI (tsubI t_x1 (show (1 : Int32).toInt = 1 from rfl) rr689))) (tr_I (tnatI (tsubI t_x1 (show (1 : Int32).toInt = 1 from rfl) rr690))) rr691) h hQ
  · intro hc0
    replace h := h.2 (ceqI t_x1 (show (0 : Int32).toInt = 0 from rfl) hc0)
    refine w_X5_replace_271 t_x1 t_x3 t_x4 (show (0 : Int32).toInt = 0 from rfl) h hQ
theorem w_X5_there_59 {Q : Int32 → Mem → Prop} {bQ : Int → Im → Prop} {K34 : Nat → Int32 → Int32 → Int32 → Mem → Prop} {bK34 : Nat → Int → Int → Int → Im → Prop} {K67 : Nat → Int32 → Int32 → Mem → Prop} {bK67 : Nat → Int → Int → Im → Prop} {x0 : Nat} {x2 : Int32} {y_x2 : Int} {x3 : Int32} {y_x3 : Int} {t0 : Int32} {y_t0 : Int} {t1 : Int32} {y_t1 : Int} {M : Mem} (t_x2 : x2.toInt = y_x2) (t_x3 : x3.toInt = y_x3) (t_t0 : t0.toInt = y_t0) (t_t1 : t1.toInt = y_t1) (h : sp_X5_there_59 x0 y_x2 y_x3 y_t0 y_t1 (ab M) bQ bK34 bK67) (hQ : ∀ (z0 : Int32) (u0 : Int) (m : Mem), z0.toInt = u0 → bQ u0 (ab m) → Q z0 m) (hK34 : ∀ (z0 : Nat) (z1 : Int32) (u1 : Int) (z2 : Int32) (u2 : Int) (z3 : Int32) (u3 : Int) (m : Mem), z1.toInt = u1 → z2.toInt = u2 → z3.toInt = u3 → bK34 z0 u1 u2 u3 (ab m) → K34 z0 z1 z2 z3 m) (hK67 : ∀ (z0 : Nat) (z1 : Int32) (u1 : Int) (z2 : Int32) (u2 : Int) (m : Mem), z1.toInt = u1 → z2.toInt = u2 → bK67 z0 u1 u2 (ab m) → K67 z0 z1 z2 m) : wp_X5_there_59 x0 x2 x3 t0 t1 M Q K34 K67 := by
  unfold sp_X5_there_59 at h
  unfold wp_X5_there_59
  obtain ⟨rr694, h⟩ := h
  intro i6 e_i6
  have q_i6 := (congrArg Int32.toInt e_i6).trans (taddI t_t1 t_t0 rr694)
  replace h := h _ q_i6
  have t_i6 : i6.toInt = i6.toInt := rfl
  obtain ⟨rr695, h⟩ := h
  intro i7 e_i7
  have q_i7 := (congrArg Int32.toInt e_i7).trans (taddI t_x3 (show (1 : Int32).toInt = 1 from rfl) rr695)
  replace h := h _ q_i7
  have t_i7 : i7.toInt = i7.toInt := rfl
  exact hK34 _ _ _ _ _ _ _ _ t_i6 t_x2 t_i7 h
theorem w_X5_there_67 {Q : Int32 → Mem → Prop} {bQ : Int → Im → Prop} {K4 : Nat → Int32 → Int32 → Mem → Prop} {bK4 : Nat → Int → Int → Im → Prop} {K73 : Int32 → Mem → Prop} {bK73 : Int → Im → Prop} {x0 : Nat} {x1 : Int32} {y_x1 : Int} {x2 : Int32} {y_x2 : Int} {M : Mem} (t_x1 : x1.toInt = y_x1) (t_x2 : x2.toInt = y_x2) (h : sp_X5_there_67 x0 y_x1 y_x2 (ab M) bQ bK4 bK73) (hQ : ∀ (z0 : Int32) (u0 : Int) (m : Mem), z0.toInt = u0 → bQ u0 (ab m) → Q z0 m) (hK4 : ∀ (z0 : Nat) (z1 : Int32) (u1 : Int) (z2 : Int32) (u2 : Int) (m : Mem), z1.toInt = u1 → z2.toInt = u2 → bK4 z0 u1 u2 (ab m) → K4 z0 z1 z2 m) (hK73 : ∀ (z0 : Int32) (u0 : Int) (m : Mem), z0.toInt = u0 → bK73 u0 (ab m) → K73 z0 m) : wp_X5_there_67 x0 x1 x2 M Q K4 K73 := by
  unfold sp_X5_there_67 at h
  unfold wp_X5_there_67
  obtain ⟨rr697, h⟩ := h
  intro i8 e_i8
  have q_i8 := (congrArg Int32.toInt e_i8).trans (taddI t_x2 (show (1 : Int32).toInt = 1 from rfl) rr697)
  replace h := h _ q_i8
  have t_i8 : i8.toInt = i8.toInt := rfl
  exact hK4 _ _ _ _ _ _ t_x1 t_i8 h
theorem w_X5_there_34 {Q : Int32 → Mem → Prop} {bQ : Int → Im → Prop} {K67 : Nat → Int32 → Int32 → Mem → Prop} {bK67 : Nat → Int → Int → Im → Prop} : ∀ {n : Nat} {x0 : Nat} {x1 : Int32} {y_x1 : Int} {x2 : Int32} {y_x2 : Int} {x3 : Int32} {y_x3 : Int} {M : Mem} (t_x1 : x1.toInt = y_x1) (t_x2 : x2.toInt = y_x2) (t_x3 : x3.toInt = y_x3) (_ : sp_X5_there_34 n x0 y_x1 y_x2 y_x3 (ab M) bQ bK67) (_ : ∀ (z0 : Int32) (u0 : Int) (m : Mem), z0.toInt = u0 → bQ u0 (ab m) → Q z0 m) (_ : ∀ (z0 : Nat) (z1 : Int32) (u1 : Int) (z2 : Int32) (u2 : Int) (m : Mem), z1.toInt = u1 → z2.toInt = u2 → bK67 z0 u1 u2 (ab m) → K67 z0 z1 z2 m), wp_X5_there_34 n x0 x1 x2 x3 M Q K67 := by
  intro n
  induction n with
  | zero => intro x0 x1 y_x1 x2 y_x2 x3 y_x3 M t_x1 t_x2 t_x3 h hQ hK67; exact h.elim
  | succ n ih =>
    intro x0 x1 y_x1 x2 y_x2 x3 y_x3 M t_x1 t_x2 t_x3 h hQ hK67
    unfold sp_X5_there_34 at h
    unfold wp_X5_there_34
    obtain ⟨hp, h⟩ := h
    refine ⟨(tinb t_x2 hp), ?_⟩
    refine ⟨?_, ?_⟩
    · intro hc0
      replace h := h.1 (cleI (tr_I (tnatI t_x2)) t_x3 hc0)
      exact hK67 _ _ _ _ _ _ t_x1 t_x2 h
    · intro hc0
      replace h := h.2 (cnleI (tr_I (tnatI t_x2)) t_x3 hc0)
      refine w_X5_isThere t_x2 t_x3 h (fun i5 y_i5 M4 t_i5 h => ?_)
      refine ⟨?_, ?_⟩
      · intro hc0
        replace h := h.1 (ceqI t_i5 (show (0 : Int32).toInt = 0 from rfl) hc0)
        refine w_X5_there_59 t_x2 t_x3 (show (0 : Int32).toInt = 0 from rfl) t_x1 h hQ (fun x0 x1 y_x1 x2 y_x2 x3 y_x3 M t_x1 t_x2 t_x3 h => ?_) hK67
        refine ih t_x1 t_x2 t_x3 h hQ hK67
      · intro hc0
        replace h := h.2 (cneI t_i5 (show (0 : Int32).toInt = 0 from rfl) hc0)
        refine w_X5_there_59 t_x2 t_x3 (show (1 : Int32).toInt = 1 from rfl) t_x1 h hQ (fun x0 x1 y_x1 x2 y_x2 x3 y_x3 M t_x1 t_x2 t_x3 h => ?_) hK67
        refine ih t_x1 t_x2 t_x3 h hQ hK67
theorem w_X5_there_20 {Q : Int32 → Mem → Prop} {bQ : Int → Im → Prop} {K4 : Nat → Int32 → Int32 → Mem → Prop} {bK4 : Nat → Int → Int → Im → Prop} {K73 : Int32 → Mem → Prop} {bK73 : Int → Im → Prop} {x0 : Nat} {x1 : Int32} {y_x1 : Int} {x2 : Int32} {y_x2 : Int} {t0 : Int32} {y_t0 : Int} {t1 : Int32} {y_t1 : Int} {M : Mem} (t_x1 : x1.toInt = y_x1) (t_x2 : x2.toInt = y_x2) (t_t0 : t0.toInt = y_t0) (t_t1 : t1.toInt = y_t1) (h : sp_X5_there_20 x0 y_x1 y_x2 y_t0 y_t1 (ab M) bQ bK4 bK73) (hQ : ∀ (z0 : Int32) (u0 : Int) (m : Mem), z0.toInt = u0 → bQ u0 (ab m) → Q z0 m) (hK4 : ∀ (z0 : Nat) (z1 : Int32) (u1 : Int) (z2 : Int32) (u2 : Int) (m : Mem), z1.toInt = u1 → z2.toInt = u2 → bK4 z0 u1 u2 (ab m) → K4 z0 z1 z2 m) (hK73 : ∀ (z0 : Int32) (u0 : Int) (m : Mem), z0.toInt = u0 → bK73 u0 (ab m) → K73 z0 m) : wp_X5_there_20 x0 x1 x2 t0 t1 M Q K4 K73 := by
  unfold sp_X5_there_20 at h
  unfold wp_X5_there_20
  refine ⟨?_, ?_⟩
  · intro hc0
    replace h := h.1 (cleI t_t0 t_t1 hc0)
    exact hK73 _ _ _ t_x1 h
  · intro hc0
    replace h := h.2 (cnleI t_t0 t_t1 hc0)
    obtain ⟨hp, h⟩ := h
    refine ⟨(tinb t_x2 hp), ?_⟩
    obtain ⟨rr699, h⟩ := h
    intro i3 e_i3
    have q_i3 := (congrArg Int32.toInt e_i3).trans (taddI t_x1 (tr_I (tnatI t_x2)) rr699)
    replace h := h _ q_i3
    have t_i3 : i3.toInt = i3.toInt := rfl
    obtain ⟨k34, h⟩ := h
    refine ⟨k34, ?_⟩
    refine w_X5_there_34 t_i3 t_x2 (show (0 : Int32).toInt = 0 from rfl) h hQ (fun x0 x1 y_x1 x2 y_x2 M t_x1 t_x2 h => ?_)
    refine w_X5_there_67 t_x1 t_x2 h hQ hK4 hK73
theorem w_X5_there_4 {Q : Int32 → Mem → Prop} {bQ : Int → Im → Prop} {K73 : Int32 → Mem → Prop} {bK73 : Int → Im → Prop} : ∀ {n : Nat} {x0 : Nat} {x1 : Int32} {y_x1 : Int} {x2 : Int32} {y_x2 : Int} {M : Mem} (t_x1 : x1.toInt = y_x1) (t_x2 : x2.toInt = y_x2) (_ : sp_X5_there_4 n x0 y_x1 y_x2 (ab M) bQ bK73) (_ : ∀ (z0 : Int32) (u0 : Int) (m : Mem), z0.toInt = u0 → bQ u0 (ab m) → Q z0 m) (_ : ∀ (z0 : Int32) (u0 : Int) (m : Mem), z0.toInt = u0 → bK73 u0 (ab m) → K73 z0 m), wp_X5_there_4 n x0 x1 x2 M Q K73 := by
  intro n
  induction n with
  | zero => intro x0 x1 y_x1 x2 y_x2 M t_x1 t_x2 h hQ hK73; exact h.elim
  | succ n ih =>
    intro x0 x1 y_x1 x2 y_x2 M t_x1 t_x2 h hQ hK73
    unfold sp_X5_there_4 at h
    unfold wp_X5_there_4
    refine ⟨?_, ?_⟩
    · intro hc0
      replace h := h.1 (ceqI (tr_I rfl) (show (0 : Int32).toInt = 0 from rfl) hc0)
      refine w_X5_there_20 t_x1 t_x2 (show (0 : Int32).toInt = 0 from rfl) t_x2 h hQ (fun x0 x1 y_x1 x2 y_x2 M t_x1 t_x2 h => ?_) hK73
      refine ih t_x1 t_x2 h hQ hK73
    · intro hc0
      replace h := h.2 (cneI (tr_I rfl) (show (0 : Int32).toInt = 0 from rfl) hc0)
      refine w_X5_pieces  h (fun i2 y_i2 M1 t_i2 h => ?_)
      refine w_X5_there_20 t_x1 t_x2 t_i2 t_x2 h hQ (fun x0 x1 y_x1 x2 y_x2 M t_x1 t_x2 h => ?_) hK73
      refine ih t_x1 t_x2 h hQ hK73
theorem w_X5_there {Q : Int32 → Mem → Prop} {bQ : Int → Im → Prop} {x0 : Nat} {M : Mem} (h : sp_X5_there x0 (ab M) bQ) (hQ : ∀ (z0 : Int32) (u0 : Int) (m : Mem), z0.toInt = u0 → bQ u0 (ab m) → Q z0 m) : wp_X5_there x0 M Q := by
  unfold sp_X5_there at h
  unfold wp_X5_there
  obtain ⟨hp, h⟩ := h
  refine ⟨hp, ?_⟩
  obtain ⟨k4, h⟩ := h
  refine ⟨k4, ?_⟩
  refine w_X5_there_4 (show (0 : Int32).toInt = 0 from rfl) (show (0 : Int32).toInt = 0 from rfl) h hQ (fun x1 y_x1 M t_x1 h => ?_)
  unfold wp_X5_there_73
  exact hQ _ _ _ t_x1 h
theorem w_X5_isBuilt {Q : Int32 → Mem → Prop} {bQ : Int → Im → Prop} {x0 : Nat} {x1 : Int32} {y_x1 : Int} {M : Mem} (t_x1 : x1.toInt = y_x1) (h : sp_X5_isBuilt x0 y_x1 (ab M) bQ) (hQ : ∀ (z0 : Int32) (u0 : Int) (m : Mem), z0.toInt = u0 → bQ u0 (ab m) → Q z0 m) : wp_X5_isBuilt x0 x1 M Q := by
  unfold sp_X5_isBuilt at h
  unfold wp_X5_isBuilt
  obtain ⟨hp, h⟩ := h
  refine ⟨hp, ?_⟩
  refine ⟨?_, ?_⟩
  · intro hc0
    replace h := h.1 (ceqI t_x1 (show (1 : Int32).toInt = 1 from rfl) hc0)
    unfold wp_X5_isBuilt_17
    unfold wp_X5_isBuilt_22
    obtain ⟨hp, h⟩ := h
    refine ⟨(t01 (show (1 : Int32).toInt = 1 from rfl) hp), ?_⟩
    exact hQ _ _ _ (show (1 : Int32).toInt = 1 from rfl) h
  · intro hc0
    replace h := h.2 (cneI t_x1 (show (1 : Int32).toInt = 1 from rfl) hc0)
    refine ⟨?_, ?_⟩
    · intro hc0
      replace h := h.1 (cneI t_x1 (show (2 : Int32).toInt = 2 from rfl) hc0)
      unfold wp_X5_isBuilt_21
      unfold wp_X5_isBuilt_22
      obtain ⟨hp, h⟩ := h
      refine ⟨(t01 (show (0 : Int32).toInt = 0 from rfl) hp), ?_⟩
      exact hQ _ _ _ (show (0 : Int32).toInt = 0 from rfl) h
    · intro hc0
      replace h := h.2 (ceqI t_x1 (show (2 : Int32).toInt = 2 from rfl) hc0)
      refine ⟨?_, ?_⟩
      · intro hc0
        replace h := h.1 (cleI (tr_I rfl) (show (0 : Int32).toInt = 0 from rfl) hc0)
        unfold wp_X5_isBuilt_21
        unfold wp_X5_isBuilt_22
        obtain ⟨hp, h⟩ := h
        refine ⟨(t01 (show (0 : Int32).toInt = 0 from rfl) hp), ?_⟩
        exact hQ _ _ _ (show (0 : Int32).toInt = 0 from rfl) h
      · intro hc0
        replace h := h.2 (cnleI (tr_I rfl) (show (0 : Int32).toInt = 0 from rfl) hc0)
        unfold wp_X5_isBuilt_17
        unfold wp_X5_isBuilt_22
        obtain ⟨hp, h⟩ := h
        refine ⟨(t01 (show (1 : Int32).toInt = 1 from rfl) hp), ?_⟩
        exact hQ _ _ _ (show (1 : Int32).toInt = 1 from rfl) h
theorem w_X5_build {Q : Int32 → Mem → Prop} {bQ : Int → Im → Prop} {x0 : Nat} {x1 : Int32} {y_x1 : Int} {M : Mem} (t_x1 : x1.toInt = y_x1) (h : sp_X5_build x0 y_x1 (ab M) bQ) (hQ : ∀ (z0 : Int32) (u0 : Int) (m : Mem), z0.toInt = u0 → bQ u0 (ab m) → Q z0 m) : wp_X5_build x0 x1 M Q := by
  unfold sp_X5_build at h
  unfold wp_X5_build
  obtain ⟨hp, h⟩ := h
  refine ⟨hp, ?_⟩
  refine w_X5_isBuilt t_x1 h (fun i2 y_i2 M1 t_i2 h => ?_)
  refine ⟨?_, ?_⟩
  · intro hc0
    replace h := h.1 (ceqI t_i2 (show (0 : Int32).toInt = 0 from rfl) hc0)
    unfold wp_X5_build_15
    exact hQ _ _ _ (show (-2 : Int32).toInt = -2 from rfl) h
  · intro hc0
    replace h := h.2 (cneI t_i2 (show (0 : Int32).toInt = 0 from rfl) hc0)
    refine ⟨?_, ?_⟩
    · intro hc0
      replace h := h.1 (cneI (tr_I rfl) (show (0 : Int32).toInt = 0 from rfl) hc0)
      refine w_X5_take  h (fun M3 h => ?_)
      intro M4 e_M4
      replace h := h (ab M4) ((congrArg ab e_M4).trans (ab_sI rfl (tr_I rfl)))
      obtain ⟨hp, h⟩ := h
      refine ⟨(tinb (show (0 : Int32).toInt = 0 from rfl) hp), ?_⟩
      intro M5 e_M5
      replace h := h (ab M5) ((congrArg ab e_M5).trans (ab_sI (rfl : (0 : Int32).toNatClampNeg = 0) (show (0 : Int32).toInt = 0 from rfl)))
      refine w_X5_replace (show (0 : Int32).toInt = 0 from rfl) (show (0 : Int32).toInt = 0 from rfl) t_x1 h (fun M6 h => ?_)
      refine w_X5_pieces  h (fun i8 y_i8 M7 t_i8 h => ?_)
      exact hQ _ _ _ t_i8 h
    · intro hc0
      replace h := h.2 (ceqI (tr_I rfl) (show (0 : Int32).toInt = 0 from rfl) hc0)
      unfold wp_X5_build_15
      exact hQ _ _ _ (show (-2 : Int32).toInt = -2 from rfl) h
theorem w_X5_again_27 {Q : Int32 → Mem → Prop} {bQ : Int → Im → Prop} {K46 : Nat → Int32 → Mem → Prop} {bK46 : Nat → Int → Im → Prop} : ∀ {n : Nat} {x0 : Nat} {x1 : Int32} {y_x1 : Int} {x2 : Int32} {y_x2 : Int} {M : Mem} (t_x1 : x1.toInt = y_x1) (t_x2 : x2.toInt = y_x2) (_ : sp_X5_again_27 n x0 y_x1 y_x2 (ab M) bQ bK46) (_ : ∀ (z0 : Int32) (u0 : Int) (m : Mem), z0.toInt = u0 → bQ u0 (ab m) → Q z0 m) (_ : ∀ (z0 : Nat) (z1 : Int32) (u1 : Int) (m : Mem), z1.toInt = u1 → bK46 z0 u1 (ab m) → K46 z0 z1 m), wp_X5_again_27 n x0 x1 x2 M Q K46 := by
  intro n
  induction n with
  | zero => intro x0 x1 y_x1 x2 y_x2 M t_x1 t_x2 h hQ hK46; exact h.elim
  | succ n ih =>
    intro x0 x1 y_x1 x2 y_x2 M t_x1 t_x2 h hQ hK46
    unfold sp_X5_again_27 at h
    unfold wp_X5_again_27
    refine w_X5_pieces  h (fun i2 y_i2 M1 t_i2 h => ?_)
    refine ⟨?_, ?_⟩
    · intro hc0
      replace h := h.1 (cleI t_i2 t_x2 hc0)
      exact hK46 _ _ _ _ t_x1 h
    · intro hc0
      replace h := h.2 (cnleI t_i2 t_x2 hc0)
      refine w_X5_gather t_x2 h (fun M3 h => ?_)
      obtain ⟨rr701, h⟩ := h
      intro i4 e_i4
      have q_i4 := (congrArg Int32.toInt e_i4).trans (taddI t_x2 (show (1 : Int32).toInt = 1 from rfl) rr701)
      replace h := h _ q_i4
      have t_i4 : i4.toInt = i4.toInt := rfl
      refine ih t_x1 t_i4 h hQ hK46
theorem w_X5_again {Q : Int32 → Mem → Prop} {bQ : Int → Im → Prop} {x0 : Nat} {x1 : Int32} {y_x1 : Int} {M : Mem} (t_x1 : x1.toInt = y_x1) (h : sp_X5_again x0 y_x1 (ab M) bQ) (hQ : ∀ (z0 : Int32) (u0 : Int) (m : Mem), z0.toInt = u0 → bQ u0 (ab m) → Q z0 m) : wp_X5_again x0 x1 M Q := by
  unfold sp_X5_again at h
  unfold wp_X5_again
  obtain ⟨hp, h⟩ := h
  refine ⟨hp, ?_⟩
  refine ⟨?_, ?_⟩
  · intro hc0
    replace h := h.1 (cneI (tr_I rfl) (show (0 : Int32).toInt = 0 from rfl) hc0)
    refine w_X5_isBuilt t_x1 h (fun i10 y_i10 M9 t_i10 h => ?_)
    refine ⟨?_, ?_⟩
    · intro hc0
      replace h := h.1 (cneI t_i10 (show (0 : Int32).toInt = 0 from rfl) hc0)
      intro M11 e_M11
      replace h := h (ab M11) ((congrArg ab e_M11).trans (ab_sI rfl (show (0 : Int32).toInt = 0 from rfl)))
      obtain ⟨k27, h⟩ := h
      refine ⟨k27, ?_⟩
      refine w_X5_again_27 t_x1 (show (0 : Int32).toInt = 0 from rfl) h hQ (fun x0 x1 y_x1 M t_x1 h => ?_)
      unfold wp_X5_again_46
      obtain ⟨hp, h⟩ := h
      refine ⟨(tinb (show (0 : Int32).toInt = 0 from rfl) hp), ?_⟩
      intro M5 e_M5
      replace h := h (ab M5) ((congrArg ab e_M5).trans (ab_sI (rfl : (0 : Int32).toNatClampNeg = 0) (show (0 : Int32).toInt = 0 from rfl)))
      refine w_X5_replace (show (0 : Int32).toInt = 0 from rfl) (show (0 : Int32).toInt = 0 from rfl) t_x1 h (fun M6 h => ?_)
      refine w_X5_pieces  h (fun i8 y_i8 M7 t_i8 h => ?_)
      exact hQ _ _ _ t_i8 h
    · intro hc0
      replace h := h.2 (ceqI t_i10 (show (0 : Int32).toInt = 0 from rfl) hc0)
      exact hQ _ _ _ (show (-2 : Int32).toInt = -2 from rfl) h
  · intro hc0
    replace h := h.2 (ceqI (tr_I rfl) (show (0 : Int32).toInt = 0 from rfl) hc0)
    exact hQ _ _ _ (show (-1 : Int32).toInt = -1 from rfl) h
theorem w_X5_clear {Q : Int32 → Mem → Prop} {bQ : Int → Im → Prop} {x0 : Nat} {M : Mem} (h : sp_X5_clear x0 (ab M) bQ) (hQ : ∀ (z0 : Int32) (u0 : Int) (m : Mem), z0.toInt = u0 → bQ u0 (ab m) → Q z0 m) : wp_X5_clear x0 M Q := by
  unfold sp_X5_clear at h
  unfold wp_X5_clear
  obtain ⟨hp, h⟩ := h
  refine ⟨hp, ?_⟩
  refine w_X5_there  h (fun i2 y_i2 M1 t_i2 h => ?_)
  intro M3 e_M3
  replace h := h (ab M3) ((congrArg ab e_M3).trans (ab_sI rfl (show (0 : Int32).toInt = 0 from rfl)))
  intro M4 e_M4
  replace h := h (ab M4) ((congrArg ab e_M4).trans (ab_sI rfl (show (0 : Int32).toInt = 0 from rfl)))
  obtain ⟨hp, h⟩ := h
  refine ⟨(tinb (show (0 : Int32).toInt = 0 from rfl) hp), ?_⟩
  intro M5 e_M5
  replace h := h (ab M5) ((congrArg ab e_M5).trans (ab_sI (rfl : (0 : Int32).toNatClampNeg = 0) (show (0 : Int32).toInt = 0 from rfl)))
  exact hQ _ _ _ t_i2 h
theorem w_X5_round {Q : Int32 → Mem → Prop} {bQ : Int → Im → Prop} {x0 : Nat} {x1 : Int32} {y_x1 : Int} {M : Mem} (t_x1 : x1.toInt = y_x1) (h : sp_X5_round x0 y_x1 (ab M) bQ) (hQ : ∀ (z0 : Int32) (u0 : Int) (m : Mem), z0.toInt = u0 → bQ u0 (ab m) → Q z0 m) : wp_X5_round x0 x1 M Q := by
  unfold sp_X5_round at h
  unfold wp_X5_round
  obtain ⟨hp, h⟩ := h
  refine ⟨hp, ?_⟩
  refine ⟨?_, ?_⟩
  · intro hc0
    replace h := h.1 (ceqI (tr_I rfl) (show (0 : Int32).toInt = 0 from rfl) hc0)
    unfold wp_X5_round_19
    exact hQ _ _ _ (show (-1 : Int32).toInt = -1 from rfl) h
  · intro hc0
    replace h := h.2 (cneI (tr_I rfl) (show (0 : Int32).toInt = 0 from rfl) hc0)
    refine ⟨?_, ?_⟩
    · intro hc0
      replace h := h.1 (cltI t_x1 (show (0 : Int32).toInt = 0 from rfl) hc0)
      unfold wp_X5_round_19
      exact hQ _ _ _ (show (-1 : Int32).toInt = -1 from rfl) h
    · intro hc0
      replace h := h.2 (cnltI t_x1 (show (0 : Int32).toInt = 0 from rfl) hc0)
      refine w_X5_pieces  h (fun i2 y_i2 M1 t_i2 h => ?_)
      refine ⟨?_, ?_⟩
      · intro hc0
        replace h := h.1 (cltI t_x1 t_i2 hc0)
        obtain ⟨hp, h⟩ := h
        refine ⟨(tinb t_x1 hp), ?_⟩
        refine ⟨?_, ?_⟩
        · intro hc0
          replace h := h.1 (ceqI (tr_I (tnatI t_x1)) (show (1 : Int32).toInt = 1 from rfl) hc0)
          obtain ⟨hp, h⟩ := h
          refine ⟨(tinb t_x1 hp), ?_⟩
          intro M3 e_M3
          replace h := h (ab M3) ((congrArg ab e_M3).trans (ab_sI (tnatI t_x1) (show (2 : Int32).toInt = 2 from rfl)))
          refine w_X5_miss t_x1 h (fun i5 y_i5 M4 t_i5 h => ?_)
          obtain ⟨hp, h⟩ := h
          refine ⟨(tinb t_x1 hp), ?_⟩
          refine ⟨?_, ?_⟩
          · intro hc0
            replace h := h.1 (cltI (tr_I (tnatI t_x1)) t_i5 hc0)
            obtain ⟨hp, h⟩ := h
            refine ⟨(tinb t_x1 hp), ?_⟩
            intro M6 e_M6
            replace h := h (ab M6) ((congrArg ab e_M6).trans (ab_sI (tnatI t_x1) (show (1 : Int32).toInt = 1 from rfl)))
            exact hQ _ _ _ (show (0 : Int32).toInt = 0 from rfl) h
          · intro hc0
            replace h := h.2 (cnltI (tr_I (tnatI t_x1)) t_i5 hc0)
            exact hQ _ _ _ (show (1 : Int32).toInt = 1 from rfl) h
        · intro hc0
          replace h := h.2 (cneI (tr_I (tnatI t_x1)) (show (1 : Int32).toInt = 1 from rfl) hc0)
          exact hQ _ _ _ (show (-2 : Int32).toInt = -2 from rfl) h
      · intro hc0
        replace h := h.2 (cnltI t_x1 t_i2 hc0)
        unfold wp_X5_round_19
        exact hQ _ _ _ (show (-1 : Int32).toInt = -1 from rfl) h
theorem w_X5_merge {Q : Int32 → Mem → Prop} {bQ : Int → Im → Prop} {x0 : Nat} {x1 : Int32} {y_x1 : Int} {M : Mem} (t_x1 : x1.toInt = y_x1) (h : sp_X5_merge x0 y_x1 (ab M) bQ) (hQ : ∀ (z0 : Int32) (u0 : Int) (m : Mem), z0.toInt = u0 → bQ u0 (ab m) → Q z0 m) : wp_X5_merge x0 x1 M Q := by
  unfold sp_X5_merge at h
  unfold wp_X5_merge
  obtain ⟨hp, h⟩ := h
  refine ⟨hp, ?_⟩
  refine ⟨?_, ?_⟩
  · intro hc0
    replace h := h.1 (ceqI (tr_I rfl) (show (0 : Int32).toInt = 0 from rfl) hc0)
    unfold wp_X5_merge_21
    exact hQ _ _ _ (show (-1 : Int32).toInt = -1 from rfl) h
  · intro hc0
    replace h := h.2 (cneI (tr_I rfl) (show (0 : Int32).toInt = 0 from rfl) hc0)
    refine ⟨?_, ?_⟩
    · intro hc0
      replace h := h.1 (cltI t_x1 (show (0 : Int32).toInt = 0 from rfl) hc0)
      unfold wp_X5_merge_21
      exact hQ _ _ _ (show (-1 : Int32).toInt = -1 from rfl) h
    · intro hc0
      replace h := h.2 (cnltI t_x1 (show (0 : Int32).toInt = 0 from rfl) hc0)
      refine w_X5_pieces  h (fun i2 y_i2 M1 t_i2 h => ?_)
      obtain ⟨rr708, h⟩ := h
      refine ⟨?_, ?_⟩
      · intro hc0
        replace h := h.1 (cltI t_x1 (tsubI t_i2 (show (1 : Int32).toInt = 1 from rfl) rr708) hc0)
        intro M3 e_M3
        replace h := h (ab M3) ((congrArg ab e_M3).trans (ab_sI rfl (show (0 : Int32).toInt = 0 from rfl)))
        refine w_X5_gather t_x1 h (fun M4 h => ?_)
        obtain ⟨rr710, h⟩ := h
        refine w_X5_gather (taddI t_x1 (show (1 : Int32).toInt = 1 from rfl) rr710) h (fun M5 h => ?_)
        refine w_X5_pieces  h (fun i7 y_i7 M6 t_i7 h => ?_)
        obtain ⟨rr711, h⟩ := h
        intro i8 e_i8
        have q_i8 := (congrArg Int32.toInt e_i8).trans (tsubI t_i7 (show (2 : Int32).toInt = 2 from rfl) rr711)
        replace h := h _ q_i8
        have t_i8 : i8.toInt = i8.toInt := rfl
        obtain ⟨rr712, h⟩ := h
        refine w_X5_replace t_x1 (taddI t_x1 (show (2 : Int32).toInt = 2 from rfl) rr712) (show (1 : Int32).toInt = 1 from rfl) h (fun M9 h => ?_)
        refine w_X5_pieces  h (fun i11 y_i11 M10 t_i11 h => ?_)
        obtain ⟨rr713, h⟩ := h
        exact hQ _ _ _ (tsubI t_i11 t_i8 rr713) h
      · intro hc0
        replace h := h.2 (cnltI t_x1 (tsubI t_i2 (show (1 : Int32).toInt = 1 from rfl) rr708) hc0)
        unfold wp_X5_merge_21
        exact hQ _ _ _ (show (-1 : Int32).toInt = -1 from rfl) h
theorem w_X5_say {Q : Mem → Prop} {bQ : Im → Prop} {x0 : Nat} {x1 : Int32} {y_x1 : Int} {M : Mem} (t_x1 : x1.toInt = y_x1) (h : sp_X5_say x0 y_x1 (ab M) bQ) (hQ : ∀ (m : Mem), bQ (ab m) → Q m) : wp_X5_say x0 x1 M Q := by
  unfold sp_X5_say at h
  unfold wp_X5_say
  obtain ⟨hp, h⟩ := h
  refine ⟨hp, ?_⟩
  obtain ⟨hp, h⟩ := h
  refine ⟨(tinb (tr_I rfl) hp), ?_⟩
  intro M1 e_M1
  replace h := h (ab M1) ((congrArg ab e_M1).trans (ab_sI (tnatI (tr_I rfl)) t_x1))
  obtain ⟨rr716, h⟩ := h
  intro M2 e_M2
  replace h := h (ab M2) ((congrArg ab e_M2).trans (ab_sI rfl (taddI (tr_I rfl) (show (1 : Int32).toInt = 1 from rfl) rr716)))
  exact hQ _  h
theorem w_X5_down_120 {Q : Int32 → Mem → Prop} {bQ : Int → Im → Prop} {K62 : Nat → Int32 → Int32 → Int64 → Int32 → Int32 → Int32 → Mem → Prop} {bK62 : Nat → Int → Int → Int → Int → Int → Int → Im → Prop} {K125 : Nat → Int32 → Int32 → Int32 → Int32 → Mem → Prop} {bK125 : Nat → Int → Int → Int → Int → Im → Prop} {x0 : Nat} {x1 : Int32} {y_x1 : Int} {x2 : Int32} {y_x2 : Int} {x3 : Int64} {y_x3 : Int} {x5 : Int32} {y_x5 : Int} {x6 : Int32} {y_x6 : Int} {t0 : Int32} {y_t0 : Int} {M : Mem} (t_x1 : x1.toInt = y_x1) (t_x2 : x2.toInt = y_x2) (t_x3 : x3.toInt = y_x3) (t_x5 : x5.toInt = y_x5) (t_x6 : x6.toInt = y_x6) (t_t0 : t0.toInt = y_t0) (h : sp_X5_down_120 x0 y_x1 y_x2 y_x3 y_x5 y_x6 y_t0 (ab M) bQ bK62 bK125) (hQ : ∀ (z0 : Int32) (u0 : Int) (m : Mem), z0.toInt = u0 → bQ u0 (ab m) → Q z0 m) (hK62 : ∀ (z0 : Nat) (z1 : Int32) (u1 : Int) (z2 : Int32) (u2 : Int) (z3 : Int64) (u3 : Int) (z4 : Int32) (u4 : Int) (z5 : Int32) (u5 : Int) (z6 : Int32) (u6 : Int) (m : Mem), z1.toInt = u1 → z2.toInt = u2 → z3.toInt = u3 → z4.toInt = u4 → z5.toInt = u5 → z6.toInt = u6 → bK62 z0 u1 u2 u3 u4 u5 u6 (ab m) → K62 z0 z1 z2 z3 z4 z5 z6 m) (hK125 : ∀ (z0 : Nat) (z1 : Int32) (u1 : Int) (z2 : Int32) (u2 : Int) (z3 : Int32) (u3 : Int) (z4 : Int32) (u4 : Int) (m : Mem), z1.toInt = u1 → z2.toInt = u2 → z3.toInt = u3 → z4.toInt = u4 → bK125 z0 u1 u2 u3 u4 (ab m) → K125 z0 z1 z2 z3 z4 m) : wp_X5_down_120 x0 x1 x2 x3 x5 x6 t0 M Q K62 K125 := by
  unfold sp_X5_down_120 at h
  unfold wp_X5_down_120
  exact hK62 _ _ _ _ _ _ _ _ _ _ _ _ _ _ t_x1 t_x2 t_x3 t_x5 t_x6 t_t0 h
theorem w_X5_down_119 {Q : Int32 → Mem → Prop} {bQ : Int → Im → Prop} {K62 : Nat → Int32 → Int32 → Int64 → Int32 → Int32 → Int32 → Mem → Prop} {bK62 : Nat → Int → Int → Int → Int → Int → Int → Im → Prop} {K125 : Nat → Int32 → Int32 → Int32 → Int32 → Mem → Prop} {bK125 : Nat → Int → Int → Int → Int → Im → Prop} {x0 : Nat} {x1 : Int32} {y_x1 : Int} {x2 : Int32} {y_x2 : Int} {x3 : Int64} {y_x3 : Int} {x5 : Int32} {y_x5 : Int} {x6 : Int32} {y_x6 : Int} {M : Mem} (t_x1 : x1.toInt = y_x1) (t_x2 : x2.toInt = y_x2) (t_x3 : x3.toInt = y_x3) (t_x5 : x5.toInt = y_x5) (t_x6 : x6.toInt = y_x6) (h : sp_X5_down_119 x0 y_x1 y_x2 y_x3 y_x5 y_x6 (ab M) bQ bK62 bK125) (hQ : ∀ (z0 : Int32) (u0 : Int) (m : Mem), z0.toInt = u0 → bQ u0 (ab m) → Q z0 m) (hK62 : ∀ (z0 : Nat) (z1 : Int32) (u1 : Int) (z2 : Int32) (u2 : Int) (z3 : Int64) (u3 : Int) (z4 : Int32) (u4 : Int) (z5 : Int32) (u5 : Int) (z6 : Int32) (u6 : Int) (m : Mem), z1.toInt = u1 → z2.toInt = u2 → z3.toInt = u3 → z4.toInt = u4 → z5.toInt = u5 → z6.toInt = u6 → bK62 z0 u1 u2 u3 u4 u5 u6 (ab m) → K62 z0 z1 z2 z3 z4 z5 z6 m) (hK125 : ∀ (z0 : Nat) (z1 : Int32) (u1 : Int) (z2 : Int32) (u2 : Int) (z3 : Int32) (u3 : Int) (z4 : Int32) (u4 : Int) (m : Mem), z1.toInt = u1 → z2.toInt = u2 → z3.toInt = u3 → z4.toInt = u4 → bK125 z0 u1 u2 u3 u4 (ab m) → K125 z0 z1 z2 z3 z4 m) : wp_X5_down_119 x0 x1 x2 x3 x5 x6 M Q K62 K125 := by
  unfold sp_X5_down_119 at h
  unfold wp_X5_down_119
  refine w_X5_down_120 t_x1 t_x2 t_x3 t_x5 t_x6 (show (0 : Int32).toInt = 0 from rfl) h hQ hK62 hK125
theorem w_X5_down_105 {Q : Int32 → Mem → Prop} {bQ : Int → Im → Prop} {K62 : Nat → Int32 → Int32 → Int64 → Int32 → Int32 → Int32 → Mem → Prop} {bK62 : Nat → Int → Int → Int → Int → Int → Int → Im → Prop} {K125 : Nat → Int32 → Int32 → Int32 → Int32 → Mem → Prop} {bK125 : Nat → Int → Int → Int → Int → Im → Prop} {x0 : Nat} {x1 : Int32} {y_x1 : Int} {x2 : Int32} {y_x2 : Int} {x3 : Int64} {y_x3 : Int} {x5 : Int32} {y_x5 : Int} {x6 : Int32} {y_x6 : Int} {x7 : Int32} {y_x7 : Int} {M : Mem} (t_x1 : x1.toInt = y_x1) (t_x2 : x2.toInt = y_x2) (t_x3 : x3.toInt = y_x3) (t_x5 : x5.toInt = y_x5) (t_x6 : x6.toInt = y_x6) (t_x7 : x7.toInt = y_x7) (h : sp_X5_down_105 x0 y_x1 y_x2 y_x3 y_x5 y_x6 y_x7 (ab M) bQ bK62 bK125) (hQ : ∀ (z0 : Int32) (u0 : Int) (m : Mem), z0.toInt = u0 → bQ u0 (ab m) → Q z0 m) (hK62 : ∀ (z0 : Nat) (z1 : Int32) (u1 : Int) (z2 : Int32) (u2 : Int) (z3 : Int64) (u3 : Int) (z4 : Int32) (u4 : Int) (z5 : Int32) (u5 : Int) (z6 : Int32) (u6 : Int) (m : Mem), z1.toInt = u1 → z2.toInt = u2 → z3.toInt = u3 → z4.toInt = u4 → z5.toInt = u5 → z6.toInt = u6 → bK62 z0 u1 u2 u3 u4 u5 u6 (ab m) → K62 z0 z1 z2 z3 z4 z5 z6 m) (hK125 : ∀ (z0 : Nat) (z1 : Int32) (u1 : Int) (z2 : Int32) (u2 : Int) (z3 : Int32) (u3 : Int) (z4 : Int32) (u4 : Int) (m : Mem), z1.toInt = u1 → z2.toInt = u2 → z3.toInt = u3 → z4.toInt = u4 → bK125 z0 u1 u2 u3 u4 (ab m) → K125 z0 z1 z2 z3 z4 m) : wp_X5_down_105 x0 x1 x2 x3 x5 x6 x7 M Q K62 K125 := by
  unfold sp_X5_down_105 at h
  unfold wp_X5_down_105
  refine ⟨?_, ?_⟩
  · intro hc0
    replace h := h.1 (ceqI t_x7 (show (0 : Int32).toInt = 0 from rfl) hc0)
    refine w_X5_down_119 t_x1 t_x2 t_x3 t_x5 t_x6 h hQ hK62 hK125
  · intro hc0
    replace h := h.2 (cneI t_x7 (show (0 : Int32).toInt = 0 from rfl) hc0)
    refine ⟨?_, ?_⟩
    · intro hc0
      replace h := h.1 (cleI t_x6 (show (0 : Int32).toInt = 0 from rfl) hc0)
      refine w_X5_down_119 t_x1 t_x2 t_x3 t_x5 t_x6 h hQ hK62 hK125
    · intro hc0
      replace h := h.2 (cnleI t_x6 (show (0 : Int32).toInt = 0 from rfl) hc0)
      refine w_X5_down_120 t_x1 t_x2 t_x3 t_x5 t_x6 (show (1 : Int32).toInt = 1 from rfl) h hQ hK62 hK125
theorem w_X5_down_62 {Q : Int32 → Mem → Prop} {bQ : Int → Im → Prop} {K125 : Nat → Int32 → Int32 → Int32 → Int32 → Mem → Prop} {bK125 : Nat → Int → Int → Int → Int → Im → Prop} : ∀ {n : Nat} {x0 : Nat} {x1 : Int32} {y_x1 : Int} {x2 : Int32} {y_x2 : Int} {x3 : Int64} {y_x3 : Int} {x5 : Int32} {y_x5 : Int} {x6 : Int32} {y_x6 : Int} {x7 : Int32} {y_x7 : Int} {M : Mem} (t_x1 : x1.toInt = y_x1) (t_x2 : x2.toInt = y_x2) (t_x3 : x3.toInt = y_x3) (t_x5 : x5.toInt = y_x5) (t_x6 : x6.toInt = y_x6) (t_x7 : x7.toInt = y_x7) (_ : sp_X5_down_62 n x0 y_x1 y_x2 y_x3 y_x5 y_x6 y_x7 (ab M) bQ bK125) (_ : ∀ (z0 : Int32) (u0 : Int) (m : Mem), z0.toInt = u0 → bQ u0 (ab m) → Q z0 m) (_ : ∀ (z0 : Nat) (z1 : Int32) (u1 : Int) (z2 : Int32) (u2 : Int) (z3 : Int32) (u3 : Int) (z4 : Int32) (u4 : Int) (m : Mem), z1.toInt = u1 → z2.toInt = u2 → z3.toInt = u3 → z4.toInt = u4 → bK125 z0 u1 u2 u3 u4 (ab m) → K125 z0 z1 z2 z3 z4 m), wp_X5_down_62 n x0 x1 x2 x3 x5 x6 x7 M Q K125 := by
  intro n
  induction n with
  | zero => intro x0 x1 y_x1 x2 y_x2 x3 y_x3 x5 y_x5 x6 y_x6 x7 y_x7 M t_x1 t_x2 t_x3 t_x5 t_x6 t_x7 h hQ hK125; exact h.elim
  | succ n ih =>
    intro x0 x1 y_x1 x2 y_x2 x3 y_x3 x5 y_x5 x6 y_x6 x7 y_x7 M t_x1 t_x2 t_x3 t_x5 t_x6 t_x7 h hQ hK125
    unfold sp_X5_down_62 at h
    unfold wp_X5_down_62
    refine ⟨?_, ?_⟩
    · intro hc0
      replace h := h.1 (ceqI t_x7 (show (0 : Int32).toInt = 0 from rfl) hc0)
      exact hK125 _ _ _ _ _ _ _ _ _ _ t_x1 t_x2 t_x5 t_x6 h
    · intro hc0
      replace h := h.2 (cneI t_x7 (show (0 : Int32).toInt = 0 from rfl) hc0)
      obtain ⟨rr722, h⟩ := h
      intro M1 e_M1
      replace h := h (ab M1) ((congrArg ab e_M1).trans (ab_sI rfl (taddI (tr_I rfl) (show (1 : Int32).toInt = 1 from rfl) rr722)))
      obtain ⟨hp, h⟩ := h
      refine ⟨(tinb t_x1 hp), ?_⟩
      obtain ⟨rr723, h⟩ := h
      obtain ⟨hp, h⟩ := h
      refine ⟨(tinb (taddI (tr_I (tnatI t_x1)) t_x6 rr723) hp), ?_⟩
      obtain ⟨rr724, h⟩ := h
      refine ⟨?_, ?_⟩
      · intro hc0
        replace h := h.1 (cleJ (tr_L (tnatI (taddI (tr_I (tnatI t_x1)) t_x6 rr724))) t_x3 hc0)
        refine w_X5_down_105 t_x1 t_x2 t_x3 t_x5 t_x6 (show (0 : Int32).toInt = 0 from rfl) h hQ (fun x0 x1 y_x1 x2 y_x2 x3 y_x3 x5 y_x5 x6 y_x6 x7 y_x7 M t_x1 t_x2 t_x3 t_x5 t_x6 t_x7 h => ?_) hK125
        refine ih t_x1 t_x2 t_x3 t_x5 t_x6 t_x7 h hQ hK125
      · intro hc0
        replace h := h.2 (cnleJ (tr_L (tnatI (taddI (tr_I (tnatI t_x1)) t_x6 rr724))) t_x3 hc0)
        obtain ⟨rr726, h⟩ := h
        intro i2 e_i2
        have q_i2 := (congrArg Int32.toInt e_i2).trans (taddI t_x6 (show (-1 : Int32).toInt = -1 from rfl) rr726)
        replace h := h _ q_i2
        have t_i2 : i2.toInt = i2.toInt := rfl
        refine w_X5_down_105 t_x1 t_x2 t_x3 t_x5 t_i2 t_x7 h hQ (fun x0 x1 y_x1 x2 y_x2 x3 y_x3 x5 y_x5 x6 y_x6 x7 y_x7 M t_x1 t_x2 t_x3 t_x5 t_x6 t_x7 h => ?_) hK125
        refine ih t_x1 t_x2 t_x3 t_x5 t_x6 t_x7 h hQ hK125
theorem w_X5_down_60 {Q : Int32 → Mem → Prop} {bQ : Int → Im → Prop} {x0 : Nat} {x1 : Int32} {y_x1 : Int} {x2 : Int32} {y_x2 : Int} {x3 : Int64} {y_x3 : Int} {x5 : Int32} {y_x5 : Int} {x6 : Int32} {y_x6 : Int} {t0 : Int32} {y_t0 : Int} {M : Mem} (t_x1 : x1.toInt = y_x1) (t_x2 : x2.toInt = y_x2) (t_x3 : x3.toInt = y_x3) (t_x5 : x5.toInt = y_x5) (t_x6 : x6.toInt = y_x6) (t_t0 : t0.toInt = y_t0) (h : sp_X5_down_60 x0 y_x1 y_x2 y_x3 y_x5 y_x6 y_t0 (ab M) bQ) (hQ : ∀ (z0 : Int32) (u0 : Int) (m : Mem), z0.toInt = u0 → bQ u0 (ab m) → Q z0 m) : wp_X5_down_60 x0 x1 x2 x3 x5 x6 t0 M Q := by
  unfold sp_X5_down_60 at h
  unfold wp_X5_down_60
  obtain ⟨k62, h⟩ := h
  refine ⟨k62, ?_⟩
  refine w_X5_down_62 t_x1 t_x2 t_x3 t_x5 t_x6 t_t0 h hQ (fun x0 x1 y_x1 x2 y_x2 x5 y_x5 x6 y_x6 M t_x1 t_x2 t_x5 t_x6 h => ?_)
  unfold wp_X5_down_125
  obtain ⟨hp, h⟩ := h
  refine ⟨(tinb t_x2 hp), ?_⟩
  obtain ⟨rr728, h⟩ := h
  refine w_X5_say (tsubI t_x1 (tr_I (tnatI t_x2)) rr728) h (fun M3 h => ?_)
  refine w_X5_say t_x5 h (fun M4 h => ?_)
  refine w_X5_say t_x6 h (fun M5 h => ?_)
  exact hQ _ _ _ t_x6 h
theorem w_X5_down_48 {Q : Int32 → Mem → Prop} {bQ : Int → Im → Prop} {x0 : Nat} {x1 : Int32} {y_x1 : Int} {x2 : Int32} {y_x2 : Int} {x3 : Int64} {y_x3 : Int} {x5 : Int32} {y_x5 : Int} {t0 : Int32} {y_t0 : Int} {M : Mem} (t_x1 : x1.toInt = y_x1) (t_x2 : x2.toInt = y_x2) (t_x3 : x3.toInt = y_x3) (t_x5 : x5.toInt = y_x5) (t_t0 : t0.toInt = y_t0) (h : sp_X5_down_48 x0 y_x1 y_x2 y_x3 y_x5 y_t0 (ab M) bQ) (hQ : ∀ (z0 : Int32) (u0 : Int) (m : Mem), z0.toInt = u0 → bQ u0 (ab m) → Q z0 m) : wp_X5_down_48 x0 x1 x2 x3 x5 t0 M Q := by
  unfold sp_X5_down_48 at h
  unfold wp_X5_down_48
  refine ⟨?_, ?_⟩
  · intro hc0
    replace h := h.1 (cleI t_t0 (show (0 : Int32).toInt = 0 from rfl) hc0)
    refine w_X5_down_60 t_x1 t_x2 t_x3 t_x5 t_t0 (show (0 : Int32).toInt = 0 from rfl) h hQ
  · intro hc0
    replace h := h.2 (cnleI t_t0 (show (0 : Int32).toInt = 0 from rfl) hc0)
    refine w_X5_down_60 t_x1 t_x2 t_x3 t_x5 t_t0 (show (1 : Int32).toInt = 1 from rfl) h hQ
theorem w_X5_down {Q : Int32 → Mem → Prop} {bQ : Int → Im → Prop} {x0 : Nat} {x1 : Int32} {y_x1 : Int} {x2 : Int32} {y_x2 : Int} {x3 : Int64} {y_x3 : Int} {M : Mem} (t_x1 : x1.toInt = y_x1) (t_x2 : x2.toInt = y_x2) (t_x3 : x3.toInt = y_x3) (h : sp_X5_down x0 y_x1 y_x2 y_x3 (ab M) bQ) (hQ : ∀ (z0 : Int32) (u0 : Int) (m : Mem), z0.toInt = u0 → bQ u0 (ab m) → Q z0 m) : wp_X5_down x0 x1 x2 x3 M Q := by
  unfold sp_X5_down at h
  unfold wp_X5_down
  obtain ⟨hp, h⟩ := h
  refine ⟨hp, ?_⟩
  refine w_X5_guessOf t_x1 t_x3 h (fun i7 y_i7 M6 t_i7 h => ?_)
  obtain ⟨hp, h⟩ := h
  refine ⟨(tinb t_x1 hp), ?_⟩
  obtain ⟨hp, h⟩ := h
  refine ⟨(tinb t_x1 hp), ?_⟩
  obtain ⟨rr735, h⟩ := h
  obtain ⟨rr736, h⟩ := h
  refine ⟨?_, ?_⟩
  · intro hc0
    replace h := h.1 (cleI (tsubI (tr_I (tnatI t_x1)) (show (1 : Int32).toInt = 1 from rfl) rr735) (taddI t_i7 (tr_I (tnatI t_x1)) rr736) hc0)
    obtain ⟨hp, h⟩ := h
    refine ⟨(tinb t_x1 hp), ?_⟩
    obtain ⟨rr739, h⟩ := h
    refine w_X5_down_48 t_x1 t_x2 t_x3 t_i7 (tsubI (tr_I (tnatI t_x1)) (show (1 : Int32).toInt = 1 from rfl) rr739) h hQ
  · intro hc0
    replace h := h.2 (cnleI (tsubI (tr_I (tnatI t_x1)) (show (1 : Int32).toInt = 1 from rfl) rr735) (taddI t_i7 (tr_I (tnatI t_x1)) rr736) hc0)
    obtain ⟨hp, h⟩ := h
    refine ⟨(tinb t_x1 hp), ?_⟩
    obtain ⟨rr740, h⟩ := h
    refine w_X5_down_48 t_x1 t_x2 t_x3 t_i7 (taddI t_i7 (tr_I (tnatI t_x1)) rr740) h hQ
theorem w_X5_found_33 {Q : Int32 → Mem → Prop} {bQ : Int → Im → Prop} {K88 : Nat → Int64 → Int32 → Int32 → Mem → Prop} {bK88 : Nat → Int → Int → Int → Im → Prop} : ∀ {n : Nat} {x0 : Nat} {x1 : Int64} {y_x1 : Int} {x3 : Int32} {y_x3 : Int} {x4 : Int32} {y_x4 : Int} {x5 : Int32} {y_x5 : Int} {M : Mem} (t_x1 : x1.toInt = y_x1) (t_x3 : x3.toInt = y_x3) (t_x4 : x4.toInt = y_x4) (t_x5 : x5.toInt = y_x5) (_ : sp_X5_found_33 n x0 y_x1 y_x3 y_x4 y_x5 (ab M) bQ bK88) (_ : ∀ (z0 : Int32) (u0 : Int) (m : Mem), z0.toInt = u0 → bQ u0 (ab m) → Q z0 m) (_ : ∀ (z0 : Nat) (z1 : Int64) (u1 : Int) (z2 : Int32) (u2 : Int) (z3 : Int32) (u3 : Int) (m : Mem), z1.toInt = u1 → z2.toInt = u2 → z3.toInt = u3 → bK88 z0 u1 u2 u3 (ab m) → K88 z0 z1 z2 z3 m), wp_X5_found_33 n x0 x1 x3 x4 x5 M Q K88 := by
  intro n
  induction n with
  | zero => intro x0 x1 y_x1 x3 y_x3 x4 y_x4 x5 y_x5 M t_x1 t_x3 t_x4 t_x5 h hQ hK88; exact h.elim
  | succ n ih =>
    intro x0 x1 y_x1 x3 y_x3 x4 y_x4 x5 y_x5 M t_x1 t_x3 t_x4 t_x5 h hQ hK88
    unfold sp_X5_found_33 at h
    unfold wp_X5_found_33
    refine ⟨?_, ?_⟩
    · intro hc0
      replace h := h.1 (cleI t_x3 (show (0 : Int32).toInt = 0 from rfl) hc0)
      exact hK88 _ _ _ _ _ _ _ _ t_x1 t_x4 t_x5 h
    · intro hc0
      replace h := h.2 (cnleI t_x3 (show (0 : Int32).toInt = 0 from rfl) hc0)
      obtain ⟨hp, h⟩ := h
      refine ⟨(tinb t_x4 hp), ?_⟩
      obtain ⟨hp, h⟩ := h
      refine ⟨(tinb t_x3 hp), ?_⟩
      obtain ⟨hp, h⟩ := h
      refine ⟨(tinb (tr_I (tnatI t_x3)) hp), ?_⟩
      obtain ⟨rr745, h⟩ := h
      obtain ⟨rr746, h⟩ := h
      intro i1 e_i1
      have q_i1 := (congrArg Int32.toInt e_i1).trans (tsubI (taddI (tr_I (tnatI t_x4)) t_x5 rr745) (tr_I (tnatI (tr_I (tnatI t_x3)))) rr746)
      replace h := h _ q_i1
      have t_i1 : i1.toInt = i1.toInt := rfl
      obtain ⟨rr747, h⟩ := h
      intro i2 e_i2
      have q_i2 := (congrArg Int32.toInt e_i2).trans (taddI t_x3 (show (-1 : Int32).toInt = -1 from rfl) rr747)
      replace h := h _ q_i2
      have t_i2 : i2.toInt = i2.toInt := rfl
      obtain ⟨hp, h⟩ := h
      refine ⟨(tinb t_i2 hp), ?_⟩
      obtain ⟨rr748, h⟩ := h
      intro i3 e_i3
      have q_i3 := (congrArg Int32.toInt e_i3).trans (taddI (tr_I (tnatI t_i2)) t_i1 rr748)
      replace h := h _ q_i3
      have t_i3 : i3.toInt = i3.toInt := rfl
      refine w_X5_down t_i3 t_i2 t_x1 h (fun i5 y_i5 M4 t_i5 h => ?_)
      refine ih t_x1 t_i2 t_i3 t_i5 h hQ hK88
theorem w_X5_found_250 {Q : Int32 → Mem → Prop} {bQ : Int → Im → Prop} {K181 : Nat → Int64 → Int32 → Int32 → Int32 → Mem → Prop} {bK181 : Nat → Int → Int → Int → Int → Im → Prop} {K256 : Nat → Mem → Prop} {bK256 : Nat → Im → Prop} {x0 : Nat} {x1 : Int64} {y_x1 : Int} {x4 : Int32} {y_x4 : Int} {x7 : Int32} {y_x7 : Int} {x8 : Int32} {y_x8 : Int} {M : Mem} (t_x1 : x1.toInt = y_x1) (t_x4 : x4.toInt = y_x4) (t_x7 : x7.toInt = y_x7) (t_x8 : x8.toInt = y_x8) (h : sp_X5_found_250 x0 y_x1 y_x4 y_x7 y_x8 (ab M) bQ bK181 bK256) (hQ : ∀ (z0 : Int32) (u0 : Int) (m : Mem), z0.toInt = u0 → bQ u0 (ab m) → Q z0 m) (hK181 : ∀ (z0 : Nat) (z1 : Int64) (u1 : Int) (z2 : Int32) (u2 : Int) (z3 : Int32) (u3 : Int) (z4 : Int32) (u4 : Int) (m : Mem), z1.toInt = u1 → z2.toInt = u2 → z3.toInt = u3 → z4.toInt = u4 → bK181 z0 u1 u2 u3 u4 (ab m) → K181 z0 z1 z2 z3 z4 m) (hK256 : ∀ (z0 : Nat) (m : Mem), bK256 z0 (ab m) → K256 z0 m) : wp_X5_found_250 x0 x1 x4 x7 x8 M Q K181 K256 := by
  unfold sp_X5_found_250 at h
  unfold wp_X5_found_250
  obtain ⟨rr750, h⟩ := h
  intro i15 e_i15
  have q_i15 := (congrArg Int32.toInt e_i15).trans (taddI t_x7 (show (-1 : Int32).toInt = -1 from rfl) rr750)
  replace h := h _ q_i15
  have t_i15 : i15.toInt = i15.toInt := rfl
  exact hK181 _ _ _ _ _ _ _ _ _ _ t_x1 t_x4 t_i15 t_x8 h
theorem w_X5_found_281 {Q : Int32 → Mem → Prop} {bQ : Int → Im → Prop} {x6 : Int32} {y_x6 : Int} {t0 : Int32} {y_t0 : Int} {t1 : Nat} {M : Mem} (t_x6 : x6.toInt = y_x6) (t_t0 : t0.toInt = y_t0) (h : sp_X5_found_281 y_x6 y_t0 t1 (ab M) bQ) (hQ : ∀ (z0 : Int32) (u0 : Int) (m : Mem), z0.toInt = u0 → bQ u0 (ab m) → Q z0 m) : wp_X5_found_281 x6 t0 t1 M Q := by
  unfold sp_X5_found_281 at h
  unfold wp_X5_found_281
  refine w_X5_say t_t0 h (fun M16 h => ?_)
  obtain ⟨hp, h⟩ := h
  refine ⟨(t01 t_x6 hp), ?_⟩
  exact hQ _ _ _ t_x6 h
theorem w_X5_found_224 {Q : Int32 → Mem → Prop} {bQ : Int → Im → Prop} {K181 : Nat → Int64 → Int32 → Int32 → Int32 → Mem → Prop} {bK181 : Nat → Int → Int → Int → Int → Im → Prop} {K256 : Nat → Mem → Prop} {bK256 : Nat → Im → Prop} {x0 : Nat} {x1 : Int64} {y_x1 : Int} {x4 : Int32} {y_x4 : Int} {x7 : Int32} {y_x7 : Int} {t0 : Int32} {y_t0 : Int} {M : Mem} (t_x1 : x1.toInt = y_x1) (t_x4 : x4.toInt = y_x4) (t_x7 : x7.toInt = y_x7) (t_t0 : t0.toInt = y_t0) (h : sp_X5_found_224 x0 y_x1 y_x4 y_x7 y_t0 (ab M) bQ bK181 bK256) (hQ : ∀ (z0 : Int32) (u0 : Int) (m : Mem), z0.toInt = u0 → bQ u0 (ab m) → Q z0 m) (hK181 : ∀ (z0 : Nat) (z1 : Int64) (u1 : Int) (z2 : Int32) (u2 : Int) (z3 : Int32) (u3 : Int) (z4 : Int32) (u4 : Int) (m : Mem), z1.toInt = u1 → z2.toInt = u2 → z3.toInt = u3 → z4.toInt = u4 → bK181 z0 u1 u2 u3 u4 (ab m) → K181 z0 z1 z2 z3 z4 m) (hK256 : ∀ (z0 : Nat) (m : Mem), bK256 z0 (ab m) → K256 z0 m) : wp_X5_found_224 x0 x1 x4 x7 t0 M Q K181 K256 := by
  unfold sp_X5_found_224 at h
  unfold wp_X5_found_224
  obtain ⟨rr757, h⟩ := h
  obtain ⟨rr758, h⟩ := h
  obtain ⟨hp, h⟩ := h
  refine ⟨(tinb (taddI (tmulI (show (16 : Int32).toInt = 16 from rfl) t_x4 rr757) t_x7 rr758) hp), ?_⟩
  obtain ⟨rr759, h⟩ := h
  obtain ⟨rr760, h⟩ := h
  refine ⟨?_, ?_⟩
  · intro hc0
    replace h := h.1 (cneJ (tr_L (tnatI (taddI (tmulI (show (16 : Int32).toInt = 16 from rfl) t_x4 rr759) t_x7 rr760))) t_x1 hc0)
    refine w_X5_found_250 t_x1 t_x4 t_x7 t_t0 h hQ hK181 hK256
  · intro hc0
    replace h := h.2 (ceqJ (tr_L (tnatI (taddI (tmulI (show (16 : Int32).toInt = 16 from rfl) t_x4 rr759) t_x7 rr760))) t_x1 hc0)
    intro M14 e_M14
    replace h := h (ab M14) ((congrArg ab e_M14).trans (ab_sI rfl t_x7))
    refine w_X5_found_250 t_x1 t_x4 t_x7 t_t0 h hQ hK181 hK256
theorem w_X5_found_270 {Q : Int32 → Mem → Prop} {bQ : Int → Im → Prop} {x0 : Nat} {x6 : Int32} {y_x6 : Int} {M : Mem} (t_x6 : x6.toInt = y_x6) (h : sp_X5_found_270 x0 y_x6 (ab M) bQ) (hQ : ∀ (z0 : Int32) (u0 : Int) (m : Mem), z0.toInt = u0 → bQ u0 (ab m) → Q z0 m) : wp_X5_found_270 x0 x6 M Q := by
  unfold sp_X5_found_270 at h
  unfold wp_X5_found_270
  refine ⟨?_, ?_⟩
  · intro hc0
    replace h := h.1 (ceqI t_x6 (show (0 : Int32).toInt = 0 from rfl) hc0)
    refine w_X5_found_281 t_x6 (show (0 : Int32).toInt = 0 from rfl) h hQ
  · intro hc0
    replace h := h.2 (cneI t_x6 (show (0 : Int32).toInt = 0 from rfl) hc0)
    refine w_X5_found_281 t_x6 (show (1 : Int32).toInt = 1 from rfl) h hQ
theorem w_X5_found_223 {Q : Int32 → Mem → Prop} {bQ : Int → Im → Prop} {K181 : Nat → Int64 → Int32 → Int32 → Int32 → Mem → Prop} {bK181 : Nat → Int → Int → Int → Int → Im → Prop} {K256 : Nat → Mem → Prop} {bK256 : Nat → Im → Prop} {x0 : Nat} {x1 : Int64} {y_x1 : Int} {x4 : Int32} {y_x4 : Int} {x7 : Int32} {y_x7 : Int} {M : Mem} (t_x1 : x1.toInt = y_x1) (t_x4 : x4.toInt = y_x4) (t_x7 : x7.toInt = y_x7) (h : sp_X5_found_223 x0 y_x1 y_x4 y_x7 (ab M) bQ bK181 bK256) (hQ : ∀ (z0 : Int32) (u0 : Int) (m : Mem), z0.toInt = u0 → bQ u0 (ab m) → Q z0 m) (hK181 : ∀ (z0 : Nat) (z1 : Int64) (u1 : Int) (z2 : Int32) (u2 : Int) (z3 : Int32) (u3 : Int) (z4 : Int32) (u4 : Int) (m : Mem), z1.toInt = u1 → z2.toInt = u2 → z3.toInt = u3 → z4.toInt = u4 → bK181 z0 u1 u2 u3 u4 (ab m) → K181 z0 z1 z2 z3 z4 m) (hK256 : ∀ (z0 : Nat) (m : Mem), bK256 z0 (ab m) → K256 z0 m) : wp_X5_found_223 x0 x1 x4 x7 M Q K181 K256 := by
  unfold sp_X5_found_223 at h
  unfold wp_X5_found_223
  refine w_X5_found_224 t_x1 t_x4 t_x7 (show (0 : Int32).toInt = 0 from rfl) h hQ hK181 hK256
theorem w_X5_found_181 {Q : Int32 → Mem → Prop} {bQ : Int → Im → Prop} {K256 : Nat → Mem → Prop} {bK256 : Nat → Im → Prop} : ∀ {n : Nat} {x0 : Nat} {x1 : Int64} {y_x1 : Int} {x4 : Int32} {y_x4 : Int} {x7 : Int32} {y_x7 : Int} {x8 : Int32} {y_x8 : Int} {M : Mem} (t_x1 : x1.toInt = y_x1) (t_x4 : x4.toInt = y_x4) (t_x7 : x7.toInt = y_x7) (t_x8 : x8.toInt = y_x8) (_ : sp_X5_found_181 n x0 y_x1 y_x4 y_x7 y_x8 (ab M) bQ bK256) (_ : ∀ (z0 : Int32) (u0 : Int) (m : Mem), z0.toInt = u0 → bQ u0 (ab m) → Q z0 m) (_ : ∀ (z0 : Nat) (m : Mem), bK256 z0 (ab m) → K256 z0 m), wp_X5_found_181 n x0 x1 x4 x7 x8 M Q K256 := by
  intro n
  induction n with
  | zero => intro x0 x1 y_x1 x4 y_x4 x7 y_x7 x8 y_x8 M t_x1 t_x4 t_x7 t_x8 h hQ hK256; exact h.elim
  | succ n ih =>
    intro x0 x1 y_x1 x4 y_x4 x7 y_x7 x8 y_x8 M t_x1 t_x4 t_x7 t_x8 h hQ hK256
    unfold sp_X5_found_181 at h
    unfold wp_X5_found_181
    refine ⟨?_, ?_⟩
    · intro hc0
      replace h := h.1 (ceqI t_x8 (show (0 : Int32).toInt = 0 from rfl) hc0)
      exact hK256 _ _  h
    · intro hc0
      replace h := h.2 (cneI t_x8 (show (0 : Int32).toInt = 0 from rfl) hc0)
      obtain ⟨rr770, h⟩ := h
      intro M13 e_M13
      replace h := h (ab M13) ((congrArg ab e_M13).trans (ab_sI rfl (taddI (tr_I rfl) (show (1 : Int32).toInt = 1 from rfl) rr770)))
      obtain ⟨rr771, h⟩ := h
      obtain ⟨rr772, h⟩ := h
      obtain ⟨hp, h⟩ := h
      refine ⟨(tinb (taddI (tmulI (show (16 : Int32).toInt = 16 from rfl) t_x4 rr771) t_x7 rr772) hp), ?_⟩
      obtain ⟨rr773, h⟩ := h
      obtain ⟨rr774, h⟩ := h
      refine ⟨?_, ?_⟩
      · intro hc0
        replace h := h.1 (cleJ (tr_L (tnatI (taddI (tmulI (show (16 : Int32).toInt = 16 from rfl) t_x4 rr773) t_x7 rr774))) t_x1 hc0)
        refine w_X5_found_223 t_x1 t_x4 t_x7 h hQ (fun x0 x1 y_x1 x4 y_x4 x7 y_x7 x8 y_x8 M t_x1 t_x4 t_x7 t_x8 h => ?_) hK256
        refine ih t_x1 t_x4 t_x7 t_x8 h hQ hK256
      · intro hc0
        replace h := h.2 (cnleJ (tr_L (tnatI (taddI (tmulI (show (16 : Int32).toInt = 16 from rfl) t_x4 rr773) t_x7 rr774))) t_x1 hc0)
        refine ⟨?_, ?_⟩
        · intro hc0
          replace h := h.1 (cleI t_x7 (show (0 : Int32).toInt = 0 from rfl) hc0)
          refine w_X5_found_223 t_x1 t_x4 t_x7 h hQ (fun x0 x1 y_x1 x4 y_x4 x7 y_x7 x8 y_x8 M t_x1 t_x4 t_x7 t_x8 h => ?_) hK256
          refine ih t_x1 t_x4 t_x7 t_x8 h hQ hK256
        · intro hc0
          replace h := h.2 (cnleI t_x7 (show (0 : Int32).toInt = 0 from rfl) hc0)
          refine w_X5_found_224 t_x1 t_x4 t_x7 (show (1 : Int32).toInt = 1 from rfl) h hQ (fun x0 x1 y_x1 x4 y_x4 x7 y_x7 x8 y_x8 M t_x1 t_x4 t_x7 t_x8 h => ?_) hK256
          refine ih t_x1 t_x4 t_x7 t_x8 h hQ hK256
theorem w_X5_found_179 {Q : Int32 → Mem → Prop} {bQ : Int → Im → Prop} {x0 : Nat} {x1 : Int64} {y_x1 : Int} {x4 : Int32} {y_x4 : Int} {x7 : Int32} {y_x7 : Int} {t0 : Int32} {y_t0 : Int} {M : Mem} (t_x1 : x1.toInt = y_x1) (t_x4 : x4.toInt = y_x4) (t_x7 : x7.toInt = y_x7) (t_t0 : t0.toInt = y_t0) (h : sp_X5_found_179 x0 y_x1 y_x4 y_x7 y_t0 (ab M) bQ) (hQ : ∀ (z0 : Int32) (u0 : Int) (m : Mem), z0.toInt = u0 → bQ u0 (ab m) → Q z0 m) : wp_X5_found_179 x0 x1 x4 x7 t0 M Q := by
  unfold sp_X5_found_179 at h
  unfold wp_X5_found_179
  obtain ⟨k181, h⟩ := h
  refine ⟨k181, ?_⟩
  refine w_X5_found_181 t_x1 t_x4 t_x7 t_t0 h hQ (fun x0 M h => ?_)
  unfold wp_X5_found_256
  refine ⟨?_, ?_⟩
  · intro hc0
    replace h := h.1 (cltI (tr_I rfl) (show (0 : Int32).toInt = 0 from rfl) hc0)
    unfold wp_X5_found_268
    refine w_X5_found_270 (show (0 : Int32).toInt = 0 from rfl) h hQ
  · intro hc0
    replace h := h.2 (cnltI (tr_I rfl) (show (0 : Int32).toInt = 0 from rfl) hc0)
    unfold wp_X5_found_268
    refine w_X5_found_270 (show (1 : Int32).toInt = 1 from rfl) h hQ
theorem w_X5_found_151 {Q : Int32 → Mem → Prop} {bQ : Int → Im → Prop} {x0 : Nat} {x1 : Int64} {y_x1 : Int} {x4 : Int32} {y_x4 : Int} {t0 : Int32} {y_t0 : Int} {M : Mem} (t_x1 : x1.toInt = y_x1) (t_x4 : x4.toInt = y_x4) (t_t0 : t0.toInt = y_t0) (h : sp_X5_found_151 x0 y_x1 y_x4 y_t0 (ab M) bQ) (hQ : ∀ (z0 : Int32) (u0 : Int) (m : Mem), z0.toInt = u0 → bQ u0 (ab m) → Q z0 m) : wp_X5_found_151 x0 x1 x4 t0 M Q := by
  unfold sp_X5_found_151 at h
  unfold wp_X5_found_151
  refine ⟨?_, ?_⟩
  · intro hc0
    replace h := h.1 (cneI t_t0 (show (0 : Int32).toInt = 0 from rfl) hc0)
    refine w_X5_found_270 t_t0 h hQ
  · intro hc0
    replace h := h.2 (ceqI t_t0 (show (0 : Int32).toInt = 0 from rfl) hc0)
    obtain ⟨hp, h⟩ := h
    refine ⟨(tinb t_x4 hp), ?_⟩
    obtain ⟨rr778, h⟩ := h
    intro i12 e_i12
    have q_i12 := (congrArg Int32.toInt e_i12).trans (tsubI (tr_I (tnatI t_x4)) (show (1 : Int32).toInt = 1 from rfl) rr778)
    replace h := h _ q_i12
    have t_i12 : i12.toInt = i12.toInt := rfl
    refine ⟨?_, ?_⟩
    · intro hc0
      replace h := h.1 (cltI t_i12 (show (0 : Int32).toInt = 0 from rfl) hc0)
      refine w_X5_found_179 t_x1 t_x4 t_i12 (show (0 : Int32).toInt = 0 from rfl) h hQ
    · intro hc0
      replace h := h.2 (cnltI t_i12 (show (0 : Int32).toInt = 0 from rfl) hc0)
      refine w_X5_found_179 t_x1 t_x4 t_i12 (show (1 : Int32).toInt = 1 from rfl) h hQ
theorem w_X5_found {Q : Int32 → Mem → Prop} {bQ : Int → Im → Prop} {x0 : Nat} {x1 : Int64} {y_x1 : Int} {M : Mem} (t_x1 : x1.toInt = y_x1) (h : sp_X5_found x0 y_x1 (ab M) bQ) (hQ : ∀ (z0 : Int32) (u0 : Int) (m : Mem), z0.toInt = u0 → bQ u0 (ab m) → Q z0 m) : wp_X5_found x0 x1 M Q := by
  unfold sp_X5_found at h
  unfold wp_X5_found
  obtain ⟨hp, h⟩ := h
  refine ⟨hp, ?_⟩
  intro M17 e_M17
  replace h := h (ab M17) ((congrArg ab e_M17).trans (ab_sI rfl (show (0 : Int32).toInt = 0 from rfl)))
  intro M18 e_M18
  replace h := h (ab M18) ((congrArg ab e_M18).trans (ab_sI rfl (show (0 : Int32).toInt = 0 from rfl)))
  intro i19 e_i19
  have q_i19 := (congrArg Int32.toInt e_i19).trans (tr_I rfl)
  replace h := h _ q_i19
  have t_i19 : i19.toInt = i19.toInt := rfl
  obtain ⟨hp, h⟩ := h
  refine ⟨(tinb t_i19 hp), ?_⟩
  intro i20 e_i20
  have q_i20 := (congrArg Int32.toInt e_i20).trans (tr_I (tnatI t_i19))
  replace h := h _ q_i20
  have t_i20 : i20.toInt = i20.toInt := rfl
  refine w_X5_down t_i20 t_i19 t_x1 h (fun i22 y_i22 M21 t_i22 h => ?_)
  obtain ⟨k33, h⟩ := h
  refine ⟨k33, ?_⟩
  refine w_X5_found_33 t_x1 t_i19 t_i20 t_i22 h hQ (fun x0 x1 y_x1 x4 y_x4 x5 y_x5 M t_x1 t_x4 t_x5 h => ?_)
  unfold wp_X5_found_88
  intro M6 e_M6
  replace h := h (ab M6) ((congrArg ab e_M6).trans (ab_sI rfl t_x4))
  intro M7 e_M7
  replace h := h (ab M7) ((congrArg ab e_M7).trans (ab_sI rfl t_x5))
  intro M8 e_M8
  replace h := h (ab M8) ((congrArg ab e_M8).trans (ab_sI rfl (show (-1 : Int32).toInt = -1 from rfl)))
  obtain ⟨rr783, h⟩ := h
  intro M9 e_M9
  replace h := h (ab M9) ((congrArg ab e_M9).trans (ab_sI rfl (taddI (tr_I rfl) (show (1 : Int32).toInt = 1 from rfl) rr783)))
  obtain ⟨hp, h⟩ := h
  refine ⟨(tinb t_x4 hp), ?_⟩
  obtain ⟨rr784, h⟩ := h
  obtain ⟨hp, h⟩ := h
  refine ⟨(tinb (taddI (tr_I (tnatI t_x4)) t_x5 rr784) hp), ?_⟩
  obtain ⟨rr785, h⟩ := h
  refine ⟨?_, ?_⟩
  · intro hc0
    replace h := h.1 (cneJ (tr_L (tnatI (taddI (tr_I (tnatI t_x4)) t_x5 rr785))) t_x1 hc0)
    unfold wp_X5_found_150
    refine w_X5_found_151 t_x1 t_x4 (show (0 : Int32).toInt = 0 from rfl) h hQ
  · intro hc0
    replace h := h.2 (ceqJ (tr_L (tnatI (taddI (tr_I (tnatI t_x4)) t_x5 rr785))) t_x1 hc0)
    refine w_X5_isThere t_x4 t_x5 h (fun i11 y_i11 M10 t_i11 h => ?_)
    refine ⟨?_, ?_⟩
    · intro hc0
      replace h := h.1 (ceqI t_i11 (show (0 : Int32).toInt = 0 from rfl) hc0)
      unfold wp_X5_found_150
      refine w_X5_found_151 t_x1 t_x4 (show (0 : Int32).toInt = 0 from rfl) h hQ
    · intro hc0
      replace h := h.2 (cneI t_i11 (show (0 : Int32).toInt = 0 from rfl) hc0)
      refine w_X5_found_151 t_x1 t_x4 (show (1 : Int32).toInt = 1 from rfl) h hQ
theorem w_X5_find_45 {Q : Int32 → Mem → Prop} {bQ : Int → Im → Prop} {K74 : Nat → Int32 → Mem → Prop} {bK74 : Nat → Int → Im → Prop} : ∀ {n : Nat} {x0 : Nat} {x3 : Int32} {y_x3 : Int} {x4 : Int32} {y_x4 : Int} {M : Mem} (t_x3 : x3.toInt = y_x3) (t_x4 : x4.toInt = y_x4) (_ : sp_X5_find_45 n x0 y_x3 y_x4 (ab M) bQ bK74) (_ : ∀ (z0 : Int32) (u0 : Int) (m : Mem), z0.toInt = u0 → bQ u0 (ab m) → Q z0 m) (_ : ∀ (z0 : Nat) (z1 : Int32) (u1 : Int) (m : Mem), z1.toInt = u1 → bK74 z0 u1 (ab m) → K74 z0 z1 m), wp_X5_find_45 n x0 x3 x4 M Q K74 := by
  intro n
  induction n with
  | zero => intro x0 x3 y_x3 x4 y_x4 M t_x3 t_x4 h hQ hK74; exact h.elim
  | succ n ih =>
    intro x0 x3 y_x3 x4 y_x4 M t_x3 t_x4 h hQ hK74
    unfold sp_X5_find_45 at h
    unfold wp_X5_find_45
    refine ⟨?_, ?_⟩
    · intro hc0
      replace h := h.1 (cleI (tr_I rfl) t_x4 hc0)
      exact hK74 _ _ _ _ t_x3 h
    · intro hc0
      replace h := h.2 (cnleI (tr_I rfl) t_x4 hc0)
      obtain ⟨hp, h⟩ := h
      refine ⟨(tinb t_x4 hp), ?_⟩
      obtain ⟨hp, h⟩ := h
      refine ⟨(tinb t_x4 hp), ?_⟩
      intro M1 e_M1
      replace h := h (ab M1) ((congrArg ab e_M1).trans (ab_sI (tnatI t_x4) (tr_I (tnatI t_x4))))
      obtain ⟨rr788, h⟩ := h
      intro i2 e_i2
      have q_i2 := (congrArg Int32.toInt e_i2).trans (taddI t_x4 (show (1 : Int32).toInt = 1 from rfl) rr788)
      replace h := h _ q_i2
      have t_i2 : i2.toInt = i2.toInt := rfl
      refine ih t_x3 t_i2 h hQ hK74
theorem w_X5_find {Q : Int32 → Mem → Prop} {bQ : Int → Im → Prop} {x0 : Nat} {x1 : Int64} {y_x1 : Int} {M : Mem} (t_x1 : x1.toInt = y_x1) (h : sp_X5_find x0 y_x1 (ab M) bQ) (hQ : ∀ (z0 : Int32) (u0 : Int) (m : Mem), z0.toInt = u0 → bQ u0 (ab m) → Q z0 m) : wp_X5_find x0 x1 M Q := by
  unfold sp_X5_find at h
  unfold wp_X5_find
  obtain ⟨hp, h⟩ := h
  refine ⟨hp, ?_⟩
  refine ⟨?_, ?_⟩
  · intro hc0
    replace h := h.1 (cneI (tr_I rfl) (show (0 : Int32).toInt = 0 from rfl) hc0)
    refine w_X5_isKey t_x1 h (fun i5 y_i5 M4 t_i5 h => ?_)
    refine ⟨?_, ?_⟩
    · intro hc0
      replace h := h.1 (cneI t_i5 (show (0 : Int32).toInt = 0 from rfl) hc0)
      refine w_X5_found t_x1 h (fun i7 y_i7 M6 t_i7 h => ?_)
      intro M8 e_M8
      replace h := h (ab M8) ((congrArg ab e_M8).trans (ab_sI rfl (tr_I rfl)))
      intro M9 e_M9
      replace h := h (ab M9) ((congrArg ab e_M9).trans (ab_sI rfl (tr_I rfl)))
      obtain ⟨k45, h⟩ := h
      refine ⟨k45, ?_⟩
      refine w_X5_find_45 t_i7 (show (0 : Int32).toInt = 0 from rfl) h hQ (fun x0 x3 y_x3 M t_x3 h => ?_)
      unfold wp_X5_find_74
      intro M3 e_M3
      replace h := h (ab M3) ((congrArg ab e_M3).trans (ab_sI rfl (show (1 : Int32).toInt = 1 from rfl)))
      refine ⟨?_, ?_⟩
      · intro hc0
        replace h := h.1 (ceqI t_x3 (show (0 : Int32).toInt = 0 from rfl) hc0)
        unfold wp_X5_find_88
        exact hQ _ _ _ (show (0 : Int32).toInt = 0 from rfl) h
      · intro hc0
        replace h := h.2 (cneI t_x3 (show (0 : Int32).toInt = 0 from rfl) hc0)
        unfold wp_X5_find_88
        exact hQ _ _ _ (show (1 : Int32).toInt = 1 from rfl) h
    · intro hc0
      replace h := h.2 (ceqI t_i5 (show (0 : Int32).toInt = 0 from rfl) hc0)
      exact hQ _ _ _ (show (-2 : Int32).toInt = -2 from rfl) h
  · intro hc0
    replace h := h.2 (ceqI (tr_I rfl) (show (0 : Int32).toInt = 0 from rfl) hc0)
    exact hQ _ _ _ (show (-1 : Int32).toInt = -1 from rfl) h
theorem w_X5_check_90 {Q : Int32 → Mem → Prop} {bQ : Int → Im → Prop} {K54 : Nat → Int32 → Int32 → Int32 → Mem → Prop} {bK54 : Nat → Int → Int → Int → Im → Prop} {K98 : Int32 → Int32 → Mem → Prop} {bK98 : Int → Int → Im → Prop} {x0 : Nat} {x3 : Int32} {y_x3 : Int} {x5 : Int32} {y_x5 : Int} {t0 : Int32} {y_t0 : Int} {M : Mem} (t_x3 : x3.toInt = y_x3) (t_x5 : x5.toInt = y_x5) (t_t0 : t0.toInt = y_t0) (h : sp_X5_check_90 x0 y_x3 y_x5 y_t0 (ab M) bQ bK54 bK98) (hQ : ∀ (z0 : Int32) (u0 : Int) (m : Mem), z0.toInt = u0 → bQ u0 (ab m) → Q z0 m) (hK54 : ∀ (z0 : Nat) (z1 : Int32) (u1 : Int) (z2 : Int32) (u2 : Int) (z3 : Int32) (u3 : Int) (m : Mem), z1.toInt = u1 → z2.toInt = u2 → z3.toInt = u3 → bK54 z0 u1 u2 u3 (ab m) → K54 z0 z1 z2 z3 m) (hK98 : ∀ (z0 : Int32) (u0 : Int) (z1 : Int32) (u1 : Int) (m : Mem), z0.toInt = u0 → z1.toInt = u1 → bK98 u0 u1 (ab m) → K98 z0 z1 m) : wp_X5_check_90 x0 x3 x5 t0 M Q K54 K98 := by
  unfold sp_X5_check_90 at h
  unfold wp_X5_check_90
  obtain ⟨rr790, h⟩ := h
  intro i1 e_i1
  have q_i1 := (congrArg Int32.toInt e_i1).trans (taddI t_x5 (show (1 : Int32).toInt = 1 from rfl) rr790)
  replace h := h _ q_i1
  have t_i1 : i1.toInt = i1.toInt := rfl
  exact hK54 _ _ _ _ _ _ _ _ t_x3 t_t0 t_i1 h
theorem w_X5_check_54 {Q : Int32 → Mem → Prop} {bQ : Int → Im → Prop} {K98 : Int32 → Int32 → Mem → Prop} {bK98 : Int → Int → Im → Prop} : ∀ {n : Nat} {x0 : Nat} {x3 : Int32} {y_x3 : Int} {x4 : Int32} {y_x4 : Int} {x5 : Int32} {y_x5 : Int} {M : Mem} (t_x3 : x3.toInt = y_x3) (t_x4 : x4.toInt = y_x4) (t_x5 : x5.toInt = y_x5) (_ : sp_X5_check_54 n x0 y_x3 y_x4 y_x5 (ab M) bQ bK98) (_ : ∀ (z0 : Int32) (u0 : Int) (m : Mem), z0.toInt = u0 → bQ u0 (ab m) → Q z0 m) (_ : ∀ (z0 : Int32) (u0 : Int) (z1 : Int32) (u1 : Int) (m : Mem), z0.toInt = u0 → z1.toInt = u1 → bK98 u0 u1 (ab m) → K98 z0 z1 m), wp_X5_check_54 n x0 x3 x4 x5 M Q K98 := by
  intro n
  induction n with
  | zero => intro x0 x3 y_x3 x4 y_x4 x5 y_x5 M t_x3 t_x4 t_x5 h hQ hK98; exact h.elim
  | succ n ih =>
    intro x0 x3 y_x3 x4 y_x4 x5 y_x5 M t_x3 t_x4 t_x5 h hQ hK98
    unfold sp_X5_check_54 at h
    unfold wp_X5_check_54
    refine ⟨?_, ?_⟩
    · intro hc0
      replace h := h.1 (cleI (tr_I rfl) t_x5 hc0)
      exact hK98 _ _ _ _ _ t_x3 t_x4 h
    · intro hc0
      replace h := h.2 (cnleI (tr_I rfl) t_x5 hc0)
      refine ⟨?_, ?_⟩
      · intro hc0
        replace h := h.1 (ceqI t_x4 (show (0 : Int32).toInt = 0 from rfl) hc0)
        exact hK98 _ _ _ _ _ t_x3 t_x4 h
      · intro hc0
        replace h := h.2 (cneI t_x4 (show (0 : Int32).toInt = 0 from rfl) hc0)
        obtain ⟨hp, h⟩ := h
        refine ⟨(tinb t_x5 hp), ?_⟩
        obtain ⟨hp, h⟩ := h
        refine ⟨(tinb t_x5 hp), ?_⟩
        refine ⟨?_, ?_⟩
        · intro hc0
          replace h := h.1 (cneI (tr_I (tnatI t_x5)) (tr_I (tnatI t_x5)) hc0)
          refine w_X5_check_90 t_x3 t_x5 (show (0 : Int32).toInt = 0 from rfl) h hQ (fun x0 x3 y_x3 x4 y_x4 x5 y_x5 M t_x3 t_x4 t_x5 h => ?_) hK98
          refine ih t_x3 t_x4 t_x5 h hQ hK98
        · intro hc0
          replace h := h.2 (ceqI (tr_I (tnatI t_x5)) (tr_I (tnatI t_x5)) hc0)
          refine w_X5_check_90 t_x3 t_x5 (show (1 : Int32).toInt = 1 from rfl) h hQ (fun x0 x3 y_x3 x4 y_x4 x5 y_x5 M t_x3 t_x4 t_x5 h => ?_) hK98
          refine ih t_x3 t_x4 t_x5 h hQ hK98
theorem w_X5_check_107 {Q : Int32 → Mem → Prop} {bQ : Int → Im → Prop} {x4 : Int32} {y_x4 : Int} {t0 : Int32} {y_t0 : Int} {M : Mem} (t_x4 : x4.toInt = y_x4) (t_t0 : t0.toInt = y_t0) (h : sp_X5_check_107 y_x4 y_t0 (ab M) bQ) (hQ : ∀ (z0 : Int32) (u0 : Int) (m : Mem), z0.toInt = u0 → bQ u0 (ab m) → Q z0 m) : wp_X5_check_107 x4 t0 M Q := by
  unfold sp_X5_check_107 at h
  unfold wp_X5_check_107
  refine ⟨?_, ?_⟩
  · intro hc0
    replace h := h.1 (ceqI t_x4 (show (0 : Int32).toInt = 0 from rfl) hc0)
    unfold wp_X5_check_117
    obtain ⟨rr793, h⟩ := h
    exact hQ _ _ _ (taddI t_t0 (show (0 : Int32).toInt = 0 from rfl) rr793) h
  · intro hc0
    replace h := h.2 (cneI t_x4 (show (0 : Int32).toInt = 0 from rfl) hc0)
    unfold wp_X5_check_117
    obtain ⟨rr795, h⟩ := h
    exact hQ _ _ _ (taddI t_t0 (show (1 : Int32).toInt = 1 from rfl) rr795) h
theorem w_X5_check_49 {Q : Int32 → Mem → Prop} {bQ : Int → Im → Prop} {x0 : Nat} {x3 : Int32} {y_x3 : Int} {t0 : Int32} {y_t0 : Int} {M : Mem} (t_x3 : x3.toInt = y_x3) (t_t0 : t0.toInt = y_t0) (h : sp_X5_check_49 x0 y_x3 y_t0 (ab M) bQ) (hQ : ∀ (z0 : Int32) (u0 : Int) (m : Mem), z0.toInt = u0 → bQ u0 (ab m) → Q z0 m) : wp_X5_check_49 x0 x3 t0 M Q := by
  unfold sp_X5_check_49 at h
  unfold wp_X5_check_49
  obtain ⟨k54, h⟩ := h
  refine ⟨k54, ?_⟩
  refine w_X5_check_54 t_x3 t_t0 (show (0 : Int32).toInt = 0 from rfl) h hQ (fun x3 y_x3 x4 y_x4 M t_x3 t_x4 h => ?_)
  unfold wp_X5_check_98
  refine ⟨?_, ?_⟩
  · intro hc0
    replace h := h.1 (ceqI t_x3 (show (0 : Int32).toInt = 0 from rfl) hc0)
    refine w_X5_check_107 t_x4 (show (0 : Int32).toInt = 0 from rfl) h hQ
  · intro hc0
    replace h := h.2 (cneI t_x3 (show (0 : Int32).toInt = 0 from rfl) hc0)
    refine w_X5_check_107 t_x4 (show (2 : Int32).toInt = 2 from rfl) h hQ
theorem w_X5_check {Q : Int32 → Mem → Prop} {bQ : Int → Im → Prop} {x0 : Nat} {x1 : Int64} {y_x1 : Int} {M : Mem} (t_x1 : x1.toInt = y_x1) (h : sp_X5_check x0 y_x1 (ab M) bQ) (hQ : ∀ (z0 : Int32) (u0 : Int) (m : Mem), z0.toInt = u0 → bQ u0 (ab m) → Q z0 m) : wp_X5_check x0 x1 M Q := by
  unfold sp_X5_check at h
  unfold wp_X5_check
  obtain ⟨hp, h⟩ := h
  refine ⟨hp, ?_⟩
  refine ⟨?_, ?_⟩
  · intro hc0
    replace h := h.1 (cneI (tr_I rfl) (show (0 : Int32).toInt = 0 from rfl) hc0)
    refine w_X5_isKey t_x1 h (fun i3 y_i3 M2 t_i3 h => ?_)
    refine ⟨?_, ?_⟩
    · intro hc0
      replace h := h.1 (ceqI t_i3 (show (0 : Int32).toInt = 0 from rfl) hc0)
      unfold wp_X5_check_24
      exact hQ _ _ _ (show (-2 : Int32).toInt = -2 from rfl) h
    · intro hc0
      replace h := h.2 (cneI t_i3 (show (0 : Int32).toInt = 0 from rfl) hc0)
      refine ⟨?_, ?_⟩
      · intro hc0
        replace h := h.1 (cneI (tr_I rfl) (show (0 : Int32).toInt = 0 from rfl) hc0)
        refine w_X5_found t_x1 h (fun i5 y_i5 M4 t_i5 h => ?_)
        refine ⟨?_, ?_⟩
        · intro hc0
          replace h := h.1 (cneI (tr_I rfl) (tr_I rfl) hc0)
          refine w_X5_check_49 t_i5 (show (0 : Int32).toInt = 0 from rfl) h hQ
        · intro hc0
          replace h := h.2 (ceqI (tr_I rfl) (tr_I rfl) hc0)
          refine w_X5_check_49 t_i5 (show (1 : Int32).toInt = 1 from rfl) h hQ
      · intro hc0
        replace h := h.2 (ceqI (tr_I rfl) (show (0 : Int32).toInt = 0 from rfl) hc0)
        unfold wp_X5_check_24
        exact hQ _ _ _ (show (-2 : Int32).toInt = -2 from rfl) h
  · intro hc0
    replace h := h.2 (ceqI (tr_I rfl) (show (0 : Int32).toInt = 0 from rfl) hc0)
    exact hQ _ _ _ (show (-1 : Int32).toInt = -1 from rfl) h
theorem w_X5_looks {Q : Int32 → Mem → Prop} {bQ : Int → Im → Prop} {x0 : Nat} {M : Mem} (h : sp_X5_looks x0 (ab M) bQ) (hQ : ∀ (z0 : Int32) (u0 : Int) (m : Mem), z0.toInt = u0 → bQ u0 (ab m) → Q z0 m) : wp_X5_looks x0 M Q := by
  unfold sp_X5_looks at h
  unfold wp_X5_looks
  obtain ⟨hp, h⟩ := h
  refine ⟨hp, ?_⟩
  exact hQ _ _ _ (tr_I rfl) h
theorem w_X5_told {Q : Int32 → Mem → Prop} {bQ : Int → Im → Prop} {x0 : Nat} {x1 : Int32} {y_x1 : Int} {M : Mem} (t_x1 : x1.toInt = y_x1) (h : sp_X5_told x0 y_x1 (ab M) bQ) (hQ : ∀ (z0 : Int32) (u0 : Int) (m : Mem), z0.toInt = u0 → bQ u0 (ab m) → Q z0 m) : wp_X5_told x0 x1 M Q := by
  unfold sp_X5_told at h
  unfold wp_X5_told
  obtain ⟨hp, h⟩ := h
  refine ⟨hp, ?_⟩
  refine ⟨?_, ?_⟩
  · intro hc0
    replace h := h.1 (cltI t_x1 (show (0 : Int32).toInt = 0 from rfl) hc0)
    unfold wp_X5_told_12
    unfold wp_X5_told_23
    exact hQ _ _ _ (show (-2 : Int32).toInt = -2 from rfl) h
  · intro hc0
    replace h := h.2 (cnltI t_x1 (show (0 : Int32).toInt = 0 from rfl) hc0)
    refine ⟨?_, ?_⟩
    · intro hc0
      replace h := h.1 (cltI t_x1 (tr_I rfl) hc0)
      obtain ⟨hp, h⟩ := h
      refine ⟨(tinb t_x1 hp), ?_⟩
      unfold wp_X5_told_23
      exact hQ _ _ _ (tr_I (tnatI t_x1)) h
    · intro hc0
      replace h := h.2 (cnltI t_x1 (tr_I rfl) hc0)
      unfold wp_X5_told_12
      unfold wp_X5_told_23
      exact hQ _ _ _ (show (-2 : Int32).toInt = -2 from rfl) h
theorem w_X5_insert_96 {Q : Int32 → Mem → Prop} {bQ : Int → Im → Prop} {K152 : Nat → Int64 → Int32 → Int32 → Mem → Prop} {bK152 : Nat → Int → Int → Int → Im → Prop} : ∀ {n : Nat} {x0 : Nat} {x1 : Int64} {y_x1 : Int} {x3 : Int32} {y_x3 : Int} {x4 : Int32} {y_x4 : Int} {M : Mem} (t_x1 : x1.toInt = y_x1) (t_x3 : x3.toInt = y_x3) (t_x4 : x4.toInt = y_x4) (_ : sp_X5_insert_96 n x0 y_x1 y_x3 y_x4 (ab M) bQ bK152) (_ : ∀ (z0 : Int32) (u0 : Int) (m : Mem), z0.toInt = u0 → bQ u0 (ab m) → Q z0 m) (_ : ∀ (z0 : Nat) (z1 : Int64) (u1 : Int) (z2 : Int32) (u2 : Int) (z3 : Int32) (u3 : Int) (m : Mem), z1.toInt = u1 → z2.toInt = u2 → z3.toInt = u3 → bK152 z0 u1 u2 u3 (ab m) → K152 z0 z1 z2 z3 m), wp_X5_insert_96 n x0 x1 x3 x4 M Q K152 := by
  intro n
  induction n with
  | zero => intro x0 x1 y_x1 x3 y_x3 x4 y_x4 M t_x1 t_x3 t_x4 h hQ hK152; exact h.elim
  | succ n ih =>
    intro x0 x1 y_x1 x3 y_x3 x4 y_x4 M t_x1 t_x3 t_x4 h hQ hK152
    unfold sp_X5_insert_96 at h
    unfold wp_X5_insert_96
    refine ⟨?_, ?_⟩
    · intro hc0
      replace h := h.1 (cleI t_x4 (show (0 : Int32).toInt = 0 from rfl) hc0)
      exact hK152 _ _ _ _ _ _ _ _ t_x1 t_x3 t_x4 h
    · intro hc0
      replace h := h.2 (cnleI t_x4 (show (0 : Int32).toInt = 0 from rfl) hc0)
      obtain ⟨rr817, h⟩ := h
      obtain ⟨rr818, h⟩ := h
      obtain ⟨rr819, h⟩ := h
      obtain ⟨hp, h⟩ := h
      refine ⟨(tinb (tsubI (taddI (tmulI (show (16 : Int32).toInt = 16 from rfl) t_x3 rr817) t_x4 rr818) (show (1 : Int32).toInt = 1 from rfl) rr819) hp), ?_⟩
      obtain ⟨rr820, h⟩ := h
      obtain ⟨rr821, h⟩ := h
      obtain ⟨rr822, h⟩ := h
      refine ⟨?_, ?_⟩
      · intro hc0
        replace h := h.1 (cleJ (tr_L (tnatI (tsubI (taddI (tmulI (show (16 : Int32).toInt = 16 from rfl) t_x3 rr820) t_x4 rr821) (show (1 : Int32).toInt = 1 from rfl) rr822))) t_x1 hc0)
        exact hK152 _ _ _ _ _ _ _ _ t_x1 t_x3 t_x4 h
      · intro hc0
        replace h := h.2 (cnleJ (tr_L (tnatI (tsubI (taddI (tmulI (show (16 : Int32).toInt = 16 from rfl) t_x3 rr820) t_x4 rr821) (show (1 : Int32).toInt = 1 from rfl) rr822))) t_x1 hc0)
        obtain ⟨rr826, h⟩ := h
        obtain ⟨rr827, h⟩ := h
        obtain ⟨rr828, h⟩ := h
        obtain ⟨hp, h⟩ := h
        refine ⟨(tinb (tsubI (taddI (tmulI (show (16 : Int32).toInt = 16 from rfl) t_x3 rr826) t_x4 rr827) (show (1 : Int32).toInt = 1 from rfl) rr828) hp), ?_⟩
        obtain ⟨rr829, h⟩ := h
        obtain ⟨rr830, h⟩ := h
        obtain ⟨hp, h⟩ := h
        refine ⟨(tinb (taddI (tmulI (show (16 : Int32).toInt = 16 from rfl) t_x3 rr829) t_x4 rr830) hp), ?_⟩
        obtain ⟨rr831, h⟩ := h
        obtain ⟨rr832, h⟩ := h
        obtain ⟨rr833, h⟩ := h
        obtain ⟨rr834, h⟩ := h
        obtain ⟨rr835, h⟩ := h
        intro M1 e_M1
        replace h := h (ab M1) ((congrArg ab e_M1).trans (ab_sL (tnatI (taddI (tmulI (show (16 : Int32).toInt = 16 from rfl) t_x3 rr831) t_x4 rr832)) (tr_L (tnatI (tsubI (taddI (tmulI (show (16 : Int32).toInt = 16 from rfl) t_x3 rr833) t_x4 rr834) (show (1 : Int32).toInt = 1 from rfl) rr835)))))
        obtain ⟨rr836, h⟩ := h
        intro i2 e_i2
        have q_i2 := (congrArg Int32.toInt e_i2).trans (taddI t_x4 (show (-1 : Int32).toInt = -1 from rfl) rr836)
        replace h := h _ q_i2
        have t_i2 : i2.toInt = i2.toInt := rfl
        refine ih t_x1 t_x3 t_i2 h hQ hK152
theorem w_X5_insert {Q : Int32 → Mem → Prop} {bQ : Int → Im → Prop} {x0 : Nat} {x1 : Int64} {y_x1 : Int} {M : Mem} (t_x1 : x1.toInt = y_x1) (h : sp_X5_insert x0 y_x1 (ab M) bQ) (hQ : ∀ (z0 : Int32) (u0 : Int) (m : Mem), z0.toInt = u0 → bQ u0 (ab m) → Q z0 m) : wp_X5_insert x0 x1 M Q := by
  unfold sp_X5_insert at h
  unfold wp_X5_insert
  obtain ⟨hp, h⟩ := h
  refine ⟨hp, ?_⟩
  refine ⟨?_, ?_⟩
  · intro hc0
    replace h := h.1 (cneI (tr_I rfl) (show (0 : Int32).toInt = 0 from rfl) hc0)
    refine w_X5_isKey t_x1 h (fun i10 y_i10 M9 t_i10 h => ?_)
    refine ⟨?_, ?_⟩
    · intro hc0
      replace h := h.1 (cneI t_i10 (show (0 : Int32).toInt = 0 from rfl) hc0)
      refine w_X5_found t_x1 h (fun i12 y_i12 M11 t_i12 h => ?_)
      refine ⟨?_, ?_⟩
      · intro hc0
        replace h := h.1 (ceqI t_i12 (show (0 : Int32).toInt = 0 from rfl) hc0)
        refine w_X5_there  h (fun i14 y_i14 M13 t_i14 h => ?_)
        refine ⟨?_, ?_⟩
        · intro hc0
          replace h := h.1 (cneI t_i14 (show (300 : Int32).toInt = 300 from rfl) hc0)
          intro i15 e_i15
          have q_i15 := (congrArg Int32.toInt e_i15).trans (tr_I rfl)
          replace h := h _ q_i15
          have t_i15 : i15.toInt = i15.toInt := rfl
          obtain ⟨hp, h⟩ := h
          refine ⟨(tinb t_i15 hp), ?_⟩
          obtain ⟨rr849, h⟩ := h
          obtain ⟨hp, h⟩ := h
          refine ⟨(tinb (taddI (tr_I (tnatI t_i15)) (tr_I rfl) rr849) hp), ?_⟩
          obtain ⟨rr850, h⟩ := h
          refine ⟨?_, ?_⟩
          · intro hc0
            replace h := h.1 (cneJ (tr_L (tnatI (taddI (tr_I (tnatI t_i15)) (tr_I rfl) rr850))) t_x1 hc0)
            obtain ⟨hp, h⟩ := h
            refine ⟨(tinb t_i15 hp), ?_⟩
            intro i16 e_i16
            have q_i16 := (congrArg Int32.toInt e_i16).trans (tr_I (tnatI t_i15))
            replace h := h _ q_i16
            have t_i16 : i16.toInt = i16.toInt := rfl
            obtain ⟨k96, h⟩ := h
            refine ⟨k96, ?_⟩
            refine w_X5_insert_96 t_x1 t_i15 t_i16 h hQ (fun x0 x1 y_x1 x3 y_x3 x4 y_x4 M t_x1 t_x3 t_x4 h => ?_)
            unfold wp_X5_insert_152
            obtain ⟨rr852, h⟩ := h
            obtain ⟨rr853, h⟩ := h
            obtain ⟨hp, h⟩ := h
            refine ⟨(tinb (taddI (tmulI (show (16 : Int32).toInt = 16 from rfl) t_x3 rr852) t_x4 rr853) hp), ?_⟩
            obtain ⟨rr854, h⟩ := h
            obtain ⟨rr855, h⟩ := h
            intro M3 e_M3
            replace h := h (ab M3) ((congrArg ab e_M3).trans (ab_sL (tnatI (taddI (tmulI (show (16 : Int32).toInt = 16 from rfl) t_x3 rr854) t_x4 rr855)) t_x1))
            obtain ⟨hp, h⟩ := h
            refine ⟨(tinb t_x3 hp), ?_⟩
            obtain ⟨hp, h⟩ := h
            refine ⟨(tinb t_x3 hp), ?_⟩
            obtain ⟨rr856, h⟩ := h
            intro M4 e_M4
            replace h := h (ab M4) ((congrArg ab e_M4).trans (ab_sI (tnatI t_x3) (taddI (tr_I (tnatI t_x3)) (show (1 : Int32).toInt = 1 from rfl) rr856)))
            obtain ⟨hp, h⟩ := h
            refine ⟨(tinb t_x3 hp), ?_⟩
            refine ⟨?_, ?_⟩
            · intro hc0
              replace h := h.1 (cleI (show (16 : Int32).toInt = 16 from rfl) (tr_I (tnatI t_x3)) hc0)
              intro M5 e_M5
              replace h := h (ab M5) ((congrArg ab e_M5).trans (ab_sI rfl (show (0 : Int32).toInt = 0 from rfl)))
              refine w_X5_gather t_x3 h (fun M6 h => ?_)
              obtain ⟨rr857, h⟩ := h
              refine w_X5_replace t_x3 (taddI t_x3 (show (1 : Int32).toInt = 1 from rfl) rr857) (show (1 : Int32).toInt = 1 from rfl) h (fun M7 h => ?_)
              obtain ⟨rr858, h⟩ := h
              intro M8 e_M8
              replace h := h (ab M8) ((congrArg ab e_M8).trans (ab_sI rfl (taddI (tr_I rfl) (show (1 : Int32).toInt = 1 from rfl) rr858)))
              exact hQ _ _ _ (show (1 : Int32).toInt = 1 from rfl) h
            · intro hc0
              replace h := h.2 (cnleI (show (16 : Int32).toInt = 16 from rfl) (tr_I (tnatI t_x3)) hc0)
              exact hQ _ _ _ (show (1 : Int32).toInt = 1 from rfl) h
          · intro hc0
            replace h := h.2 (ceqJ (tr_L (tnatI (taddI (tr_I (tnatI t_i15)) (tr_I rfl) rr850))) t_x1 hc0)
            obtain ⟨hp, h⟩ := h
            refine ⟨(tinb t_i15 hp), ?_⟩
            obtain ⟨rr859, h⟩ := h
            obtain ⟨hp, h⟩ := h
            refine ⟨(tinb (taddI (tr_I (tnatI t_i15)) (tr_I rfl) rr859) hp), ?_⟩
            obtain ⟨rr860, h⟩ := h
            intro M17 e_M17
            replace h := h (ab M17) ((congrArg ab e_M17).trans (ab_sI (tnatI (taddI (tr_I (tnatI t_i15)) (tr_I rfl) rr860)) (show (0 : Int32).toInt = 0 from rfl)))
            exact hQ _ _ _ (show (1 : Int32).toInt = 1 from rfl) h
        · intro hc0
          replace h := h.2 (ceqI t_i14 (show (300 : Int32).toInt = 300 from rfl) hc0)
          exact hQ _ _ _ (show (-3 : Int32).toInt = -3 from rfl) h
      · intro hc0
        replace h := h.2 (cneI t_i12 (show (0 : Int32).toInt = 0 from rfl) hc0)
        exact hQ _ _ _ (show (0 : Int32).toInt = 0 from rfl) h
    · intro hc0
      replace h := h.2 (ceqI t_i10 (show (0 : Int32).toInt = 0 from rfl) hc0)
      exact hQ _ _ _ (show (-2 : Int32).toInt = -2 from rfl) h
  · intro hc0
    replace h := h.2 (ceqI (tr_I rfl) (show (0 : Int32).toInt = 0 from rfl) hc0)
    exact hQ _ _ _ (show (-1 : Int32).toInt = -1 from rfl) h
theorem w_X5_drop_77 {Q : Int32 → Mem → Prop} {bQ : Int → Im → Prop} {K120 : Mem → Prop} {bK120 : Im → Prop} : ∀ {n : Nat} {x0 : Nat} {x3 : Int32} {y_x3 : Int} {x4 : Int32} {y_x4 : Int} {M : Mem} (t_x3 : x3.toInt = y_x3) (t_x4 : x4.toInt = y_x4) (_ : sp_X5_drop_77 n x0 y_x3 y_x4 (ab M) bQ bK120) (_ : ∀ (z0 : Int32) (u0 : Int) (m : Mem), z0.toInt = u0 → bQ u0 (ab m) → Q z0 m) (_ : ∀ (m : Mem), bK120 (ab m) → K120 m), wp_X5_drop_77 n x0 x3 x4 M Q K120 := by
  intro n
  induction n with
  | zero => intro x0 x3 y_x3 x4 y_x4 M t_x3 t_x4 h hQ hK120; exact h.elim
  | succ n ih =>
    intro x0 x3 y_x3 x4 y_x4 M t_x3 t_x4 h hQ hK120
    unfold sp_X5_drop_77 at h
    unfold wp_X5_drop_77
    obtain ⟨hp, h⟩ := h
    refine ⟨(tinb t_x3 hp), ?_⟩
    refine ⟨?_, ?_⟩
    · intro hc0
      replace h := h.1 (cleI (tr_I (tnatI t_x3)) t_x4 hc0)
      exact hK120 _  h
    · intro hc0
      replace h := h.2 (cnleI (tr_I (tnatI t_x3)) t_x4 hc0)
      obtain ⟨rr872, h⟩ := h
      obtain ⟨rr873, h⟩ := h
      obtain ⟨rr874, h⟩ := h
      obtain ⟨hp, h⟩ := h
      refine ⟨(tinb (taddI (taddI (tmulI (show (16 : Int32).toInt = 16 from rfl) t_x3 rr872) t_x4 rr873) (show (1 : Int32).toInt = 1 from rfl) rr874) hp), ?_⟩
      obtain ⟨rr875, h⟩ := h
      obtain ⟨rr876, h⟩ := h
      obtain ⟨hp, h⟩ := h
      refine ⟨(tinb (taddI (tmulI (show (16 : Int32).toInt = 16 from rfl) t_x3 rr875) t_x4 rr876) hp), ?_⟩
      obtain ⟨rr877, h⟩ := h
      obtain ⟨rr878, h⟩ := h
      obtain ⟨rr879, h⟩ := h
      obtain ⟨rr880, h⟩ := h
      obtain ⟨rr881, h⟩ := h
      intro M1 e_M1
      replace h := h (ab M1) ((congrArg ab e_M1).trans (ab_sL (tnatI (taddI (tmulI (show (16 : Int32).toInt = 16 from rfl) t_x3 rr877) t_x4 rr878)) (tr_L (tnatI (taddI (taddI (tmulI (show (16 : Int32).toInt = 16 from rfl) t_x3 rr879) t_x4 rr880) (show (1 : Int32).toInt = 1 from rfl) rr881)))))
      obtain ⟨rr882, h⟩ := h
      intro i2 e_i2
      have q_i2 := (congrArg Int32.toInt e_i2).trans (taddI t_x4 (show (1 : Int32).toInt = 1 from rfl) rr882)
      replace h := h _ q_i2
      have t_i2 : i2.toInt = i2.toInt := rfl
      refine ih t_x3 t_i2 h hQ hK120
theorem w_X5_drop {Q : Int32 → Mem → Prop} {bQ : Int → Im → Prop} {x0 : Nat} {x1 : Int64} {y_x1 : Int} {M : Mem} (t_x1 : x1.toInt = y_x1) (h : sp_X5_drop x0 y_x1 (ab M) bQ) (hQ : ∀ (z0 : Int32) (u0 : Int) (m : Mem), z0.toInt = u0 → bQ u0 (ab m) → Q z0 m) : wp_X5_drop x0 x1 M Q := by
  unfold sp_X5_drop at h
  unfold wp_X5_drop
  obtain ⟨hp, h⟩ := h
  refine ⟨hp, ?_⟩
  refine ⟨?_, ?_⟩
  · intro hc0
    replace h := h.1 (cneI (tr_I rfl) (show (0 : Int32).toInt = 0 from rfl) hc0)
    refine w_X5_isKey t_x1 h (fun i4 y_i4 M3 t_i4 h => ?_)
    refine ⟨?_, ?_⟩
    · intro hc0
      replace h := h.1 (cneI t_i4 (show (0 : Int32).toInt = 0 from rfl) hc0)
      refine w_X5_found t_x1 h (fun i6 y_i6 M5 t_i6 h => ?_)
      refine ⟨?_, ?_⟩
      · intro hc0
        replace h := h.1 (cneI t_i6 (show (0 : Int32).toInt = 0 from rfl) hc0)
        intro i7 e_i7
        have q_i7 := (congrArg Int32.toInt e_i7).trans (tr_I rfl)
        replace h := h _ q_i7
        have t_i7 : i7.toInt = i7.toInt := rfl
        refine ⟨?_, ?_⟩
        · intro hc0
          replace h := h.1 (cleI (show (0 : Int32).toInt = 0 from rfl) (tr_I rfl) hc0)
          obtain ⟨hp, h⟩ := h
          refine ⟨(tinb t_i7 hp), ?_⟩
          obtain ⟨hp, h⟩ := h
          refine ⟨(tinb t_i7 hp), ?_⟩
          obtain ⟨rr886, h⟩ := h
          intro M8 e_M8
          replace h := h (ab M8) ((congrArg ab e_M8).trans (ab_sI (tnatI t_i7) (tsubI (tr_I (tnatI t_i7)) (show (1 : Int32).toInt = 1 from rfl) rr886)))
          intro i9 e_i9
          have q_i9 := (congrArg Int32.toInt e_i9).trans (tr_I rfl)
          replace h := h _ q_i9
          have t_i9 : i9.toInt = i9.toInt := rfl
          obtain ⟨k77, h⟩ := h
          refine ⟨k77, ?_⟩
          refine w_X5_drop_77 t_i7 t_i9 h hQ (fun M h => ?_)
          unfold wp_X5_drop_120
          exact hQ _ _ _ (show (1 : Int32).toInt = 1 from rfl) h
        · intro hc0
          replace h := h.2 (cnleI (show (0 : Int32).toInt = 0 from rfl) (tr_I rfl) hc0)
          obtain ⟨hp, h⟩ := h
          refine ⟨(tinb t_i7 hp), ?_⟩
          obtain ⟨rr887, h⟩ := h
          obtain ⟨hp, h⟩ := h
          refine ⟨(tinb (taddI (tr_I (tnatI t_i7)) (tr_I rfl) rr887) hp), ?_⟩
          obtain ⟨rr888, h⟩ := h
          intro M10 e_M10
          replace h := h (ab M10) ((congrArg ab e_M10).trans (ab_sI (tnatI (taddI (tr_I (tnatI t_i7)) (tr_I rfl) rr888)) (show (1 : Int32).toInt = 1 from rfl)))
          exact hQ _ _ _ (show (1 : Int32).toInt = 1 from rfl) h
      · intro hc0
        replace h := h.2 (ceqI t_i6 (show (0 : Int32).toInt = 0 from rfl) hc0)
        exact hQ _ _ _ (show (0 : Int32).toInt = 0 from rfl) h
    · intro hc0
      replace h := h.2 (ceqI t_i4 (show (0 : Int32).toInt = 0 from rfl) hc0)
      exact hQ _ _ _ (show (-2 : Int32).toInt = -2 from rfl) h
  · intro hc0
    replace h := h.2 (ceqI (tr_I rfl) (show (0 : Int32).toInt = 0 from rfl) hc0)
    exact hQ _ _ _ (show (-1 : Int32).toInt = -1 from rfl) h
theorem w_X5_all_23 {Q : Mem → Prop} {bQ : Im → Prop} {K7 : Nat → Int32 → Mem → Prop} {bK7 : Nat → Int → Im → Prop} {K37 : Mem → Prop} {bK37 : Im → Prop} {x0 : Nat} {x1 : Int32} {y_x1 : Int} {t0 : Int32} {y_t0 : Int} {t1 : Int32} {y_t1 : Int} {M : Mem} (t_x1 : x1.toInt = y_x1) (t_t0 : t0.toInt = y_t0) (t_t1 : t1.toInt = y_t1) (h : sp_X5_all_23 x0 y_x1 y_t0 y_t1 (ab M) bQ bK7 bK37) (hQ : ∀ (m : Mem), bQ (ab m) → Q m) (hK7 : ∀ (z0 : Nat) (z1 : Int32) (u1 : Int) (m : Mem), z1.toInt = u1 → bK7 z0 u1 (ab m) → K7 z0 z1 m) (hK37 : ∀ (m : Mem), bK37 (ab m) → K37 m) : wp_X5_all_23 x0 x1 t0 t1 M Q K7 K37 := by
  unfold sp_X5_all_23 at h
  unfold wp_X5_all_23
  refine ⟨?_, ?_⟩
  · intro hc0
    replace h := h.1 (cleI t_t0 t_t1 hc0)
    exact hK37 _  h
  · intro hc0
    replace h := h.2 (cnleI t_t0 t_t1 hc0)
    refine w_X5_gather t_x1 h (fun M3 h => ?_)
    obtain ⟨rr890, h⟩ := h
    intro i4 e_i4
    have q_i4 := (congrArg Int32.toInt e_i4).trans (taddI t_x1 (show (1 : Int32).toInt = 1 from rfl) rr890)
    replace h := h _ q_i4
    have t_i4 : i4.toInt = i4.toInt := rfl
    exact hK7 _ _ _ _ t_i4 h
theorem w_X5_all_7 {Q : Mem → Prop} {bQ : Im → Prop} {K37 : Mem → Prop} {bK37 : Im → Prop} : ∀ {n : Nat} {x0 : Nat} {x1 : Int32} {y_x1 : Int} {M : Mem} (t_x1 : x1.toInt = y_x1) (_ : sp_X5_all_7 n x0 y_x1 (ab M) bQ bK37) (_ : ∀ (m : Mem), bQ (ab m) → Q m) (_ : ∀ (m : Mem), bK37 (ab m) → K37 m), wp_X5_all_7 n x0 x1 M Q K37 := by
  intro n
  induction n with
  | zero => intro x0 x1 y_x1 M t_x1 h hQ hK37; exact h.elim
  | succ n ih =>
    intro x0 x1 y_x1 M t_x1 h hQ hK37
    unfold sp_X5_all_7 at h
    unfold wp_X5_all_7
    refine ⟨?_, ?_⟩
    · intro hc0
      replace h := h.1 (ceqI (tr_I rfl) (show (0 : Int32).toInt = 0 from rfl) hc0)
      refine w_X5_all_23 t_x1 (show (0 : Int32).toInt = 0 from rfl) t_x1 h hQ (fun x0 x1 y_x1 M t_x1 h => ?_) hK37
      refine ih t_x1 h hQ hK37
    · intro hc0
      replace h := h.2 (cneI (tr_I rfl) (show (0 : Int32).toInt = 0 from rfl) hc0)
      refine w_X5_pieces  h (fun i2 y_i2 M1 t_i2 h => ?_)
      refine w_X5_all_23 t_x1 t_i2 t_x1 h hQ (fun x0 x1 y_x1 M t_x1 h => ?_) hK37
      refine ih t_x1 h hQ hK37
theorem w_X5_all {Q : Mem → Prop} {bQ : Im → Prop} {x0 : Nat} {M : Mem} (h : sp_X5_all x0 (ab M) bQ) (hQ : ∀ (m : Mem), bQ (ab m) → Q m) : wp_X5_all x0 M Q := by
  unfold sp_X5_all at h
  unfold wp_X5_all
  obtain ⟨hp, h⟩ := h
  refine ⟨hp, ?_⟩
  intro M5 e_M5
  replace h := h (ab M5) ((congrArg ab e_M5).trans (ab_sI rfl (show (0 : Int32).toInt = 0 from rfl)))
  obtain ⟨k7, h⟩ := h
  refine ⟨k7, ?_⟩
  refine w_X5_all_7 (show (0 : Int32).toInt = 0 from rfl) h hQ (fun M h => ?_)
  unfold wp_X5_all_37
  exact hQ _  h
theorem w_X5_at {Q : Int64 → Mem → Prop} {bQ : Int → Im → Prop} {x0 : Nat} {x1 : Int32} {y_x1 : Int} {M : Mem} (t_x1 : x1.toInt = y_x1) (h : sp_X5_at x0 y_x1 (ab M) bQ) (hQ : ∀ (z0 : Int64) (u0 : Int) (m : Mem), z0.toInt = u0 → bQ u0 (ab m) → Q z0 m) : wp_X5_at x0 x1 M Q := by
  unfold sp_X5_at at h
  unfold wp_X5_at
  obtain ⟨hp, h⟩ := h
  refine ⟨hp, ?_⟩
  refine w_X5_all  h (fun M1 h => ?_)
  refine ⟨?_, ?_⟩
  · intro hc0
    replace h := h.1 (cltI t_x1 (show (0 : Int32).toInt = 0 from rfl) hc0)
    unfold wp_X5_at_16
    unfold wp_X5_at_28
    exact hQ _ _ _ (show (-9223372036854775808 : Int64).toInt = -9223372036854775808 from rfl) h
  · intro hc0
    replace h := h.2 (cnltI t_x1 (show (0 : Int32).toInt = 0 from rfl) hc0)
    refine ⟨?_, ?_⟩
    · intro hc0
      replace h := h.1 (cltI t_x1 (tr_I rfl) hc0)
      obtain ⟨hp, h⟩ := h
      refine ⟨(tinb t_x1 hp), ?_⟩
      unfold wp_X5_at_28
      exact hQ _ _ _ (tr_L (tnatI t_x1)) h
    · intro hc0
      replace h := h.2 (cnltI t_x1 (tr_I rfl) hc0)
      unfold wp_X5_at_16
      unfold wp_X5_at_28
      exact hQ _ _ _ (show (-9223372036854775808 : Int64).toInt = -9223372036854775808 from rfl) h
theorem w_X5_ahead_6 {Q : Int32 → Mem → Prop} {bQ : Int → Im → Prop} {K31 : Int32 → Mem → Prop} {bK31 : Int → Im → Prop} : ∀ {n : Nat} {x0 : Nat} {x1 : Int64} {y_x1 : Int} {x3 : Int32} {y_x3 : Int} {M : Mem} (t_x1 : x1.toInt = y_x1) (t_x3 : x3.toInt = y_x3) (_ : sp_X5_ahead_6 n x0 y_x1 y_x3 (ab M) bQ bK31) (_ : ∀ (z0 : Int32) (u0 : Int) (m : Mem), z0.toInt = u0 → bQ u0 (ab m) → Q z0 m) (_ : ∀ (z0 : Int32) (u0 : Int) (m : Mem), z0.toInt = u0 → bK31 u0 (ab m) → K31 z0 m), wp_X5_ahead_6 n x0 x1 x3 M Q K31 := by
  intro n
  induction n with
  | zero => intro x0 x1 y_x1 x3 y_x3 M t_x1 t_x3 h hQ hK31; exact h.elim
  | succ n ih =>
    intro x0 x1 y_x1 x3 y_x3 M t_x1 t_x3 h hQ hK31
    unfold sp_X5_ahead_6 at h
    unfold wp_X5_ahead_6
    refine ⟨?_, ?_⟩
    · intro hc0
      replace h := h.1 (cleI (tr_I rfl) t_x3 hc0)
      exact hK31 _ _ _ t_x3 h
    · intro hc0
      replace h := h.2 (cnleI (tr_I rfl) t_x3 hc0)
      obtain ⟨hp, h⟩ := h
      refine ⟨(tinb t_x3 hp), ?_⟩
      refine ⟨?_, ?_⟩
      · intro hc0
        replace h := h.1 (cleJ t_x1 (tr_L (tnatI t_x3)) hc0)
        exact hK31 _ _ _ t_x3 h
      · intro hc0
        replace h := h.2 (cnleJ t_x1 (tr_L (tnatI t_x3)) hc0)
        obtain ⟨rr892, h⟩ := h
        intro i1 e_i1
        have q_i1 := (congrArg Int32.toInt e_i1).trans (taddI t_x3 (show (1 : Int32).toInt = 1 from rfl) rr892)
        replace h := h _ q_i1
        have t_i1 : i1.toInt = i1.toInt := rfl
        refine ih t_x1 t_i1 h hQ hK31
theorem w_X5_ahead {Q : Int32 → Mem → Prop} {bQ : Int → Im → Prop} {x0 : Nat} {x1 : Int64} {y_x1 : Int} {M : Mem} (t_x1 : x1.toInt = y_x1) (h : sp_X5_ahead x0 y_x1 (ab M) bQ) (hQ : ∀ (z0 : Int32) (u0 : Int) (m : Mem), z0.toInt = u0 → bQ u0 (ab m) → Q z0 m) : wp_X5_ahead x0 x1 M Q := by
  unfold sp_X5_ahead at h
  unfold wp_X5_ahead
  obtain ⟨hp, h⟩ := h
  refine ⟨hp, ?_⟩
  refine w_X5_all  h (fun M2 h => ?_)
  obtain ⟨k6, h⟩ := h
  refine ⟨k6, ?_⟩
  refine w_X5_ahead_6 t_x1 (show (0 : Int32).toInt = 0 from rfl) h hQ (fun x3 y_x3 M t_x3 h => ?_)
  unfold wp_X5_ahead_31
  exact hQ _ _ _ t_x3 h
theorem w_X5_below {Q : Int32 → Mem → Prop} {bQ : Int → Im → Prop} {x0 : Nat} {x1 : Int64} {y_x1 : Int} {M : Mem} (t_x1 : x1.toInt = y_x1) (h : sp_X5_below x0 y_x1 (ab M) bQ) (hQ : ∀ (z0 : Int32) (u0 : Int) (m : Mem), z0.toInt = u0 → bQ u0 (ab m) → Q z0 m) : wp_X5_below x0 x1 M Q := by
  unfold sp_X5_below at h
  unfold wp_X5_below
  obtain ⟨hp, h⟩ := h
  refine ⟨hp, ?_⟩
  refine ⟨?_, ?_⟩
  · intro hc0
    replace h := h.1 (cneI (tr_I rfl) (show (0 : Int32).toInt = 0 from rfl) hc0)
    refine w_X5_isKey t_x1 h (fun i2 y_i2 M1 t_i2 h => ?_)
    refine ⟨?_, ?_⟩
    · intro hc0
      replace h := h.1 (ceqI t_i2 (show (0 : Int32).toInt = 0 from rfl) hc0)
      unfold wp_X5_below_27
      exact hQ _ _ _ (show (-2 : Int32).toInt = -2 from rfl) h
    · intro hc0
      replace h := h.2 (cneI t_i2 (show (0 : Int32).toInt = 0 from rfl) hc0)
      refine w_X5_ahead t_x1 h (fun i4 y_i4 M3 t_i4 h => ?_)
      unfold wp_X5_below_27
      exact hQ _ _ _ t_i4 h
  · intro hc0
    replace h := h.2 (ceqI (tr_I rfl) (show (0 : Int32).toInt = 0 from rfl) hc0)
    exact hQ _ _ _ (show (-1 : Int32).toInt = -1 from rfl) h
theorem w_X5_above_6 {Q : Int64 → Mem → Prop} {bQ : Int → Im → Prop} {K31 : Nat → Int32 → Mem → Prop} {bK31 : Nat → Int → Im → Prop} : ∀ {n : Nat} {x0 : Nat} {x1 : Int64} {y_x1 : Int} {x3 : Int32} {y_x3 : Int} {M : Mem} (t_x1 : x1.toInt = y_x1) (t_x3 : x3.toInt = y_x3) (_ : sp_X5_above_6 n x0 y_x1 y_x3 (ab M) bQ bK31) (_ : ∀ (z0 : Int64) (u0 : Int) (m : Mem), z0.toInt = u0 → bQ u0 (ab m) → Q z0 m) (_ : ∀ (z0 : Nat) (z1 : Int32) (u1 : Int) (m : Mem), z1.toInt = u1 → bK31 z0 u1 (ab m) → K31 z0 z1 m), wp_X5_above_6 n x0 x1 x3 M Q K31 := by
  intro n
  induction n with
  | zero => intro x0 x1 y_x1 x3 y_x3 M t_x1 t_x3 h hQ hK31; exact h.elim
  | succ n ih =>
    intro x0 x1 y_x1 x3 y_x3 M t_x1 t_x3 h hQ hK31
    unfold sp_X5_above_6 at h
    unfold wp_X5_above_6
    refine ⟨?_, ?_⟩
    · intro hc0
      replace h := h.1 (cleI (tr_I rfl) t_x3 hc0)
      exact hK31 _ _ _ _ t_x3 h
    · intro hc0
      replace h := h.2 (cnleI (tr_I rfl) t_x3 hc0)
      obtain ⟨hp, h⟩ := h
      refine ⟨(tinb t_x3 hp), ?_⟩
      refine ⟨?_, ?_⟩
      · intro hc0
        replace h := h.1 (cltJ t_x1 (tr_L (tnatI t_x3)) hc0)
        exact hK31 _ _ _ _ t_x3 h
      · intro hc0
        replace h := h.2 (cnltJ t_x1 (tr_L (tnatI t_x3)) hc0)
        obtain ⟨rr894, h⟩ := h
        intro i1 e_i1
        have q_i1 := (congrArg Int32.toInt e_i1).trans (taddI t_x3 (show (1 : Int32).toInt = 1 from rfl) rr894)
        replace h := h _ q_i1
        have t_i1 : i1.toInt = i1.toInt := rfl
        refine ih t_x1 t_i1 h hQ hK31
theorem w_X5_above {Q : Int64 → Mem → Prop} {bQ : Int → Im → Prop} {x0 : Nat} {x1 : Int64} {y_x1 : Int} {M : Mem} (t_x1 : x1.toInt = y_x1) (h : sp_X5_above x0 y_x1 (ab M) bQ) (hQ : ∀ (z0 : Int64) (u0 : Int) (m : Mem), z0.toInt = u0 → bQ u0 (ab m) → Q z0 m) : wp_X5_above x0 x1 M Q := by
  unfold sp_X5_above at h
  unfold wp_X5_above
  obtain ⟨hp, h⟩ := h
  refine ⟨hp, ?_⟩
  refine w_X5_all  h (fun M2 h => ?_)
  obtain ⟨k6, h⟩ := h
  refine ⟨k6, ?_⟩
  refine w_X5_above_6 t_x1 (show (0 : Int32).toInt = 0 from rfl) h hQ (fun x0 x3 y_x3 M t_x3 h => ?_)
  unfold wp_X5_above_31
  refine ⟨?_, ?_⟩
  · intro hc0
    replace h := h.1 (cleI (tr_I rfl) t_x3 hc0)
    unfold wp_X5_above_51
    exact hQ _ _ _ (show (-9223372036854775808 : Int64).toInt = -9223372036854775808 from rfl) h
  · intro hc0
    replace h := h.2 (cnleI (tr_I rfl) t_x3 hc0)
    obtain ⟨hp, h⟩ := h
    refine ⟨(tinb t_x3 hp), ?_⟩
    unfold wp_X5_above_51
    exact hQ _ _ _ (tr_L (tnatI t_x3)) h
theorem w_X5_between {Q : Int32 → Mem → Prop} {bQ : Int → Im → Prop} {x0 : Nat} {x1 : Int64} {y_x1 : Int} {x3 : Int64} {y_x3 : Int} {M : Mem} (t_x1 : x1.toInt = y_x1) (t_x3 : x3.toInt = y_x3) (h : sp_X5_between x0 y_x1 y_x3 (ab M) bQ) (hQ : ∀ (z0 : Int32) (u0 : Int) (m : Mem), z0.toInt = u0 → bQ u0 (ab m) → Q z0 m) : wp_X5_between x0 x1 x3 M Q := by
  unfold sp_X5_between at h
  unfold wp_X5_between
  obtain ⟨hp, h⟩ := h
  refine ⟨hp, ?_⟩
  refine ⟨?_, ?_⟩
  · intro hc0
    replace h := h.1 (cneI (tr_I rfl) (show (0 : Int32).toInt = 0 from rfl) hc0)
    refine w_X5_isKey t_x1 h (fun i2 y_i2 M1 t_i2 h => ?_)
    refine ⟨?_, ?_⟩
    · intro hc0
      replace h := h.1 (ceqI t_i2 (show (0 : Int32).toInt = 0 from rfl) hc0)
      unfold wp_X5_between_25
      exact hQ _ _ _ (show (-2 : Int32).toInt = -2 from rfl) h
    · intro hc0
      replace h := h.2 (cneI t_i2 (show (0 : Int32).toInt = 0 from rfl) hc0)
      refine w_X5_isKey t_x3 h (fun i4 y_i4 M3 t_i4 h => ?_)
      refine ⟨?_, ?_⟩
      · intro hc0
        replace h := h.1 (cneI t_i4 (show (0 : Int32).toInt = 0 from rfl) hc0)
        refine ⟨?_, ?_⟩
        · intro hc0
          replace h := h.1 (cltJ t_x1 t_x3 hc0)
          refine w_X5_ahead t_x3 h (fun i6 y_i6 M5 t_i6 h => ?_)
          refine w_X5_ahead t_x1 h (fun i8 y_i8 M7 t_i8 h => ?_)
          unfold wp_X5_between_49
          obtain ⟨rr896, h⟩ := h
          exact hQ _ _ _ (tsubI t_i6 t_i8 rr896) h
        · intro hc0
          replace h := h.2 (cnltJ t_x1 t_x3 hc0)
          unfold wp_X5_between_49
          exact hQ _ _ _ (show (0 : Int32).toInt = 0 from rfl) h
      · intro hc0
        replace h := h.2 (ceqI t_i4 (show (0 : Int32).toInt = 0 from rfl) hc0)
        unfold wp_X5_between_25
        exact hQ _ _ _ (show (-2 : Int32).toInt = -2 from rfl) h
  · intro hc0
    replace h := h.2 (ceqI (tr_I rfl) (show (0 : Int32).toInt = 0 from rfl) hc0)
    exact hQ _ _ _ (show (-1 : Int32).toInt = -1 from rfl) h
theorem w_X5_layers {Q : Int32 → Mem → Prop} {bQ : Int → Im → Prop} {x0 : Nat} {M : Mem} (h : sp_X5_layers x0 (ab M) bQ) (hQ : ∀ (z0 : Int32) (u0 : Int) (m : Mem), z0.toInt = u0 → bQ u0 (ab m) → Q z0 m) : wp_X5_layers x0 M Q := by
  unfold sp_X5_layers at h
  unfold wp_X5_layers
  obtain ⟨hp, h⟩ := h
  refine ⟨hp, ?_⟩
  refine ⟨?_, ?_⟩
  · intro hc0
    replace h := h.1 (ceqI (tr_I rfl) (show (0 : Int32).toInt = 0 from rfl) hc0)
    unfold wp_X5_layers_15
    exact hQ _ _ _ (show (-1 : Int32).toInt = -1 from rfl) h
  · intro hc0
    replace h := h.2 (cneI (tr_I rfl) (show (0 : Int32).toInt = 0 from rfl) hc0)
    unfold wp_X5_layers_15
    exact hQ _ _ _ (tr_I rfl) h
theorem w_X5_pieces_ {Q : Int32 → Mem → Prop} {bQ : Int → Im → Prop} {x0 : Nat} {x1 : Int32} {y_x1 : Int} {M : Mem} (t_x1 : x1.toInt = y_x1) (h : sp_X5_pieces_ x0 y_x1 (ab M) bQ) (hQ : ∀ (z0 : Int32) (u0 : Int) (m : Mem), z0.toInt = u0 → bQ u0 (ab m) → Q z0 m) : wp_X5_pieces_ x0 x1 M Q := by
  unfold sp_X5_pieces_ at h
  unfold wp_X5_pieces_
  obtain ⟨hp, h⟩ := h
  refine ⟨hp, ?_⟩
  refine ⟨?_, ?_⟩
  · intro hc0
    replace h := h.1 (ceqI (tr_I rfl) (show (0 : Int32).toInt = 0 from rfl) hc0)
    unfold wp_X5_pieces__20
    unfold wp_X5_pieces__41
    exact hQ _ _ _ (show (-1 : Int32).toInt = -1 from rfl) h
  · intro hc0
    replace h := h.2 (cneI (tr_I rfl) (show (0 : Int32).toInt = 0 from rfl) hc0)
    refine ⟨?_, ?_⟩
    · intro hc0
      replace h := h.1 (cltI t_x1 (show (-1 : Int32).toInt = -1 from rfl) hc0)
      unfold wp_X5_pieces__20
      unfold wp_X5_pieces__41
      exact hQ _ _ _ (show (-1 : Int32).toInt = -1 from rfl) h
    · intro hc0
      replace h := h.2 (cnltI t_x1 (show (-1 : Int32).toInt = -1 from rfl) hc0)
      refine ⟨?_, ?_⟩
      · intro hc0
        replace h := h.1 (cltI t_x1 (tr_I rfl) hc0)
        obtain ⟨rr903, h⟩ := h
        obtain ⟨hp, h⟩ := h
        refine ⟨(tinb (taddI t_x1 (show (1 : Int32).toInt = 1 from rfl) rr903) hp), ?_⟩
        obtain ⟨rr904, h⟩ := h
        obtain ⟨hp, h⟩ := h
        refine ⟨(tinb (taddI t_x1 (show (1 : Int32).toInt = 1 from rfl) rr904) hp), ?_⟩
        unfold wp_X5_pieces__41
        obtain ⟨rr905, h⟩ := h
        obtain ⟨rr906, h⟩ := h
        obtain ⟨rr907, h⟩ := h
        exact hQ _ _ _ (tsubI (tr_I (tnatI (taddI t_x1 (show (1 : Int32).toInt = 1 from rfl) rr905))) (tr_I (tnatI (taddI t_x1 (show (1 : Int32).toInt = 1 from rfl) rr906))) rr907) h
      · intro hc0
        replace h := h.2 (cnltI t_x1 (tr_I rfl) hc0)
        unfold wp_X5_pieces__20
        unfold wp_X5_pieces__41
        exact hQ _ _ _ (show (-1 : Int32).toInt = -1 from rfl) h
theorem w_X5_pieceOf {Q : Int32 → Mem → Prop} {bQ : Int → Im → Prop} {x0 : Nat} {x1 : Int32} {y_x1 : Int} {x2 : Int32} {y_x2 : Int} {M : Mem} (t_x1 : x1.toInt = y_x1) (t_x2 : x2.toInt = y_x2) (h : sp_X5_pieceOf x0 y_x1 y_x2 (ab M) bQ) (hQ : ∀ (z0 : Int32) (u0 : Int) (m : Mem), z0.toInt = u0 → bQ u0 (ab m) → Q z0 m) : wp_X5_pieceOf x0 x1 x2 M Q := by
  unfold sp_X5_pieceOf at h
  unfold wp_X5_pieceOf
  obtain ⟨hp, h⟩ := h
  refine ⟨hp, ?_⟩
  refine ⟨?_, ?_⟩
  · intro hc0
    replace h := h.1 (ceqI (tr_I rfl) (show (0 : Int32).toInt = 0 from rfl) hc0)
    unfold wp_X5_pieceOf_45
    exact hQ _ _ _ (show (-1 : Int32).toInt = -1 from rfl) h
  · intro hc0
    replace h := h.2 (cneI (tr_I rfl) (show (0 : Int32).toInt = 0 from rfl) hc0)
    refine ⟨?_, ?_⟩
    · intro hc0
      replace h := h.1 (cltI t_x1 (show (-1 : Int32).toInt = -1 from rfl) hc0)
      unfold wp_X5_pieceOf_45
      exact hQ _ _ _ (show (-1 : Int32).toInt = -1 from rfl) h
    · intro hc0
      replace h := h.2 (cnltI t_x1 (show (-1 : Int32).toInt = -1 from rfl) hc0)
      refine ⟨?_, ?_⟩
      · intro hc0
        replace h := h.1 (cleI (tr_I rfl) t_x1 hc0)
        unfold wp_X5_pieceOf_45
        exact hQ _ _ _ (show (-1 : Int32).toInt = -1 from rfl) h
      · intro hc0
        replace h := h.2 (cnleI (tr_I rfl) t_x1 hc0)
        refine ⟨?_, ?_⟩
        · intro hc0
          replace h := h.1 (cltI t_x2 (show (0 : Int32).toInt = 0 from rfl) hc0)
          unfold wp_X5_pieceOf_45
          exact hQ _ _ _ (show (-1 : Int32).toInt = -1 from rfl) h
        · intro hc0
          replace h := h.2 (cnltI t_x2 (show (0 : Int32).toInt = 0 from rfl) hc0)
          obtain ⟨rr922, h⟩ := h
          obtain ⟨hp, h⟩ := h
          refine ⟨(tinb (taddI t_x1 (show (1 : Int32).toInt = 1 from rfl) rr922) hp), ?_⟩
          obtain ⟨rr923, h⟩ := h
          obtain ⟨hp, h⟩ := h
          refine ⟨(tinb (taddI t_x1 (show (1 : Int32).toInt = 1 from rfl) rr923) hp), ?_⟩
          obtain ⟨rr924, h⟩ := h
          obtain ⟨rr926, h⟩ := h
          refine ⟨?_, ?_⟩
          · intro hc0
            replace h := h.1 (cltI t_x2 (tsubI (tr_I (tnatI (taddI t_x1 (show (1 : Int32).toInt = 1 from rfl) rr924))) (tr_I (tnatI (taddI t_x1 (show (1 : Int32).toInt = 1 from rfl) rr924))) rr926) hc0)
            obtain ⟨rr930, h⟩ := h
            obtain ⟨hp, h⟩ := h
            refine ⟨(tinb (taddI t_x1 (show (1 : Int32).toInt = 1 from rfl) rr930) hp), ?_⟩
            obtain ⟨rr931, h⟩ := h
            obtain ⟨rr932, h⟩ := h
            exact hQ _ _ _ (taddI (tr_I (tnatI (taddI t_x1 (show (1 : Int32).toInt = 1 from rfl) rr931))) t_x2 rr932) h
          · intro hc0
            replace h := h.2 (cnltI t_x2 (tsubI (tr_I (tnatI (taddI t_x1 (show (1 : Int32).toInt = 1 from rfl) rr924))) (tr_I (tnatI (taddI t_x1 (show (1 : Int32).toInt = 1 from rfl) rr924))) rr926) hc0)
            unfold wp_X5_pieceOf_45
            exact hQ _ _ _ (show (-1 : Int32).toInt = -1 from rfl) h
theorem w_X5_piece_105 {Q : Int32 → Mem → Prop} {bQ : Int → Im → Prop} {K75 : Nat → Int32 → Int32 → Int32 → Mem → Prop} {bK75 : Nat → Int → Int → Int → Im → Prop} {K114 : Int32 → Mem → Prop} {bK114 : Int → Im → Prop} {x0 : Nat} {x4 : Int32} {y_x4 : Int} {x6 : Int32} {y_x6 : Int} {t0 : Int32} {y_t0 : Int} {t1 : Int32} {y_t1 : Int} {M : Mem} (t_x4 : x4.toInt = y_x4) (t_x6 : x6.toInt = y_x6) (t_t0 : t0.toInt = y_t0) (t_t1 : t1.toInt = y_t1) (h : sp_X5_piece_105 x0 y_x4 y_x6 y_t0 y_t1 (ab M) bQ bK75 bK114) (hQ : ∀ (z0 : Int32) (u0 : Int) (m : Mem), z0.toInt = u0 → bQ u0 (ab m) → Q z0 m) (hK75 : ∀ (z0 : Nat) (z1 : Int32) (u1 : Int) (z2 : Int32) (u2 : Int) (z3 : Int32) (u3 : Int) (m : Mem), z1.toInt = u1 → z2.toInt = u2 → z3.toInt = u3 → bK75 z0 u1 u2 u3 (ab m) → K75 z0 z1 z2 z3 m) (hK114 : ∀ (z0 : Int32) (u0 : Int) (m : Mem), z0.toInt = u0 → bK114 u0 (ab m) → K114 z0 m) : wp_X5_piece_105 x0 x4 x6 t0 t1 M Q K75 K114 := by
  unfold sp_X5_piece_105 at h
  unfold wp_X5_piece_105
  obtain ⟨rr937, h⟩ := h
  intro i3 e_i3
  have q_i3 := (congrArg Int32.toInt e_i3).trans (taddI t_t1 t_t0 rr937)
  replace h := h _ q_i3
  have t_i3 : i3.toInt = i3.toInt := rfl
  obtain ⟨rr938, h⟩ := h
  intro i4 e_i4
  have q_i4 := (congrArg Int32.toInt e_i4).trans (taddI t_x6 (show (1 : Int32).toInt = 1 from rfl) rr938)
  replace h := h _ q_i4
  have t_i4 : i4.toInt = i4.toInt := rfl
  exact hK75 _ _ _ _ _ _ _ _ t_x4 t_i3 t_i4 h
theorem w_X5_piece_75 {Q : Int32 → Mem → Prop} {bQ : Int → Im → Prop} {K114 : Int32 → Mem → Prop} {bK114 : Int → Im → Prop} : ∀ {n : Nat} {x0 : Nat} {x4 : Int32} {y_x4 : Int} {x5 : Int32} {y_x5 : Int} {x6 : Int32} {y_x6 : Int} {M : Mem} (t_x4 : x4.toInt = y_x4) (t_x5 : x5.toInt = y_x5) (t_x6 : x6.toInt = y_x6) (_ : sp_X5_piece_75 n x0 y_x4 y_x5 y_x6 (ab M) bQ bK114) (_ : ∀ (z0 : Int32) (u0 : Int) (m : Mem), z0.toInt = u0 → bQ u0 (ab m) → Q z0 m) (_ : ∀ (z0 : Int32) (u0 : Int) (m : Mem), z0.toInt = u0 → bK114 u0 (ab m) → K114 z0 m), wp_X5_piece_75 n x0 x4 x5 x6 M Q K114 := by
  intro n
  induction n with
  | zero => intro x0 x4 y_x4 x5 y_x5 x6 y_x6 M t_x4 t_x5 t_x6 h hQ hK114; exact h.elim
  | succ n ih =>
    intro x0 x4 y_x4 x5 y_x5 x6 y_x6 M t_x4 t_x5 t_x6 h hQ hK114
    unfold sp_X5_piece_75 at h
    unfold wp_X5_piece_75
    obtain ⟨hp, h⟩ := h
    refine ⟨(tinb t_x4 hp), ?_⟩
    refine ⟨?_, ?_⟩
    · intro hc0
      replace h := h.1 (cleI (tr_I (tnatI t_x4)) t_x6 hc0)
      exact hK114 _ _ _ t_x5 h
    · intro hc0
      replace h := h.2 (cnleI (tr_I (tnatI t_x4)) t_x6 hc0)
      refine w_X5_isThere t_x4 t_x6 h (fun i2 y_i2 M1 t_i2 h => ?_)
      refine ⟨?_, ?_⟩
      · intro hc0
        replace h := h.1 (ceqI t_i2 (show (0 : Int32).toInt = 0 from rfl) hc0)
        refine w_X5_piece_105 t_x4 t_x6 (show (1 : Int32).toInt = 1 from rfl) t_x5 h hQ (fun x0 x4 y_x4 x5 y_x5 x6 y_x6 M t_x4 t_x5 t_x6 h => ?_) hK114
        refine ih t_x4 t_x5 t_x6 h hQ hK114
      · intro hc0
        replace h := h.2 (cneI t_i2 (show (0 : Int32).toInt = 0 from rfl) hc0)
        refine w_X5_piece_105 t_x4 t_x6 (show (0 : Int32).toInt = 0 from rfl) t_x5 h hQ (fun x0 x4 y_x4 x5 y_x5 x6 y_x6 M t_x4 t_x5 t_x6 h => ?_) hK114
        refine ih t_x4 t_x5 t_x6 h hQ hK114
theorem w_X5_piece {Q : Int32 → Mem → Prop} {bQ : Int → Im → Prop} {x0 : Nat} {x1 : Int32} {y_x1 : Int} {x2 : Int32} {y_x2 : Int} {x3 : Int32} {y_x3 : Int} {M : Mem} (t_x1 : x1.toInt = y_x1) (t_x2 : x2.toInt = y_x2) (t_x3 : x3.toInt = y_x3) (h : sp_X5_piece x0 y_x1 y_x2 y_x3 (ab M) bQ) (hQ : ∀ (z0 : Int32) (u0 : Int) (m : Mem), z0.toInt = u0 → bQ u0 (ab m) → Q z0 m) : wp_X5_piece x0 x1 x2 x3 M Q := by
  unfold sp_X5_piece at h
  unfold wp_X5_piece
  obtain ⟨hp, h⟩ := h
  refine ⟨hp, ?_⟩
  refine w_X5_pieceOf t_x1 t_x2 h (fun i6 y_i6 M5 t_i6 h => ?_)
  refine ⟨?_, ?_⟩
  · intro hc0
    replace h := h.1 (cleI (show (0 : Int32).toInt = 0 from rfl) t_i6 hc0)
    refine ⟨?_, ?_, ?_, ?_, ?_, ?_, ?_⟩
    · intro hc0
      replace h := h.1 (ceqI t_x3 (show (0 : Int32).toInt = 0 from rfl) hc0)
      obtain ⟨hp, h⟩ := h
      refine ⟨(tinb t_i6 hp), ?_⟩
      exact hQ _ _ _ (tr_I (tnatI t_i6)) h
    · intro hc0
      replace h := h.2.1 (ceqI t_x3 (show (1 : Int32).toInt = 1 from rfl) hc0)
      obtain ⟨hp, h⟩ := h
      refine ⟨(tinb t_i6 hp), ?_⟩
      exact hQ _ _ _ (tr_I (tnatI t_i6)) h
    · intro hc0
      replace h := h.2.2.1 (ceqI t_x3 (show (2 : Int32).toInt = 2 from rfl) hc0)
      obtain ⟨k75, h⟩ := h
      refine ⟨k75, ?_⟩
      refine w_X5_piece_75 t_i6 (show (0 : Int32).toInt = 0 from rfl) (show (0 : Int32).toInt = 0 from rfl) h hQ (fun x5 y_x5 M t_x5 h => ?_)
      unfold wp_X5_piece_114
      exact hQ _ _ _ t_x5 h
    · intro hc0
      replace h := h.2.2.2.1 (ceqI t_x3 (show (3 : Int32).toInt = 3 from rfl) hc0)
      obtain ⟨hp, h⟩ := h
      refine ⟨(tinb t_i6 hp), ?_⟩
      exact hQ _ _ _ (tr_I (tnatI t_i6)) h
    · intro hc0
      replace h := h.2.2.2.2.1 (ceqI t_x3 (show (4 : Int32).toInt = 4 from rfl) hc0)
      obtain ⟨hp, h⟩ := h
      refine ⟨(tinb t_i6 hp), ?_⟩
      exact hQ _ _ _ (tr_I (tnatI t_i6)) h
    · intro hc0
      replace h := h.2.2.2.2.2.1 (ceqI t_x3 (show (5 : Int32).toInt = 5 from rfl) hc0)
      refine w_X5_miss t_i6 h (fun i8 y_i8 M7 t_i8 h => ?_)
      exact hQ _ _ _ t_i8 h
    · intro hc0 hc1 hc2 hc3 hc4 hc5
      replace h := h.2.2.2.2.2.2 (cneI t_x3 (show (0 : Int32).toInt = 0 from rfl) hc0) (cneI t_x3 (show (1 : Int32).toInt = 1 from rfl) hc1) (cneI t_x3 (show (2 : Int32).toInt = 2 from rfl) hc2) (cneI t_x3 (show (3 : Int32).toInt = 3 from rfl) hc3) (cneI t_x3 (show (4 : Int32).toInt = 4 from rfl) hc4) (cneI t_x3 (show (5 : Int32).toInt = 5 from rfl) hc5)
      exact hQ _ _ _ (show (-1 : Int32).toInt = -1 from rfl) h
  · intro hc0
    replace h := h.2 (cnleI (show (0 : Int32).toInt = 0 from rfl) t_i6 hc0)
    exact hQ _ _ _ (show (-1 : Int32).toInt = -1 from rfl) h
theorem w_X5_line {Q : Int64 → Mem → Prop} {bQ : Int → Im → Prop} {x0 : Nat} {x1 : Int32} {y_x1 : Int} {x2 : Int32} {y_x2 : Int} {x3 : Int32} {y_x3 : Int} {M : Mem} (t_x1 : x1.toInt = y_x1) (t_x2 : x2.toInt = y_x2) (t_x3 : x3.toInt = y_x3) (h : sp_X5_line x0 y_x1 y_x2 y_x3 (ab M) bQ) (hQ : ∀ (z0 : Int64) (u0 : Int) (m : Mem), z0.toInt = u0 → bQ u0 (ab m) → Q z0 m) : wp_X5_line x0 x1 x2 x3 M Q := by
  unfold sp_X5_line at h
  unfold wp_X5_line
  obtain ⟨hp, h⟩ := h
  refine ⟨hp, ?_⟩
  refine w_X5_pieceOf t_x1 t_x2 h (fun i2 y_i2 M1 t_i2 h => ?_)
  refine ⟨?_, ?_⟩
  · intro hc0
    replace h := h.1 (cleI (show (0 : Int32).toInt = 0 from rfl) t_i2 hc0)
    refine ⟨?_, ?_, ?_, ?_, ?_, ?_⟩
    · intro hc0
      replace h := h.1 (ceqI t_x3 (show (0 : Int32).toInt = 0 from rfl) hc0)
      obtain ⟨hp, h⟩ := h
      refine ⟨(tinb t_i2 hp), ?_⟩
      exact hQ _ _ _ (tr_L (tnatI t_i2)) h
    · intro hc0
      replace h := h.2.1 (ceqI t_x3 (show (1 : Int32).toInt = 1 from rfl) hc0)
      obtain ⟨hp, h⟩ := h
      refine ⟨(tinb t_i2 hp), ?_⟩
      exact hQ _ _ _ (tr_L (tnatI t_i2)) h
    · intro hc0
      replace h := h.2.2.1 (ceqI t_x3 (show (2 : Int32).toInt = 2 from rfl) hc0)
      obtain ⟨hp, h⟩ := h
      refine ⟨(tinb t_i2 hp), ?_⟩
      exact hQ _ _ _ (tr_L (tnatI t_i2)) h
    · intro hc0
      replace h := h.2.2.2.1 (ceqI t_x3 (show (3 : Int32).toInt = 3 from rfl) hc0)
      obtain ⟨hp, h⟩ := h
      refine ⟨(tinb t_i2 hp), ?_⟩
      obtain ⟨hp, h⟩ := h
      refine ⟨(tinb (tr_I (tnatI t_i2)) hp), ?_⟩
      exact hQ _ _ _ (tr_L (tnatI (tr_I (tnatI t_i2)))) h
    · intro hc0
      replace h := h.2.2.2.2.1 (ceqI t_x3 (show (4 : Int32).toInt = 4 from rfl) hc0)
      obtain ⟨hp, h⟩ := h
      refine ⟨(tinb t_i2 hp), ?_⟩
      obtain ⟨hp, h⟩ := h
      refine ⟨(tinb t_i2 hp), ?_⟩
      obtain ⟨rr943, h⟩ := h
      obtain ⟨rr944, h⟩ := h
      obtain ⟨hp, h⟩ := h
      refine ⟨(tinb (tsubI (taddI (tr_I (tnatI t_i2)) (tr_I (tnatI t_i2)) rr943) (show (1 : Int32).toInt = 1 from rfl) rr944) hp), ?_⟩
      obtain ⟨rr945, h⟩ := h
      obtain ⟨rr946, h⟩ := h
      exact hQ _ _ _ (tr_L (tnatI (tsubI (taddI (tr_I (tnatI t_i2)) (tr_I (tnatI t_i2)) rr945) (show (1 : Int32).toInt = 1 from rfl) rr946))) h
    · intro hc0 hc1 hc2 hc3 hc4
      replace h := h.2.2.2.2.2 (cneI t_x3 (show (0 : Int32).toInt = 0 from rfl) hc0) (cneI t_x3 (show (1 : Int32).toInt = 1 from rfl) hc1) (cneI t_x3 (show (2 : Int32).toInt = 2 from rfl) hc2) (cneI t_x3 (show (3 : Int32).toInt = 3 from rfl) hc3) (cneI t_x3 (show (4 : Int32).toInt = 4 from rfl) hc4)
      exact hQ _ _ _ (show (-9223372036854775808 : Int64).toInt = -9223372036854775808 from rfl) h
  · intro hc0
    replace h := h.2 (cnleI (show (0 : Int32).toInt = 0 from rfl) t_i2 hc0)
    exact hQ _ _ _ (show (-9223372036854775808 : Int64).toInt = -9223372036854775808 from rfl) h
theorem w_X5_guess {Q : Int32 → Mem → Prop} {bQ : Int → Im → Prop} {x0 : Nat} {x1 : Int32} {y_x1 : Int} {x2 : Int32} {y_x2 : Int} {x3 : Int64} {y_x3 : Int} {M : Mem} (t_x1 : x1.toInt = y_x1) (t_x2 : x2.toInt = y_x2) (t_x3 : x3.toInt = y_x3) (h : sp_X5_guess x0 y_x1 y_x2 y_x3 (ab M) bQ) (hQ : ∀ (z0 : Int32) (u0 : Int) (m : Mem), z0.toInt = u0 → bQ u0 (ab m) → Q z0 m) : wp_X5_guess x0 x1 x2 x3 M Q := by
  unfold sp_X5_guess at h
  unfold wp_X5_guess
  obtain ⟨hp, h⟩ := h
  refine ⟨hp, ?_⟩
  refine w_X5_pieceOf t_x1 t_x2 h (fun i2 y_i2 M1 t_i2 h => ?_)
  refine ⟨?_, ?_⟩
  · intro hc0
    replace h := h.1 (cleI (show (0 : Int32).toInt = 0 from rfl) t_i2 hc0)
    refine w_X5_isKey t_x3 h (fun i4 y_i4 M3 t_i4 h => ?_)
    refine ⟨?_, ?_⟩
    · intro hc0
      replace h := h.1 (ceqI t_i4 (show (0 : Int32).toInt = 0 from rfl) hc0)
      unfold wp_X5_guess_35
      exact hQ _ _ _ (show (-2 : Int32).toInt = -2 from rfl) h
    · intro hc0
      replace h := h.2 (cneI t_i4 (show (0 : Int32).toInt = 0 from rfl) hc0)
      refine w_X5_guessOf t_i2 t_x3 h (fun i6 y_i6 M5 t_i6 h => ?_)
      unfold wp_X5_guess_35
      exact hQ _ _ _ t_i6 h
  · intro hc0
    replace h := h.2 (cnleI (show (0 : Int32).toInt = 0 from rfl) t_i2 hc0)
    exact hQ _ _ _ (show (-1 : Int32).toInt = -1 from rfl) h
theorem w_Jxe99ae_isNaN_b9ae7 {Q : Int32 → Mem → Prop} {bQ : Int → Im → Prop} {x0 : UInt64} {M : Mem} (h : sp_Jxe99ae_isNaN_b9ae7 x0 (ab M) bQ) (hQ : ∀ (z0 : Int32) (u0 : Int) (m : Mem), z0.toInt = u0 → bQ u0 (ab m) → Q z0 m) : wp_Jxe99ae_isNaN_b9ae7 x0 M Q := by
  unfold sp_Jxe99ae_isNaN_b9ae7 at h
  unfold wp_Jxe99ae_isNaN_b9ae7
  refine ⟨?_, ?_⟩
  · intro hc0
    replace h := h.1 (ceqI (congrArg Int32.toInt (cg2 (fun a b => Op.cmpValue (FP.dcmp a b) CmpOp.l) rfl rfl)) (show (0 : Int32).toInt = 0 from rfl) hc0)
    unfold wp_Jxe99ae_isNaN_b9ae7_11
    obtain ⟨hp, h⟩ := h
    refine ⟨(t01 (show (0 : Int32).toInt = 0 from rfl) hp), ?_⟩
    exact hQ _ _ _ (show (0 : Int32).toInt = 0 from rfl) h
  · intro hc0
    replace h := h.2 (cneI (congrArg Int32.toInt (cg2 (fun a b => Op.cmpValue (FP.dcmp a b) CmpOp.l) rfl rfl)) (show (0 : Int32).toInt = 0 from rfl) hc0)
    unfold wp_Jxe99ae_isNaN_b9ae7_11
    obtain ⟨hp, h⟩ := h
    refine ⟨(t01 (show (1 : Int32).toInt = 1 from rfl) hp), ?_⟩
    exact hQ _ _ _ (show (1 : Int32).toInt = 1 from rfl) h
theorem w_Jxe99ae_doubleToLongBits_ccdee {Q : Int64 → Mem → Prop} {bQ : Int → Im → Prop} {x0 : UInt64} {M : Mem} (h : sp_Jxe99ae_doubleToLongBits_ccdee x0 (ab M) bQ) (hQ : ∀ (z0 : Int64) (u0 : Int) (m : Mem), z0.toInt = u0 → bQ u0 (ab m) → Q z0 m) : wp_Jxe99ae_doubleToLongBits_ccdee x0 M Q := by
  unfold sp_Jxe99ae_doubleToLongBits_ccdee at h
  unfold wp_Jxe99ae_doubleToLongBits_ccdee
  refine w_Jxe99ae_isNaN_b9ae7  h (fun i2 y_i2 M1 t_i2 h => ?_)
  refine ⟨?_, ?_⟩
  · intro hc0
    replace h := h.1 (cneI t_i2 (show (0 : Int32).toInt = 0 from rfl) hc0)
    exact hQ _ _ _ (show (9221120237041090560 : Int64).toInt = 9221120237041090560 from rfl) h
  · intro hc0
    replace h := h.2 (ceqI t_i2 (show (0 : Int32).toInt = 0 from rfl) hc0)
    exact hQ _ _ _ (congrArg (fun a => UInt64.toInt64 a |>.toInt) rfl) h
theorem w_X5_bits_51 {Q : Int64 → Mem → Prop} {bQ : Int → Im → Prop} {x0 : Nat} {x3 : Int32} {y_x3 : Int} {t0 : Int64} {y_t0 : Int} {M : Mem} (t_x3 : x3.toInt = y_x3) (t_t0 : t0.toInt = y_t0) (h : sp_X5_bits_51 x0 y_x3 y_t0 (ab M) bQ) (hQ : ∀ (z0 : Int64) (u0 : Int) (m : Mem), z0.toInt = u0 → bQ u0 (ab m) → Q z0 m) : wp_X5_bits_51 x0 x3 t0 M Q := by
  unfold sp_X5_bits_51 at h
  unfold wp_X5_bits_51
  obtain ⟨hp, h⟩ := h
  refine ⟨(tinb t_x3 hp), ?_⟩
  intro f1 e_f1
  replace h := h f1 (alk (cg2 FP.ddiv (congrArg FP.l2d (of64 t_t0)) (congrArg FP.l2d (of64 (tr_L (tnatI t_x3))))) e_f1)
  refine w_Jxe99ae_doubleToLongBits_ccdee  h (fun j3 y_j3 M2 t_j3 h => ?_)
  exact hQ _ _ _ t_j3 h
theorem w_X5_bits {Q : Int64 → Mem → Prop} {bQ : Int → Im → Prop} {x0 : Nat} {x1 : Int32} {y_x1 : Int} {x2 : Int32} {y_x2 : Int} {M : Mem} (t_x1 : x1.toInt = y_x1) (t_x2 : x2.toInt = y_x2) (h : sp_X5_bits x0 y_x1 y_x2 (ab M) bQ) (hQ : ∀ (z0 : Int64) (u0 : Int) (m : Mem), z0.toInt = u0 → bQ u0 (ab m) → Q z0 m) : wp_X5_bits x0 x1 x2 M Q := by
  unfold sp_X5_bits at h
  unfold wp_X5_bits
  obtain ⟨hp, h⟩ := h
  refine ⟨hp, ?_⟩
  refine w_X5_pieceOf (show (-1 : Int32).toInt = -1 from rfl) t_x1 h (fun i5 y_i5 M4 t_i5 h => ?_)
  refine ⟨?_, ?_⟩
  · intro hc0
    replace h := h.1 (cltI t_i5 (show (0 : Int32).toInt = 0 from rfl) hc0)
    unfold wp_X5_bits_30
    exact hQ _ _ _ (show (0 : Int64).toInt = 0 from rfl) h
  · intro hc0
    replace h := h.2 (cnltI t_i5 (show (0 : Int32).toInt = 0 from rfl) hc0)
    obtain ⟨hp, h⟩ := h
    refine ⟨(tinb t_i5 hp), ?_⟩
    refine ⟨?_, ?_⟩
    · intro hc0
      replace h := h.1 (cneI (tr_I (tnatI t_i5)) (show (2 : Int32).toInt = 2 from rfl) hc0)
      unfold wp_X5_bits_30
      exact hQ _ _ _ (show (0 : Int64).toInt = 0 from rfl) h
    · intro hc0
      replace h := h.2 (ceqI (tr_I (tnatI t_i5)) (show (2 : Int32).toInt = 2 from rfl) hc0)
      refine ⟨?_, ?_⟩
      · intro hc0
        replace h := h.1 (cltI t_x2 (show (0 : Int32).toInt = 0 from rfl) hc0)
        unfold wp_X5_bits_30
        exact hQ _ _ _ (show (0 : Int64).toInt = 0 from rfl) h
      · intro hc0
        replace h := h.2 (cnltI t_x2 (show (0 : Int32).toInt = 0 from rfl) hc0)
        refine ⟨?_, ?_⟩
        · intro hc0
          replace h := h.1 (cleI t_x2 (show (1 : Int32).toInt = 1 from rfl) hc0)
          refine ⟨?_, ?_⟩
          · intro hc0
            replace h := h.1 (cneI t_x2 (show (0 : Int32).toInt = 0 from rfl) hc0)
            obtain ⟨hp, h⟩ := h
            refine ⟨(tinb t_i5 hp), ?_⟩
            refine w_X5_bits_51 t_i5 (tr_L (tnatI t_i5)) h hQ
          · intro hc0
            replace h := h.2 (ceqI t_x2 (show (0 : Int32).toInt = 0 from rfl) hc0)
            obtain ⟨hp, h⟩ := h
            refine ⟨(tinb t_i5 hp), ?_⟩
            refine w_X5_bits_51 t_i5 (tr_L (tnatI t_i5)) h hQ
        · intro hc0
          replace h := h.2 (cnleI t_x2 (show (1 : Int32).toInt = 1 from rfl) hc0)
          unfold wp_X5_bits_30
          exact hQ _ _ _ (show (0 : Int64).toInt = 0 from rfl) h
theorem w_X5_key_39 {Q : Int64 → Mem → Prop} {bQ : Int → Im → Prop} {x0 : Nat} {x2 : Int32} {y_x2 : Int} {x3 : Int32} {y_x3 : Int} {x4 : Int32} {y_x4 : Int} {t0 : Int32} {y_t0 : Int} {t1 : Int32} {y_t1 : Int} {M : Mem} (t_x2 : x2.toInt = y_x2) (t_x3 : x3.toInt = y_x3) (t_x4 : x4.toInt = y_x4) (t_t0 : t0.toInt = y_t0) (t_t1 : t1.toInt = y_t1) (h : sp_X5_key_39 x0 y_x2 y_x3 y_x4 y_t0 y_t1 (ab M) bQ) (hQ : ∀ (z0 : Int64) (u0 : Int) (m : Mem), z0.toInt = u0 → bQ u0 (ab m) → Q z0 m) : wp_X5_key_39 x0 x2 x3 x4 t0 t1 M Q := by
  unfold sp_X5_key_39 at h
  unfold wp_X5_key_39
  refine ⟨?_, ?_⟩
  · intro hc0
    replace h := h.1 (cltI t_t1 t_t0 hc0)
    refine ⟨?_, ?_⟩
    · intro hc0
      replace h := h.1 (ceqI t_x3 (show (0 : Int32).toInt = 0 from rfl) hc0)
      obtain ⟨hp, h⟩ := h
      refine ⟨(tinb t_x4 hp), ?_⟩
      obtain ⟨rr955, h⟩ := h
      obtain ⟨hp, h⟩ := h
      refine ⟨(tinb (taddI (tr_I (tnatI t_x4)) t_x2 rr955) hp), ?_⟩
      unfold wp_X5_key_79
      obtain ⟨rr956, h⟩ := h
      exact hQ _ _ _ (tr_L (tnatI (taddI (tr_I (tnatI t_x4)) t_x2 rr956))) h
    · intro hc0
      replace h := h.2 (cneI t_x3 (show (0 : Int32).toInt = 0 from rfl) hc0)
      obtain ⟨rr958, h⟩ := h
      obtain ⟨rr959, h⟩ := h
      obtain ⟨hp, h⟩ := h
      refine ⟨(tinb (taddI (tmulI (show (16 : Int32).toInt = 16 from rfl) t_x4 rr958) t_x2 rr959) hp), ?_⟩
      unfold wp_X5_key_79
      obtain ⟨rr960, h⟩ := h
      obtain ⟨rr961, h⟩ := h
      exact hQ _ _ _ (tr_L (tnatI (taddI (tmulI (show (16 : Int32).toInt = 16 from rfl) t_x4 rr960) t_x2 rr961))) h
  · intro hc0
    replace h := h.2 (cnltI t_t1 t_t0 hc0)
    unfold wp_X5_key_42
    exact hQ _ _ _ (show (-9223372036854775808 : Int64).toInt = -9223372036854775808 from rfl) h
theorem w_X5_key {Q : Int64 → Mem → Prop} {bQ : Int → Im → Prop} {x0 : Nat} {x1 : Int32} {y_x1 : Int} {x2 : Int32} {y_x2 : Int} {x3 : Int32} {y_x3 : Int} {M : Mem} (t_x1 : x1.toInt = y_x1) (t_x2 : x2.toInt = y_x2) (t_x3 : x3.toInt = y_x3) (h : sp_X5_key x0 y_x1 y_x2 y_x3 (ab M) bQ) (hQ : ∀ (z0 : Int64) (u0 : Int) (m : Mem), z0.toInt = u0 → bQ u0 (ab m) → Q z0 m) : wp_X5_key x0 x1 x2 x3 M Q := by
  unfold sp_X5_key at h
  unfold wp_X5_key
  obtain ⟨hp, h⟩ := h
  refine ⟨hp, ?_⟩
  refine w_X5_pieceOf (show (-1 : Int32).toInt = -1 from rfl) t_x1 h (fun i2 y_i2 M1 t_i2 h => ?_)
  refine ⟨?_, ?_⟩
  · intro hc0
    replace h := h.1 (cltI t_i2 (show (0 : Int32).toInt = 0 from rfl) hc0)
    unfold wp_X5_key_42
    exact hQ _ _ _ (show (-9223372036854775808 : Int64).toInt = -9223372036854775808 from rfl) h
  · intro hc0
    replace h := h.2 (cnltI t_i2 (show (0 : Int32).toInt = 0 from rfl) hc0)
    refine ⟨?_, ?_⟩
    · intro hc0
      replace h := h.1 (cltI t_x2 (show (0 : Int32).toInt = 0 from rfl) hc0)
      unfold wp_X5_key_42
      exact hQ _ _ _ (show (-9223372036854775808 : Int64).toInt = -9223372036854775808 from rfl) h
    · intro hc0
      replace h := h.2 (cnltI t_x2 (show (0 : Int32).toInt = 0 from rfl) hc0)
      refine ⟨?_, ?_⟩
      · intro hc0
        replace h := h.1 (ceqI t_x3 (show (0 : Int32).toInt = 0 from rfl) hc0)
        obtain ⟨hp, h⟩ := h
        refine ⟨(tinb t_i2 hp), ?_⟩
        refine w_X5_key_39 t_x2 t_x3 t_i2 (tr_I (tnatI t_i2)) t_x2 h hQ
      · intro hc0
        replace h := h.2 (cneI t_x3 (show (0 : Int32).toInt = 0 from rfl) hc0)
        obtain ⟨hp, h⟩ := h
        refine ⟨(tinb t_i2 hp), ?_⟩
        refine w_X5_key_39 t_x2 t_x3 t_i2 (tr_I (tnatI t_i2)) t_x2 h hQ
theorem w_X5_count {Q : Int32 → Mem → Prop} {bQ : Int → Im → Prop} {x0 : Nat} {x1 : Int32} {y_x1 : Int} {M : Mem} (t_x1 : x1.toInt = y_x1) (h : sp_X5_count x0 y_x1 (ab M) bQ) (hQ : ∀ (z0 : Int32) (u0 : Int) (m : Mem), z0.toInt = u0 → bQ u0 (ab m) → Q z0 m) : wp_X5_count x0 x1 M Q := by
  unfold sp_X5_count at h
  unfold wp_X5_count
  obtain ⟨hp, h⟩ := h
  refine ⟨hp, ?_⟩
  refine ⟨?_, ?_, ?_, ?_, ?_, ?_⟩
  · intro hc0
    replace h := h.1 (ceqI t_x1 (show (0 : Int32).toInt = 0 from rfl) hc0)
    exact hQ _ _ _ (tr_I rfl) h
  · intro hc0
    replace h := h.2.1 (ceqI t_x1 (show (1 : Int32).toInt = 1 from rfl) hc0)
    exact hQ _ _ _ (tr_I rfl) h
  · intro hc0
    replace h := h.2.2.1 (ceqI t_x1 (show (2 : Int32).toInt = 2 from rfl) hc0)
    refine w_X5_there  h (fun i2 y_i2 M1 t_i2 h => ?_)
    exact hQ _ _ _ t_i2 h
  · intro hc0
    replace h := h.2.2.2.1 (ceqI t_x1 (show (3 : Int32).toInt = 3 from rfl) hc0)
    exact hQ _ _ _ (tr_I rfl) h
  · intro hc0
    replace h := h.2.2.2.2.1 (ceqI t_x1 (show (4 : Int32).toInt = 4 from rfl) hc0)
    exact hQ _ _ _ (tr_I rfl) h
  · intro hc0 hc1 hc2 hc3 hc4
    replace h := h.2.2.2.2.2 (cneI t_x1 (show (0 : Int32).toInt = 0 from rfl) hc0) (cneI t_x1 (show (1 : Int32).toInt = 1 from rfl) hc1) (cneI t_x1 (show (2 : Int32).toInt = 2 from rfl) hc2) (cneI t_x1 (show (3 : Int32).toInt = 3 from rfl) hc3) (cneI t_x1 (show (4 : Int32).toInt = 4 from rfl) hc4)
    exact hQ _ _ _ (show (-1 : Int32).toInt = -1 from rfl) h
