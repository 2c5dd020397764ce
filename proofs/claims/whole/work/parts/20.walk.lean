/-! cX0_init -/
set_option maxRecDepth 100000 in
set_option maxHeartbeats 4000000 in
theorem c_X0_init (l : Launch) (G : ZG) (base : Nat) (M : Mem) (x0 : Nat) (Q : Mem → Prop) (h : wp_X0_init x0 M Q) : ZMet l yX0_init cX0_init 1 none 1 12 G true base M [.ref (base + x0)] (qV Q) := by
  refine z_start (by decide) (Nat.le_of_ble_eq_true rfl) k_co_yX0_init ?_
  intro p e s m below meth c R d0 H locs cells slots ls A hr hn hd0 hZ hl
  have hx := (A d0).1
  have hb := (A d0).2.1
  have hl : lv_has ls 1 [(0, .ref (base + x0))] := hl
  unfold wp_X0_init at h
  obtain ⟨ho_x0, h⟩ := h
  refine lv_aload_n hx hb dX0_init_0 rfl (lv_at hl 0 rfl) ?_
  refine z_objInit (A d0) k_ml_RX0_3 hl dX0_init_1 (by decide) (Nat.le_of_ble_eq_true rfl) ?_
  exact z_vret A hd0 hZ hr ⟨rfl, h⟩ dX0_init_4
/-! cX0_beFlat -/
set_option maxRecDepth 100000 in
set_option maxHeartbeats 4000000 in
theorem c_X0_beFlat (l : Launch) (G : ZG) (base : Nat) (M : Mem) (x0 : Nat) (x1 : Int32) (Q : Mem → Prop) (h : wp_X0_beFlat x0 x1 M Q) : ZMet l yX0_beFlat cX0_beFlat 2 none 0 0 G true base M [.ref (base + x0), .int x1] (qV Q) := by
  refine z_start (by decide) (Nat.le_of_ble_eq_true rfl) k_co_yX0_beFlat ?_
  intro p e s m below meth c R d0 H locs cells slots ls A hr hn hd0 hZ hl
  have hx := (A d0).1
  have hb := (A d0).2.1
  have hl : lv_has ls 2 [(0, .ref (base + x0)), (1, .int x1)] := hl
  unfold wp_X0_beFlat at h
  obtain ⟨ho_x0, h⟩ := h
  refine lv_aload_n hx hb dX0_beFlat_0 rfl (lv_at hl 0 rfl) ?_
  refine lv_iconst (v := (0 : Int32)) hx hb dX0_beFlat_1 (by decide) ?_
  obtain ⟨M1, eM1⟩ : ∃ y : Mem, y = sI M x0 0 (0 : Int32) := ⟨_, rfl⟩
  refine z_put (A d0) hZ (ci := 0) (j := 0) (M' := M1) ho_x0.1 ho_x0.2 (by decide) (by decide) k_fl_RX0_9 rfl (by rw [eM1]; exact zUpd_I) rfl rfl dX0_beFlat_2 (fun H locs hZ => ?_)
  have hm : mz M1 = mz M := by rw [eM1] <;> rfl
  have ho_x0 := isO_le (Nat.le_of_eq hm.symm) ho_x0
  replace h := h M1 eM1
  refine lv_aload_n hx hb dX0_beFlat_5 rfl (lv_at hl 0 rfl) ?_
  refine lv_iload_n hx hb dX0_beFlat_6 rfl (lv_at hl 1 rfl) ?_
  obtain ⟨M2, eM2⟩ : ∃ y : Mem, y = sI M1 x0 1 x1 := ⟨_, rfl⟩
  refine z_put (A d0) hZ (ci := 0) (j := 1) (M' := M2) ho_x0.1 ho_x0.2 (by decide) (by decide) k_fl_RX0_15 rfl (by rw [eM2]; exact zUpd_I) rfl rfl dX0_beFlat_7 (fun H locs hZ => ?_)
  have hm : mz M2 = mz M1 := by rw [eM2] <;> rfl
  have ho_x0 := isO_le (Nat.le_of_eq hm.symm) ho_x0
  replace h := h M2 eM2
  refine lv_aload_n hx hb dX0_beFlat_10 rfl (lv_at hl 0 rfl) ?_
  refine lv_lconst (v := (0 : Int64)) hx hb dX0_beFlat_11 (by decide) ?_
  obtain ⟨M3, eM3⟩ : ∃ y : Mem, y = sL M2 x0 6 (0 : Int64) := ⟨_, rfl⟩
  refine z_put (A d0) hZ (ci := 0) (j := 6) (M' := M3) ho_x0.1 ho_x0.2 (by decide) (by decide) k_fl_RX0_18 rfl (by rw [eM3]; exact zUpd_L) rfl rfl dX0_beFlat_12 (fun H locs hZ => ?_)
  have hm : mz M3 = mz M2 := by rw [eM3] <;> rfl
  have ho_x0 := isO_le (Nat.le_of_eq hm.symm) ho_x0
  replace h := h M3 eM3
  refine lv_aload_n hx hb dX0_beFlat_15 rfl (lv_at hl 0 rfl) ?_
  refine lv_lconst (v := (1 : Int64)) hx hb dX0_beFlat_16 (by decide) ?_
  obtain ⟨M4, eM4⟩ : ∃ y : Mem, y = sL M3 x0 7 (1 : Int64) := ⟨_, rfl⟩
  refine z_put (A d0) hZ (ci := 0) (j := 7) (M' := M4) ho_x0.1 ho_x0.2 (by decide) (by decide) k_fl_RX0_22 rfl (by rw [eM4]; exact zUpd_L) rfl rfl dX0_beFlat_17 (fun H locs hZ => ?_)
  have hm : mz M4 = mz M3 := by rw [eM4] <;> rfl
  have ho_x0 := isO_le (Nat.le_of_eq hm.symm) ho_x0
  replace h := h M4 eM4
  refine lv_aload_n hx hb dX0_beFlat_20 rfl (lv_at hl 0 rfl) ?_
  refine lv_lconst (v := (0 : Int64)) hx hb dX0_beFlat_21 (by decide) ?_
  obtain ⟨M5, eM5⟩ : ∃ y : Mem, y = sL M4 x0 8 (0 : Int64) := ⟨_, rfl⟩
  refine z_put (A d0) hZ (ci := 0) (j := 8) (M' := M5) ho_x0.1 ho_x0.2 (by decide) (by decide) k_fl_RX0_25 rfl (by rw [eM5]; exact zUpd_L) rfl rfl dX0_beFlat_22 (fun H locs hZ => ?_)
  have hm : mz M5 = mz M4 := by rw [eM5] <;> rfl
  have ho_x0 := isO_le (Nat.le_of_eq hm.symm) ho_x0
  replace h := h M5 eM5
  exact z_vret A hd0 hZ hr ⟨rfl, h⟩ dX0_beFlat_25
/-! cX0_beLike -/
set_option maxRecDepth 100000 in
set_option maxHeartbeats 4000000 in
theorem c_X0_beLike (l : Launch) (G : ZG) (base : Nat) (M : Mem) (x0 : Nat) (x1 : Option Nat) (Q : Mem → Prop) (h : wp_X0_beLike x0 x1 M Q) : ZMet l yX0_beLike cX0_beLike 2 none 0 0 G true base M [.ref (base + x0), vr base x1] (qV Q) := by
  refine z_start (by decide) (by simp [lg_sl, cat_vr, cat_r, cat_i, cat_l, cat_d]) k_co_yX0_beLike ?_
  intro p e s m below meth c R d0 H locs cells slots ls A hr hn hd0 hZ hl
  have hx := (A d0).1
  have hb := (A d0).2.1
  have hl : lv_has ls 2 [(0, .ref (base + x0)), (1, vr base x1)] := by simpa [lv_args, cat_vr, cat_r, cat_i, cat_l, cat_d] using hl
  unfold wp_X0_beLike at h
  obtain ⟨ho_x0, h⟩ := h
  refine lv_aload_n hx hb dX0_beLike_0 rfl (lv_at hl 0 rfl) ?_
  refine z_aload_n (base := base) hx hb dX0_beLike_1 rfl (lv_at hl 1 rfl) ?_
  obtain ⟨a1, rfl, ho_a1, h⟩ := h
  refine z_get (A d0) hZ (ci := 0) (j := 0) ho_a1.1 ho_a1.2 (by decide) (by decide) k_fl_RX0_9 (v := .int (mI M a1 0)) rfl dX0_beLike_2 ?_
  obtain ⟨M2, eM2⟩ : ∃ y : Mem, y = sI M x0 0 (mI M a1 0) := ⟨_, rfl⟩
  refine z_put (A d0) hZ (ci := 0) (j := 0) (M' := M2) ho_x0.1 ho_x0.2 (by decide) (by decide) k_fl_RX0_9 rfl (by rw [eM2]; exact zUpd_I) rfl rfl dX0_beLike_5 (fun H locs hZ => ?_)
  have hm : mz M2 = mz M := by rw [eM2] <;> rfl
  have ho_x0 := isO_le (Nat.le_of_eq hm.symm) ho_x0
  have ho_a1 := isO_le (Nat.le_of_eq hm.symm) ho_a1
  replace h := h M2 eM2
  refine lv_aload_n hx hb dX0_beLike_8 rfl (lv_at hl 0 rfl) ?_
  refine lv_aload_n hx hb dX0_beLike_9 rfl (lv_at hl 1 rfl) ?_
  refine z_get (A d0) hZ (ci := 0) (j := 1) ho_a1.1 ho_a1.2 (by decide) (by decide) k_fl_RX0_15 (v := .int (mI M2 a1 1)) rfl dX0_beLike_10 ?_
  obtain ⟨M3, eM3⟩ : ∃ y : Mem, y = sI M2 x0 1 (mI M2 a1 1) := ⟨_, rfl⟩
  refine z_put (A d0) hZ (ci := 0) (j := 1) (M' := M3) ho_x0.1 ho_x0.2 (by decide) (by decide) k_fl_RX0_15 rfl (by rw [eM3]; exact zUpd_I) rfl rfl dX0_beLike_13 (fun H locs hZ => ?_)
  have hm : mz M3 = mz M2 := by rw [eM3] <;> rfl
  have ho_x0 := isO_le (Nat.le_of_eq hm.symm) ho_x0
  have ho_a1 := isO_le (Nat.le_of_eq hm.symm) ho_a1
  replace h := h M3 eM3
  refine lv_aload_n hx hb dX0_beLike_16 rfl (lv_at hl 0 rfl) ?_
  refine lv_aload_n hx hb dX0_beLike_17 rfl (lv_at hl 1 rfl) ?_
  refine z_get (A d0) hZ (ci := 0) (j := 6) ho_a1.1 ho_a1.2 (by decide) (by decide) k_fl_RX0_18 (v := .long (mL M3 a1 6)) rfl dX0_beLike_18 ?_
  obtain ⟨M4, eM4⟩ : ∃ y : Mem, y = sL M3 x0 6 (mL M3 a1 6) := ⟨_, rfl⟩
  refine z_put (A d0) hZ (ci := 0) (j := 6) (M' := M4) ho_x0.1 ho_x0.2 (by decide) (by decide) k_fl_RX0_18 rfl (by rw [eM4]; exact zUpd_L) rfl rfl dX0_beLike_21 (fun H locs hZ => ?_)
  have hm : mz M4 = mz M3 := by rw [eM4] <;> rfl
  have ho_x0 := isO_le (Nat.le_of_eq hm.symm) ho_x0
  have ho_a1 := isO_le (Nat.le_of_eq hm.symm) ho_a1
  replace h := h M4 eM4
  refine lv_aload_n hx hb dX0_beLike_24 rfl (lv_at hl 0 rfl) ?_
  refine lv_aload_n hx hb dX0_beLike_25 rfl (lv_at hl 1 rfl) ?_
  refine z_get (A d0) hZ (ci := 0) (j := 7) ho_a1.1 ho_a1.2 (by decide) (by decide) k_fl_RX0_22 (v := .long (mL M4 a1 7)) rfl dX0_beLike_26 ?_
  obtain ⟨M5, eM5⟩ : ∃ y : Mem, y = sL M4 x0 7 (mL M4 a1 7) := ⟨_, rfl⟩
  refine z_put (A d0) hZ (ci := 0) (j := 7) (M' := M5) ho_x0.1 ho_x0.2 (by decide) (by decide) k_fl_RX0_22 rfl (by rw [eM5]; exact zUpd_L) rfl rfl dX0_beLike_29 (fun H locs hZ => ?_)
  have hm : mz M5 = mz M4 := by rw [eM5] <;> rfl
  have ho_x0 := isO_le (Nat.le_of_eq hm.symm) ho_x0
  have ho_a1 := isO_le (Nat.le_of_eq hm.symm) ho_a1
  replace h := h M5 eM5
  refine lv_aload_n hx hb dX0_beLike_32 rfl (lv_at hl 0 rfl) ?_
  refine lv_aload_n hx hb dX0_beLike_33 rfl (lv_at hl 1 rfl) ?_
  refine z_get (A d0) hZ (ci := 0) (j := 8) ho_a1.1 ho_a1.2 (by decide) (by decide) k_fl_RX0_25 (v := .long (mL M5 a1 8)) rfl dX0_beLike_34 ?_
  obtain ⟨M6, eM6⟩ : ∃ y : Mem, y = sL M5 x0 8 (mL M5 a1 8) := ⟨_, rfl⟩
  refine z_put (A d0) hZ (ci := 0) (j := 8) (M' := M6) ho_x0.1 ho_x0.2 (by decide) (by decide) k_fl_RX0_25 rfl (by rw [eM6]; exact zUpd_L) rfl rfl dX0_beLike_37 (fun H locs hZ => ?_)
  have hm : mz M6 = mz M5 := by rw [eM6] <;> rfl
  have ho_x0 := isO_le (Nat.le_of_eq hm.symm) ho_x0
  have ho_a1 := isO_le (Nat.le_of_eq hm.symm) ho_a1
  replace h := h M6 eM6
  refine lv_aload_n hx hb dX0_beLike_40 rfl (lv_at hl 0 rfl) ?_
  refine lv_aload_n hx hb dX0_beLike_41 rfl (lv_at hl 1 rfl) ?_
  refine z_get (A d0) hZ (ci := 0) (j := 9) ho_a1.1 ho_a1.2 (by decide) (by decide) k_fl_RX0_28 (v := .double (mD M6 a1 9)) rfl dX0_beLike_42 ?_
  obtain ⟨M7, eM7⟩ : ∃ y : Mem, y = sD M6 x0 9 (mD M6 a1 9) := ⟨_, rfl⟩
  refine z_put (A d0) hZ (ci := 0) (j := 9) (M' := M7) ho_x0.1 ho_x0.2 (by decide) (by decide) k_fl_RX0_28 rfl (by rw [eM7]; exact zUpd_D) rfl rfl dX0_beLike_45 (fun H locs hZ => ?_)
  have hm : mz M7 = mz M6 := by rw [eM7] <;> rfl
  have ho_x0 := isO_le (Nat.le_of_eq hm.symm) ho_x0
  have ho_a1 := isO_le (Nat.le_of_eq hm.symm) ho_a1
  replace h := h M7 eM7
  refine lv_aload_n hx hb dX0_beLike_48 rfl (lv_at hl 0 rfl) ?_
  refine lv_aload_n hx hb dX0_beLike_49 rfl (lv_at hl 1 rfl) ?_
  refine z_get (A d0) hZ (ci := 0) (j := 10) ho_a1.1 ho_a1.2 (by decide) (by decide) k_fl_RX0_32 (v := .double (mD M7 a1 10)) rfl dX0_beLike_50 ?_
  obtain ⟨M8, eM8⟩ : ∃ y : Mem, y = sD M7 x0 10 (mD M7 a1 10) := ⟨_, rfl⟩
  refine z_put (A d0) hZ (ci := 0) (j := 10) (M' := M8) ho_x0.1 ho_x0.2 (by decide) (by decide) k_fl_RX0_32 rfl (by rw [eM8]; exact zUpd_D) rfl rfl dX0_beLike_53 (fun H locs hZ => ?_)
  have hm : mz M8 = mz M7 := by rw [eM8] <;> rfl
  have ho_x0 := isO_le (Nat.le_of_eq hm.symm) ho_x0
  have ho_a1 := isO_le (Nat.le_of_eq hm.symm) ho_a1
  replace h := h M8 eM8
  exact z_vret A hd0 hZ hr ⟨rfl, h⟩ dX0_beLike_56
/-! cX0_roundedDown -/
set_option maxRecDepth 100000 in
set_option maxHeartbeats 4000000 in
theorem zb_X0_roundedDown_17 {p : Program} {l : Launch} {e : Env} {R : Room} {s : State} {m : MethodId} {args : Array Value} {below : List Frame} {meth : Method} {c : Code} {G : ZG} {base z0 : Nat} {Q : Int64 → Mem → Prop} (A : ∀ d, Amb p R (s.setDrawn d) m args meth c G base z0 cX0_roundedDown yX0_roundedDown.cls 4 0 0) (hr : meth.sig.returnType = (some .long)) {d0 : Drawn} {H : Heap} {locs : List Loc} {cells slots : Nat} {ls : Array Slot} {t0 : Int64} {M : Mem} (hd0 : s.drawn.sameBut d0 lw_cs) (hZ : ZH G true base s.heap M H locs) (hl : lv_has ls 4 []) (h : wp_X0_roundedDown_17 t0 M Q) : W p l e R (s.setDrawn d0) m args below meth c H locs cells slots (ZEnd below G true base z0 (qL Q) args s) (F0 m 17 ls [.long t0]) := by
  have hx := (A d0).1
  have hb := (A d0).2.1
  unfold wp_X0_roundedDown_17 at h
  exact z_lret A hd0 hZ hr ⟨_, rfl, h⟩ dX0_roundedDown_17
set_option maxRecDepth 100000 in
set_option maxHeartbeats 4000000 in
theorem c_X0_roundedDown (l : Launch) (G : ZG) (base : Nat) (M : Mem) (x0 : UInt64) (Q : Int64 → Mem → Prop) (h : wp_X0_roundedDown x0 M Q) : ZMet l yX0_roundedDown cX0_roundedDown 4 (some .long) 0 0 G true base M [.double x0] (qL Q) := by
  refine z_start (by decide) (Nat.le_of_ble_eq_true rfl) k_co_yX0_roundedDown ?_
  intro p e s m below meth c R d0 H locs cells slots ls A hr hn hd0 hZ hl
  have hx := (A d0).1
  have hb := (A d0).2.1
  have hl : lv_has ls 4 [(0, .double x0)] := hl
  unfold wp_X0_roundedDown at h
  refine lv_dload_n hx hb dX0_roundedDown_0 rfl (lv_at hl 0 rfl) ?_
  refine lv_d2l hx hb dX0_roundedDown_1 ?_
  obtain ⟨j1, ej1⟩ : ∃ y : Int64, y = FP.d2l x0 := ⟨_, rfl⟩
  rw [← ej1]
  replace h := h j1 ej1
  refine lv_lstore_n (lv' := [(2, .long j1), (0, .double x0)]) hx hb dX0_roundedDown_2 rfl hl (by decide) rfl (fun ls hl2 => ?_)
  replace hl := hl2
  refine lv_lload_n hx hb dX0_roundedDown_3 rfl (lv_at hl 0 rfl) ?_
  refine lv_l2d hx hb dX0_roundedDown_4 ?_
  refine lv_dload_n hx hb dX0_roundedDown_5 rfl (lv_at hl 1 rfl) ?_
  refine lv_dcmp hx hb dX0_roundedDown_6 ?_
  refine lv_if_le (tgt := 16) hx hb dX0_roundedDown_7 (by decide) (fun hc => ?_) (fun hc => ?_)
  · replace h := h.1 hc
    refine lv_lload_n hx hb dX0_roundedDown_16 rfl (lv_at hl 0 rfl) ?_
    exact (zb_X0_roundedDown_17 A hr hd0 hZ (lv_sub hl [] rfl) h)
  · replace h := h.2 hc
    refine lv_lload_n hx hb dX0_roundedDown_10 rfl (lv_at hl 0 rfl) ?_
    refine lv_lconst (v := (1 : Int64)) hx hb dX0_roundedDown_11 (by decide) ?_
    refine lv_lsub hx hb dX0_roundedDown_12 ?_
    refine lv_goto (tgt := 17) hx hb dX0_roundedDown_13 (by decide) ?_
    exact (zb_X0_roundedDown_17 A hr hd0 hZ (lv_sub hl [] rfl) h)
/-! cJ9_floorDiv_f86c9 -/
set_option maxRecDepth 100000 in
set_option maxHeartbeats 4000000 in
theorem zb_J9_floorDiv_f86c9_27 {p : Program} {l : Launch} {e : Env} {R : Room} {s : State} {m : MethodId} {args : Array Value} {below : List Frame} {meth : Method} {c : Code} {G : ZG} {base z0 : Nat} {Q : Int64 → Mem → Prop} (A : ∀ d, Amb p R (s.setDrawn d) m args meth c G base z0 cJ9_floorDiv_f86c9 yJ9_floorDiv_f86c9.cls 6 0 0) (hr : meth.sig.returnType = (some .long)) {d0 : Drawn} {H : Heap} {locs : List Loc} {cells slots : Nat} {ls : Array Slot} {x4 : Int64} {M : Mem} (hd0 : s.drawn.sameBut d0 lw_cs) (hZ : ZH G true base s.heap M H locs) (hl : lv_has ls 6 [(4, .long x4)]) (h : wp_J9_floorDiv_f86c9_27 x4 M Q) : W p l e R (s.setDrawn d0) m args below meth c H locs cells slots (ZEnd below G true base z0 (qL Q) args s) (F0 m 27 ls []) := by
  have hx := (A d0).1
  have hb := (A d0).2.1
  unfold wp_J9_floorDiv_f86c9_27 at h
  refine lv_lload hx hb dJ9_floorDiv_f86c9_27 (lv_at hl 0 rfl) ?_
  exact z_lret A hd0 hZ hr ⟨_, rfl, h⟩ dJ9_floorDiv_f86c9_29
set_option maxRecDepth 100000 in
set_option maxHeartbeats 4000000 in
theorem c_J9_floorDiv_f86c9 (l : Launch) (G : ZG) (base : Nat) (M : Mem) (x0 : Int64) (x2 : Int64) (Q : Int64 → Mem → Prop) (h : wp_J9_floorDiv_f86c9 x0 x2 M Q) : ZMet l yJ9_floorDiv_f86c9 cJ9_floorDiv_f86c9 6 (some .long) 0 0 G true base M [.long x0, .long x2] (qL Q) := by
  refine z_start (by decide +kernel) (Nat.le_of_ble_eq_true rfl) k_co_yJ9_floorDiv_f86c9 ?_
  intro p e s m below meth c R d0 H locs cells slots ls A hr hn hd0 hZ hl
  have hx := (A d0).1
  have hb := (A d0).2.1
  have hl : lv_has ls 6 [(0, .long x0), (2, .long x2)] := hl
  unfold wp_J9_floorDiv_f86c9 at h
  refine lv_lload_n hx hb dJ9_floorDiv_f86c9_0 rfl (lv_at hl 0 rfl) ?_
  refine lv_lload_n hx hb dJ9_floorDiv_f86c9_1 rfl (lv_at hl 1 rfl) ?_
  obtain ⟨hne, h⟩ := h
  refine lv_ldiv hx hb dJ9_floorDiv_f86c9_2 hne ?_
  obtain ⟨j1, ej1⟩ : ∃ y : Int64, y = x0 / x2 := ⟨_, rfl⟩
  rw [← ej1]
  replace h := h j1 ej1
  refine lv_lstore (lv' := [(4, .long j1), (0, .long x0), (2, .long x2)]) hx hb dJ9_floorDiv_f86c9_3 hl (by decide) rfl (fun ls hl2 => ?_)
  replace hl := hl2
  refine lv_lload_n hx hb dJ9_floorDiv_f86c9_5 rfl (lv_at hl 1 rfl) ?_
  refine lv_lload_n hx hb dJ9_floorDiv_f86c9_6 rfl (lv_at hl 2 rfl) ?_
  refine lv_lxor hx hb dJ9_floorDiv_f86c9_7 ?_
  refine lv_lconst (v := (0 : Int64)) hx hb dJ9_floorDiv_f86c9_8 (by decide) ?_
  refine z_lc_ge (tgt := 27) hx hb dJ9_floorDiv_f86c9_9 dJ9_floorDiv_f86c9_10 (by decide) (fun hc => ?_) (fun hc => ?_)
  · replace h := h.1 hc
    exact (zb_J9_floorDiv_f86c9_27 A hr hd0 hZ (lv_sub hl [0] rfl) h)
  · replace h := h.2 hc
    refine lv_lload hx hb dJ9_floorDiv_f86c9_13 (lv_at hl 0 rfl) ?_
    refine lv_lload_n hx hb dJ9_floorDiv_f86c9_15 rfl (lv_at hl 2 rfl) ?_
    refine lv_lmul hx hb dJ9_floorDiv_f86c9_16 ?_
    refine lv_lload_n hx hb dJ9_floorDiv_f86c9_17 rfl (lv_at hl 1 rfl) ?_
    refine z_lc_eq (tgt := 27) hx hb dJ9_floorDiv_f86c9_18 dJ9_floorDiv_f86c9_19 (by decide) (fun hc => ?_) (fun hc => ?_)
    · replace h := h.1 hc
      exact (zb_J9_floorDiv_f86c9_27 A hr hd0 hZ (lv_sub hl [0] rfl) h)
    · replace h := h.2 hc
      refine lv_lload hx hb dJ9_floorDiv_f86c9_22 (lv_at hl 0 rfl) ?_
      refine lv_lconst (v := (1 : Int64)) hx hb dJ9_floorDiv_f86c9_24 (by decide) ?_
      refine lv_lsub hx hb dJ9_floorDiv_f86c9_25 ?_
      exact z_lret A hd0 hZ hr ⟨_, rfl, h⟩ dJ9_floorDiv_f86c9_26
/-! cJ9_min_f86c9 -/
set_option maxRecDepth 100000 in
set_option maxHeartbeats 4000000 in
theorem zb_J9_min_f86c9_11 {p : Program} {l : Launch} {e : Env} {R : Room} {s : State} {m : MethodId} {args : Array Value} {below : List Frame} {meth : Method} {c : Code} {G : ZG} {base z0 : Nat} {Q : Int64 → Mem → Prop} (A : ∀ d, Amb p R (s.setDrawn d) m args meth c G base z0 cJ9_min_f86c9 yJ9_min_f86c9.cls 4 0 0) (hr : meth.sig.returnType = (some .long)) {d0 : Drawn} {H : Heap} {locs : List Loc} {cells slots : Nat} {ls : Array Slot} {t0 : Int64} {M : Mem} (hd0 : s.drawn.sameBut d0 lw_cs) (hZ : ZH G true base s.heap M H locs) (hl : lv_has ls 4 []) (h : wp_J9_min_f86c9_11 t0 M Q) : W p l e R (s.setDrawn d0) m args below meth c H locs cells slots (ZEnd below G true base z0 (qL Q) args s) (F0 m 11 ls [.long t0]) := by
  have hx := (A d0).1
  have hb := (A d0).2.1
  unfold wp_J9_min_f86c9_11 at h
  exact z_lret A hd0 hZ hr ⟨_, rfl, h⟩ dJ9_min_f86c9_11
set_option maxRecDepth 100000 in
set_option maxHeartbeats 4000000 in
theorem c_J9_min_f86c9 (l : Launch) (G : ZG) (base : Nat) (M : Mem) (x0 : Int64) (x2 : Int64) (Q : Int64 → Mem → Prop) (h : wp_J9_min_f86c9 x0 x2 M Q) : ZMet l yJ9_min_f86c9 cJ9_min_f86c9 4 (some .long) 0 0 G true base M [.long x0, .long x2] (qL Q) := by
  refine z_start (by decide +kernel) (Nat.le_of_ble_eq_true rfl) k_co_yJ9_min_f86c9 ?_
  intro p e s m below meth c R d0 H locs cells slots ls A hr hn hd0 hZ hl
  have hx := (A d0).1
  have hb := (A d0).2.1
  have hl : lv_has ls 4 [(0, .long x0), (2, .long x2)] := hl
  unfold wp_J9_min_f86c9 at h
  refine lv_lload_n hx hb dJ9_min_f86c9_0 rfl (lv_at hl 0 rfl) ?_
  refine lv_lload_n hx hb dJ9_min_f86c9_1 rfl (lv_at hl 1 rfl) ?_
  refine z_lc_gt (tgt := 10) hx hb dJ9_min_f86c9_2 dJ9_min_f86c9_3 (by decide) (fun hc => ?_) (fun hc => ?_)
  · replace h := h.1 hc
    refine lv_lload_n hx hb dJ9_min_f86c9_10 rfl (lv_at hl 1 rfl) ?_
    exact (zb_J9_min_f86c9_11 A hr hd0 hZ (lv_sub hl [] rfl) h)
  · replace h := h.2 hc
    refine lv_lload_n hx hb dJ9_min_f86c9_6 rfl (lv_at hl 0 rfl) ?_
    refine lv_goto (tgt := 11) hx hb dJ9_min_f86c9_7 (by decide) ?_
    exact (zb_J9_min_f86c9_11 A hr hd0 hZ (lv_sub hl [] rfl) h)
/-! cJ9_max_f86c9 -/
set_option maxRecDepth 100000 in
set_option maxHeartbeats 4000000 in
theorem zb_J9_max_f86c9_11 {p : Program} {l : Launch} {e : Env} {R : Room} {s : State} {m : MethodId} {args : Array Value} {below : List Frame} {meth : Method} {c : Code} {G : ZG} {base z0 : Nat} {Q : Int64 → Mem → Prop} (A : ∀ d, Amb p R (s.setDrawn d) m args meth c G base z0 cJ9_max_f86c9 yJ9_max_f86c9.cls 4 0 0) (hr : meth.sig.returnType = (some .long)) {d0 : Drawn} {H : Heap} {locs : List Loc} {cells slots : Nat} {ls : Array Slot} {t0 : Int64} {M : Mem} (hd0 : s.drawn.sameBut d0 lw_cs) (hZ : ZH G true base s.heap M H locs) (hl : lv_has ls 4 []) (h : wp_J9_max_f86c9_11 t0 M Q) : W p l e R (s.setDrawn d0) m args below meth c H locs cells slots (ZEnd below G true base z0 (qL Q) args s) (F0 m 11 ls [.long t0]) := by
  have hx := (A d0).1
  have hb := (A d0).2.1
  unfold wp_J9_max_f86c9_11 at h
  exact z_lret A hd0 hZ hr ⟨_, rfl, h⟩ dJ9_max_f86c9_11
set_option maxRecDepth 100000 in
set_option maxHeartbeats 4000000 in
theorem c_J9_max_f86c9 (l : Launch) (G : ZG) (base : Nat) (M : Mem) (x0 : Int64) (x2 : Int64) (Q : Int64 → Mem → Prop) (h : wp_J9_max_f86c9 x0 x2 M Q) : ZMet l yJ9_max_f86c9 cJ9_max_f86c9 4 (some .long) 0 0 G true base M [.long x0, .long x2] (qL Q) := by
  refine z_start (by decide +kernel) (Nat.le_of_ble_eq_true rfl) k_co_yJ9_max_f86c9 ?_
  intro p e s m below meth c R d0 H locs cells slots ls A hr hn hd0 hZ hl
  have hx := (A d0).1
  have hb := (A d0).2.1
  have hl : lv_has ls 4 [(0, .long x0), (2, .long x2)] := hl
  unfold wp_J9_max_f86c9 at h
  refine lv_lload_n hx hb dJ9_max_f86c9_0 rfl (lv_at hl 0 rfl) ?_
  refine lv_lload_n hx hb dJ9_max_f86c9_1 rfl (lv_at hl 1 rfl) ?_
  refine z_lc_lt (tgt := 10) hx hb dJ9_max_f86c9_2 dJ9_max_f86c9_3 (by decide) (fun hc => ?_) (fun hc => ?_)
  · replace h := h.1 hc
    refine lv_lload_n hx hb dJ9_max_f86c9_10 rfl (lv_at hl 1 rfl) ?_
    exact (zb_J9_max_f86c9_11 A hr hd0 hZ (lv_sub hl [] rfl) h)
  · replace h := h.2 hc
    refine lv_lload_n hx hb dJ9_max_f86c9_6 rfl (lv_at hl 0 rfl) ?_
    refine lv_goto (tgt := 11) hx hb dJ9_max_f86c9_7 (by decide) ?_
    exact (zb_J9_max_f86c9_11 A hr hd0 hZ (lv_sub hl [] rfl) h)
/-! cX0_guessAway -/
set_option maxRecDepth 100000 in
set_option maxHeartbeats 4000000 in
theorem zb_X0_guessAway_16 {p : Program} {l : Launch} {e : Env} {R : Room} {s : State} {m : MethodId} {args : Array Value} {below : List Frame} {meth : Method} {c : Code} {G : ZG} {base z0 : Nat} {Q : Int32 → Mem → Prop} (A : ∀ d, Amb p R (s.setDrawn d) m args meth c G base z0 cX0_guessAway yX0_guessAway.cls 5 1 25) (hr : meth.sig.returnType = (some .int)) {d0 : Drawn} {H : Heap} {locs : List Loc} {cells slots : Nat} {ls : Array Slot}  {M : Mem} (hd0 : s.drawn.sameBut d0 lw_cs) (hZ : ZH G true base s.heap M H locs) (hl : lv_has ls 5 []) (h : wp_X0_guessAway_16 M Q) : W p l e R (s.setDrawn d0) m args below meth c H locs cells slots (ZEnd below G true base z0 (qI Q) args s) (F0 m 16 ls []) := by
  have hx := (A d0).1
  have hb := (A d0).2.1
  unfold wp_X0_guessAway_16 at h
  refine lv_iconst (v := (0 : Int32)) hx hb dX0_guessAway_16 (by decide) ?_
  exact z_iret A hd0 hZ hr ⟨_, rfl, h⟩ dX0_guessAway_17
set_option maxRecDepth 100000 in
set_option maxHeartbeats 4000000 in
theorem zb_X0_guessAway_62 {p : Program} {l : Launch} {e : Env} {R : Room} {s : State} {m : MethodId} {args : Array Value} {below : List Frame} {meth : Method} {c : Code} {G : ZG} {base z0 : Nat} {Q : Int32 → Mem → Prop} (A : ∀ d, Amb p R (s.setDrawn d) m args meth c G base z0 cX0_guessAway yX0_guessAway.cls 5 1 25) (hr : meth.sig.returnType = (some .int)) {d0 : Drawn} {H : Heap} {locs : List Loc} {cells slots : Nat} {ls : Array Slot} {x0 : Nat} {t0 : Int64} {M : Mem} (ho_x0 : isO M x0 0) (hd0 : s.drawn.sameBut d0 lw_cs) (hZ : ZH G true base s.heap M H locs) (hl : lv_has ls 5 [(0, .ref (base + x0))]) (h : wp_X0_guessAway_62 x0 t0 M Q) : W p l e R (s.setDrawn d0) m args below meth c H locs cells slots (ZEnd below G true base z0 (qI Q) args s) (F0 m 62 ls [.long t0]) := by
  have hx := (A d0).1
  have hb := (A d0).2.1
  unfold wp_X0_guessAway_62 at h
  refine lv_lstore_n (lv' := [(3, .long t0), (0, .ref (base + x0))]) hx hb dX0_guessAway_62 rfl hl (by decide) rfl (fun ls hl2 => ?_)
  replace hl := hl2
  refine lv_lconst (v := (0 : Int64)) hx hb dX0_guessAway_63 (by decide) ?_
  refine lv_lload_n hx hb dX0_guessAway_64 rfl (lv_at hl 0 rfl) ?_
  refine lv_aload_n hx hb dX0_guessAway_65 rfl (lv_at hl 1 rfl) ?_
  refine z_get (A d0) hZ (ci := 0) (j := 3) ho_x0.1 ho_x0.2 (by decide) (by decide) k_fl_RX0_45 (v := .int (mI M x0 3)) rfl dX0_guessAway_66 ?_
  refine lv_i2l hx hb dX0_guessAway_69 rfl ?_
  refine lv_lconst (v := (1 : Int64)) hx hb dX0_guessAway_70 (by decide) ?_
  refine lv_lsub hx hb dX0_guessAway_71 ?_
  refine z_callS A hd0 hZ (nA := 2) (As := [.long t0, .long (((mI M x0 3).toInt64) - (1 : Int64))]) (c_J9_min_f86c9 l G base M t0 (((mI M x0 3).toInt64) - (1 : Int64)) _ h) k_ml_RX0_48 k_st_yJ9_min_f86c9 k_in_RJ9 k_co_yJ9_min_f86c9 (by decide +kernel) ⟨by decide, by decide⟩ rfl rfl (Nat.le_of_ble_eq_true rfl) hl dX0_guessAway_72 (fun v M1 H locs d0 cells slots hq hd0 hZ hm => ?_)
  clear h
  obtain ⟨j2, rfl, h⟩ := hq
  have ho_x0 := isO_le hm ho_x0
  refine z_callS A hd0 hZ (nA := 2) (As := [.long (0 : Int64), .long j2]) (c_J9_max_f86c9 l G base M1 (0 : Int64) j2 _ h) k_ml_RX0_51 k_st_yJ9_max_f86c9 k_in_RJ9 k_co_yJ9_max_f86c9 (by decide +kernel) ⟨by decide, by decide⟩ rfl rfl (Nat.le_of_ble_eq_true rfl) hl dX0_guessAway_75 (fun v M3 H locs d0 cells slots hq hd0 hZ hm => ?_)
  clear h
  obtain ⟨j4, rfl, h⟩ := hq
  have ho_x0 := isO_le hm ho_x0
  refine lv_l2i hx hb dX0_guessAway_78 rfl ?_
  exact z_iret A hd0 hZ hr ⟨_, rfl, h⟩ dX0_guessAway_79
set_option maxRecDepth 100000 in
set_option maxHeartbeats 4000000 in
theorem c_X0_guessAway (l : Launch) (G : ZG) (base : Nat) (M : Mem) (x0 : Nat) (x1 : Int64) (Q : Int32 → Mem → Prop) (h : wp_X0_guessAway x0 x1 M Q) : ZMet l yX0_guessAway cX0_guessAway 5 (some .int) 1 25 G true base M [.ref (base + x0), .long x1] (qI Q) := by
  refine z_start (by decide) (Nat.le_of_ble_eq_true rfl) k_co_yX0_guessAway ?_
  intro p e s m below meth c R d0 H locs cells slots ls A hr hn hd0 hZ hl
  have hx := (A d0).1
  have hb := (A d0).2.1
  have hl : lv_has ls 5 [(0, .ref (base + x0)), (1, .long x1)] := hl
  unfold wp_X0_guessAway at h
  obtain ⟨ho_x0, h⟩ := h
  refine lv_aload_n hx hb dX0_guessAway_0 rfl (lv_at hl 0 rfl) ?_
  refine z_get (A d0) hZ (ci := 0) (j := 0) ho_x0.1 ho_x0.2 (by decide) (by decide) k_fl_RX0_9 (v := .int (mI M x0 0)) rfl dX0_guessAway_1 ?_
  refine lv_if_eq (tgt := 16) hx hb dX0_guessAway_4 (by decide) (fun hc => ?_) (fun hc => ?_)
  · replace h := h.1 hc
    exact (zb_X0_guessAway_16 A hr hd0 hZ (lv_sub hl [] rfl) h)
  · replace h := h.2 hc
    refine lv_aload_n hx hb dX0_guessAway_7 rfl (lv_at hl 0 rfl) ?_
    refine z_get (A d0) hZ (ci := 0) (j := 7) ho_x0.1 ho_x0.2 (by decide) (by decide) k_fl_RX0_22 (v := .long (mL M x0 7)) rfl dX0_guessAway_8 ?_
    refine lv_lconst (v := (1 : Int64)) hx hb dX0_guessAway_11 (by decide) ?_
    refine z_lc_ge (tgt := 18) hx hb dX0_guessAway_12 dX0_guessAway_13 (by decide) (fun hc => ?_) (fun hc => ?_)
    · replace h := h.1 hc
      refine lv_aload_n hx hb dX0_guessAway_18 rfl (lv_at hl 0 rfl) ?_
      refine z_get (A d0) hZ (ci := 0) (j := 0) ho_x0.1 ho_x0.2 (by decide) (by decide) k_fl_RX0_9 (v := .int (mI M x0 0)) rfl dX0_guessAway_19 ?_
      refine lv_iconst (v := (2 : Int32)) hx hb dX0_guessAway_22 (by decide) ?_
      refine lv_icmp_ne (tgt := 44) hx hb dX0_guessAway_23 (by decide) (fun hc => ?_) (fun hc => ?_)
      · replace h := h.1 hc
        refine lv_aload_n hx hb dX0_guessAway_44 rfl (lv_at hl 0 rfl) ?_
        refine z_get (A d0) hZ (ci := 0) (j := 8) ho_x0.1 ho_x0.2 (by decide) (by decide) k_fl_RX0_25 (v := .long (mL M x0 8)) rfl dX0_guessAway_45 ?_
        refine lv_aload_n hx hb dX0_guessAway_48 rfl (lv_at hl 0 rfl) ?_
        refine z_get (A d0) hZ (ci := 0) (j := 6) ho_x0.1 ho_x0.2 (by decide) (by decide) k_fl_RX0_18 (v := .long (mL M x0 6)) rfl dX0_guessAway_49 ?_
        refine lv_lload_n hx hb dX0_guessAway_52 rfl (lv_at hl 1 rfl) ?_
        refine lv_lmul hx hb dX0_guessAway_53 ?_
        refine lv_ladd hx hb dX0_guessAway_54 ?_
        refine lv_aload_n hx hb dX0_guessAway_55 rfl (lv_at hl 0 rfl) ?_
        refine z_get (A d0) hZ (ci := 0) (j := 7) ho_x0.1 ho_x0.2 (by decide) (by decide) k_fl_RX0_22 (v := .long (mL M x0 7)) rfl dX0_guessAway_56 ?_
        refine z_callS A hd0 hZ (nA := 2) (As := [.long ((mL M x0 8) + ((mL M x0 6) * x1)), .long (mL M x0 7)]) (c_J9_floorDiv_f86c9 l G base M ((mL M x0 8) + ((mL M x0 6) * x1)) (mL M x0 7) _ h) k_ml_RX0_39 k_st_yJ9_floorDiv_f86c9 k_in_RJ9 k_co_yJ9_floorDiv_f86c9 (by decide +kernel) ⟨by decide, by decide⟩ rfl rfl (Nat.le_of_ble_eq_true rfl) hl dX0_guessAway_59 (fun v M5 H locs d0 cells slots hq hd0 hZ hm => ?_)
        clear h
        obtain ⟨j6, rfl, h⟩ := hq
        have ho_x0 := isO_le hm ho_x0
        exact (zb_X0_guessAway_62 A hr ho_x0 hd0 hZ (lv_sub hl [0] rfl) h)
      · replace h := h.2 hc
        refine lv_aload_n hx hb dX0_guessAway_26 rfl (lv_at hl 0 rfl) ?_
        refine z_get (A d0) hZ (ci := 0) (j := 10) ho_x0.1 ho_x0.2 (by decide) (by decide) k_fl_RX0_32 (v := .double (mD M x0 10)) rfl dX0_guessAway_27 ?_
        refine lv_aload_n hx hb dX0_guessAway_30 rfl (lv_at hl 0 rfl) ?_
        refine z_get (A d0) hZ (ci := 0) (j := 9) ho_x0.1 ho_x0.2 (by decide) (by decide) k_fl_RX0_28 (v := .double (mD M x0 9)) rfl dX0_guessAway_31 ?_
        refine lv_lload_n hx hb dX0_guessAway_34 rfl (lv_at hl 1 rfl) ?_
        refine lv_l2d hx hb dX0_guessAway_35 ?_
        refine lv_dmul_any hd0 lw_bits hx hb dX0_guessAway_36 (fun f7 d0 hal hd0 => ?_)
        replace h := h f7 hal
        refine lv_dadd_any hd0 lw_bits hx hb dX0_guessAway_37 (fun f8 d0 hal hd0 => ?_)
        replace h := h f8 hal
        refine z_callS A hd0 hZ (nA := 1) (As := [.double f8]) (c_X0_roundedDown l G base M f8 _ h) k_ml_RX0_35 k_st_yX0_roundedDown k_in_RX0 k_co_yX0_roundedDown (by decide +kernel) ⟨by decide, by decide⟩ rfl rfl (Nat.le_of_ble_eq_true rfl) hl dX0_guessAway_38 (fun v M9 H locs d0 cells slots hq hd0 hZ hm => ?_)
        clear h
        obtain ⟨j10, rfl, h⟩ := hq
        have ho_x0 := isO_le hm ho_x0
        refine lv_goto (tgt := 62) hx hb dX0_guessAway_41 (by decide) ?_
        exact (zb_X0_guessAway_62 A hr ho_x0 hd0 hZ (lv_sub hl [0] rfl) h)
    · replace h := h.2 hc
      exact (zb_X0_guessAway_16 A hr hd0 hZ (lv_sub hl [] rfl) h)
/-! cX1_init -/
set_option maxRecDepth 100000 in
set_option maxHeartbeats 4000000 in
theorem c_X1_init (l : Launch) (G : ZG) (base : Nat) (M : Mem) (x0 : Nat) (Q : Mem → Prop) (h : wp_X1_init x0 M Q) : ZMet l yX1_init cX1_init 1 none 1 12 G false base M [.ref (base + x0)] (qV Q) := by
  refine z_start (by decide) (Nat.le_of_ble_eq_true rfl) k_co_yX1_init ?_
  intro p e s m below meth c R d0 H locs cells slots ls A hr hn hd0 hZ hl
  have hx := (A d0).1
  have hb := (A d0).2.1
  have hl : lv_has ls 1 [(0, .ref (base + x0))] := hl
  have hn : meth.name = "<init>" := hn
  unfold wp_X1_init at h
  obtain ⟨ho_x0, h⟩ := h
  refine lv_aload_n hx hb dX1_init_0 rfl (lv_at hl 0 rfl) ?_
  refine z_objInit (A d0) k_ml_RX1_1 hl dX1_init_1 (by decide) (Nat.le_of_ble_eq_true rfl) ?_
  refine lv_aload_n hx hb dX1_init_4 rfl (lv_at hl 0 rfl) ?_
  refine lv_ldc2 (v := (-1 : Int64)) hx hb (A d0).2.2.2.1 ((A d0).2.2.2.2.1 _ k_lc_RX1_7) dX1_init_5 ?_
  obtain ⟨M1, eM1⟩ : ∃ y : Mem, y = sL M x0 0 (-1 : Int64) := ⟨_, rfl⟩
  refine z_put (A d0) hZ (ci := 1) (j := 0) (M' := M1) ho_x0.1 ho_x0.2 (by decide) (by decide) k_fl_RX1_9 rfl (by rw [eM1]; exact zUpd_L) rfl rfl dX1_init_8 (fun H locs hZ => ?_)
  have hm : mz M1 = mz M := by rw [eM1] <;> rfl
  have ho_x0 := isO_le (Nat.le_of_eq hm.symm) ho_x0
  replace h := h M1 eM1
  refine lv_aload_n hx hb dX1_init_11 rfl (lv_at hl 0 rfl) ?_
  refine lv_lconst (v := (0 : Int64)) hx hb dX1_init_12 (by decide) ?_
  obtain ⟨M2, eM2⟩ : ∃ y : Mem, y = sL M1 x0 1 (0 : Int64) := ⟨_, rfl⟩
  refine z_put (A d0) hZ (ci := 1) (j := 1) (M' := M2) ho_x0.1 ho_x0.2 (by decide) (by decide) k_fl_RX1_15 rfl (by rw [eM2]; exact zUpd_L) rfl rfl dX1_init_13 (fun H locs hZ => ?_)
  have hm : mz M2 = mz M1 := by rw [eM2] <;> rfl
  have ho_x0 := isO_le (Nat.le_of_eq hm.symm) ho_x0
  replace h := h M2 eM2
  refine lv_aload_n hx hb dX1_init_16 rfl (lv_at hl 0 rfl) ?_
  refine lv_lconst (v := (1 : Int64)) hx hb dX1_init_17 (by decide) ?_
  obtain ⟨M3, eM3⟩ : ∃ y : Mem, y = sL M2 x0 2 (1 : Int64) := ⟨_, rfl⟩
  refine z_put (A d0) hZ (ci := 1) (j := 2) (M' := M3) ho_x0.1 ho_x0.2 (by decide) (by decide) k_fl_RX1_18 rfl (by rw [eM3]; exact zUpd_L) rfl rfl dX1_init_18 (fun H locs hZ => ?_)
  have hm : mz M3 = mz M2 := by rw [eM3] <;> rfl
  have ho_x0 := isO_le (Nat.le_of_eq hm.symm) ho_x0
  replace h := h M3 eM3
  refine lv_aload_n hx hb dX1_init_21 rfl (lv_at hl 0 rfl) ?_
  refine lv_lconst (v := (0 : Int64)) hx hb dX1_init_22 (by decide) ?_
  obtain ⟨M4, eM4⟩ : ∃ y : Mem, y = sL M3 x0 3 (0 : Int64) := ⟨_, rfl⟩
  refine z_put (A d0) hZ (ci := 1) (j := 3) (M' := M4) ho_x0.1 ho_x0.2 (by decide) (by decide) k_fl_RX1_21 rfl (by rw [eM4]; exact zUpd_L) rfl rfl dX1_init_23 (fun H locs hZ => ?_)
  have hm : mz M4 = mz M3 := by rw [eM4] <;> rfl
  have ho_x0 := isO_le (Nat.le_of_eq hm.symm) ho_x0
  replace h := h M4 eM4
  refine lv_aload_n hx hb dX1_init_26 rfl (lv_at hl 0 rfl) ?_
  refine lv_iconst (v := (0 : Int32)) hx hb dX1_init_27 (by decide) ?_
  obtain ⟨M5, eM5⟩ : ∃ y : Mem, y = sI M4 x0 4 (0 : Int32) := ⟨_, rfl⟩
  refine z_put (A d0) hZ (ci := 1) (j := 4) (M' := M5) ho_x0.1 ho_x0.2 (by decide) (by decide) k_fl_RX1_24 rfl (by rw [eM5]; exact zUpd_I) rfl rfl dX1_init_28 (fun H locs hZ => ?_)
  have hm : mz M5 = mz M4 := by rw [eM5] <;> rfl
  have ho_x0 := isO_le (Nat.le_of_eq hm.symm) ho_x0
  replace h := h M5 eM5
  exact z_vret A hd0 hZ hr ⟨rfl, h⟩ dX1_init_31
/-! cX1_forget -/
set_option maxRecDepth 100000 in
set_option maxHeartbeats 4000000 in
theorem c_X1_forget (l : Launch) (G : ZG) (base : Nat) (M : Mem) (x0 : Nat) (Q : Mem → Prop) (h : wp_X1_forget x0 M Q) : ZMet l yX1_forget cX1_forget 1 none 0 0 G true base M [.ref (base + x0)] (qV Q) := by
  refine z_start (by decide) (Nat.le_of_ble_eq_true rfl) k_co_yX1_forget ?_
  intro p e s m below meth c R d0 H locs cells slots ls A hr hn hd0 hZ hl
  have hx := (A d0).1
  have hb := (A d0).2.1
  have hl : lv_has ls 1 [(0, .ref (base + x0))] := hl
  unfold wp_X1_forget at h
  obtain ⟨ho_x0, h⟩ := h
  refine lv_aload_n hx hb dX1_forget_0 rfl (lv_at hl 0 rfl) ?_
  refine lv_ldc2 (v := (-1 : Int64)) hx hb (A d0).2.2.2.1 ((A d0).2.2.2.2.1 _ k_lc_RX1_7) dX1_forget_1 ?_
  obtain ⟨M1, eM1⟩ : ∃ y : Mem, y = sL M x0 0 (-1 : Int64) := ⟨_, rfl⟩
  refine z_put (A d0) hZ (ci := 1) (j := 0) (M' := M1) ho_x0.1 ho_x0.2 (by decide) (by decide) k_fl_RX1_9 rfl (by rw [eM1]; exact zUpd_L) rfl rfl dX1_forget_4 (fun H locs hZ => ?_)
  have hm : mz M1 = mz M := by rw [eM1] <;> rfl
  have ho_x0 := isO_le (Nat.le_of_eq hm.symm) ho_x0
  replace h := h M1 eM1
  refine lv_aload_n hx hb dX1_forget_7 rfl (lv_at hl 0 rfl) ?_
  refine lv_lconst (v := (0 : Int64)) hx hb dX1_forget_8 (by decide) ?_
  obtain ⟨M2, eM2⟩ : ∃ y : Mem, y = sL M1 x0 1 (0 : Int64) := ⟨_, rfl⟩
  refine z_put (A d0) hZ (ci := 1) (j := 1) (M' := M2) ho_x0.1 ho_x0.2 (by decide) (by decide) k_fl_RX1_15 rfl (by rw [eM2]; exact zUpd_L) rfl rfl dX1_forget_9 (fun H locs hZ => ?_)
  have hm : mz M2 = mz M1 := by rw [eM2] <;> rfl
  have ho_x0 := isO_le (Nat.le_of_eq hm.symm) ho_x0
  replace h := h M2 eM2
  refine lv_aload_n hx hb dX1_forget_12 rfl (lv_at hl 0 rfl) ?_
  refine lv_lconst (v := (1 : Int64)) hx hb dX1_forget_13 (by decide) ?_
  obtain ⟨M3, eM3⟩ : ∃ y : Mem, y = sL M2 x0 2 (1 : Int64) := ⟨_, rfl⟩
  refine z_put (A d0) hZ (ci := 1) (j := 2) (M' := M3) ho_x0.1 ho_x0.2 (by decide) (by decide) k_fl_RX1_18 rfl (by rw [eM3]; exact zUpd_L) rfl rfl dX1_forget_14 (fun H locs hZ => ?_)
  have hm : mz M3 = mz M2 := by rw [eM3] <;> rfl
  have ho_x0 := isO_le (Nat.le_of_eq hm.symm) ho_x0
  replace h := h M3 eM3
  refine lv_aload_n hx hb dX1_forget_17 rfl (lv_at hl 0 rfl) ?_
  refine lv_lconst (v := (0 : Int64)) hx hb dX1_forget_18 (by decide) ?_
  obtain ⟨M4, eM4⟩ : ∃ y : Mem, y = sL M3 x0 3 (0 : Int64) := ⟨_, rfl⟩
  refine z_put (A d0) hZ (ci := 1) (j := 3) (M' := M4) ho_x0.1 ho_x0.2 (by decide) (by decide) k_fl_RX1_21 rfl (by rw [eM4]; exact zUpd_L) rfl rfl dX1_forget_19 (fun H locs hZ => ?_)
  have hm : mz M4 = mz M3 := by rw [eM4] <;> rfl
  have ho_x0 := isO_le (Nat.le_of_eq hm.symm) ho_x0
  replace h := h M4 eM4
  refine lv_aload_n hx hb dX1_forget_22 rfl (lv_at hl 0 rfl) ?_
  refine lv_iconst (v := (0 : Int32)) hx hb dX1_forget_23 (by decide) ?_
  obtain ⟨M5, eM5⟩ : ∃ y : Mem, y = sI M4 x0 4 (0 : Int32) := ⟨_, rfl⟩
  refine z_put (A d0) hZ (ci := 1) (j := 4) (M' := M5) ho_x0.1 ho_x0.2 (by decide) (by decide) k_fl_RX1_24 rfl (by rw [eM5]; exact zUpd_I) rfl rfl dX1_forget_24 (fun H locs hZ => ?_)
  have hm : mz M5 = mz M4 := by rw [eM5] <;> rfl
  have ho_x0 := isO_le (Nat.le_of_eq hm.symm) ho_x0
  replace h := h M5 eM5
  exact z_vret A hd0 hZ hr ⟨rfl, h⟩ dX1_forget_27
/-! cX1_narrow -/
set_option maxRecDepth 100000 in
set_option maxHeartbeats 4000000 in
theorem zb_X1_narrow_15 {p : Program} {l : Launch} {e : Env} {R : Room} {s : State} {m : MethodId} {args : Array Value} {below : List Frame} {meth : Method} {c : Code} {G : ZG} {base z0 : Nat} {Q : Mem → Prop} (A : ∀ d, Amb p R (s.setDrawn d) m args meth c G base z0 cX1_narrow yX1_narrow.cls 11 0 0) (hr : meth.sig.returnType = none) {d0 : Drawn} {H : Heap} {locs : List Loc} {cells slots : Nat} {ls : Array Slot}  {M : Mem} (hd0 : s.drawn.sameBut d0 lw_cs) (hZ : ZH G true base s.heap M H locs) (hl : lv_has ls 11 []) (h : wp_X1_narrow_15 M Q) : W p l e R (s.setDrawn d0) m args below meth c H locs cells slots (ZEnd below G true base z0 (qV Q) args s) (F0 m 15 ls []) := by
  have hx := (A d0).1
  have hb := (A d0).2.1
  unfold wp_X1_narrow_15 at h
  exact z_vret A hd0 hZ hr ⟨rfl, h⟩ dX1_narrow_15
set_option maxRecDepth 100000 in
set_option maxHeartbeats 4000000 in
theorem zb_X1_narrow_112 {p : Program} {l : Launch} {e : Env} {R : Room} {s : State} {m : MethodId} {args : Array Value} {below : List Frame} {meth : Method} {c : Code} {G : ZG} {base z0 : Nat} {Q : Mem → Prop} (A : ∀ d, Amb p R (s.setDrawn d) m args meth c G base z0 cX1_narrow yX1_narrow.cls 11 0 0) (hr : meth.sig.returnType = none) {d0 : Drawn} {H : Heap} {locs : List Loc} {cells slots : Nat} {ls : Array Slot}  {M : Mem} (hd0 : s.drawn.sameBut d0 lw_cs) (hZ : ZH G true base s.heap M H locs) (hl : lv_has ls 11 []) (h : wp_X1_narrow_112 M Q) : W p l e R (s.setDrawn d0) m args below meth c H locs cells slots (ZEnd below G true base z0 (qV Q) args s) (F0 m 112 ls []) := by
  have hx := (A d0).1
  have hb := (A d0).2.1
  unfold wp_X1_narrow_112 at h
  exact z_vret A hd0 hZ hr ⟨rfl, h⟩ dX1_narrow_112
set_option maxRecDepth 100000 in
set_option maxHeartbeats 4000000 in
theorem zb_X1_narrow_82 {p : Program} {l : Launch} {e : Env} {R : Room} {s : State} {m : MethodId} {args : Array Value} {below : List Frame} {meth : Method} {c : Code} {G : ZG} {base z0 : Nat} {Q : Mem → Prop} (A : ∀ d, Amb p R (s.setDrawn d) m args meth c G base z0 cX1_narrow yX1_narrow.cls 11 0 0) (hr : meth.sig.returnType = none) {d0 : Drawn} {H : Heap} {locs : List Loc} {cells slots : Nat} {ls : Array Slot} {x0 : Nat} {x5 : Int64} {x9 : Int64} {M : Mem} (ho_x0 : isO M x0 1) (hd0 : s.drawn.sameBut d0 lw_cs) (hZ : ZH G true base s.heap M H locs) (hl : lv_has ls 11 [(0, .ref (base + x0)), (5, .long x5), (9, .long x9)]) (h : wp_X1_narrow_82 x0 x5 x9 M Q) : W p l e R (s.setDrawn d0) m args below meth c H locs cells slots (ZEnd below G true base z0 (qV Q) args s) (F0 m 82 ls []) := by
  have hx := (A d0).1
  have hb := (A d0).2.1
  unfold wp_X1_narrow_82 at h
  refine lv_lload hx hb dX1_narrow_82 (lv_at hl 2 rfl) ?_
  refine lv_aload_n hx hb dX1_narrow_84 rfl (lv_at hl 0 rfl) ?_
  refine z_get (A d0) hZ (ci := 1) (j := 1) ho_x0.1 ho_x0.2 (by decide) (by decide) k_fl_RX1_15 (v := .long (mL M x0 1)) rfl dX1_narrow_85 ?_
  refine lv_lmul hx hb dX1_narrow_88 ?_
  refine lv_aload_n hx hb dX1_narrow_89 rfl (lv_at hl 0 rfl) ?_
  refine z_get (A d0) hZ (ci := 1) (j := 0) ho_x0.1 ho_x0.2 (by decide) (by decide) k_fl_RX1_9 (v := .long (mL M x0 0)) rfl dX1_narrow_90 ?_
  refine lv_lload hx hb dX1_narrow_93 (lv_at hl 1 rfl) ?_
  refine lv_lmul hx hb dX1_narrow_95 ?_
  refine z_lc_le (tgt := 112) hx hb dX1_narrow_96 dX1_narrow_97 (by decide) (fun hc => ?_) (fun hc => ?_)
  · replace h := h.1 hc
    exact (zb_X1_narrow_112 A hr hd0 hZ (lv_sub hl [] rfl) h)
  · replace h := h.2 hc
    refine lv_aload_n hx hb dX1_narrow_100 rfl (lv_at hl 0 rfl) ?_
    refine lv_lload hx hb dX1_narrow_101 (lv_at hl 2 rfl) ?_
    obtain ⟨M1, eM1⟩ : ∃ y : Mem, y = sL M x0 0 x9 := ⟨_, rfl⟩
    refine z_put (A d0) hZ (ci := 1) (j := 0) (M' := M1) ho_x0.1 ho_x0.2 (by decide) (by decide) k_fl_RX1_9 rfl (by rw [eM1]; exact zUpd_L) rfl rfl dX1_narrow_103 (fun H locs hZ => ?_)
    have hm : mz M1 = mz M := by rw [eM1] <;> rfl
    have ho_x0 := isO_le (Nat.le_of_eq hm.symm) ho_x0
    replace h := h M1 eM1
    refine lv_aload_n hx hb dX1_narrow_106 rfl (lv_at hl 0 rfl) ?_
    refine lv_lload hx hb dX1_narrow_107 (lv_at hl 1 rfl) ?_
    obtain ⟨M2, eM2⟩ : ∃ y : Mem, y = sL M1 x0 1 x5 := ⟨_, rfl⟩
    refine z_put (A d0) hZ (ci := 1) (j := 1) (M' := M2) ho_x0.1 ho_x0.2 (by decide) (by decide) k_fl_RX1_15 rfl (by rw [eM2]; exact zUpd_L) rfl rfl dX1_narrow_109 (fun H locs hZ => ?_)
    have hm : mz M2 = mz M1 := by rw [eM2] <;> rfl
    have ho_x0 := isO_le (Nat.le_of_eq hm.symm) ho_x0
    replace h := h M2 eM2
    exact (zb_X1_narrow_112 A hr hd0 hZ (lv_sub hl [] rfl) h)
set_option maxRecDepth 100000 in
set_option maxHeartbeats 4000000 in
theorem c_X1_narrow (l : Launch) (G : ZG) (base : Nat) (M : Mem) (x0 : Nat) (x1 : Option Nat) (x2 : Int32) (x3 : Int32) (x4 : Int32) (Q : Mem → Prop) (h : wp_X1_narrow x0 x1 x2 x3 x4 M Q) : ZMet l yX1_narrow cX1_narrow 11 none 0 0 G true base M [.ref (base + x0), vr base x1, .int x2, .int x3, .int x4] (qV Q) := by
  refine z_start (by decide) (by simp [lg_sl, cat_vr, cat_r, cat_i, cat_l, cat_d]) k_co_yX1_narrow ?_
  intro p e s m below meth c R d0 H locs cells slots ls A hr hn hd0 hZ hl
  have hx := (A d0).1
  have hb := (A d0).2.1
  have hl : lv_has ls 11 [(0, .ref (base + x0)), (1, vr base x1), (2, .int x2), (3, .int x3), (4, .int x4)] := by simpa [lv_args, cat_vr, cat_r, cat_i, cat_l, cat_d] using hl
  unfold wp_X1_narrow at h
  obtain ⟨ho_x0, h⟩ := h
  refine lv_iload_n hx hb dX1_narrow_0 rfl (lv_at hl 2 rfl) ?_
  refine lv_if_lt (tgt := 15) hx hb dX1_narrow_1 (by decide) (fun hc => ?_) (fun hc => ?_)
  · replace h := h.1 hc
    exact (zb_X1_narrow_15 A hr hd0 hZ (lv_sub hl [] rfl) h)
  · replace h := h.2 hc
    refine lv_iload_n hx hb dX1_narrow_4 rfl (lv_at hl 3 rfl) ?_
    refine lv_iload_n hx hb dX1_narrow_5 rfl (lv_at hl 2 rfl) ?_
    refine lv_icmp_le (tgt := 15) hx hb dX1_narrow_6 (by decide) (fun hc => ?_) (fun hc => ?_)
    · replace h := h.1 hc
      exact (zb_X1_narrow_15 A hr hd0 hZ (lv_sub hl [] rfl) h)
    · replace h := h.2 hc
      refine lv_iload_n hx hb dX1_narrow_9 rfl (lv_at hl 3 rfl) ?_
      refine z_aload_n (base := base) hx hb dX1_narrow_10 rfl (lv_at hl 1 rfl) ?_
      obtain ⟨a3, rfl, ho_a3, h⟩ := h
      refine z_alen (A d0) hZ ho_a3 1 rfl dX1_narrow_11 ?_
      refine lv_icmp_lt (tgt := 16) hx hb dX1_narrow_12 (by decide) (fun hc => ?_) (fun hc => ?_)
      · replace h := h.1 hc
        refine lv_aload_n hx hb dX1_narrow_16 rfl (lv_at hl 1 rfl) ?_
        refine lv_iload_n hx hb dX1_narrow_17 rfl (lv_at hl 3 rfl) ?_
        obtain ⟨hin, h⟩ := h
        refine z_lald (A d0) hZ ho_a3 hin dX1_narrow_18 ?_
        refine lv_aload_n hx hb dX1_narrow_19 rfl (lv_at hl 1 rfl) ?_
        refine lv_iload_n hx hb dX1_narrow_20 rfl (lv_at hl 2 rfl) ?_
        obtain ⟨hin, h⟩ := h
        refine z_lald (A d0) hZ ho_a3 hin dX1_narrow_21 ?_
        refine lv_lsub hx hb dX1_narrow_22 ?_
        obtain ⟨j4, ej4⟩ : ∃ y : Int64, y = (mL M a3 x3.toNatClampNeg) - (mL M a3 x2.toNatClampNeg) := ⟨_, rfl⟩
        rw [← ej4]
        replace h := h j4 ej4
        refine lv_lstore (lv' := [(5, .long j4), (0, .ref (base + x0)), (1, .ref (base + a3)), (2, .int x2), (3, .int x3), (4, .int x4)]) hx hb dX1_narrow_23 hl (by decide) rfl (fun ls hl2 => ?_)
        replace hl := hl2
        refine lv_iload_n hx hb dX1_narrow_25 rfl (lv_at hl 4 rfl) ?_
        refine lv_iload_n hx hb dX1_narrow_26 rfl (lv_at hl 3 rfl) ?_
        refine lv_isub hx hb dX1_narrow_27 ?_
        refine lv_iconst (v := (2 : Int32)) hx hb dX1_narrow_28 (by decide) ?_
        refine lv_iload hx hb dX1_narrow_29 (lv_at hl 5 rfl) ?_
        refine lv_imul hx hb dX1_narrow_31 ?_
        refine lv_iadd hx hb dX1_narrow_32 ?_
        refine lv_i2l hx hb dX1_narrow_33 rfl ?_
        obtain ⟨j5, ej5⟩ : ∃ y : Int64, y = ((x3 - x2) + ((2 : Int32) * x4)).toInt64 := ⟨_, rfl⟩
        rw [← ej5]
        replace h := h j5 ej5
        refine lv_lstore (lv' := [(7, .long j5), (5, .long j4), (0, .ref (base + x0)), (1, .ref (base + a3)), (2, .int x2), (3, .int x3), (4, .int x4)]) hx hb dX1_narrow_34 hl (by decide) rfl (fun ls hl2 => ?_)
        replace hl := hl2
        refine lv_iload_n hx hb dX1_narrow_36 rfl (lv_at hl 5 rfl) ?_
        refine lv_iload_n hx hb dX1_narrow_37 rfl (lv_at hl 4 rfl) ?_
        refine lv_isub hx hb dX1_narrow_38 ?_
        refine lv_iconst (v := (2 : Int32)) hx hb dX1_narrow_39 (by decide) ?_
        refine lv_iload hx hb dX1_narrow_40 (lv_at hl 6 rfl) ?_
        refine lv_imul hx hb dX1_narrow_42 ?_
        refine lv_isub hx hb dX1_narrow_43 ?_
        refine lv_i2l hx hb dX1_narrow_44 rfl ?_
        obtain ⟨j6, ej6⟩ : ∃ y : Int64, y = ((x3 - x2) - ((2 : Int32) * x4)).toInt64 := ⟨_, rfl⟩
        rw [← ej6]
        replace h := h j6 ej6
        refine lv_lstore (lv' := [(9, .long j6), (7, .long j5), (5, .long j4), (0, .ref (base + x0)), (1, .ref (base + a3)), (2, .int x2), (3, .int x3), (4, .int x4)]) hx hb dX1_narrow_45 hl (by decide) rfl (fun ls hl2 => ?_)
        replace hl := hl2
        refine lv_lload hx hb dX1_narrow_47 (lv_at hl 1 rfl) ?_
        refine lv_aload_n hx hb dX1_narrow_49 rfl (lv_at hl 3 rfl) ?_
        refine z_get (A d0) hZ (ci := 1) (j := 3) ho_x0.1 ho_x0.2 (by decide) (by decide) k_fl_RX1_21 (v := .long (mL M x0 3)) rfl dX1_narrow_50 ?_
        refine lv_lmul hx hb dX1_narrow_53 ?_
        refine lv_aload_n hx hb dX1_narrow_54 rfl (lv_at hl 3 rfl) ?_
        refine z_get (A d0) hZ (ci := 1) (j := 2) ho_x0.1 ho_x0.2 (by decide) (by decide) k_fl_RX1_18 (v := .long (mL M x0 2)) rfl dX1_narrow_55 ?_
        refine lv_lload hx hb dX1_narrow_58 (lv_at hl 2 rfl) ?_
        refine lv_lmul hx hb dX1_narrow_60 ?_
        refine z_lc_ge (tgt := 82) hx hb dX1_narrow_61 dX1_narrow_62 (by decide) (fun hc => ?_) (fun hc => ?_)
        · replace h := h.1 hc
          exact (zb_X1_narrow_82 A hr ho_x0 hd0 hZ (lv_sub hl [3, 2, 0] rfl) h)
        · replace h := h.2 hc
          refine lv_aload_n hx hb dX1_narrow_65 rfl (lv_at hl 3 rfl) ?_
          refine lv_lload hx hb dX1_narrow_66 (lv_at hl 1 rfl) ?_
          obtain ⟨M7, eM7⟩ : ∃ y : Mem, y = sL M x0 2 j5 := ⟨_, rfl⟩
          refine z_put (A d0) hZ (ci := 1) (j := 2) (M' := M7) ho_x0.1 ho_x0.2 (by decide) (by decide) k_fl_RX1_18 rfl (by rw [eM7]; exact zUpd_L) rfl rfl dX1_narrow_68 (fun H locs hZ => ?_)
          have hm : mz M7 = mz M := by rw [eM7] <;> rfl
          have ho_x0 := isO_le (Nat.le_of_eq hm.symm) ho_x0
          have ho_a3 := isA_le (Nat.le_of_eq hm.symm) ho_a3
          replace h := h M7 eM7
          refine lv_aload_n hx hb dX1_narrow_71 rfl (lv_at hl 3 rfl) ?_
          refine lv_lload hx hb dX1_narrow_72 (lv_at hl 2 rfl) ?_
          obtain ⟨M8, eM8⟩ : ∃ y : Mem, y = sL M7 x0 3 j4 := ⟨_, rfl⟩
          refine z_put (A d0) hZ (ci := 1) (j := 3) (M' := M8) ho_x0.1 ho_x0.2 (by decide) (by decide) k_fl_RX1_21 rfl (by rw [eM8]; exact zUpd_L) rfl rfl dX1_narrow_74 (fun H locs hZ => ?_)
          have hm : mz M8 = mz M7 := by rw [eM8] <;> rfl
          have ho_x0 := isO_le (Nat.le_of_eq hm.symm) ho_x0
          have ho_a3 := isA_le (Nat.le_of_eq hm.symm) ho_a3
          replace h := h M8 eM8
          refine lv_aload_n hx hb dX1_narrow_77 rfl (lv_at hl 3 rfl) ?_
          refine lv_iload_n hx hb dX1_narrow_78 rfl (lv_at hl 5 rfl) ?_
          obtain ⟨M9, eM9⟩ : ∃ y : Mem, y = sI M8 x0 4 x2 := ⟨_, rfl⟩
          refine z_put (A d0) hZ (ci := 1) (j := 4) (M' := M9) ho_x0.1 ho_x0.2 (by decide) (by decide) k_fl_RX1_24 rfl (by rw [eM9]; exact zUpd_I) rfl rfl dX1_narrow_79 (fun H locs hZ => ?_)
          have hm : mz M9 = mz M8 := by rw [eM9] <;> rfl
          have ho_x0 := isO_le (Nat.le_of_eq hm.symm) ho_x0
          have ho_a3 := isA_le (Nat.le_of_eq hm.symm) ho_a3
          replace h := h M9 eM9
          exact (zb_X1_narrow_82 A hr ho_x0 hd0 hZ (lv_sub hl [3, 2, 0] rfl) h)
      · replace h := h.2 hc
        exact (zb_X1_narrow_15 A hr hd0 hZ (lv_sub hl [] rfl) h)
/-! cX1_leaveSome -/
set_option maxRecDepth 100000 in
set_option maxHeartbeats 4000000 in
theorem zb_X1_leaveSome_27 {p : Program} {l : Launch} {e : Env} {R : Room} {s : State} {m : MethodId} {args : Array Value} {below : List Frame} {meth : Method} {c : Code} {G : ZG} {base z0 : Nat} {Q : Int32 → Mem → Prop} (A : ∀ d, Amb p R (s.setDrawn d) m args meth c G base z0 cX1_leaveSome yX1_leaveSome.cls 1 0 0) (hr : meth.sig.returnType = (some .boolean)) {d0 : Drawn} {H : Heap} {locs : List Loc} {cells slots : Nat} {ls : Array Slot} {t0 : Int32} {M : Mem} (hd0 : s.drawn.sameBut d0 lw_cs) (hZ : ZH G true base s.heap M H locs) (hl : lv_has ls 1 []) (h : wp_X1_leaveSome_27 t0 M Q) : W p l e R (s.setDrawn d0) m args below meth c H locs cells slots (ZEnd below G true base z0 (qI Q) args s) (F0 m 27 ls [.int t0]) := by
  have hx := (A d0).1
  have hb := (A d0).2.1
  unfold wp_X1_leaveSome_27 at h
  exact z_zret A hd0 hZ hr h.1 ⟨_, rfl, h.2⟩ dX1_leaveSome_27
set_option maxRecDepth 100000 in
set_option maxHeartbeats 4000000 in
theorem c_X1_leaveSome (l : Launch) (G : ZG) (base : Nat) (M : Mem) (x0 : Nat) (Q : Int32 → Mem → Prop) (h : wp_X1_leaveSome x0 M Q) : ZMet l yX1_leaveSome cX1_leaveSome 1 (some .boolean) 0 0 G true base M [.ref (base + x0)] (qI Q) := by
  refine z_start (by decide) (Nat.le_of_ble_eq_true rfl) k_co_yX1_leaveSome ?_
  intro p e s m below meth c R d0 H locs cells slots ls A hr hn hd0 hZ hl
  have hx := (A d0).1
  have hb := (A d0).2.1
  have hl : lv_has ls 1 [(0, .ref (base + x0))] := hl
  unfold wp_X1_leaveSome at h
  obtain ⟨ho_x0, h⟩ := h
  refine lv_aload_n hx hb dX1_leaveSome_0 rfl (lv_at hl 0 rfl) ?_
  refine z_get (A d0) hZ (ci := 1) (j := 0) ho_x0.1 ho_x0.2 (by decide) (by decide) k_fl_RX1_9 (v := .long (mL M x0 0)) rfl dX1_leaveSome_1 ?_
  refine lv_aload_n hx hb dX1_leaveSome_4 rfl (lv_at hl 0 rfl) ?_
  refine z_get (A d0) hZ (ci := 1) (j := 3) ho_x0.1 ho_x0.2 (by decide) (by decide) k_fl_RX1_21 (v := .long (mL M x0 3)) rfl dX1_leaveSome_5 ?_
  refine lv_lmul hx hb dX1_leaveSome_8 ?_
  refine lv_aload_n hx hb dX1_leaveSome_9 rfl (lv_at hl 0 rfl) ?_
  refine z_get (A d0) hZ (ci := 1) (j := 2) ho_x0.1 ho_x0.2 (by decide) (by decide) k_fl_RX1_18 (v := .long (mL M x0 2)) rfl dX1_leaveSome_10 ?_
  refine lv_aload_n hx hb dX1_leaveSome_13 rfl (lv_at hl 0 rfl) ?_
  refine z_get (A d0) hZ (ci := 1) (j := 1) ho_x0.1 ho_x0.2 (by decide) (by decide) k_fl_RX1_15 (v := .long (mL M x0 1)) rfl dX1_leaveSome_14 ?_
  refine lv_lmul hx hb dX1_leaveSome_17 ?_
  refine z_lc_gt (tgt := 26) hx hb dX1_leaveSome_18 dX1_leaveSome_19 (by decide) (fun hc => ?_) (fun hc => ?_)
  · replace h := h.1 hc
    refine lv_iconst (v := (0 : Int32)) hx hb dX1_leaveSome_26 (by decide) ?_
    exact (zb_X1_leaveSome_27 A hr hd0 hZ (lv_sub hl [] rfl) h)
  · replace h := h.2 hc
    refine lv_iconst (v := (1 : Int32)) hx hb dX1_leaveSome_22 (by decide) ?_
    refine lv_goto (tgt := 27) hx hb dX1_leaveSome_23 (by decide) ?_
    exact (zb_X1_leaveSome_27 A hr hd0 hZ (lv_sub hl [] rfl) h)
/-! cX1_admit -/
set_option maxRecDepth 100000 in
set_option maxHeartbeats 4000000 in
theorem zb_X1_admit_21 {p : Program} {l : Launch} {e : Env} {R : Room} {s : State} {m : MethodId} {args : Array Value} {below : List Frame} {meth : Method} {c : Code} {G : ZG} {base z0 : Nat} {Q : Int32 → Mem → Prop} (A : ∀ d, Amb p R (s.setDrawn d) m args meth c G base z0 cX1_admit yX1_admit.cls 11 1 30) (hr : meth.sig.returnType = (some .boolean)) {K43 : Nat → Int64 → Int64 → Int32 → Mem → Prop} :
  ∀ (n : Nat) {d0 : Drawn} {H : Heap} {locs : List Loc} {cells slots : Nat} {ls : Array Slot} {x0 : Nat} {x1 : Option Nat} {x3 : Int32} {x4 : Int32} {x5 : Int64} {x7 : Int64} {x9 : Int32} {x10 : Int32} {M : Mem} (ho_x0 : isO M x0 1) (hd0 : s.drawn.sameBut d0 lw_cs) (hZ : ZH G true base s.heap M H locs) (hl : lv_has ls 11 [(0, .ref (base + x0)), (1, vr base x1), (3, .int x3), (4, .int x4), (5, .long x5), (7, .long x7), (9, .int x9), (10, .int x10)]) (h : wp_X1_admit_21 n x0 x1 x3 x4 x5 x7 x9 x10 M Q K43) (hK43 : ∀ {d0 : Drawn} {H : Heap} {locs : List Loc} {cells slots : Nat} {ls : Array Slot} {x0 : Nat} {x5 : Int64} {x7 : Int64} {x9 : Int32} {M : Mem} (ho_x0 : isO M x0 1), s.drawn.sameBut d0 lw_cs → ZH G true base s.heap M H locs → lv_has ls 11 [(0, .ref (base + x0)), (5, .long x5), (7, .long x7), (9, .int x9)] → K43 x0 x5 x7 x9 M → W p l e R (s.setDrawn d0) m args below meth c H locs cells slots (ZEnd below G true base z0 (qI Q) args s) (F0 m 43 ls [])), W p l e R (s.setDrawn d0) m args below meth c H locs cells slots (ZEnd below G true base z0 (qI Q) args s) (F0 m 21 ls []) := by
  have hx := (A default).1
  have hb := (A default).2.1
  intro n
  induction n with
  | zero => intro d0 H locs cells slots ls x0 x1 x3 x4 x5 x7 x9 x10 M ho_x0 hd0 hZ hl h hK43; exact h.elim
  | succ n ih =>
    intro d0 H locs cells slots ls x0 x1 x3 x4 x5 x7 x9 x10 M ho_x0 hd0 hZ hl h hK43
    unfold wp_X1_admit_21 at h
    refine lv_iload hx hb dX1_admit_21 (lv_at hl 7 rfl) ?_
    refine lv_iload_n hx hb dX1_admit_23 rfl (lv_at hl 2 rfl) ?_
    refine lv_icmp_ge (tgt := 43) hx hb dX1_admit_24 (by decide) (fun hc => ?_) (fun hc => ?_)
    · replace h := h.1 hc
      exact hK43 ho_x0 hd0 hZ (lv_sub hl [0, 4, 5, 6] rfl) h
    · replace h := h.2 hc
      refine lv_aload_n hx hb dX1_admit_27 rfl (lv_at hl 0 rfl) ?_
      refine z_aload_n (base := base) hx hb dX1_admit_28 rfl (lv_at hl 1 rfl) ?_
      refine lv_iload hx hb dX1_admit_29 (lv_at hl 7 rfl) ?_
      refine lv_iload_n hx hb dX1_admit_31 rfl (lv_at hl 2 rfl) ?_
      refine lv_iload hx hb dX1_admit_32 (lv_at hl 3 rfl) ?_
      refine z_callV A hd0 hZ (ci := 1) (nA := 4) (As := [vr base x1, .int x10, .int x3, .int x4]) (by decide) ho_x0 (c_X1_narrow l G base M x0 x1 x10 x3 x4 _ h) k_ml_RX1_35 k_im_yX1_narrow k_se_yX1_narrow k_in_RX1 k_co_yX1_narrow (by decide +kernel) ⟨by decide, by decide⟩ rfl rfl (Nat.le_of_ble_eq_true rfl) hl dX1_admit_34 (fun v M1 H locs d0 cells slots hq hd0 hZ hm => ?_)
      clear h
      obtain ⟨rfl, h⟩ := hq
      have ho_x0 := isO_le hm ho_x0
      obtain ⟨i2, ei2⟩ : ∃ y : Int32, y = x10 + (1 : Int32) := ⟨_, rfl⟩
      replace h := h i2 ei2
      refine lv_iinc (v := i2) (lv' := [(10, .int i2), (0, .ref (base + x0)), (1, vr base x1), (3, .int x3), (4, .int x4), (5, .long x5), (7, .long x7), (9, .int x9)]) hx hb dX1_admit_37 hl (k := 7) rfl (by rw [ei2]; rfl) (by decide) rfl (fun ls hl2 => ?_)
      replace hl := hl2
      refine lv_goto (tgt := 21) hx hb dX1_admit_40 (by decide) ?_
      exact ih ho_x0 hd0 hZ (lv_sub hl [1, 2, 3, 4, 5, 6, 7, 0] rfl) h hK43
set_option maxRecDepth 100000 in
set_option maxHeartbeats 4000000 in
theorem zb_X1_admit_43 {p : Program} {l : Launch} {e : Env} {R : Room} {s : State} {m : MethodId} {args : Array Value} {below : List Frame} {meth : Method} {c : Code} {G : ZG} {base z0 : Nat} {Q : Int32 → Mem → Prop} (A : ∀ d, Amb p R (s.setDrawn d) m args meth c G base z0 cX1_admit yX1_admit.cls 11 1 30) (hr : meth.sig.returnType = (some .boolean)) {d0 : Drawn} {H : Heap} {locs : List Loc} {cells slots : Nat} {ls : Array Slot} {x0 : Nat} {x5 : Int64} {x7 : Int64} {x9 : Int32} {M : Mem} (ho_x0 : isO M x0 1) (hd0 : s.drawn.sameBut d0 lw_cs) (hZ : ZH G true base s.heap M H locs) (hl : lv_has ls 11 [(0, .ref (base + x0)), (5, .long x5), (7, .long x7), (9, .int x9)]) (h : wp_X1_admit_43 x0 x5 x7 x9 M Q) : W p l e R (s.setDrawn d0) m args below meth c H locs cells slots (ZEnd below G true base z0 (qI Q) args s) (F0 m 43 ls []) := by
  have hx := (A d0).1
  have hb := (A d0).2.1
  unfold wp_X1_admit_43 at h
  refine lv_aload_n hx hb dX1_admit_43 rfl (lv_at hl 0 rfl) ?_
  refine z_callV A hd0 hZ (ci := 1) (nA := 0) (As := []) (by decide) ho_x0 (c_X1_leaveSome l G base M x0 _ h) k_ml_RX1_39 k_im_yX1_leaveSome k_se_yX1_leaveSome k_in_RX1 k_co_yX1_leaveSome (by decide +kernel) ⟨by decide, by decide⟩ rfl rfl (Nat.le_of_ble_eq_true rfl) hl dX1_admit_44 (fun v M3 H locs d0 cells slots hq hd0 hZ hm => ?_)
  clear h
  obtain ⟨i4, rfl, h⟩ := hq
  have ho_x0 := isO_le hm ho_x0
  refine lv_if_eq (tgt := 52) hx hb dX1_admit_47 (by decide) (fun hc => ?_) (fun hc => ?_)
  · replace h := h.1 hc
    refine lv_aload_n hx hb dX1_admit_52 rfl (lv_at hl 0 rfl) ?_
    refine lv_lload hx hb dX1_admit_53 (lv_at hl 1 rfl) ?_
    obtain ⟨M5, eM5⟩ : ∃ y : Mem, y = sL M3 x0 2 x5 := ⟨_, rfl⟩
    refine z_put (A d0) hZ (ci := 1) (j := 2) (M' := M5) ho_x0.1 ho_x0.2 (by decide) (by decide) k_fl_RX1_18 rfl (by rw [eM5]; exact zUpd_L) rfl rfl dX1_admit_55 (fun H locs hZ => ?_)
    have hm : mz M5 = mz M3 := by rw [eM5] <;> rfl
    have ho_x0 := isO_le (Nat.le_of_eq hm.symm) ho_x0
    replace h := h M5 eM5
    refine lv_aload_n hx hb dX1_admit_58 rfl (lv_at hl 0 rfl) ?_
    refine lv_lload hx hb dX1_admit_59 (lv_at hl 2 rfl) ?_
    obtain ⟨M6, eM6⟩ : ∃ y : Mem, y = sL M5 x0 3 x7 := ⟨_, rfl⟩
    refine z_put (A d0) hZ (ci := 1) (j := 3) (M' := M6) ho_x0.1 ho_x0.2 (by decide) (by decide) k_fl_RX1_21 rfl (by rw [eM6]; exact zUpd_L) rfl rfl dX1_admit_61 (fun H locs hZ => ?_)
    have hm : mz M6 = mz M5 := by rw [eM6] <;> rfl
    have ho_x0 := isO_le (Nat.le_of_eq hm.symm) ho_x0
    replace h := h M6 eM6
    refine lv_aload_n hx hb dX1_admit_64 rfl (lv_at hl 0 rfl) ?_
    refine lv_iload hx hb dX1_admit_65 (lv_at hl 3 rfl) ?_
    obtain ⟨M7, eM7⟩ : ∃ y : Mem, y = sI M6 x0 4 x9 := ⟨_, rfl⟩
    refine z_put (A d0) hZ (ci := 1) (j := 4) (M' := M7) ho_x0.1 ho_x0.2 (by decide) (by decide) k_fl_RX1_24 rfl (by rw [eM7]; exact zUpd_I) rfl rfl dX1_admit_67 (fun H locs hZ => ?_)
    have hm : mz M7 = mz M6 := by rw [eM7] <;> rfl
    have ho_x0 := isO_le (Nat.le_of_eq hm.symm) ho_x0
    replace h := h M7 eM7
    refine lv_iconst (v := (0 : Int32)) hx hb dX1_admit_70 (by decide) ?_
    exact z_zret A hd0 hZ hr (Or.inl rfl) ⟨_, rfl, h⟩ dX1_admit_71
  · replace h := h.2 hc
    refine lv_iconst (v := (1 : Int32)) hx hb dX1_admit_50 (by decide) ?_
    exact z_zret A hd0 hZ hr (Or.inr rfl) ⟨_, rfl, h⟩ dX1_admit_51
set_option maxRecDepth 100000 in
set_option maxHeartbeats 4000000 in
theorem c_X1_admit (l : Launch) (G : ZG) (base : Nat) (M : Mem) (x0 : Nat) (x1 : Option Nat) (x2 : Int32) (x3 : Int32) (x4 : Int32) (Q : Int32 → Mem → Prop) (h : wp_X1_admit x0 x1 x2 x3 x4 M Q) : ZMet l yX1_admit cX1_admit 11 (some .boolean) 1 30 G true base M [.ref (base + x0), vr base x1, .int x2, .int x3, .int x4] (qI Q) := by
  refine z_start (by decide) (by simp [lg_sl, cat_vr, cat_r, cat_i, cat_l, cat_d]) k_co_yX1_admit ?_
  intro p e s m below meth c R d0 H locs cells slots ls A hr hn hd0 hZ hl
  have hx := (A d0).1
  have hb := (A d0).2.1
  have hl : lv_has ls 11 [(0, .ref (base + x0)), (1, vr base x1), (2, .int x2), (3, .int x3), (4, .int x4)] := by simpa [lv_args, cat_vr, cat_r, cat_i, cat_l, cat_d] using hl
  unfold wp_X1_admit at h
  obtain ⟨ho_x0, h⟩ := h
  refine lv_aload_n hx hb dX1_admit_0 rfl (lv_at hl 0 rfl) ?_
  refine z_get (A d0) hZ (ci := 1) (j := 2) ho_x0.1 ho_x0.2 (by decide) (by decide) k_fl_RX1_18 (v := .long (mL M x0 2)) rfl dX1_admit_1 ?_
  obtain ⟨j8, ej8⟩ : ∃ y : Int64, y = mL M x0 2 := ⟨_, rfl⟩
  rw [← ej8]
  replace h := h j8 ej8
  refine lv_lstore (lv' := [(5, .long j8), (0, .ref (base + x0)), (1, vr base x1), (2, .int x2), (3, .int x3), (4, .int x4)]) hx hb dX1_admit_4 hl (by decide) rfl (fun ls hl2 => ?_)
  replace hl := hl2
  refine lv_aload_n hx hb dX1_admit_6 rfl (lv_at hl 1 rfl) ?_
  refine z_get (A d0) hZ (ci := 1) (j := 3) ho_x0.1 ho_x0.2 (by decide) (by decide) k_fl_RX1_21 (v := .long (mL M x0 3)) rfl dX1_admit_7 ?_
  obtain ⟨j9, ej9⟩ : ∃ y : Int64, y = mL M x0 3 := ⟨_, rfl⟩
  rw [← ej9]
  replace h := h j9 ej9
  refine lv_lstore (lv' := [(7, .long j9), (5, .long j8), (0, .ref (base + x0)), (1, vr base x1), (2, .int x2), (3, .int x3), (4, .int x4)]) hx hb dX1_admit_10 hl (by decide) rfl (fun ls hl2 => ?_)
  replace hl := hl2
  refine lv_aload_n hx hb dX1_admit_12 rfl (lv_at hl 2 rfl) ?_
  refine z_get (A d0) hZ (ci := 1) (j := 4) ho_x0.1 ho_x0.2 (by decide) (by decide) k_fl_RX1_24 (v := .int (mI M x0 4)) rfl dX1_admit_13 ?_
  obtain ⟨i10, ei10⟩ : ∃ y : Int32, y = mI M x0 4 := ⟨_, rfl⟩
  rw [← ei10]
  replace h := h i10 ei10
  refine lv_istore (lv' := [(9, .int i10), (7, .long j9), (5, .long j8), (0, .ref (base + x0)), (1, vr base x1), (2, .int x2), (3, .int x3), (4, .int x4)]) hx hb dX1_admit_16 hl (by decide) rfl (fun ls hl2 => ?_)
  replace hl := hl2
  refine lv_iload_n hx hb dX1_admit_18 rfl (lv_at hl 5 rfl) ?_
  refine lv_istore (lv' := [(10, .int x2), (9, .int i10), (7, .long j9), (5, .long j8), (0, .ref (base + x0)), (1, vr base x1), (2, .int x2), (3, .int x3), (4, .int x4)]) hx hb dX1_admit_19 hl (by decide) rfl (fun ls hl2 => ?_)
  replace hl := hl2
  exact (Exists.elim h fun kk h => zb_X1_admit_21 A hr kk ho_x0 hd0 hZ (lv_sub hl [4, 5, 7, 8, 3, 2, 1, 0] rfl) h (fun ho_x0 hd0 hZ hl h => (zb_X1_admit_43 A hr ho_x0 hd0 hZ hl h)))
/-! cX1_endOfSpan -/
set_option maxRecDepth 100000 in
set_option maxHeartbeats 4000000 in
theorem zb_X1_endOfSpan_9 {p : Program} {l : Launch} {e : Env} {R : Room} {s : State} {m : MethodId} {args : Array Value} {below : List Frame} {meth : Method} {c : Code} {G : ZG} {base z0 : Nat} {Q : Int32 → Mem → Prop} (A : ∀ d, Amb p R (s.setDrawn d) m args meth c G base z0 cX1_endOfSpan yX1_endOfSpan.cls 6 2 60) (hr : meth.sig.returnType = (some .int)) {K34 : Int32 → Mem → Prop} :
  ∀ (n : Nat) {d0 : Drawn} {H : Heap} {locs : List Loc} {cells slots : Nat} {ls : Array Slot} {x0 : Nat} {x1 : Option Nat} {x2 : Int32} {x3 : Int32} {x4 : Int32} {x5 : Int32} {M : Mem} (ho_x0 : isO M x0 1) (hd0 : s.drawn.sameBut d0 lw_cs) (hZ : ZH G true base s.heap M H locs) (hl : lv_has ls 6 [(0, .ref (base + x0)), (1, vr base x1), (2, .int x2), (3, .int x3), (4, .int x4), (5, .int x5)]) (h : wp_X1_endOfSpan_9 n x0 x1 x2 x3 x4 x5 M Q K34) (hK34 : ∀ {d0 : Drawn} {H : Heap} {locs : List Loc} {cells slots : Nat} {ls : Array Slot} {x5 : Int32} {M : Mem}, s.drawn.sameBut d0 lw_cs → ZH G true base s.heap M H locs → lv_has ls 6 [(5, .int x5)] → K34 x5 M → W p l e R (s.setDrawn d0) m args below meth c H locs cells slots (ZEnd below G true base z0 (qI Q) args s) (F0 m 34 ls [])), W p l e R (s.setDrawn d0) m args below meth c H locs cells slots (ZEnd below G true base z0 (qI Q) args s) (F0 m 9 ls []) := by
  have hx := (A default).1
  have hb := (A default).2.1
  intro n
  induction n with
  | zero => intro d0 H locs cells slots ls x0 x1 x2 x3 x4 x5 M ho_x0 hd0 hZ hl h hK34; exact h.elim
  | succ n ih =>
    intro d0 H locs cells slots ls x0 x1 x2 x3 x4 x5 M ho_x0 hd0 hZ hl h hK34
    unfold wp_X1_endOfSpan_9 at h
    refine lv_iload hx hb dX1_endOfSpan_9 (lv_at hl 5 rfl) ?_
    refine lv_iload_n hx hb dX1_endOfSpan_11 rfl (lv_at hl 3 rfl) ?_
    refine lv_icmp_ge (tgt := 34) hx hb dX1_endOfSpan_12 (by decide) (fun hc => ?_) (fun hc => ?_)
    · replace h := h.1 hc
      exact hK34 hd0 hZ (lv_sub hl [5] rfl) h
    · replace h := h.2 hc
      refine lv_aload_n hx hb dX1_endOfSpan_15 rfl (lv_at hl 0 rfl) ?_
      refine z_aload_n (base := base) hx hb dX1_endOfSpan_16 rfl (lv_at hl 1 rfl) ?_
      refine lv_iload_n hx hb dX1_endOfSpan_17 rfl (lv_at hl 2 rfl) ?_
      refine lv_iload hx hb dX1_endOfSpan_18 (lv_at hl 5 rfl) ?_
      refine lv_iload hx hb dX1_endOfSpan_20 (lv_at hl 4 rfl) ?_
      refine z_callV A hd0 hZ (ci := 1) (nA := 4) (As := [vr base x1, .int x2, .int x5, .int x4]) (by decide) ho_x0 (c_X1_admit l G base M x0 x1 x2 x5 x4 _ h) k_ml_RX1_31 k_im_yX1_admit k_se_yX1_admit k_in_RX1 k_co_yX1_admit (by decide +kernel) ⟨by decide, by decide⟩ rfl rfl (Nat.le_of_ble_eq_true rfl) hl dX1_endOfSpan_22 (fun v M1 H locs d0 cells slots hq hd0 hZ hm => ?_)
      clear h
      obtain ⟨i2, rfl, h⟩ := hq
      have ho_x0 := isO_le hm ho_x0
      refine lv_if_eq (tgt := 34) hx hb dX1_endOfSpan_25 (by decide) (fun hc => ?_) (fun hc => ?_)
      · replace h := h.1 hc
        exact hK34 hd0 hZ (lv_sub hl [5] rfl) h
      · replace h := h.2 hc
        obtain ⟨i3, ei3⟩ : ∃ y : Int32, y = x5 + (1 : Int32) := ⟨_, rfl⟩
        replace h := h i3 ei3
        refine lv_iinc (v := i3) (lv' := [(5, .int i3), (0, .ref (base + x0)), (1, vr base x1), (2, .int x2), (3, .int x3), (4, .int x4)]) hx hb dX1_endOfSpan_28 hl (k := 5) rfl (by rw [ei3]; rfl) (by decide) rfl (fun ls hl2 => ?_)
        replace hl := hl2
        refine lv_goto (tgt := 9) hx hb dX1_endOfSpan_31 (by decide) ?_
        exact ih ho_x0 hd0 hZ (lv_sub hl [1, 2, 3, 4, 5, 0] rfl) h hK34
set_option maxRecDepth 100000 in
set_option maxHeartbeats 4000000 in
theorem zb_X1_endOfSpan_34 {p : Program} {l : Launch} {e : Env} {R : Room} {s : State} {m : MethodId} {args : Array Value} {below : List Frame} {meth : Method} {c : Code} {G : ZG} {base z0 : Nat} {Q : Int32 → Mem → Prop} (A : ∀ d, Amb p R (s.setDrawn d) m args meth c G base z0 cX1_endOfSpan yX1_endOfSpan.cls 6 2 60) (hr : meth.sig.returnType = (some .int)) {d0 : Drawn} {H : Heap} {locs : List Loc} {cells slots : Nat} {ls : Array Slot} {x5 : Int32} {M : Mem} (hd0 : s.drawn.sameBut d0 lw_cs) (hZ : ZH G true base s.heap M H locs) (hl : lv_has ls 6 [(5, .int x5)]) (h : wp_X1_endOfSpan_34 x5 M Q) : W p l e R (s.setDrawn d0) m args below meth c H locs cells slots (ZEnd below G true base z0 (qI Q) args s) (F0 m 34 ls []) := by
  have hx := (A d0).1
  have hb := (A d0).2.1
  unfold wp_X1_endOfSpan_34 at h
  refine lv_iload hx hb dX1_endOfSpan_34 (lv_at hl 0 rfl) ?_
  exact z_iret A hd0 hZ hr ⟨_, rfl, h⟩ dX1_endOfSpan_36
set_option maxRecDepth 100000 in
set_option maxHeartbeats 4000000 in
theorem c_X1_endOfSpan (l : Launch) (G : ZG) (base : Nat) (M : Mem) (x0 : Nat) (x1 : Option Nat) (x2 : Int32) (x3 : Int32) (x4 : Int32) (Q : Int32 → Mem → Prop) (h : wp_X1_endOfSpan x0 x1 x2 x3 x4 M Q) : ZMet l yX1_endOfSpan cX1_endOfSpan 6 (some .int) 2 60 G true base M [.ref (base + x0), vr base x1, .int x2, .int x3, .int x4] (qI Q) := by
  refine z_start (by decide) (by simp [lg_sl, cat_vr, cat_r, cat_i, cat_l, cat_d]) k_co_yX1_endOfSpan ?_
  intro p e s m below meth c R d0 H locs cells slots ls A hr hn hd0 hZ hl
  have hx := (A d0).1
  have hb := (A d0).2.1
  have hl : lv_has ls 6 [(0, .ref (base + x0)), (1, vr base x1), (2, .int x2), (3, .int x3), (4, .int x4)] := by simpa [lv_args, cat_vr, cat_r, cat_i, cat_l, cat_d] using hl
  unfold wp_X1_endOfSpan at h
  obtain ⟨ho_x0, h⟩ := h
  refine lv_aload_n hx hb dX1_endOfSpan_0 rfl (lv_at hl 0 rfl) ?_
  refine z_callV A hd0 hZ (ci := 1) (nA := 0) (As := []) (by decide) ho_x0 (c_X1_forget l G base M x0 _ h) k_ml_RX1_28 k_im_yX1_forget k_se_yX1_forget k_in_RX1 k_co_yX1_forget (by decide +kernel) ⟨by decide, by decide⟩ rfl rfl (Nat.le_of_ble_eq_true rfl) hl dX1_endOfSpan_1 (fun v M4 H locs d0 cells slots hq hd0 hZ hm => ?_)
  clear h
  obtain ⟨rfl, h⟩ := hq
  have ho_x0 := isO_le hm ho_x0
  refine lv_iload_n hx hb dX1_endOfSpan_4 rfl (lv_at hl 2 rfl) ?_
  refine lv_iconst (v := (1 : Int32)) hx hb dX1_endOfSpan_5 (by decide) ?_
  refine lv_iadd hx hb dX1_endOfSpan_6 ?_
  obtain ⟨i5, ei5⟩ : ∃ y : Int32, y = x2 + (1 : Int32) := ⟨_, rfl⟩
  rw [← ei5]
  replace h := h i5 ei5
  refine lv_istore (lv' := [(5, .int i5), (0, .ref (base + x0)), (1, vr base x1), (2, .int x2), (3, .int x3), (4, .int x4)]) hx hb dX1_endOfSpan_7 hl (by decide) rfl (fun ls hl2 => ?_)
  replace hl := hl2
  exact (Exists.elim h fun kk h => zb_X1_endOfSpan_9 A hr kk ho_x0 hd0 hZ (lv_sub hl [1, 2, 3, 4, 5, 0] rfl) h (fun hd0 hZ hl h => (zb_X1_endOfSpan_34 A hr hd0 hZ hl h)))
/-! cX1_passThree -/
set_option maxRecDepth 100000 in
set_option maxHeartbeats 4000000 in
theorem c_X1_passThree (l : Launch) (G : ZG) (base : Nat) (M : Mem) (x0 : Nat) (x1 : Option Nat) (x2 : Int32) (x3 : Int32) (x4 : Int32) (x5 : Int32) (Q : Int32 → Mem → Prop) (h : wp_X1_passThree x0 x1 x2 x3 x4 x5 M Q) : ZMet l yX1_passThree cX1_passThree 6 (some .boolean) 1 30 G true base M [.ref (base + x0), vr base x1, .int x2, .int x3, .int x4, .int x5] (qI Q) := by
  refine z_start (by decide) (by simp [lg_sl, cat_vr, cat_r, cat_i, cat_l, cat_d]) k_co_yX1_passThree ?_
  intro p e s m below meth c R d0 H locs cells slots ls A hr hn hd0 hZ hl
  have hx := (A d0).1
  have hb := (A d0).2.1
  have hl : lv_has ls 6 [(0, .ref (base + x0)), (1, vr base x1), (2, .int x2), (3, .int x3), (4, .int x4), (5, .int x5)] := by simpa [lv_args, cat_vr, cat_r, cat_i, cat_l, cat_d] using hl
  unfold wp_X1_passThree at h
  obtain ⟨ho_x0, h⟩ := h
  refine lv_aload_n hx hb dX1_passThree_0 rfl (lv_at hl 0 rfl) ?_
  refine z_callV A hd0 hZ (ci := 1) (nA := 0) (As := []) (by decide) ho_x0 (c_X1_forget l G base M x0 _ h) k_ml_RX1_28 k_im_yX1_forget k_se_yX1_forget k_in_RX1 k_co_yX1_forget (by decide +kernel) ⟨by decide, by decide⟩ rfl rfl (Nat.le_of_ble_eq_true rfl) hl dX1_passThree_1 (fun v M1 H locs d0 cells slots hq hd0 hZ hm => ?_)
  clear h
  obtain ⟨rfl, h⟩ := hq
  have ho_x0 := isO_le hm ho_x0
  refine lv_aload_n hx hb dX1_passThree_4 rfl (lv_at hl 0 rfl) ?_
  refine z_aload_n (base := base) hx hb dX1_passThree_5 rfl (lv_at hl 1 rfl) ?_
  refine lv_iload_n hx hb dX1_passThree_6 rfl (lv_at hl 2 rfl) ?_
  refine lv_iload_n hx hb dX1_passThree_7 rfl (lv_at hl 3 rfl) ?_
  refine lv_iload hx hb dX1_passThree_8 (lv_at hl 5 rfl) ?_
  refine z_callV A hd0 hZ (ci := 1) (nA := 4) (As := [vr base x1, .int x2, .int x3, .int x5]) (by decide) ho_x0 (c_X1_narrow l G base M1 x0 x1 x2 x3 x5 _ h) k_ml_RX1_35 k_im_yX1_narrow k_se_yX1_narrow k_in_RX1 k_co_yX1_narrow (by decide +kernel) ⟨by decide, by decide⟩ rfl rfl (Nat.le_of_ble_eq_true rfl) hl dX1_passThree_10 (fun v M2 H locs d0 cells slots hq hd0 hZ hm => ?_)
  clear h
  obtain ⟨rfl, h⟩ := hq
  have ho_x0 := isO_le hm ho_x0
  refine lv_aload_n hx hb dX1_passThree_13 rfl (lv_at hl 0 rfl) ?_
  refine z_aload_n (base := base) hx hb dX1_passThree_14 rfl (lv_at hl 1 rfl) ?_
  refine lv_iload_n hx hb dX1_passThree_15 rfl (lv_at hl 2 rfl) ?_
  refine lv_iload hx hb dX1_passThree_16 (lv_at hl 4 rfl) ?_
  refine lv_iload hx hb dX1_passThree_18 (lv_at hl 5 rfl) ?_
  refine z_callV A hd0 hZ (ci := 1) (nA := 4) (As := [vr base x1, .int x2, .int x4, .int x5]) (by decide) ho_x0 (c_X1_narrow l G base M2 x0 x1 x2 x4 x5 _ h) k_ml_RX1_35 k_im_yX1_narrow k_se_yX1_narrow k_in_RX1 k_co_yX1_narrow (by decide +kernel) ⟨by decide, by decide⟩ rfl rfl (Nat.le_of_ble_eq_true rfl) hl dX1_passThree_20 (fun v M3 H locs d0 cells slots hq hd0 hZ hm => ?_)
  clear h
  obtain ⟨rfl, h⟩ := hq
  have ho_x0 := isO_le hm ho_x0
  refine lv_aload_n hx hb dX1_passThree_23 rfl (lv_at hl 0 rfl) ?_
  refine z_aload_n (base := base) hx hb dX1_passThree_24 rfl (lv_at hl 1 rfl) ?_
  refine lv_iload_n hx hb dX1_passThree_25 rfl (lv_at hl 3 rfl) ?_
  refine lv_iload hx hb dX1_passThree_26 (lv_at hl 4 rfl) ?_
  refine lv_iload hx hb dX1_passThree_28 (lv_at hl 5 rfl) ?_
  refine z_callV A hd0 hZ (ci := 1) (nA := 4) (As := [vr base x1, .int x3, .int x4, .int x5]) (by decide) ho_x0 (c_X1_narrow l G base M3 x0 x1 x3 x4 x5 _ h) k_ml_RX1_35 k_im_yX1_narrow k_se_yX1_narrow k_in_RX1 k_co_yX1_narrow (by decide +kernel) ⟨by decide, by decide⟩ rfl rfl (Nat.le_of_ble_eq_true rfl) hl dX1_passThree_30 (fun v M4 H locs d0 cells slots hq hd0 hZ hm => ?_)
  clear h
  obtain ⟨rfl, h⟩ := hq
  have ho_x0 := isO_le hm ho_x0
  refine lv_aload_n hx hb dX1_passThree_33 rfl (lv_at hl 0 rfl) ?_
  refine z_callV A hd0 hZ (ci := 1) (nA := 0) (As := []) (by decide) ho_x0 (c_X1_leaveSome l G base M4 x0 _ h) k_ml_RX1_39 k_im_yX1_leaveSome k_se_yX1_leaveSome k_in_RX1 k_co_yX1_leaveSome (by decide +kernel) ⟨by decide, by decide⟩ rfl rfl (Nat.le_of_ble_eq_true rfl) hl dX1_passThree_34 (fun v M5 H locs d0 cells slots hq hd0 hZ hm => ?_)
  clear h
  obtain ⟨i6, rfl, h⟩ := hq
  have ho_x0 := isO_le hm ho_x0
  exact z_zret A hd0 hZ hr h.1 ⟨_, rfl, h.2⟩ dX1_passThree_37
/-! cX1_commonDivisor -/
set_option maxRecDepth 100000 in
set_option maxHeartbeats 4000000 in
theorem zb_X1_commonDivisor_9 {p : Program} {l : Launch} {e : Env} {R : Room} {s : State} {m : MethodId} {args : Array Value} {below : List Frame} {meth : Method} {c : Code} {G : ZG} {base z0 : Nat} {Q : Int64 → Mem → Prop} (A : ∀ d, Amb p R (s.setDrawn d) m args meth c G base z0 cX1_commonDivisor yX1_commonDivisor.cls 11 0 0) (hr : meth.sig.returnType = (some .long)) {K44 : Int64 → Mem → Prop} :
  ∀ (n : Nat) {d0 : Drawn} {H : Heap} {locs : List Loc} {cells slots : Nat} {ls : Array Slot} {x4 : Int64} {x6 : Int64} {x8 : Int32} {M : Mem} (hd0 : s.drawn.sameBut d0 lw_cs) (hZ : ZH G true base s.heap M H locs) (hl : lv_has ls 11 [(4, .long x4), (6, .long x6), (8, .int x8)]) (h : wp_X1_commonDivisor_9 n x4 x6 x8 M Q K44) (hK44 : ∀ {d0 : Drawn} {H : Heap} {locs : List Loc} {cells slots : Nat} {ls : Array Slot} {x4 : Int64} {M : Mem}, s.drawn.sameBut d0 lw_cs → ZH G true base s.heap M H locs → lv_has ls 11 [(4, .long x4)] → K44 x4 M → W p l e R (s.setDrawn d0) m args below meth c H locs cells slots (ZEnd below G true base z0 (qL Q) args s) (F0 m 44 ls [])), W p l e R (s.setDrawn d0) m args below meth c H locs cells slots (ZEnd below G true base z0 (qL Q) args s) (F0 m 9 ls []) := by
  have hx := (A default).1
  have hb := (A default).2.1
  intro n
  induction n with
  | zero => intro d0 H locs cells slots ls x4 x6 x8 M hd0 hZ hl h hK44; exact h.elim
  | succ n ih =>
    intro d0 H locs cells slots ls x4 x6 x8 M hd0 hZ hl h hK44
    unfold wp_X1_commonDivisor_9 at h
    refine lv_iload hx hb dX1_commonDivisor_9 (lv_at hl 2 rfl) ?_
    refine lv_bipush (v := (100 : Int32)) hx hb dX1_commonDivisor_11 (by decide) ?_
    refine lv_icmp_ge (tgt := 44) hx hb dX1_commonDivisor_13 (by decide) (fun hc => ?_) (fun hc => ?_)
    · replace h := h.1 hc
      exact hK44 hd0 hZ (lv_sub hl [0] rfl) h
    · replace h := h.2 hc
      refine lv_lload hx hb dX1_commonDivisor_16 (lv_at hl 1 rfl) ?_
      refine lv_lconst (v := (0 : Int64)) hx hb dX1_commonDivisor_18 (by decide) ?_
      refine z_lc_eq (tgt := 44) hx hb dX1_commonDivisor_19 dX1_commonDivisor_20 (by decide) (fun hc => ?_) (fun hc => ?_)
      · replace h := h.1 hc
        exact hK44 hd0 hZ (lv_sub hl [0] rfl) h
      · replace h := h.2 hc
        refine lv_lload hx hb dX1_commonDivisor_23 (lv_at hl 0 rfl) ?_
        refine lv_lload hx hb dX1_commonDivisor_25 (lv_at hl 1 rfl) ?_
        obtain ⟨hne, h⟩ := h
        refine lv_lrem hx hb dX1_commonDivisor_27 hne ?_
        obtain ⟨j1, ej1⟩ : ∃ y : Int64, y = x4 - x4 / x6 * x6 := ⟨_, rfl⟩
        rw [← ej1]
        replace h := h j1 ej1
        refine lv_lstore (lv' := [(9, .long j1), (4, .long x4), (6, .long x6), (8, .int x8)]) hx hb dX1_commonDivisor_28 hl (by decide) rfl (fun ls hl2 => ?_)
        replace hl := hl2
        refine lv_lload hx hb dX1_commonDivisor_30 (lv_at hl 2 rfl) ?_
        refine lv_lstore (lv' := [(4, .long x6), (9, .long j1), (6, .long x6), (8, .int x8)]) hx hb dX1_commonDivisor_32 hl (by decide) rfl (fun ls hl2 => ?_)
        replace hl := hl2
        refine lv_lload hx hb dX1_commonDivisor_34 (lv_at hl 1 rfl) ?_
        refine lv_lstore (lv' := [(6, .long j1), (4, .long x6), (9, .long j1), (8, .int x8)]) hx hb dX1_commonDivisor_36 hl (by decide) rfl (fun ls hl2 => ?_)
        replace hl := hl2
        obtain ⟨i2, ei2⟩ : ∃ y : Int32, y = x8 + (1 : Int32) := ⟨_, rfl⟩
        replace h := h i2 ei2
        refine lv_iinc (v := i2) (lv' := [(8, .int i2), (6, .long j1), (4, .long x6), (9, .long j1)]) hx hb dX1_commonDivisor_38 hl (k := 3) rfl (by rw [ei2]; rfl) (by decide) rfl (fun ls hl2 => ?_)
        replace hl := hl2
        refine lv_goto (tgt := 9) hx hb dX1_commonDivisor_41 (by decide) ?_
        exact ih hd0 hZ (lv_sub hl [2, 1, 0] rfl) h hK44
set_option maxRecDepth 100000 in
set_option maxHeartbeats 4000000 in
theorem zb_X1_commonDivisor_44 {p : Program} {l : Launch} {e : Env} {R : Room} {s : State} {m : MethodId} {args : Array Value} {below : List Frame} {meth : Method} {c : Code} {G : ZG} {base z0 : Nat} {Q : Int64 → Mem → Prop} (A : ∀ d, Amb p R (s.setDrawn d) m args meth c G base z0 cX1_commonDivisor yX1_commonDivisor.cls 11 0 0) (hr : meth.sig.returnType = (some .long)) {d0 : Drawn} {H : Heap} {locs : List Loc} {cells slots : Nat} {ls : Array Slot} {x4 : Int64} {M : Mem} (hd0 : s.drawn.sameBut d0 lw_cs) (hZ : ZH G true base s.heap M H locs) (hl : lv_has ls 11 [(4, .long x4)]) (h : wp_X1_commonDivisor_44 x4 M Q) : W p l e R (s.setDrawn d0) m args below meth c H locs cells slots (ZEnd below G true base z0 (qL Q) args s) (F0 m 44 ls []) := by
  have hx := (A d0).1
  have hb := (A d0).2.1
  unfold wp_X1_commonDivisor_44 at h
  refine lv_lload hx hb dX1_commonDivisor_44 (lv_at hl 0 rfl) ?_
  exact z_lret A hd0 hZ hr ⟨_, rfl, h⟩ dX1_commonDivisor_46
set_option maxRecDepth 100000 in
set_option maxHeartbeats 4000000 in
theorem c_X1_commonDivisor (l : Launch) (G : ZG) (base : Nat) (M : Mem) (x0 : Int64) (x2 : Int64) (Q : Int64 → Mem → Prop) (h : wp_X1_commonDivisor x0 x2 M Q) : ZMet l yX1_commonDivisor cX1_commonDivisor 11 (some .long) 0 0 G true base M [.long x0, .long x2] (qL Q) := by
  refine z_start (by decide) (Nat.le_of_ble_eq_true rfl) k_co_yX1_commonDivisor ?_
  intro p e s m below meth c R d0 H locs cells slots ls A hr hn hd0 hZ hl
  have hx := (A d0).1
  have hb := (A d0).2.1
  have hl : lv_has ls 11 [(0, .long x0), (2, .long x2)] := hl
  unfold wp_X1_commonDivisor at h
  refine lv_lload_n hx hb dX1_commonDivisor_0 rfl (lv_at hl 0 rfl) ?_
  refine lv_lstore (lv' := [(4, .long x0), (0, .long x0), (2, .long x2)]) hx hb dX1_commonDivisor_1 hl (by decide) rfl (fun ls hl2 => ?_)
  replace hl := hl2
  refine lv_lload_n hx hb dX1_commonDivisor_3 rfl (lv_at hl 2 rfl) ?_
  refine lv_lstore (lv' := [(6, .long x2), (4, .long x0), (0, .long x0), (2, .long x2)]) hx hb dX1_commonDivisor_4 hl (by decide) rfl (fun ls hl2 => ?_)
  replace hl := hl2
  refine lv_iconst (v := (0 : Int32)) hx hb dX1_commonDivisor_6 (by decide) ?_
  refine lv_istore (lv' := [(8, .int (0 : Int32)), (6, .long x2), (4, .long x0), (0, .long x0), (2, .long x2)]) hx hb dX1_commonDivisor_7 hl (by decide) rfl (fun ls hl2 => ?_)
  replace hl := hl2
  exact (Exists.elim h fun kk h => zb_X1_commonDivisor_9 A hr kk hd0 hZ (lv_sub hl [2, 1, 0] rfl) h (fun hd0 hZ hl h => (zb_X1_commonDivisor_44 A hr hd0 hZ hl h)))
