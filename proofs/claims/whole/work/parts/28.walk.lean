/-! cX5_isKey -/
set_option maxRecDepth 100000 in
set_option maxHeartbeats 4000000 in
theorem zb_X5_isKey_21 {p : Program} {l : Launch} {e : Env} {R : Room} {s : State} {m : MethodId} {args : Array Value} {below : List Frame} {meth : Method} {c : Code} {G : ZG} {base z0 : Nat} {Q : Int32 → Mem → Prop} (A : ∀ d, Amb p R (s.setDrawn d) m args meth c G base z0 cX5_isKey yX5_isKey.cls 3 0 0) (hr : meth.sig.returnType = (some .boolean)) {d0 : Drawn} {H : Heap} {locs : List Loc} {cells slots : Nat} {ls : Array Slot} {t0 : Int32} {M : Mem} (hd0 : s.drawn.sameBut d0 lw_cs) (hZ : ZH G true base s.heap M H locs) (hl : lv_has ls 3 []) (h : wp_X5_isKey_21 t0 M Q) : W p l e R (s.setDrawn d0) m args below meth c H locs cells slots (ZEnd below G true base z0 (qI Q) args s) (F0 m 21 ls [.int t0]) := by
  have hx := (A d0).1
  have hb := (A d0).2.1
  unfold wp_X5_isKey_21 at h
  exact z_zret A hd0 hZ hr h.1 ⟨_, rfl, h.2⟩ dX5_isKey_21
set_option maxRecDepth 100000 in
set_option maxHeartbeats 4000000 in
theorem zb_X5_isKey_20 {p : Program} {l : Launch} {e : Env} {R : Room} {s : State} {m : MethodId} {args : Array Value} {below : List Frame} {meth : Method} {c : Code} {G : ZG} {base z0 : Nat} {Q : Int32 → Mem → Prop} (A : ∀ d, Amb p R (s.setDrawn d) m args meth c G base z0 cX5_isKey yX5_isKey.cls 3 0 0) (hr : meth.sig.returnType = (some .boolean)) {d0 : Drawn} {H : Heap} {locs : List Loc} {cells slots : Nat} {ls : Array Slot}  {M : Mem} (hd0 : s.drawn.sameBut d0 lw_cs) (hZ : ZH G true base s.heap M H locs) (hl : lv_has ls 3 []) (h : wp_X5_isKey_20 M Q) : W p l e R (s.setDrawn d0) m args below meth c H locs cells slots (ZEnd below G true base z0 (qI Q) args s) (F0 m 20 ls []) := by
  have hx := (A d0).1
  have hb := (A d0).2.1
  unfold wp_X5_isKey_20 at h
  refine lv_iconst (v := (0 : Int32)) hx hb dX5_isKey_20 (by decide) ?_
  exact (zb_X5_isKey_21 A hr hd0 hZ (lv_sub hl [] rfl) h)
set_option maxRecDepth 100000 in
set_option maxHeartbeats 4000000 in
theorem c_X5_isKey (l : Launch) (G : ZG) (base : Nat) (M : Mem) (x0 : Nat) (x1 : Int64) (Q : Int32 → Mem → Prop) (h : wp_X5_isKey x0 x1 M Q) : ZMet l yX5_isKey cX5_isKey 3 (some .boolean) 0 0 G true base M [.ref (base + x0), .long x1] (qI Q) := by
  refine z_start (by decide) (Nat.le_of_ble_eq_true rfl) k_co_yX5_isKey ?_
  intro p e s m below meth c R d0 H locs cells slots ls A hr hn hd0 hZ hl
  have hx := (A d0).1
  have hb := (A d0).2.1
  have hl : lv_has ls 3 [(0, .ref (base + x0)), (1, .long x1)] := hl
  unfold wp_X5_isKey at h
  obtain ⟨ho_x0, h⟩ := h
  refine lv_lload_n hx hb dX5_isKey_0 rfl (lv_at hl 1 rfl) ?_
  refine lv_ldc2 (v := (-1000000000000 : Int64)) hx hb (A d0).2.2.2.1 ((A d0).2.2.2.2.1 _ k_lc_RX5_158) dX5_isKey_1 ?_
  refine z_lc_lt (tgt := 20) hx hb dX5_isKey_4 dX5_isKey_5 (by decide) (fun hc => ?_) (fun hc => ?_)
  · replace h := h.1 hc
    exact (zb_X5_isKey_20 A hr hd0 hZ (lv_sub hl [] rfl) h)
  · replace h := h.2 hc
    refine lv_lload_n hx hb dX5_isKey_8 rfl (lv_at hl 1 rfl) ?_
    refine lv_ldc2 (v := (1000000000000 : Int64)) hx hb (A d0).2.2.2.1 ((A d0).2.2.2.2.1 _ k_lc_RX5_160) dX5_isKey_9 ?_
    refine z_lc_gt (tgt := 20) hx hb dX5_isKey_12 dX5_isKey_13 (by decide) (fun hc => ?_) (fun hc => ?_)
    · replace h := h.1 hc
      exact (zb_X5_isKey_20 A hr hd0 hZ (lv_sub hl [] rfl) h)
    · replace h := h.2 hc
      refine lv_iconst (v := (1 : Int32)) hx hb dX5_isKey_16 (by decide) ?_
      refine lv_goto (tgt := 21) hx hb dX5_isKey_17 (by decide) ?_
      exact (zb_X5_isKey_21 A hr hd0 hZ (lv_sub hl [] rfl) h)
/-! cX5_load -/
set_option maxRecDepth 100000 in
set_option maxHeartbeats 4000000 in
theorem zb_X5_load_31 {p : Program} {l : Launch} {e : Env} {R : Room} {s : State} {m : MethodId} {args : Array Value} {below : List Frame} {meth : Method} {c : Code} {G : ZG} {base z0 : Nat} {Q : Int32 → Mem → Prop} (A : ∀ d, Amb p R (s.setDrawn d) m args meth c G base z0 cX5_load yX5_load.cls 3 1 22) (hr : meth.sig.returnType = (some .int)) {d0 : Drawn} {H : Heap} {locs : List Loc} {cells slots : Nat} {ls : Array Slot}  {M : Mem} (hd0 : s.drawn.sameBut d0 lw_cs) (hZ : ZH G true base s.heap M H locs) (hl : lv_has ls 3 []) (h : wp_X5_load_31 M Q) : W p l e R (s.setDrawn d0) m args below meth c H locs cells slots (ZEnd below G true base z0 (qI Q) args s) (F0 m 31 ls []) := by
  have hx := (A d0).1
  have hb := (A d0).2.1
  unfold wp_X5_load_31 at h
  refine lv_bipush (v := (-2 : Int32)) hx hb dX5_load_31 (by decide) ?_
  exact z_iret A hd0 hZ hr ⟨_, rfl, h⟩ dX5_load_33
set_option maxRecDepth 100000 in
set_option maxHeartbeats 4000000 in
theorem zb_X5_load_34 {p : Program} {l : Launch} {e : Env} {R : Room} {s : State} {m : MethodId} {args : Array Value} {below : List Frame} {meth : Method} {c : Code} {G : ZG} {base z0 : Nat} {Q : Int32 → Mem → Prop} (A : ∀ d, Amb p R (s.setDrawn d) m args meth c G base z0 cX5_load yX5_load.cls 3 1 22) (hr : meth.sig.returnType = (some .int)) {d0 : Drawn} {H : Heap} {locs : List Loc} {cells slots : Nat} {ls : Array Slot} {x0 : Nat} {x1 : Int64} {M : Mem} (ho_x0 : isO M x0 5) (hd0 : s.drawn.sameBut d0 lw_cs) (hZ : ZH G true base s.heap M H locs) (hl : lv_has ls 3 [(0, .ref (base + x0)), (1, .long x1)]) (h : wp_X5_load_34 x0 x1 M Q) : W p l e R (s.setDrawn d0) m args below meth c H locs cells slots (ZEnd below G true base z0 (qI Q) args s) (F0 m 34 ls []) := by
  have hx := (A d0).1
  have hb := (A d0).2.1
  unfold wp_X5_load_34 at h
  refine lv_aload_n hx hb dX5_load_34 rfl (lv_at hl 0 rfl) ?_
  refine z_get (A d0) hZ (ci := 5) (j := 1) ho_x0.1 ho_x0.2 (by decide) (by decide) k_fl_RX5_13 (v := .int (mI M x0 1)) rfl dX5_load_35 ?_
  refine lv_sipush (v := (300 : Int32)) hx hb dX5_load_38 (by decide) ?_
  refine lv_icmp_ne (tgt := 47) hx hb dX5_load_41 (by decide) (fun hc => ?_) (fun hc => ?_)
  · replace h := h.1 hc
    refine lv_aload_n hx hb dX5_load_47 rfl (lv_at hl 0 rfl) ?_
    refine z_get (A d0) hZ (ci := 5) (j := 0) ho_x0.1 ho_x0.2 (by decide) (by decide) k_fl_RX5_7 (v := .ref (base + 70)) (zv_fin (zf5 ho_x0 rfl) rfl) dX5_load_48 ?_
    refine lv_aload_n hx hb dX5_load_51 rfl (lv_at hl 0 rfl) ?_
    refine z_get (A d0) hZ (ci := 5) (j := 1) ho_x0.1 ho_x0.2 (by decide) (by decide) k_fl_RX5_13 (v := .int (mI M x0 1)) rfl dX5_load_52 ?_
    refine lv_lload_n hx hb dX5_load_55 rfl (lv_at hl 1 rfl) ?_
    obtain ⟨hin, h⟩ := h
    obtain ⟨M1, eM1⟩ : ∃ y : Mem, y = sL M 70 (mI M x0 1).toNatClampNeg x1 := ⟨_, rfl⟩
    refine z_last (A d0) hZ (isA_c (a := 70) hZ.k0 (by decide) rfl) hin dX5_load_56 (fun H locs hZ => ?_)
    rw [← eM1] at hZ
    have hm : mz M1 = mz M := by rw [eM1] <;> rfl
    have ho_x0 := isO_le (Nat.le_of_eq hm.symm) ho_x0
    replace h := h M1 eM1
    refine lv_aload_n hx hb dX5_load_57 rfl (lv_at hl 0 rfl) ?_
    refine lv_dup hx hb dX5_load_58 rfl ?_
    refine z_get (A d0) hZ (ci := 5) (j := 1) ho_x0.1 ho_x0.2 (by decide) (by decide) k_fl_RX5_13 (v := .int (mI M1 x0 1)) rfl dX5_load_59 ?_
    refine lv_iconst (v := (1 : Int32)) hx hb dX5_load_62 (by decide) ?_
    refine lv_iadd hx hb dX5_load_63 ?_
    obtain ⟨M2, eM2⟩ : ∃ y : Mem, y = sI M1 x0 1 ((mI M1 x0 1) + (1 : Int32)) := ⟨_, rfl⟩
    refine z_put (A d0) hZ (ci := 5) (j := 1) (M' := M2) ho_x0.1 ho_x0.2 (by decide) (by decide) k_fl_RX5_13 rfl (by rw [eM2]; exact zUpd_I) rfl rfl dX5_load_64 (fun H locs hZ => ?_)
    have hm : mz M2 = mz M1 := by rw [eM2] <;> rfl
    have ho_x0 := isO_le (Nat.le_of_eq hm.symm) ho_x0
    replace h := h M2 eM2
    refine lv_aload_n hx hb dX5_load_67 rfl (lv_at hl 0 rfl) ?_
    refine z_get (A d0) hZ (ci := 5) (j := 1) ho_x0.1 ho_x0.2 (by decide) (by decide) k_fl_RX5_13 (v := .int (mI M2 x0 1)) rfl dX5_load_68 ?_
    exact z_iret A hd0 hZ hr ⟨_, rfl, h⟩ dX5_load_71
  · replace h := h.2 hc
    refine lv_bipush (v := (-3 : Int32)) hx hb dX5_load_44 (by decide) ?_
    exact z_iret A hd0 hZ hr ⟨_, rfl, h⟩ dX5_load_46
set_option maxRecDepth 100000 in
set_option maxHeartbeats 4000000 in
theorem c_X5_load (l : Launch) (G : ZG) (base : Nat) (M : Mem) (x0 : Nat) (x1 : Int64) (Q : Int32 → Mem → Prop) (h : wp_X5_load x0 x1 M Q) : ZMet l yX5_load cX5_load 3 (some .int) 1 22 G true base M [.ref (base + x0), .long x1] (qI Q) := by
  refine z_start (by decide) (Nat.le_of_ble_eq_true rfl) k_co_yX5_load ?_
  intro p e s m below meth c R d0 H locs cells slots ls A hr hn hd0 hZ hl
  have hx := (A d0).1
  have hb := (A d0).2.1
  have hl : lv_has ls 3 [(0, .ref (base + x0)), (1, .long x1)] := hl
  unfold wp_X5_load at h
  obtain ⟨ho_x0, h⟩ := h
  refine lv_aload_n hx hb dX5_load_0 rfl (lv_at hl 0 rfl) ?_
  refine lv_lload_n hx hb dX5_load_1 rfl (lv_at hl 1 rfl) ?_
  refine z_callV A hd0 hZ (ci := 5) (nA := 1) (As := [.long x1]) (by decide) ho_x0 (c_X5_isKey l G base M x0 x1 _ h) k_ml_RX5_162 k_im_yX5_isKey k_se_yX5_isKey k_in_RX5 k_co_yX5_isKey (by decide +kernel) ⟨by decide, by decide⟩ rfl rfl (Nat.le_of_ble_eq_true rfl) hl dX5_load_2 (fun v M3 H locs d0 cells slots hq hd0 hZ hm => ?_)
  clear h
  obtain ⟨i4, rfl, h⟩ := hq
  have ho_x0 := isO_le hm ho_x0
  refine lv_if_eq (tgt := 31) hx hb dX5_load_5 (by decide) (fun hc => ?_) (fun hc => ?_)
  · replace h := h.1 hc
    exact (zb_X5_load_31 A hr hd0 hZ (lv_sub hl [] rfl) h)
  · replace h := h.2 hc
    refine lv_aload_n hx hb dX5_load_8 rfl (lv_at hl 0 rfl) ?_
    refine z_get (A d0) hZ (ci := 5) (j := 1) ho_x0.1 ho_x0.2 (by decide) (by decide) k_fl_RX5_13 (v := .int (mI M3 x0 1)) rfl dX5_load_9 ?_
    refine lv_if_le (tgt := 34) hx hb dX5_load_12 (by decide) (fun hc => ?_) (fun hc => ?_)
    · replace h := h.1 hc
      exact (zb_X5_load_34 A hr ho_x0 hd0 hZ (lv_sub hl [0, 1] rfl) h)
    · replace h := h.2 hc
      refine lv_lload_n hx hb dX5_load_15 rfl (lv_at hl 1 rfl) ?_
      refine lv_aload_n hx hb dX5_load_16 rfl (lv_at hl 0 rfl) ?_
      refine z_get (A d0) hZ (ci := 5) (j := 0) ho_x0.1 ho_x0.2 (by decide) (by decide) k_fl_RX5_7 (v := .ref (base + 70)) (zv_fin (zf5 ho_x0 rfl) rfl) dX5_load_17 ?_
      refine lv_aload_n hx hb dX5_load_20 rfl (lv_at hl 0 rfl) ?_
      refine z_get (A d0) hZ (ci := 5) (j := 1) ho_x0.1 ho_x0.2 (by decide) (by decide) k_fl_RX5_13 (v := .int (mI M3 x0 1)) rfl dX5_load_21 ?_
      refine lv_iconst (v := (1 : Int32)) hx hb dX5_load_24 (by decide) ?_
      refine lv_isub hx hb dX5_load_25 ?_
      obtain ⟨hin, h⟩ := h
      refine z_lald (A d0) hZ (isA_c (a := 70) hZ.k0 (by decide) rfl) hin dX5_load_26 ?_
      refine z_lc_gt (tgt := 34) hx hb dX5_load_27 dX5_load_28 (by decide) (fun hc => ?_) (fun hc => ?_)
      · replace h := h.1 hc
        exact (zb_X5_load_34 A hr ho_x0 hd0 hZ (lv_sub hl [0, 1] rfl) h)
      · replace h := h.2 hc
        exact (zb_X5_load_31 A hr hd0 hZ (lv_sub hl [] rfl) h)
/-! cX5_fill -/
set_option maxRecDepth 100000 in
set_option maxHeartbeats 4000000 in
theorem zb_X5_fill_43 {p : Program} {l : Launch} {e : Env} {R : Room} {s : State} {m : MethodId} {args : Array Value} {below : List Frame} {meth : Method} {c : Code} {G : ZG} {base z0 : Nat} {Q : Int32 → Mem → Prop} (A : ∀ d, Amb p R (s.setDrawn d) m args meth c G base z0 cX5_fill yX5_fill.cls 7 1 22) (hr : meth.sig.returnType = (some .int)) {d0 : Drawn} {H : Heap} {locs : List Loc} {cells slots : Nat} {ls : Array Slot}  {M : Mem} (hd0 : s.drawn.sameBut d0 lw_cs) (hZ : ZH G true base s.heap M H locs) (hl : lv_has ls 7 []) (h : wp_X5_fill_43 M Q) : W p l e R (s.setDrawn d0) m args below meth c H locs cells slots (ZEnd below G true base z0 (qI Q) args s) (F0 m 43 ls []) := by
  have hx := (A d0).1
  have hb := (A d0).2.1
  unfold wp_X5_fill_43 at h
  refine lv_bipush (v := (-2 : Int32)) hx hb dX5_fill_43 (by decide) ?_
  exact z_iret A hd0 hZ hr ⟨_, rfl, h⟩ dX5_fill_45
set_option maxRecDepth 100000 in
set_option maxHeartbeats 4000000 in
theorem zb_X5_fill_93 {p : Program} {l : Launch} {e : Env} {R : Room} {s : State} {m : MethodId} {args : Array Value} {below : List Frame} {meth : Method} {c : Code} {G : ZG} {base z0 : Nat} {Q : Int32 → Mem → Prop} (A : ∀ d, Amb p R (s.setDrawn d) m args meth c G base z0 cX5_fill yX5_fill.cls 7 1 22) (hr : meth.sig.returnType = (some .int)) {K132 : Nat → Mem → Prop} :
  ∀ (n : Nat) {d0 : Drawn} {H : Heap} {locs : List Loc} {cells slots : Nat} {ls : Array Slot} {x0 : Nat} {x1 : Int64} {x3 : Int64} {x5 : Int32} {x6 : Int32} {M : Mem} (ho_x0 : isO M x0 5) (hd0 : s.drawn.sameBut d0 lw_cs) (hZ : ZH G true base s.heap M H locs) (hl : lv_has ls 7 [(0, .ref (base + x0)), (1, .long x1), (3, .long x3), (5, .int x5), (6, .int x6)]) (h : wp_X5_fill_93 n x0 x1 x3 x5 x6 M Q K132) (hK132 : ∀ {d0 : Drawn} {H : Heap} {locs : List Loc} {cells slots : Nat} {ls : Array Slot} {x0 : Nat} {M : Mem} (ho_x0 : isO M x0 5), s.drawn.sameBut d0 lw_cs → ZH G true base s.heap M H locs → lv_has ls 7 [(0, .ref (base + x0))] → K132 x0 M → W p l e R (s.setDrawn d0) m args below meth c H locs cells slots (ZEnd below G true base z0 (qI Q) args s) (F0 m 132 ls [])), W p l e R (s.setDrawn d0) m args below meth c H locs cells slots (ZEnd below G true base z0 (qI Q) args s) (F0 m 93 ls []) := by
  have hx := (A default).1
  have hb := (A default).2.1
  intro n
  induction n with
  | zero => intro d0 H locs cells slots ls x0 x1 x3 x5 x6 M ho_x0 hd0 hZ hl h hK132; exact h.elim
  | succ n ih =>
    intro d0 H locs cells slots ls x0 x1 x3 x5 x6 M ho_x0 hd0 hZ hl h hK132
    unfold wp_X5_fill_93 at h
    refine lv_iload hx hb dX5_fill_93 (lv_at hl 4 rfl) ?_
    refine lv_iload hx hb dX5_fill_95 (lv_at hl 3 rfl) ?_
    refine lv_icmp_ge (tgt := 132) hx hb dX5_fill_97 (by decide) (fun hc => ?_) (fun hc => ?_)
    · replace h := h.1 hc
      exact hK132 ho_x0 hd0 hZ (lv_sub hl [0] rfl) h
    · replace h := h.2 hc
      refine lv_aload_n hx hb dX5_fill_100 rfl (lv_at hl 0 rfl) ?_
      refine z_get (A d0) hZ (ci := 5) (j := 0) ho_x0.1 ho_x0.2 (by decide) (by decide) k_fl_RX5_7 (v := .ref (base + 70)) (zv_fin (zf5 ho_x0 rfl) rfl) dX5_fill_101 ?_
      refine lv_aload_n hx hb dX5_fill_104 rfl (lv_at hl 0 rfl) ?_
      refine z_get (A d0) hZ (ci := 5) (j := 1) ho_x0.1 ho_x0.2 (by decide) (by decide) k_fl_RX5_13 (v := .int (mI M x0 1)) rfl dX5_fill_105 ?_
      refine lv_lload_n hx hb dX5_fill_108 rfl (lv_at hl 1 rfl) ?_
      refine lv_lload_n hx hb dX5_fill_109 rfl (lv_at hl 2 rfl) ?_
      refine lv_iload hx hb dX5_fill_110 (lv_at hl 4 rfl) ?_
      refine lv_i2l hx hb dX5_fill_112 rfl ?_
      refine lv_lmul hx hb dX5_fill_113 ?_
      refine lv_ladd hx hb dX5_fill_114 ?_
      obtain ⟨hin, h⟩ := h
      obtain ⟨M1, eM1⟩ : ∃ y : Mem, y = sL M 70 (mI M x0 1).toNatClampNeg (x1 + (x3 * x6.toInt64)) := ⟨_, rfl⟩
      refine z_last (A d0) hZ (isA_c (a := 70) hZ.k0 (by decide) rfl) hin dX5_fill_115 (fun H locs hZ => ?_)
      rw [← eM1] at hZ
      have hm : mz M1 = mz M := by rw [eM1] <;> rfl
      have ho_x0 := isO_le (Nat.le_of_eq hm.symm) ho_x0
      replace h := h M1 eM1
      refine lv_aload_n hx hb dX5_fill_116 rfl (lv_at hl 0 rfl) ?_
      refine lv_dup hx hb dX5_fill_117 rfl ?_
      refine z_get (A d0) hZ (ci := 5) (j := 1) ho_x0.1 ho_x0.2 (by decide) (by decide) k_fl_RX5_13 (v := .int (mI M1 x0 1)) rfl dX5_fill_118 ?_
      refine lv_iconst (v := (1 : Int32)) hx hb dX5_fill_121 (by decide) ?_
      refine lv_iadd hx hb dX5_fill_122 ?_
      obtain ⟨M2, eM2⟩ : ∃ y : Mem, y = sI M1 x0 1 ((mI M1 x0 1) + (1 : Int32)) := ⟨_, rfl⟩
      refine z_put (A d0) hZ (ci := 5) (j := 1) (M' := M2) ho_x0.1 ho_x0.2 (by decide) (by decide) k_fl_RX5_13 rfl (by rw [eM2]; exact zUpd_I) rfl rfl dX5_fill_123 (fun H locs hZ => ?_)
      have hm : mz M2 = mz M1 := by rw [eM2] <;> rfl
      have ho_x0 := isO_le (Nat.le_of_eq hm.symm) ho_x0
      replace h := h M2 eM2
      obtain ⟨i3, ei3⟩ : ∃ y : Int32, y = x6 + (1 : Int32) := ⟨_, rfl⟩
      replace h := h i3 ei3
      refine lv_iinc (v := i3) (lv' := [(6, .int i3), (0, .ref (base + x0)), (1, .long x1), (3, .long x3), (5, .int x5)]) hx hb dX5_fill_126 hl (k := 4) rfl (by rw [ei3]; rfl) (by decide) rfl (fun ls hl2 => ?_)
      replace hl := hl2
      refine lv_goto (tgt := 93) hx hb dX5_fill_129 (by decide) ?_
      exact ih ho_x0 hd0 hZ (lv_sub hl [1, 2, 3, 4, 0] rfl) h hK132
set_option maxRecDepth 100000 in
set_option maxHeartbeats 4000000 in
theorem zb_X5_fill_132 {p : Program} {l : Launch} {e : Env} {R : Room} {s : State} {m : MethodId} {args : Array Value} {below : List Frame} {meth : Method} {c : Code} {G : ZG} {base z0 : Nat} {Q : Int32 → Mem → Prop} (A : ∀ d, Amb p R (s.setDrawn d) m args meth c G base z0 cX5_fill yX5_fill.cls 7 1 22) (hr : meth.sig.returnType = (some .int)) {d0 : Drawn} {H : Heap} {locs : List Loc} {cells slots : Nat} {ls : Array Slot} {x0 : Nat} {M : Mem} (ho_x0 : isO M x0 5) (hd0 : s.drawn.sameBut d0 lw_cs) (hZ : ZH G true base s.heap M H locs) (hl : lv_has ls 7 [(0, .ref (base + x0))]) (h : wp_X5_fill_132 x0 M Q) : W p l e R (s.setDrawn d0) m args below meth c H locs cells slots (ZEnd below G true base z0 (qI Q) args s) (F0 m 132 ls []) := by
  have hx := (A d0).1
  have hb := (A d0).2.1
  unfold wp_X5_fill_132 at h
  refine lv_aload_n hx hb dX5_fill_132 rfl (lv_at hl 0 rfl) ?_
  refine z_get (A d0) hZ (ci := 5) (j := 1) ho_x0.1 ho_x0.2 (by decide) (by decide) k_fl_RX5_13 (v := .int (mI M x0 1)) rfl dX5_fill_133 ?_
  exact z_iret A hd0 hZ hr ⟨_, rfl, h⟩ dX5_fill_136
set_option maxRecDepth 100000 in
set_option maxHeartbeats 4000000 in
theorem zb_X5_fill_71 {p : Program} {l : Launch} {e : Env} {R : Room} {s : State} {m : MethodId} {args : Array Value} {below : List Frame} {meth : Method} {c : Code} {G : ZG} {base z0 : Nat} {Q : Int32 → Mem → Prop} (A : ∀ d, Amb p R (s.setDrawn d) m args meth c G base z0 cX5_fill yX5_fill.cls 7 1 22) (hr : meth.sig.returnType = (some .int)) {d0 : Drawn} {H : Heap} {locs : List Loc} {cells slots : Nat} {ls : Array Slot} {x0 : Nat} {x1 : Int64} {x3 : Int64} {x5 : Int32} {M : Mem} (ho_x0 : isO M x0 5) (hd0 : s.drawn.sameBut d0 lw_cs) (hZ : ZH G true base s.heap M H locs) (hl : lv_has ls 7 [(0, .ref (base + x0)), (1, .long x1), (3, .long x3), (5, .int x5)]) (h : wp_X5_fill_71 x0 x1 x3 x5 M Q) : W p l e R (s.setDrawn d0) m args below meth c H locs cells slots (ZEnd below G true base z0 (qI Q) args s) (F0 m 71 ls []) := by
  have hx := (A d0).1
  have hb := (A d0).2.1
  unfold wp_X5_fill_71 at h
  refine lv_aload_n hx hb dX5_fill_71 rfl (lv_at hl 0 rfl) ?_
  refine z_get (A d0) hZ (ci := 5) (j := 1) ho_x0.1 ho_x0.2 (by decide) (by decide) k_fl_RX5_13 (v := .int (mI M x0 1)) rfl dX5_fill_72 ?_
  refine lv_i2l hx hb dX5_fill_75 rfl ?_
  refine lv_iload hx hb dX5_fill_76 (lv_at hl 3 rfl) ?_
  refine lv_i2l hx hb dX5_fill_78 rfl ?_
  refine lv_ladd hx hb dX5_fill_79 ?_
  refine lv_ldc2 (v := (300 : Int64)) hx hb (A d0).2.2.2.1 ((A d0).2.2.2.2.1 _ k_lc_RX5_166) dX5_fill_80 ?_
  refine z_lc_le (tgt := 90) hx hb dX5_fill_83 dX5_fill_84 (by decide) (fun hc => ?_) (fun hc => ?_)
  · replace h := h.1 hc
    refine lv_iconst (v := (0 : Int32)) hx hb dX5_fill_90 (by decide) ?_
    refine lv_istore (lv' := [(6, .int (0 : Int32)), (0, .ref (base + x0)), (1, .long x1), (3, .long x3), (5, .int x5)]) hx hb dX5_fill_91 hl (by decide) rfl (fun ls hl2 => ?_)
    replace hl := hl2
    exact (Exists.elim h fun kk h => zb_X5_fill_93 A hr kk ho_x0 hd0 hZ (lv_sub hl [1, 2, 3, 4, 0] rfl) h (fun ho_x0 hd0 hZ hl h => (zb_X5_fill_132 A hr ho_x0 hd0 hZ hl h)))
  · replace h := h.2 hc
    refine lv_bipush (v := (-3 : Int32)) hx hb dX5_fill_87 (by decide) ?_
    exact z_iret A hd0 hZ hr ⟨_, rfl, h⟩ dX5_fill_89
set_option maxRecDepth 100000 in
set_option maxHeartbeats 4000000 in
theorem zb_X5_fill_46 {p : Program} {l : Launch} {e : Env} {R : Room} {s : State} {m : MethodId} {args : Array Value} {below : List Frame} {meth : Method} {c : Code} {G : ZG} {base z0 : Nat} {Q : Int32 → Mem → Prop} (A : ∀ d, Amb p R (s.setDrawn d) m args meth c G base z0 cX5_fill yX5_fill.cls 7 1 22) (hr : meth.sig.returnType = (some .int)) {d0 : Drawn} {H : Heap} {locs : List Loc} {cells slots : Nat} {ls : Array Slot} {x0 : Nat} {x1 : Int64} {x3 : Int64} {x5 : Int32} {M : Mem} (ho_x0 : isO M x0 5) (hd0 : s.drawn.sameBut d0 lw_cs) (hZ : ZH G true base s.heap M H locs) (hl : lv_has ls 7 [(0, .ref (base + x0)), (1, .long x1), (3, .long x3), (5, .int x5)]) (h : wp_X5_fill_46 x0 x1 x3 x5 M Q) : W p l e R (s.setDrawn d0) m args below meth c H locs cells slots (ZEnd below G true base z0 (qI Q) args s) (F0 m 46 ls []) := by
  have hx := (A d0).1
  have hb := (A d0).2.1
  unfold wp_X5_fill_46 at h
  refine lv_iload hx hb dX5_fill_46 (lv_at hl 3 rfl) ?_
  refine lv_iconst (v := (1 : Int32)) hx hb dX5_fill_48 (by decide) ?_
  refine lv_icmp_le (tgt := 71) hx hb dX5_fill_49 (by decide) (fun hc => ?_) (fun hc => ?_)
  · replace h := h.1 hc
    exact (zb_X5_fill_71 A hr ho_x0 hd0 hZ (lv_sub hl [0, 1, 2, 3] rfl) h)
  · replace h := h.2 hc
    refine lv_lload_n hx hb dX5_fill_52 rfl (lv_at hl 2 rfl) ?_
    refine lv_ldc2 (v := (1000000000000 : Int64)) hx hb (A d0).2.2.2.1 ((A d0).2.2.2.2.1 _ k_lc_RX5_160) dX5_fill_53 ?_
    refine lv_lload_n hx hb dX5_fill_56 rfl (lv_at hl 1 rfl) ?_
    refine lv_lsub hx hb dX5_fill_57 ?_
    refine lv_iload hx hb dX5_fill_58 (lv_at hl 3 rfl) ?_
    refine lv_iconst (v := (1 : Int32)) hx hb dX5_fill_60 (by decide) ?_
    refine lv_isub hx hb dX5_fill_61 ?_
    refine lv_i2l hx hb dX5_fill_62 rfl ?_
    obtain ⟨hne, h⟩ := h
    refine lv_ldiv hx hb dX5_fill_63 hne ?_
    refine z_lc_le (tgt := 71) hx hb dX5_fill_64 dX5_fill_65 (by decide) (fun hc => ?_) (fun hc => ?_)
    · replace h := h.1 hc
      exact (zb_X5_fill_71 A hr ho_x0 hd0 hZ (lv_sub hl [0, 1, 2, 3] rfl) h)
    · replace h := h.2 hc
      refine lv_bipush (v := (-2 : Int32)) hx hb dX5_fill_68 (by decide) ?_
      exact z_iret A hd0 hZ hr ⟨_, rfl, h⟩ dX5_fill_70
set_option maxRecDepth 100000 in
set_option maxHeartbeats 4000000 in
theorem c_X5_fill (l : Launch) (G : ZG) (base : Nat) (M : Mem) (x0 : Nat) (x1 : Int64) (x3 : Int64) (x5 : Int32) (Q : Int32 → Mem → Prop) (h : wp_X5_fill x0 x1 x3 x5 M Q) : ZMet l yX5_fill cX5_fill 7 (some .int) 1 22 G true base M [.ref (base + x0), .long x1, .long x3, .int x5] (qI Q) := by
  refine z_start (by decide) (Nat.le_of_ble_eq_true rfl) k_co_yX5_fill ?_
  intro p e s m below meth c R d0 H locs cells slots ls A hr hn hd0 hZ hl
  have hx := (A d0).1
  have hb := (A d0).2.1
  have hl : lv_has ls 7 [(0, .ref (base + x0)), (1, .long x1), (3, .long x3), (5, .int x5)] := hl
  unfold wp_X5_fill at h
  obtain ⟨ho_x0, h⟩ := h
  refine lv_iload hx hb dX5_fill_0 (lv_at hl 3 rfl) ?_
  refine lv_iconst (v := (1 : Int32)) hx hb dX5_fill_2 (by decide) ?_
  refine lv_icmp_lt (tgt := 43) hx hb dX5_fill_3 (by decide) (fun hc => ?_) (fun hc => ?_)
  · replace h := h.1 hc
    exact (zb_X5_fill_43 A hr hd0 hZ (lv_sub hl [] rfl) h)
  · replace h := h.2 hc
    refine lv_lload_n hx hb dX5_fill_6 rfl (lv_at hl 2 rfl) ?_
    refine lv_lconst (v := (1 : Int64)) hx hb dX5_fill_7 (by decide) ?_
    refine z_lc_lt (tgt := 43) hx hb dX5_fill_8 dX5_fill_9 (by decide) (fun hc => ?_) (fun hc => ?_)
    · replace h := h.1 hc
      exact (zb_X5_fill_43 A hr hd0 hZ (lv_sub hl [] rfl) h)
    · replace h := h.2 hc
      refine lv_aload_n hx hb dX5_fill_12 rfl (lv_at hl 0 rfl) ?_
      refine lv_lload_n hx hb dX5_fill_13 rfl (lv_at hl 1 rfl) ?_
      refine z_callV A hd0 hZ (ci := 5) (nA := 1) (As := [.long x1]) (by decide) ho_x0 (c_X5_isKey l G base M x0 x1 _ h) k_ml_RX5_162 k_im_yX5_isKey k_se_yX5_isKey k_in_RX5 k_co_yX5_isKey (by decide +kernel) ⟨by decide, by decide⟩ rfl rfl (Nat.le_of_ble_eq_true rfl) hl dX5_fill_14 (fun v M4 H locs d0 cells slots hq hd0 hZ hm => ?_)
      clear h
      obtain ⟨i5, rfl, h⟩ := hq
      have ho_x0 := isO_le hm ho_x0
      refine lv_if_eq (tgt := 43) hx hb dX5_fill_17 (by decide) (fun hc => ?_) (fun hc => ?_)
      · replace h := h.1 hc
        exact (zb_X5_fill_43 A hr hd0 hZ (lv_sub hl [] rfl) h)
      · replace h := h.2 hc
        refine lv_aload_n hx hb dX5_fill_20 rfl (lv_at hl 0 rfl) ?_
        refine z_get (A d0) hZ (ci := 5) (j := 1) ho_x0.1 ho_x0.2 (by decide) (by decide) k_fl_RX5_13 (v := .int (mI M4 x0 1)) rfl dX5_fill_21 ?_
        refine lv_if_le (tgt := 46) hx hb dX5_fill_24 (by decide) (fun hc => ?_) (fun hc => ?_)
        · replace h := h.1 hc
          exact (zb_X5_fill_46 A hr ho_x0 hd0 hZ (lv_sub hl [0, 1, 2, 3] rfl) h)
        · replace h := h.2 hc
          refine lv_lload_n hx hb dX5_fill_27 rfl (lv_at hl 1 rfl) ?_
          refine lv_aload_n hx hb dX5_fill_28 rfl (lv_at hl 0 rfl) ?_
          refine z_get (A d0) hZ (ci := 5) (j := 0) ho_x0.1 ho_x0.2 (by decide) (by decide) k_fl_RX5_7 (v := .ref (base + 70)) (zv_fin (zf5 ho_x0 rfl) rfl) dX5_fill_29 ?_
          refine lv_aload_n hx hb dX5_fill_32 rfl (lv_at hl 0 rfl) ?_
          refine z_get (A d0) hZ (ci := 5) (j := 1) ho_x0.1 ho_x0.2 (by decide) (by decide) k_fl_RX5_13 (v := .int (mI M4 x0 1)) rfl dX5_fill_33 ?_
          refine lv_iconst (v := (1 : Int32)) hx hb dX5_fill_36 (by decide) ?_
          refine lv_isub hx hb dX5_fill_37 ?_
          obtain ⟨hin, h⟩ := h
          refine z_lald (A d0) hZ (isA_c (a := 70) hZ.k0 (by decide) rfl) hin dX5_fill_38 ?_
          refine z_lc_gt (tgt := 46) hx hb dX5_fill_39 dX5_fill_40 (by decide) (fun hc => ?_) (fun hc => ?_)
          · replace h := h.1 hc
            exact (zb_X5_fill_46 A hr ho_x0 hd0 hZ (lv_sub hl [0, 1, 2, 3] rfl) h)
          · replace h := h.2 hc
            exact (zb_X5_fill_43 A hr hd0 hZ (lv_sub hl [] rfl) h)
/-! cX5_wipe -/
set_option maxRecDepth 100000 in
set_option maxHeartbeats 4000000 in
theorem c_X5_wipe (l : Launch) (G : ZG) (base : Nat) (M : Mem) (x0 : Nat) (Q : Int32 → Mem → Prop) (h : wp_X5_wipe x0 M Q) : ZMet l yX5_wipe cX5_wipe 2 (some .int) 0 0 G true base M [.ref (base + x0)] (qI Q) := by
  refine z_start (by decide) (Nat.le_of_ble_eq_true rfl) k_co_yX5_wipe ?_
  intro p e s m below meth c R d0 H locs cells slots ls A hr hn hd0 hZ hl
  have hx := (A d0).1
  have hb := (A d0).2.1
  have hl : lv_has ls 2 [(0, .ref (base + x0))] := hl
  unfold wp_X5_wipe at h
  obtain ⟨ho_x0, h⟩ := h
  refine lv_aload_n hx hb dX5_wipe_0 rfl (lv_at hl 0 rfl) ?_
  refine z_get (A d0) hZ (ci := 5) (j := 1) ho_x0.1 ho_x0.2 (by decide) (by decide) k_fl_RX5_13 (v := .int (mI M x0 1)) rfl dX5_wipe_1 ?_
  obtain ⟨i1, ei1⟩ : ∃ y : Int32, y = mI M x0 1 := ⟨_, rfl⟩
  rw [← ei1]
  replace h := h i1 ei1
  refine lv_istore_n (lv' := [(1, .int i1), (0, .ref (base + x0))]) hx hb dX5_wipe_4 rfl hl (by decide) rfl (fun ls hl2 => ?_)
  replace hl := hl2
  refine lv_aload_n hx hb dX5_wipe_5 rfl (lv_at hl 1 rfl) ?_
  refine lv_iconst (v := (0 : Int32)) hx hb dX5_wipe_6 (by decide) ?_
  obtain ⟨M2, eM2⟩ : ∃ y : Mem, y = sI M x0 1 (0 : Int32) := ⟨_, rfl⟩
  refine z_put (A d0) hZ (ci := 5) (j := 1) (M' := M2) ho_x0.1 ho_x0.2 (by decide) (by decide) k_fl_RX5_13 rfl (by rw [eM2]; exact zUpd_I) rfl rfl dX5_wipe_7 (fun H locs hZ => ?_)
  have hm : mz M2 = mz M := by rw [eM2] <;> rfl
  have ho_x0 := isO_le (Nat.le_of_eq hm.symm) ho_x0
  replace h := h M2 eM2
  refine lv_iload_n hx hb dX5_wipe_10 rfl (lv_at hl 0 rfl) ?_
  exact z_iret A hd0 hZ hr ⟨_, rfl, h⟩ dX5_wipe_11
/-! cX5_margin -/
set_option maxRecDepth 100000 in
set_option maxHeartbeats 4000000 in
theorem zb_X5_margin_10 {p : Program} {l : Launch} {e : Env} {R : Room} {s : State} {m : MethodId} {args : Array Value} {below : List Frame} {meth : Method} {c : Code} {G : ZG} {base z0 : Nat} {Q : Int32 → Mem → Prop} (A : ∀ d, Amb p R (s.setDrawn d) m args meth c G base z0 cX5_margin yX5_margin.cls 3 0 0) (hr : meth.sig.returnType = (some .int)) {d0 : Drawn} {H : Heap} {locs : List Loc} {cells slots : Nat} {ls : Array Slot}  {M : Mem} (hd0 : s.drawn.sameBut d0 lw_cs) (hZ : ZH G true base s.heap M H locs) (hl : lv_has ls 3 []) (h : wp_X5_margin_10 M Q) : W p l e R (s.setDrawn d0) m args below meth c H locs cells slots (ZEnd below G true base z0 (qI Q) args s) (F0 m 10 ls []) := by
  have hx := (A d0).1
  have hb := (A d0).2.1
  unfold wp_X5_margin_10 at h
  refine lv_bipush (v := (-2 : Int32)) hx hb dX5_margin_10 (by decide) ?_
  exact z_iret A hd0 hZ hr ⟨_, rfl, h⟩ dX5_margin_12
set_option maxRecDepth 100000 in
set_option maxHeartbeats 4000000 in
theorem c_X5_margin (l : Launch) (G : ZG) (base : Nat) (M : Mem) (x0 : Nat) (x1 : Int32) (Q : Int32 → Mem → Prop) (h : wp_X5_margin x0 x1 M Q) : ZMet l yX5_margin cX5_margin 3 (some .int) 0 0 G true base M [.ref (base + x0), .int x1] (qI Q) := by
  refine z_start (by decide) (Nat.le_of_ble_eq_true rfl) k_co_yX5_margin ?_
  intro p e s m below meth c R d0 H locs cells slots ls A hr hn hd0 hZ hl
  have hx := (A d0).1
  have hb := (A d0).2.1
  have hl : lv_has ls 3 [(0, .ref (base + x0)), (1, .int x1)] := hl
  unfold wp_X5_margin at h
  obtain ⟨ho_x0, h⟩ := h
  refine lv_iload_n hx hb dX5_margin_0 rfl (lv_at hl 1 rfl) ?_
  refine lv_if_lt (tgt := 10) hx hb dX5_margin_1 (by decide) (fun hc => ?_) (fun hc => ?_)
  · replace h := h.1 hc
    exact (zb_X5_margin_10 A hr hd0 hZ (lv_sub hl [] rfl) h)
  · replace h := h.2 hc
    refine lv_iload_n hx hb dX5_margin_4 rfl (lv_at hl 1 rfl) ?_
    refine lv_bipush (v := (40 : Int32)) hx hb dX5_margin_5 (by decide) ?_
    refine lv_icmp_le (tgt := 13) hx hb dX5_margin_7 (by decide) (fun hc => ?_) (fun hc => ?_)
    · replace h := h.1 hc
      refine lv_aload_n hx hb dX5_margin_13 rfl (lv_at hl 0 rfl) ?_
      refine z_get (A d0) hZ (ci := 5) (j := 2) ho_x0.1 ho_x0.2 (by decide) (by decide) k_fl_RX5_17 (v := .int (mI M x0 2)) rfl dX5_margin_14 ?_
      obtain ⟨i1, ei1⟩ : ∃ y : Int32, y = mI M x0 2 := ⟨_, rfl⟩
      rw [← ei1]
      replace h := h i1 ei1
      refine lv_istore_n (lv' := [(2, .int i1), (0, .ref (base + x0)), (1, .int x1)]) hx hb dX5_margin_17 rfl hl (by decide) rfl (fun ls hl2 => ?_)
      replace hl := hl2
      refine lv_aload_n hx hb dX5_margin_18 rfl (lv_at hl 1 rfl) ?_
      refine lv_iload_n hx hb dX5_margin_19 rfl (lv_at hl 2 rfl) ?_
      obtain ⟨M2, eM2⟩ : ∃ y : Mem, y = sI M x0 2 x1 := ⟨_, rfl⟩
      refine z_put (A d0) hZ (ci := 5) (j := 2) (M' := M2) ho_x0.1 ho_x0.2 (by decide) (by decide) k_fl_RX5_17 rfl (by rw [eM2]; exact zUpd_I) rfl rfl dX5_margin_20 (fun H locs hZ => ?_)
      have hm : mz M2 = mz M := by rw [eM2] <;> rfl
      have ho_x0 := isO_le (Nat.le_of_eq hm.symm) ho_x0
      replace h := h M2 eM2
      refine lv_iload_n hx hb dX5_margin_23 rfl (lv_at hl 0 rfl) ?_
      exact z_iret A hd0 hZ hr ⟨_, rfl, h⟩ dX5_margin_24
    · replace h := h.2 hc
      exact (zb_X5_margin_10 A hr hd0 hZ (lv_sub hl [] rfl) h)
/-! cX5_pair -/
set_option maxRecDepth 100000 in
set_option maxHeartbeats 4000000 in
theorem zb_X5_pair_126 {p : Program} {l : Launch} {e : Env} {R : Room} {s : State} {m : MethodId} {args : Array Value} {below : List Frame} {meth : Method} {c : Code} {G : ZG} {base z0 : Nat} {Q : Mem → Prop} (A : ∀ d, Amb p R (s.setDrawn d) m args meth c G base z0 cX5_pair yX5_pair.cls 11 0 0) (hr : meth.sig.returnType = none) {d0 : Drawn} {H : Heap} {locs : List Loc} {cells slots : Nat} {ls : Array Slot}  {M : Mem} (hd0 : s.drawn.sameBut d0 lw_cs) (hZ : ZH G true base s.heap M H locs) (hl : lv_has ls 11 []) (h : wp_X5_pair_126 M Q) : W p l e R (s.setDrawn d0) m args below meth c H locs cells slots (ZEnd below G true base z0 (qV Q) args s) (F0 m 126 ls []) := by
  have hx := (A d0).1
  have hb := (A d0).2.1
  unfold wp_X5_pair_126 at h
  exact z_vret A hd0 hZ hr ⟨rfl, h⟩ dX5_pair_126
set_option maxRecDepth 100000 in
set_option maxHeartbeats 4000000 in
theorem zb_X5_pair_114 {p : Program} {l : Launch} {e : Env} {R : Room} {s : State} {m : MethodId} {args : Array Value} {below : List Frame} {meth : Method} {c : Code} {G : ZG} {base z0 : Nat} {Q : Mem → Prop} (A : ∀ d, Amb p R (s.setDrawn d) m args meth c G base z0 cX5_pair yX5_pair.cls 11 0 0) (hr : meth.sig.returnType = none) {d0 : Drawn} {H : Heap} {locs : List Loc} {cells slots : Nat} {ls : Array Slot} {x0 : Nat} {x5 : Int64} {x9 : Int64} {M : Mem} (ho_x0 : isO M x0 5) (hd0 : s.drawn.sameBut d0 lw_cs) (hZ : ZH G true base s.heap M H locs) (hl : lv_has ls 11 [(0, .ref (base + x0)), (5, .long x5), (9, .long x9)]) (h : wp_X5_pair_114 x0 x5 x9 M Q) : W p l e R (s.setDrawn d0) m args below meth c H locs cells slots (ZEnd below G true base z0 (qV Q) args s) (F0 m 114 ls []) := by
  have hx := (A d0).1
  have hb := (A d0).2.1
  unfold wp_X5_pair_114 at h
  refine lv_aload_n hx hb dX5_pair_114 rfl (lv_at hl 0 rfl) ?_
  refine lv_lload hx hb dX5_pair_115 (lv_at hl 2 rfl) ?_
  obtain ⟨M4, eM4⟩ : ∃ y : Mem, y = sL M x0 6 x9 := ⟨_, rfl⟩
  refine z_put (A d0) hZ (ci := 5) (j := 6) (M' := M4) ho_x0.1 ho_x0.2 (by decide) (by decide) k_fl_RX5_30 rfl (by rw [eM4]; exact zUpd_L) rfl rfl dX5_pair_117 (fun H locs hZ => ?_)
  have hm : mz M4 = mz M := by rw [eM4] <;> rfl
  have ho_x0 := isO_le (Nat.le_of_eq hm.symm) ho_x0
  replace h := h M4 eM4
  refine lv_aload_n hx hb dX5_pair_120 rfl (lv_at hl 0 rfl) ?_
  refine lv_lload hx hb dX5_pair_121 (lv_at hl 1 rfl) ?_
  obtain ⟨M5, eM5⟩ : ∃ y : Mem, y = sL M4 x0 7 x5 := ⟨_, rfl⟩
  refine z_put (A d0) hZ (ci := 5) (j := 7) (M' := M5) ho_x0.1 ho_x0.2 (by decide) (by decide) k_fl_RX5_33 rfl (by rw [eM5]; exact zUpd_L) rfl rfl dX5_pair_123 (fun H locs hZ => ?_)
  have hm : mz M5 = mz M4 := by rw [eM5] <;> rfl
  have ho_x0 := isO_le (Nat.le_of_eq hm.symm) ho_x0
  replace h := h M5 eM5
  exact (zb_X5_pair_126 A hr hd0 hZ (lv_sub hl [] rfl) h)
set_option maxRecDepth 100000 in
set_option maxHeartbeats 4000000 in
theorem zb_X5_pair_87 {p : Program} {l : Launch} {e : Env} {R : Room} {s : State} {m : MethodId} {args : Array Value} {below : List Frame} {meth : Method} {c : Code} {G : ZG} {base z0 : Nat} {Q : Mem → Prop} (A : ∀ d, Amb p R (s.setDrawn d) m args meth c G base z0 cX5_pair yX5_pair.cls 11 0 0) (hr : meth.sig.returnType = none) {d0 : Drawn} {H : Heap} {locs : List Loc} {cells slots : Nat} {ls : Array Slot} {x0 : Nat} {x5 : Int64} {x9 : Int64} {M : Mem} (ho_x0 : isO M x0 5) (hd0 : s.drawn.sameBut d0 lw_cs) (hZ : ZH G true base s.heap M H locs) (hl : lv_has ls 11 [(0, .ref (base + x0)), (5, .long x5), (9, .long x9)]) (h : wp_X5_pair_87 x0 x5 x9 M Q) : W p l e R (s.setDrawn d0) m args below meth c H locs cells slots (ZEnd below G true base z0 (qV Q) args s) (F0 m 87 ls []) := by
  have hx := (A d0).1
  have hb := (A d0).2.1
  unfold wp_X5_pair_87 at h
  refine lv_aload_n hx hb dX5_pair_87 rfl (lv_at hl 0 rfl) ?_
  refine z_get (A d0) hZ (ci := 5) (j := 7) ho_x0.1 ho_x0.2 (by decide) (by decide) k_fl_RX5_33 (v := .long (mL M x0 7)) rfl dX5_pair_88 ?_
  refine lv_lconst (v := (0 : Int64)) hx hb dX5_pair_91 (by decide) ?_
  refine z_lc_eq (tgt := 114) hx hb dX5_pair_92 dX5_pair_93 (by decide) (fun hc => ?_) (fun hc => ?_)
  · replace h := h.1 hc
    exact (zb_X5_pair_114 A hr ho_x0 hd0 hZ (lv_sub hl [0, 1, 2] rfl) h)
  · replace h := h.2 hc
    refine lv_lload hx hb dX5_pair_96 (lv_at hl 2 rfl) ?_
    refine lv_aload_n hx hb dX5_pair_98 rfl (lv_at hl 0 rfl) ?_
    refine z_get (A d0) hZ (ci := 5) (j := 7) ho_x0.1 ho_x0.2 (by decide) (by decide) k_fl_RX5_33 (v := .long (mL M x0 7)) rfl dX5_pair_99 ?_
    refine lv_lmul hx hb dX5_pair_102 ?_
    refine lv_aload_n hx hb dX5_pair_103 rfl (lv_at hl 0 rfl) ?_
    refine z_get (A d0) hZ (ci := 5) (j := 6) ho_x0.1 ho_x0.2 (by decide) (by decide) k_fl_RX5_30 (v := .long (mL M x0 6)) rfl dX5_pair_104 ?_
    refine lv_lload hx hb dX5_pair_107 (lv_at hl 1 rfl) ?_
    refine lv_lmul hx hb dX5_pair_109 ?_
    refine z_lc_le (tgt := 126) hx hb dX5_pair_110 dX5_pair_111 (by decide) (fun hc => ?_) (fun hc => ?_)
    · replace h := h.1 hc
      exact (zb_X5_pair_126 A hr hd0 hZ (lv_sub hl [] rfl) h)
    · replace h := h.2 hc
      exact (zb_X5_pair_114 A hr ho_x0 hd0 hZ (lv_sub hl [0, 1, 2] rfl) h)
set_option maxRecDepth 100000 in
set_option maxHeartbeats 4000000 in
theorem zb_X5_pair_70 {p : Program} {l : Launch} {e : Env} {R : Room} {s : State} {m : MethodId} {args : Array Value} {below : List Frame} {meth : Method} {c : Code} {G : ZG} {base z0 : Nat} {Q : Mem → Prop} (A : ∀ d, Amb p R (s.setDrawn d) m args meth c G base z0 cX5_pair yX5_pair.cls 11 0 0) (hr : meth.sig.returnType = none) {d0 : Drawn} {H : Heap} {locs : List Loc} {cells slots : Nat} {ls : Array Slot} {x0 : Nat} {x1 : Int32} {x5 : Int64} {x7 : Int64} {x9 : Int64} {M : Mem} (ho_x0 : isO M x0 5) (hd0 : s.drawn.sameBut d0 lw_cs) (hZ : ZH G true base s.heap M H locs) (hl : lv_has ls 11 [(0, .ref (base + x0)), (1, .int x1), (5, .long x5), (7, .long x7), (9, .long x9)]) (h : wp_X5_pair_70 x0 x1 x5 x7 x9 M Q) : W p l e R (s.setDrawn d0) m args below meth c H locs cells slots (ZEnd below G true base z0 (qV Q) args s) (F0 m 70 ls []) := by
  have hx := (A d0).1
  have hb := (A d0).2.1
  unfold wp_X5_pair_70 at h
  refine lv_aload_n hx hb dX5_pair_70 rfl (lv_at hl 0 rfl) ?_
  refine lv_lload hx hb dX5_pair_71 (lv_at hl 3 rfl) ?_
  obtain ⟨M1, eM1⟩ : ∃ y : Mem, y = sL M x0 4 x7 := ⟨_, rfl⟩
  refine z_put (A d0) hZ (ci := 5) (j := 4) (M' := M1) ho_x0.1 ho_x0.2 (by decide) (by decide) k_fl_RX5_23 rfl (by rw [eM1]; exact zUpd_L) rfl rfl dX5_pair_73 (fun H locs hZ => ?_)
  have hm : mz M1 = mz M := by rw [eM1] <;> rfl
  have ho_x0 := isO_le (Nat.le_of_eq hm.symm) ho_x0
  replace h := h M1 eM1
  refine lv_aload_n hx hb dX5_pair_76 rfl (lv_at hl 0 rfl) ?_
  refine lv_lload hx hb dX5_pair_77 (lv_at hl 2 rfl) ?_
  obtain ⟨M2, eM2⟩ : ∃ y : Mem, y = sL M1 x0 5 x5 := ⟨_, rfl⟩
  refine z_put (A d0) hZ (ci := 5) (j := 5) (M' := M2) ho_x0.1 ho_x0.2 (by decide) (by decide) k_fl_RX5_27 rfl (by rw [eM2]; exact zUpd_L) rfl rfl dX5_pair_79 (fun H locs hZ => ?_)
  have hm : mz M2 = mz M1 := by rw [eM2] <;> rfl
  have ho_x0 := isO_le (Nat.le_of_eq hm.symm) ho_x0
  replace h := h M2 eM2
  refine lv_aload_n hx hb dX5_pair_82 rfl (lv_at hl 0 rfl) ?_
  refine lv_iload_n hx hb dX5_pair_83 rfl (lv_at hl 1 rfl) ?_
  obtain ⟨M3, eM3⟩ : ∃ y : Mem, y = sI M2 x0 8 x1 := ⟨_, rfl⟩
  refine z_put (A d0) hZ (ci := 5) (j := 8) (M' := M3) ho_x0.1 ho_x0.2 (by decide) (by decide) k_fl_RX5_36 rfl (by rw [eM3]; exact zUpd_I) rfl rfl dX5_pair_84 (fun H locs hZ => ?_)
  have hm : mz M3 = mz M2 := by rw [eM3] <;> rfl
  have ho_x0 := isO_le (Nat.le_of_eq hm.symm) ho_x0
  replace h := h M3 eM3
  exact (zb_X5_pair_87 A hr ho_x0 hd0 hZ (lv_sub hl [0, 2, 4] rfl) h)
set_option maxRecDepth 100000 in
set_option maxHeartbeats 4000000 in
theorem c_X5_pair (l : Launch) (G : ZG) (base : Nat) (M : Mem) (x0 : Nat) (x1 : Int32) (x2 : Int32) (x3 : Int32) (x4 : Int32) (Q : Mem → Prop) (h : wp_X5_pair x0 x1 x2 x3 x4 M Q) : ZMet l yX5_pair cX5_pair 11 none 0 0 G true base M [.ref (base + x0), .int x1, .int x2, .int x3, .int x4] (qV Q) := by
  refine z_start (by decide) (Nat.le_of_ble_eq_true rfl) k_co_yX5_pair ?_
  intro p e s m below meth c R d0 H locs cells slots ls A hr hn hd0 hZ hl
  have hx := (A d0).1
  have hb := (A d0).2.1
  have hl : lv_has ls 11 [(0, .ref (base + x0)), (1, .int x1), (2, .int x2), (3, .int x3), (4, .int x4)] := hl
  unfold wp_X5_pair at h
  obtain ⟨ho_x0, h⟩ := h
  refine lv_aload_n hx hb dX5_pair_0 rfl (lv_at hl 0 rfl) ?_
  refine z_get (A d0) hZ (ci := 5) (j := 3) ho_x0.1 ho_x0.2 (by decide) (by decide) k_fl_RX5_20 (v := .ref (base + 71)) (zv_fin (zf5 ho_x0 rfl) rfl) dX5_pair_1 ?_
  refine lv_iload_n hx hb dX5_pair_4 rfl (lv_at hl 2 rfl) ?_
  obtain ⟨hin, h⟩ := h
  refine z_lald (A d0) hZ (isA_c (a := 71) hZ.k0 (by decide) rfl) hin dX5_pair_5 ?_
  refine lv_aload_n hx hb dX5_pair_6 rfl (lv_at hl 0 rfl) ?_
  refine z_get (A d0) hZ (ci := 5) (j := 3) ho_x0.1 ho_x0.2 (by decide) (by decide) k_fl_RX5_20 (v := .ref (base + 71)) (zv_fin (zf5 ho_x0 rfl) rfl) dX5_pair_7 ?_
  refine lv_iload_n hx hb dX5_pair_10 rfl (lv_at hl 1 rfl) ?_
  obtain ⟨hin, h⟩ := h
  refine z_lald (A d0) hZ (isA_c (a := 71) hZ.k0 (by decide) rfl) hin dX5_pair_11 ?_
  refine lv_lsub hx hb dX5_pair_12 ?_
  obtain ⟨j6, ej6⟩ : ∃ y : Int64, y = (mL M 71 x2.toNatClampNeg) - (mL M 71 x1.toNatClampNeg) := ⟨_, rfl⟩
  rw [← ej6]
  replace h := h j6 ej6
  refine lv_lstore (lv' := [(5, .long j6), (0, .ref (base + x0)), (1, .int x1), (2, .int x2), (3, .int x3), (4, .int x4)]) hx hb dX5_pair_13 hl (by decide) rfl (fun ls hl2 => ?_)
  replace hl := hl2
  refine lv_iload_n hx hb dX5_pair_15 rfl (lv_at hl 3 rfl) ?_
  refine lv_iload_n hx hb dX5_pair_16 rfl (lv_at hl 2 rfl) ?_
  refine lv_isub hx hb dX5_pair_17 ?_
  refine lv_i2l hx hb dX5_pair_18 rfl ?_
  refine lv_ldc2 (v := (2 : Int64)) hx hb (A d0).2.2.2.1 ((A d0).2.2.2.2.1 _ k_lc_RX5_176) dX5_pair_19 ?_
  refine lv_iload hx hb dX5_pair_22 (lv_at hl 5 rfl) ?_
  refine lv_i2l hx hb dX5_pair_24 rfl ?_
  refine lv_lmul hx hb dX5_pair_25 ?_
  refine lv_ladd hx hb dX5_pair_26 ?_
  obtain ⟨j7, ej7⟩ : ∃ y : Int64, y = ((x2 - x1).toInt64) + ((2 : Int64) * x4.toInt64) := ⟨_, rfl⟩
  rw [← ej7]
  replace h := h j7 ej7
  refine lv_lstore (lv' := [(7, .long j7), (5, .long j6), (0, .ref (base + x0)), (1, .int x1), (2, .int x2), (3, .int x3), (4, .int x4)]) hx hb dX5_pair_27 hl (by decide) rfl (fun ls hl2 => ?_)
  replace hl := hl2
  refine lv_iload_n hx hb dX5_pair_29 rfl (lv_at hl 4 rfl) ?_
  refine lv_iload_n hx hb dX5_pair_30 rfl (lv_at hl 3 rfl) ?_
  refine lv_isub hx hb dX5_pair_31 ?_
  refine lv_i2l hx hb dX5_pair_32 rfl ?_
  refine lv_ldc2 (v := (2 : Int64)) hx hb (A d0).2.2.2.1 ((A d0).2.2.2.2.1 _ k_lc_RX5_176) dX5_pair_33 ?_
  refine lv_iload hx hb dX5_pair_36 (lv_at hl 6 rfl) ?_
  refine lv_i2l hx hb dX5_pair_38 rfl ?_
  refine lv_lmul hx hb dX5_pair_39 ?_
  refine lv_lsub hx hb dX5_pair_40 ?_
  obtain ⟨j8, ej8⟩ : ∃ y : Int64, y = ((x2 - x1).toInt64) - ((2 : Int64) * x4.toInt64) := ⟨_, rfl⟩
  rw [← ej8]
  replace h := h j8 ej8
  refine lv_lstore (lv' := [(9, .long j8), (7, .long j7), (5, .long j6), (0, .ref (base + x0)), (1, .int x1), (2, .int x2), (3, .int x3), (4, .int x4)]) hx hb dX5_pair_41 hl (by decide) rfl (fun ls hl2 => ?_)
  replace hl := hl2
  refine lv_aload_n hx hb dX5_pair_43 rfl (lv_at hl 3 rfl) ?_
  refine z_get (A d0) hZ (ci := 5) (j := 5) ho_x0.1 ho_x0.2 (by decide) (by decide) k_fl_RX5_27 (v := .long (mL M x0 5)) rfl dX5_pair_44 ?_
  refine lv_lconst (v := (0 : Int64)) hx hb dX5_pair_47 (by decide) ?_
  refine z_lc_eq (tgt := 70) hx hb dX5_pair_48 dX5_pair_49 (by decide) (fun hc => ?_) (fun hc => ?_)
  · replace h := h.1 hc
    exact (zb_X5_pair_70 A hr ho_x0 hd0 hZ (lv_sub hl [3, 4, 2, 1, 0] rfl) h)
  · replace h := h.2 hc
    refine lv_lload hx hb dX5_pair_52 (lv_at hl 1 rfl) ?_
    refine lv_aload_n hx hb dX5_pair_54 rfl (lv_at hl 3 rfl) ?_
    refine z_get (A d0) hZ (ci := 5) (j := 5) ho_x0.1 ho_x0.2 (by decide) (by decide) k_fl_RX5_27 (v := .long (mL M x0 5)) rfl dX5_pair_55 ?_
    refine lv_lmul hx hb dX5_pair_58 ?_
    refine lv_aload_n hx hb dX5_pair_59 rfl (lv_at hl 3 rfl) ?_
    refine z_get (A d0) hZ (ci := 5) (j := 4) ho_x0.1 ho_x0.2 (by decide) (by decide) k_fl_RX5_23 (v := .long (mL M x0 4)) rfl dX5_pair_60 ?_
    refine lv_lload hx hb dX5_pair_63 (lv_at hl 2 rfl) ?_
    refine lv_lmul hx hb dX5_pair_65 ?_
    refine z_lc_ge (tgt := 87) hx hb dX5_pair_66 dX5_pair_67 (by decide) (fun hc => ?_) (fun hc => ?_)
    · replace h := h.1 hc
      exact (zb_X5_pair_87 A hr ho_x0 hd0 hZ (lv_sub hl [3, 2, 0] rfl) h)
    · replace h := h.2 hc
      exact (zb_X5_pair_70 A hr ho_x0 hd0 hZ (lv_sub hl [3, 4, 2, 1, 0] rfl) h)
/-! cX5_fits -/
set_option maxRecDepth 100000 in
set_option maxHeartbeats 4000000 in
theorem zb_X5_fits_36 {p : Program} {l : Launch} {e : Env} {R : Room} {s : State} {m : MethodId} {args : Array Value} {below : List Frame} {meth : Method} {c : Code} {G : ZG} {base z0 : Nat} {Q : Int32 → Mem → Prop} (A : ∀ d, Amb p R (s.setDrawn d) m args meth c G base z0 cX5_fits yX5_fits.cls 1 0 0) (hr : meth.sig.returnType = (some .boolean)) {d0 : Drawn} {H : Heap} {locs : List Loc} {cells slots : Nat} {ls : Array Slot} {t0 : Int32} {M : Mem} (hd0 : s.drawn.sameBut d0 lw_cs) (hZ : ZH G true base s.heap M H locs) (hl : lv_has ls 1 []) (h : wp_X5_fits_36 t0 M Q) : W p l e R (s.setDrawn d0) m args below meth c H locs cells slots (ZEnd below G true base z0 (qI Q) args s) (F0 m 36 ls [.int t0]) := by
  have hx := (A d0).1
  have hb := (A d0).2.1
  unfold wp_X5_fits_36 at h
  exact z_zret A hd0 hZ hr h.1 ⟨_, rfl, h.2⟩ dX5_fits_36
set_option maxRecDepth 100000 in
set_option maxHeartbeats 4000000 in
theorem zb_X5_fits_31 {p : Program} {l : Launch} {e : Env} {R : Room} {s : State} {m : MethodId} {args : Array Value} {below : List Frame} {meth : Method} {c : Code} {G : ZG} {base z0 : Nat} {Q : Int32 → Mem → Prop} (A : ∀ d, Amb p R (s.setDrawn d) m args meth c G base z0 cX5_fits yX5_fits.cls 1 0 0) (hr : meth.sig.returnType = (some .boolean)) {d0 : Drawn} {H : Heap} {locs : List Loc} {cells slots : Nat} {ls : Array Slot}  {M : Mem} (hd0 : s.drawn.sameBut d0 lw_cs) (hZ : ZH G true base s.heap M H locs) (hl : lv_has ls 1 []) (h : wp_X5_fits_31 M Q) : W p l e R (s.setDrawn d0) m args below meth c H locs cells slots (ZEnd below G true base z0 (qI Q) args s) (F0 m 31 ls []) := by
  have hx := (A d0).1
  have hb := (A d0).2.1
  unfold wp_X5_fits_31 at h
  refine lv_iconst (v := (1 : Int32)) hx hb dX5_fits_31 (by decide) ?_
  refine lv_goto (tgt := 36) hx hb dX5_fits_32 (by decide) ?_
  exact (zb_X5_fits_36 A hr hd0 hZ (lv_sub hl [] rfl) h)
set_option maxRecDepth 100000 in
set_option maxHeartbeats 4000000 in
theorem c_X5_fits (l : Launch) (G : ZG) (base : Nat) (M : Mem) (x0 : Nat) (Q : Int32 → Mem → Prop) (h : wp_X5_fits x0 M Q) : ZMet l yX5_fits cX5_fits 1 (some .boolean) 0 0 G true base M [.ref (base + x0)] (qI Q) := by
  refine z_start (by decide) (Nat.le_of_ble_eq_true rfl) k_co_yX5_fits ?_
  intro p e s m below meth c R d0 H locs cells slots ls A hr hn hd0 hZ hl
  have hx := (A d0).1
  have hb := (A d0).2.1
  have hl : lv_has ls 1 [(0, .ref (base + x0))] := hl
  unfold wp_X5_fits at h
  obtain ⟨ho_x0, h⟩ := h
  refine lv_aload_n hx hb dX5_fits_0 rfl (lv_at hl 0 rfl) ?_
  refine z_get (A d0) hZ (ci := 5) (j := 5) ho_x0.1 ho_x0.2 (by decide) (by decide) k_fl_RX5_27 (v := .long (mL M x0 5)) rfl dX5_fits_1 ?_
  refine lv_lconst (v := (0 : Int64)) hx hb dX5_fits_4 (by decide) ?_
  refine z_lc_eq (tgt := 31) hx hb dX5_fits_5 dX5_fits_6 (by decide) (fun hc => ?_) (fun hc => ?_)
  · replace h := h.1 hc
    exact (zb_X5_fits_31 A hr hd0 hZ (lv_sub hl [] rfl) h)
  · replace h := h.2 hc
    refine lv_aload_n hx hb dX5_fits_9 rfl (lv_at hl 0 rfl) ?_
    refine z_get (A d0) hZ (ci := 5) (j := 6) ho_x0.1 ho_x0.2 (by decide) (by decide) k_fl_RX5_30 (v := .long (mL M x0 6)) rfl dX5_fits_10 ?_
    refine lv_aload_n hx hb dX5_fits_13 rfl (lv_at hl 0 rfl) ?_
    refine z_get (A d0) hZ (ci := 5) (j := 5) ho_x0.1 ho_x0.2 (by decide) (by decide) k_fl_RX5_27 (v := .long (mL M x0 5)) rfl dX5_fits_14 ?_
    refine lv_lmul hx hb dX5_fits_17 ?_
    refine lv_aload_n hx hb dX5_fits_18 rfl (lv_at hl 0 rfl) ?_
    refine z_get (A d0) hZ (ci := 5) (j := 4) ho_x0.1 ho_x0.2 (by decide) (by decide) k_fl_RX5_23 (v := .long (mL M x0 4)) rfl dX5_fits_19 ?_
    refine lv_aload_n hx hb dX5_fits_22 rfl (lv_at hl 0 rfl) ?_
    refine z_get (A d0) hZ (ci := 5) (j := 7) ho_x0.1 ho_x0.2 (by decide) (by decide) k_fl_RX5_33 (v := .long (mL M x0 7)) rfl dX5_fits_23 ?_
    refine lv_lmul hx hb dX5_fits_26 ?_
    refine z_lc_gt (tgt := 35) hx hb dX5_fits_27 dX5_fits_28 (by decide) (fun hc => ?_) (fun hc => ?_)
    · replace h := h.1 hc
      refine lv_iconst (v := (0 : Int32)) hx hb dX5_fits_35 (by decide) ?_
      exact (zb_X5_fits_36 A hr hd0 hZ (lv_sub hl [] rfl) h)
    · replace h := h.2 hc
      exact (zb_X5_fits_31 A hr hd0 hZ (lv_sub hl [] rfl) h)
/-! cX5_passed -/
set_option maxRecDepth 100000 in
set_option maxHeartbeats 4000000 in
theorem zb_X5_passed_24 {p : Program} {l : Launch} {e : Env} {R : Room} {s : State} {m : MethodId} {args : Array Value} {below : List Frame} {meth : Method} {c : Code} {G : ZG} {base z0 : Nat} {Q : Int32 → Mem → Prop} (A : ∀ d, Amb p R (s.setDrawn d) m args meth c G base z0 cX5_passed yX5_passed.cls 6 1 30) (hr : meth.sig.returnType = (some .boolean)) {K47 : Nat → Int32 → Int32 → Int32 → Int32 → Mem → Prop} :
  ∀ (n : Nat) {d0 : Drawn} {H : Heap} {locs : List Loc} {cells slots : Nat} {ls : Array Slot} {x0 : Nat} {x1 : Int32} {x2 : Int32} {x3 : Int32} {x4 : Int32} {x5 : Int32} {M : Mem} (ho_x0 : isO M x0 5) (hd0 : s.drawn.sameBut d0 lw_cs) (hZ : ZH G true base s.heap M H locs) (hl : lv_has ls 6 [(0, .ref (base + x0)), (1, .int x1), (2, .int x2), (3, .int x3), (4, .int x4), (5, .int x5)]) (h : wp_X5_passed_24 n x0 x1 x2 x3 x4 x5 M Q K47) (hK47 : ∀ {d0 : Drawn} {H : Heap} {locs : List Loc} {cells slots : Nat} {ls : Array Slot} {x0 : Nat} {x1 : Int32} {x2 : Int32} {x3 : Int32} {x4 : Int32} {M : Mem} (ho_x0 : isO M x0 5), s.drawn.sameBut d0 lw_cs → ZH G true base s.heap M H locs → lv_has ls 6 [(0, .ref (base + x0)), (1, .int x1), (2, .int x2), (3, .int x3), (4, .int x4)] → K47 x0 x1 x2 x3 x4 M → W p l e R (s.setDrawn d0) m args below meth c H locs cells slots (ZEnd below G true base z0 (qI Q) args s) (F0 m 47 ls [])), W p l e R (s.setDrawn d0) m args below meth c H locs cells slots (ZEnd below G true base z0 (qI Q) args s) (F0 m 24 ls []) := by
  have hx := (A default).1
  have hb := (A default).2.1
  intro n
  induction n with
  | zero => intro d0 H locs cells slots ls x0 x1 x2 x3 x4 x5 M ho_x0 hd0 hZ hl h hK47; exact h.elim
  | succ n ih =>
    intro d0 H locs cells slots ls x0 x1 x2 x3 x4 x5 M ho_x0 hd0 hZ hl h hK47
    unfold wp_X5_passed_24 at h
    refine lv_iload hx hb dX5_passed_24 (lv_at hl 5 rfl) ?_
    refine lv_iload hx hb dX5_passed_26 (lv_at hl 4 rfl) ?_
    refine lv_icmp_ge (tgt := 47) hx hb dX5_passed_28 (by decide) (fun hc => ?_) (fun hc => ?_)
    · replace h := h.1 hc
      exact hK47 ho_x0 hd0 hZ (lv_sub hl [0, 1, 2, 3, 4] rfl) h
    · replace h := h.2 hc
      refine lv_aload_n hx hb dX5_passed_31 rfl (lv_at hl 0 rfl) ?_
      refine lv_iload hx hb dX5_passed_32 (lv_at hl 5 rfl) ?_
      refine lv_iload hx hb dX5_passed_34 (lv_at hl 4 rfl) ?_
      refine lv_iload_n hx hb dX5_passed_36 rfl (lv_at hl 1 rfl) ?_
      refine lv_iload_n hx hb dX5_passed_37 rfl (lv_at hl 3 rfl) ?_
      refine z_callV A hd0 hZ (ci := 5) (nA := 4) (As := [.int x5, .int x4, .int x1, .int x3]) (by decide) ho_x0 (c_X5_pair l G base M x0 x5 x4 x1 x3 _ h) k_ml_RX5_168 k_im_yX5_pair k_se_yX5_pair k_in_RX5 k_co_yX5_pair (by decide +kernel) ⟨by decide, by decide⟩ rfl rfl (Nat.le_of_ble_eq_true rfl) hl dX5_passed_38 (fun v M1 H locs d0 cells slots hq hd0 hZ hm => ?_)
      clear h
      obtain ⟨rfl, h⟩ := hq
      have ho_x0 := isO_le hm ho_x0
      obtain ⟨i2, ei2⟩ : ∃ y : Int32, y = x5 + (1 : Int32) := ⟨_, rfl⟩
      replace h := h i2 ei2
      refine lv_iinc (v := i2) (lv' := [(5, .int i2), (0, .ref (base + x0)), (1, .int x1), (2, .int x2), (3, .int x3), (4, .int x4)]) hx hb dX5_passed_41 hl (k := 5) rfl (by rw [ei2]; rfl) (by decide) rfl (fun ls hl2 => ?_)
      replace hl := hl2
      refine lv_goto (tgt := 24) hx hb dX5_passed_44 (by decide) ?_
      exact ih ho_x0 hd0 hZ (lv_sub hl [1, 2, 3, 4, 5, 0] rfl) h hK47
set_option maxRecDepth 100000 in
set_option maxHeartbeats 4000000 in
theorem zb_X5_passed_47 {p : Program} {l : Launch} {e : Env} {R : Room} {s : State} {m : MethodId} {args : Array Value} {below : List Frame} {meth : Method} {c : Code} {G : ZG} {base z0 : Nat} {Q : Int32 → Mem → Prop} (A : ∀ d, Amb p R (s.setDrawn d) m args meth c G base z0 cX5_passed yX5_passed.cls 6 1 30) (hr : meth.sig.returnType = (some .boolean)) {K15 : Nat → Int32 → Int32 → Int32 → Int32 → Mem → Prop} {K53 : Nat → Mem → Prop} {d0 : Drawn} {H : Heap} {locs : List Loc} {cells slots : Nat} {ls : Array Slot} {x0 : Nat} {x1 : Int32} {x2 : Int32} {x3 : Int32} {x4 : Int32} {M : Mem} (ho_x0 : isO M x0 5) (hd0 : s.drawn.sameBut d0 lw_cs) (hZ : ZH G true base s.heap M H locs) (hl : lv_has ls 6 [(0, .ref (base + x0)), (1, .int x1), (2, .int x2), (3, .int x3), (4, .int x4)]) (h : wp_X5_passed_47 x0 x1 x2 x3 x4 M Q K15 K53) (hK15 : ∀ {d0 : Drawn} {H : Heap} {locs : List Loc} {cells slots : Nat} {ls : Array Slot} {x0 : Nat} {x1 : Int32} {x2 : Int32} {x3 : Int32} {x4 : Int32} {M : Mem} (ho_x0 : isO M x0 5), s.drawn.sameBut d0 lw_cs → ZH G true base s.heap M H locs → lv_has ls 6 [(0, .ref (base + x0)), (1, .int x1), (2, .int x2), (3, .int x3), (4, .int x4)] → K15 x0 x1 x2 x3 x4 M → W p l e R (s.setDrawn d0) m args below meth c H locs cells slots (ZEnd below G true base z0 (qI Q) args s) (F0 m 15 ls [])) (hK53 : ∀ {d0 : Drawn} {H : Heap} {locs : List Loc} {cells slots : Nat} {ls : Array Slot} {x0 : Nat} {M : Mem} (ho_x0 : isO M x0 5), s.drawn.sameBut d0 lw_cs → ZH G true base s.heap M H locs → lv_has ls 6 [(0, .ref (base + x0))] → K53 x0 M → W p l e R (s.setDrawn d0) m args below meth c H locs cells slots (ZEnd below G true base z0 (qI Q) args s) (F0 m 53 ls [])) : W p l e R (s.setDrawn d0) m args below meth c H locs cells slots (ZEnd below G true base z0 (qI Q) args s) (F0 m 47 ls []) := by
  have hx := (A d0).1
  have hb := (A d0).2.1
  unfold wp_X5_passed_47 at h
  obtain ⟨i3, ei3⟩ : ∃ y : Int32, y = x4 + (1 : Int32) := ⟨_, rfl⟩
  replace h := h i3 ei3
  refine lv_iinc (v := i3) (lv' := [(4, .int i3), (0, .ref (base + x0)), (1, .int x1), (2, .int x2), (3, .int x3)]) hx hb dX5_passed_47 hl (k := 4) rfl (by rw [ei3]; rfl) (by decide) rfl (fun ls hl2 => ?_)
  replace hl := hl2
  refine lv_goto (tgt := 15) hx hb dX5_passed_50 (by decide) ?_
  exact hK15 ho_x0 hd0 hZ (lv_sub hl [1, 2, 3, 4, 0] rfl) h
set_option maxRecDepth 100000 in
set_option maxHeartbeats 4000000 in
theorem zb_X5_passed_53 {p : Program} {l : Launch} {e : Env} {R : Room} {s : State} {m : MethodId} {args : Array Value} {below : List Frame} {meth : Method} {c : Code} {G : ZG} {base z0 : Nat} {Q : Int32 → Mem → Prop} (A : ∀ d, Amb p R (s.setDrawn d) m args meth c G base z0 cX5_passed yX5_passed.cls 6 1 30) (hr : meth.sig.returnType = (some .boolean)) {d0 : Drawn} {H : Heap} {locs : List Loc} {cells slots : Nat} {ls : Array Slot} {x0 : Nat} {M : Mem} (ho_x0 : isO M x0 5) (hd0 : s.drawn.sameBut d0 lw_cs) (hZ : ZH G true base s.heap M H locs) (hl : lv_has ls 6 [(0, .ref (base + x0))]) (h : wp_X5_passed_53 x0 M Q) : W p l e R (s.setDrawn d0) m args below meth c H locs cells slots (ZEnd below G true base z0 (qI Q) args s) (F0 m 53 ls []) := by
  have hx := (A d0).1
  have hb := (A d0).2.1
  unfold wp_X5_passed_53 at h
  refine lv_aload_n hx hb dX5_passed_53 rfl (lv_at hl 0 rfl) ?_
  refine z_callV A hd0 hZ (ci := 5) (nA := 0) (As := []) (by decide) ho_x0 (c_X5_fits l G base M x0 _ h) k_ml_RX5_172 k_im_yX5_fits k_se_yX5_fits k_in_RX5 k_co_yX5_fits (by decide +kernel) ⟨by decide, by decide⟩ rfl rfl (Nat.le_of_ble_eq_true rfl) hl dX5_passed_54 (fun v M4 H locs d0 cells slots hq hd0 hZ hm => ?_)
  clear h
  obtain ⟨i5, rfl, h⟩ := hq
  have ho_x0 := isO_le hm ho_x0
  exact z_zret A hd0 hZ hr h.1 ⟨_, rfl, h.2⟩ dX5_passed_57
set_option maxRecDepth 100000 in
set_option maxHeartbeats 4000000 in
theorem zb_X5_passed_15 {p : Program} {l : Launch} {e : Env} {R : Room} {s : State} {m : MethodId} {args : Array Value} {below : List Frame} {meth : Method} {c : Code} {G : ZG} {base z0 : Nat} {Q : Int32 → Mem → Prop} (A : ∀ d, Amb p R (s.setDrawn d) m args meth c G base z0 cX5_passed yX5_passed.cls 6 1 30) (hr : meth.sig.returnType = (some .boolean)) {K53 : Nat → Mem → Prop} :
  ∀ (n : Nat) {d0 : Drawn} {H : Heap} {locs : List Loc} {cells slots : Nat} {ls : Array Slot} {x0 : Nat} {x1 : Int32} {x2 : Int32} {x3 : Int32} {x4 : Int32} {M : Mem} (ho_x0 : isO M x0 5) (hd0 : s.drawn.sameBut d0 lw_cs) (hZ : ZH G true base s.heap M H locs) (hl : lv_has ls 6 [(0, .ref (base + x0)), (1, .int x1), (2, .int x2), (3, .int x3), (4, .int x4)]) (h : wp_X5_passed_15 n x0 x1 x2 x3 x4 M Q K53) (hK53 : ∀ {d0 : Drawn} {H : Heap} {locs : List Loc} {cells slots : Nat} {ls : Array Slot} {x0 : Nat} {M : Mem} (ho_x0 : isO M x0 5), s.drawn.sameBut d0 lw_cs → ZH G true base s.heap M H locs → lv_has ls 6 [(0, .ref (base + x0))] → K53 x0 M → W p l e R (s.setDrawn d0) m args below meth c H locs cells slots (ZEnd below G true base z0 (qI Q) args s) (F0 m 53 ls [])), W p l e R (s.setDrawn d0) m args below meth c H locs cells slots (ZEnd below G true base z0 (qI Q) args s) (F0 m 15 ls []) := by
  have hx := (A default).1
  have hb := (A default).2.1
  intro n
  induction n with
  | zero => intro d0 H locs cells slots ls x0 x1 x2 x3 x4 M ho_x0 hd0 hZ hl h hK53; exact h.elim
  | succ n ih =>
    intro d0 H locs cells slots ls x0 x1 x2 x3 x4 M ho_x0 hd0 hZ hl h hK53
    unfold wp_X5_passed_15 at h
    refine lv_iload hx hb dX5_passed_15 (lv_at hl 4 rfl) ?_
    refine lv_iload_n hx hb dX5_passed_17 rfl (lv_at hl 2 rfl) ?_
    refine lv_icmp_ge (tgt := 53) hx hb dX5_passed_18 (by decide) (fun hc => ?_) (fun hc => ?_)
    · replace h := h.1 hc
      exact hK53 ho_x0 hd0 hZ (lv_sub hl [0] rfl) h
    · replace h := h.2 hc
      refine lv_iload_n hx hb dX5_passed_21 rfl (lv_at hl 1 rfl) ?_
      refine lv_istore (lv' := [(5, .int x1), (0, .ref (base + x0)), (1, .int x1), (2, .int x2), (3, .int x3), (4, .int x4)]) hx hb dX5_passed_22 hl (by decide) rfl (fun ls hl2 => ?_)
      replace hl := hl2
      exact (Exists.elim h fun kk h => zb_X5_passed_24 A hr kk ho_x0 hd0 hZ (lv_sub hl [1, 2, 3, 4, 5, 0] rfl) h (fun ho_x0 hd0 hZ hl h => (zb_X5_passed_47 A hr ho_x0 hd0 hZ hl h (fun ho_x0 hd0 hZ hl h => ih ho_x0 hd0 hZ hl h hK53) hK53)))
set_option maxRecDepth 100000 in
set_option maxHeartbeats 4000000 in
theorem c_X5_passed (l : Launch) (G : ZG) (base : Nat) (M : Mem) (x0 : Nat) (x1 : Int32) (x2 : Int32) (x3 : Int32) (Q : Int32 → Mem → Prop) (h : wp_X5_passed x0 x1 x2 x3 M Q) : ZMet l yX5_passed cX5_passed 6 (some .boolean) 1 30 G true base M [.ref (base + x0), .int x1, .int x2, .int x3] (qI Q) := by
  refine z_start (by decide) (Nat.le_of_ble_eq_true rfl) k_co_yX5_passed ?_
  intro p e s m below meth c R d0 H locs cells slots ls A hr hn hd0 hZ hl
  have hx := (A d0).1
  have hb := (A d0).2.1
  have hl : lv_has ls 6 [(0, .ref (base + x0)), (1, .int x1), (2, .int x2), (3, .int x3)] := hl
  unfold wp_X5_passed at h
  obtain ⟨ho_x0, h⟩ := h
  refine lv_aload_n hx hb dX5_passed_0 rfl (lv_at hl 0 rfl) ?_
  refine lv_lconst (v := (0 : Int64)) hx hb dX5_passed_1 (by decide) ?_
  obtain ⟨M6, eM6⟩ : ∃ y : Mem, y = sL M x0 5 (0 : Int64) := ⟨_, rfl⟩
  refine z_put (A d0) hZ (ci := 5) (j := 5) (M' := M6) ho_x0.1 ho_x0.2 (by decide) (by decide) k_fl_RX5_27 rfl (by rw [eM6]; exact zUpd_L) rfl rfl dX5_passed_2 (fun H locs hZ => ?_)
  have hm : mz M6 = mz M := by rw [eM6] <;> rfl
  have ho_x0 := isO_le (Nat.le_of_eq hm.symm) ho_x0
  replace h := h M6 eM6
  refine lv_aload_n hx hb dX5_passed_5 rfl (lv_at hl 0 rfl) ?_
  refine lv_lconst (v := (0 : Int64)) hx hb dX5_passed_6 (by decide) ?_
  obtain ⟨M7, eM7⟩ : ∃ y : Mem, y = sL M6 x0 7 (0 : Int64) := ⟨_, rfl⟩
  refine z_put (A d0) hZ (ci := 5) (j := 7) (M' := M7) ho_x0.1 ho_x0.2 (by decide) (by decide) k_fl_RX5_33 rfl (by rw [eM7]; exact zUpd_L) rfl rfl dX5_passed_7 (fun H locs hZ => ?_)
  have hm : mz M7 = mz M6 := by rw [eM7] <;> rfl
  have ho_x0 := isO_le (Nat.le_of_eq hm.symm) ho_x0
  replace h := h M7 eM7
  refine lv_iload_n hx hb dX5_passed_10 rfl (lv_at hl 1 rfl) ?_
  refine lv_iconst (v := (1 : Int32)) hx hb dX5_passed_11 (by decide) ?_
  refine lv_iadd hx hb dX5_passed_12 ?_
  obtain ⟨i8, ei8⟩ : ∃ y : Int32, y = x1 + (1 : Int32) := ⟨_, rfl⟩
  rw [← ei8]
  replace h := h i8 ei8
  refine lv_istore (lv' := [(4, .int i8), (0, .ref (base + x0)), (1, .int x1), (2, .int x2), (3, .int x3)]) hx hb dX5_passed_13 hl (by decide) rfl (fun ls hl2 => ?_)
  replace hl := hl2
  exact (Exists.elim h fun kk h => zb_X5_passed_15 A hr kk ho_x0 hd0 hZ (lv_sub hl [1, 2, 3, 4, 0] rfl) h (fun ho_x0 hd0 hZ hl h => (zb_X5_passed_53 A hr ho_x0 hd0 hZ hl h)))
/-! cX5_spanEnd -/
set_option maxRecDepth 100000 in
set_option maxHeartbeats 4000000 in
theorem zb_X5_spanEnd_32 {p : Program} {l : Launch} {e : Env} {R : Room} {s : State} {m : MethodId} {args : Array Value} {below : List Frame} {meth : Method} {c : Code} {G : ZG} {base z0 : Nat} {Q : Int32 → Mem → Prop} (A : ∀ d, Amb p R (s.setDrawn d) m args meth c G base z0 cX5_spanEnd yX5_spanEnd.cls 7 1 30) (hr : meth.sig.returnType = (some .int)) {K55 : Nat → Int32 → Int32 → Int32 → Int32 → Mem → Prop} :
  ∀ (n : Nat) {d0 : Drawn} {H : Heap} {locs : List Loc} {cells slots : Nat} {ls : Array Slot} {x0 : Nat} {x1 : Int32} {x2 : Int32} {x3 : Int32} {x4 : Int32} {x6 : Int32} {M : Mem} (ho_x0 : isO M x0 5) (hd0 : s.drawn.sameBut d0 lw_cs) (hZ : ZH G true base s.heap M H locs) (hl : lv_has ls 7 [(0, .ref (base + x0)), (1, .int x1), (2, .int x2), (3, .int x3), (4, .int x4), (6, .int x6)]) (h : wp_X5_spanEnd_32 n x0 x1 x2 x3 x4 x6 M Q K55) (hK55 : ∀ {d0 : Drawn} {H : Heap} {locs : List Loc} {cells slots : Nat} {ls : Array Slot} {x0 : Nat} {x1 : Int32} {x2 : Int32} {x3 : Int32} {x4 : Int32} {M : Mem} (ho_x0 : isO M x0 5), s.drawn.sameBut d0 lw_cs → ZH G true base s.heap M H locs → lv_has ls 7 [(0, .ref (base + x0)), (1, .int x1), (2, .int x2), (3, .int x3), (4, .int x4)] → K55 x0 x1 x2 x3 x4 M → W p l e R (s.setDrawn d0) m args below meth c H locs cells slots (ZEnd below G true base z0 (qI Q) args s) (F0 m 55 ls [])), W p l e R (s.setDrawn d0) m args below meth c H locs cells slots (ZEnd below G true base z0 (qI Q) args s) (F0 m 32 ls []) := by
  have hx := (A default).1
  have hb := (A default).2.1
  intro n
  induction n with
  | zero => intro d0 H locs cells slots ls x0 x1 x2 x3 x4 x6 M ho_x0 hd0 hZ hl h hK55; exact h.elim
  | succ n ih =>
    intro d0 H locs cells slots ls x0 x1 x2 x3 x4 x6 M ho_x0 hd0 hZ hl h hK55
    unfold wp_X5_spanEnd_32 at h
    refine lv_iload hx hb dX5_spanEnd_32 (lv_at hl 5 rfl) ?_
    refine lv_iload hx hb dX5_spanEnd_34 (lv_at hl 4 rfl) ?_
    refine lv_icmp_ge (tgt := 55) hx hb dX5_spanEnd_36 (by decide) (fun hc => ?_) (fun hc => ?_)
    · replace h := h.1 hc
      exact hK55 ho_x0 hd0 hZ (lv_sub hl [0, 1, 2, 3, 4] rfl) h
    · replace h := h.2 hc
      refine lv_aload_n hx hb dX5_spanEnd_39 rfl (lv_at hl 0 rfl) ?_
      refine lv_iload hx hb dX5_spanEnd_40 (lv_at hl 5 rfl) ?_
      refine lv_iload hx hb dX5_spanEnd_42 (lv_at hl 4 rfl) ?_
      refine lv_iload_n hx hb dX5_spanEnd_44 rfl (lv_at hl 1 rfl) ?_
      refine lv_iload_n hx hb dX5_spanEnd_45 rfl (lv_at hl 3 rfl) ?_
      refine z_callV A hd0 hZ (ci := 5) (nA := 4) (As := [.int x6, .int x4, .int x1, .int x3]) (by decide) ho_x0 (c_X5_pair l G base M x0 x6 x4 x1 x3 _ h) k_ml_RX5_168 k_im_yX5_pair k_se_yX5_pair k_in_RX5 k_co_yX5_pair (by decide +kernel) ⟨by decide, by decide⟩ rfl rfl (Nat.le_of_ble_eq_true rfl) hl dX5_spanEnd_46 (fun v M1 H locs d0 cells slots hq hd0 hZ hm => ?_)
      clear h
      obtain ⟨rfl, h⟩ := hq
      have ho_x0 := isO_le hm ho_x0
      obtain ⟨i2, ei2⟩ : ∃ y : Int32, y = x6 + (1 : Int32) := ⟨_, rfl⟩
      replace h := h i2 ei2
      refine lv_iinc (v := i2) (lv' := [(6, .int i2), (0, .ref (base + x0)), (1, .int x1), (2, .int x2), (3, .int x3), (4, .int x4)]) hx hb dX5_spanEnd_49 hl (k := 5) rfl (by rw [ei2]; rfl) (by decide) rfl (fun ls hl2 => ?_)
      replace hl := hl2
      refine lv_goto (tgt := 32) hx hb dX5_spanEnd_52 (by decide) ?_
      exact ih ho_x0 hd0 hZ (lv_sub hl [1, 2, 3, 4, 5, 0] rfl) h hK55
set_option maxRecDepth 100000 in
set_option maxHeartbeats 4000000 in
theorem zb_X5_spanEnd_73 {p : Program} {l : Launch} {e : Env} {R : Room} {s : State} {m : MethodId} {args : Array Value} {below : List Frame} {meth : Method} {c : Code} {G : ZG} {base z0 : Nat} {Q : Int32 → Mem → Prop} (A : ∀ d, Amb p R (s.setDrawn d) m args meth c G base z0 cX5_spanEnd yX5_spanEnd.cls 7 1 30) (hr : meth.sig.returnType = (some .int)) {K18 : Nat → Int32 → Int32 → Int32 → Int32 → Int32 → Mem → Prop} {K79 : Int32 → Mem → Prop} {d0 : Drawn} {H : Heap} {locs : List Loc} {cells slots : Nat} {ls : Array Slot} {x0 : Nat} {x1 : Int32} {x2 : Int32} {x3 : Int32} {x5 : Int32} {t0 : Int32} {t1 : Int32} {M : Mem} (ho_x0 : isO M x0 5) (hd0 : s.drawn.sameBut d0 lw_cs) (hZ : ZH G true base s.heap M H locs) (hl : lv_has ls 7 [(0, .ref (base + x0)), (1, .int x1), (2, .int x2), (3, .int x3), (5, .int x5)]) (h : wp_X5_spanEnd_73 x0 x1 x2 x3 x5 t0 t1 M Q K18 K79) (hK18 : ∀ {d0 : Drawn} {H : Heap} {locs : List Loc} {cells slots : Nat} {ls : Array Slot} {x0 : Nat} {x1 : Int32} {x2 : Int32} {x3 : Int32} {x4 : Int32} {x5 : Int32} {M : Mem} (ho_x0 : isO M x0 5), s.drawn.sameBut d0 lw_cs → ZH G true base s.heap M H locs → lv_has ls 7 [(0, .ref (base + x0)), (1, .int x1), (2, .int x2), (3, .int x3), (4, .int x4), (5, .int x5)] → K18 x0 x1 x2 x3 x4 x5 M → W p l e R (s.setDrawn d0) m args below meth c H locs cells slots (ZEnd below G true base z0 (qI Q) args s) (F0 m 18 ls [])) (hK79 : ∀ {d0 : Drawn} {H : Heap} {locs : List Loc} {cells slots : Nat} {ls : Array Slot} {x4 : Int32} {M : Mem}, s.drawn.sameBut d0 lw_cs → ZH G true base s.heap M H locs → lv_has ls 7 [(4, .int x4)] → K79 x4 M → W p l e R (s.setDrawn d0) m args below meth c H locs cells slots (ZEnd below G true base z0 (qI Q) args s) (F0 m 79 ls [])) : W p l e R (s.setDrawn d0) m args below meth c H locs cells slots (ZEnd below G true base z0 (qI Q) args s) (F0 m 73 ls [.int t0, .int t1]) := by
  have hx := (A d0).1
  have hb := (A d0).2.1
  unfold wp_X5_spanEnd_73 at h
  refine lv_iadd hx hb dX5_spanEnd_73 ?_
  obtain ⟨i5, ei5⟩ : ∃ y : Int32, y = t1 + t0 := ⟨_, rfl⟩
  rw [← ei5]
  replace h := h i5 ei5
  refine lv_istore (lv' := [(4, .int i5), (0, .ref (base + x0)), (1, .int x1), (2, .int x2), (3, .int x3), (5, .int x5)]) hx hb dX5_spanEnd_74 hl (by decide) rfl (fun ls hl2 => ?_)
  replace hl := hl2
  refine lv_goto (tgt := 18) hx hb dX5_spanEnd_76 (by decide) ?_
  exact hK18 ho_x0 hd0 hZ (lv_sub hl [1, 2, 3, 4, 0, 5] rfl) h
set_option maxRecDepth 100000 in
set_option maxHeartbeats 4000000 in
theorem zb_X5_spanEnd_79 {p : Program} {l : Launch} {e : Env} {R : Room} {s : State} {m : MethodId} {args : Array Value} {below : List Frame} {meth : Method} {c : Code} {G : ZG} {base z0 : Nat} {Q : Int32 → Mem → Prop} (A : ∀ d, Amb p R (s.setDrawn d) m args meth c G base z0 cX5_spanEnd yX5_spanEnd.cls 7 1 30) (hr : meth.sig.returnType = (some .int)) {d0 : Drawn} {H : Heap} {locs : List Loc} {cells slots : Nat} {ls : Array Slot} {x4 : Int32} {M : Mem} (hd0 : s.drawn.sameBut d0 lw_cs) (hZ : ZH G true base s.heap M H locs) (hl : lv_has ls 7 [(4, .int x4)]) (h : wp_X5_spanEnd_79 x4 M Q) : W p l e R (s.setDrawn d0) m args below meth c H locs cells slots (ZEnd below G true base z0 (qI Q) args s) (F0 m 79 ls []) := by
  have hx := (A d0).1
  have hb := (A d0).2.1
  unfold wp_X5_spanEnd_79 at h
  refine lv_iload hx hb dX5_spanEnd_79 (lv_at hl 0 rfl) ?_
  exact z_iret A hd0 hZ hr ⟨_, rfl, h⟩ dX5_spanEnd_81
set_option maxRecDepth 100000 in
set_option maxHeartbeats 4000000 in
theorem zb_X5_spanEnd_55 {p : Program} {l : Launch} {e : Env} {R : Room} {s : State} {m : MethodId} {args : Array Value} {below : List Frame} {meth : Method} {c : Code} {G : ZG} {base z0 : Nat} {Q : Int32 → Mem → Prop} (A : ∀ d, Amb p R (s.setDrawn d) m args meth c G base z0 cX5_spanEnd yX5_spanEnd.cls 7 1 30) (hr : meth.sig.returnType = (some .int)) {K18 : Nat → Int32 → Int32 → Int32 → Int32 → Int32 → Mem → Prop} {K79 : Int32 → Mem → Prop} {d0 : Drawn} {H : Heap} {locs : List Loc} {cells slots : Nat} {ls : Array Slot} {x0 : Nat} {x1 : Int32} {x2 : Int32} {x3 : Int32} {x4 : Int32} {M : Mem} (ho_x0 : isO M x0 5) (hd0 : s.drawn.sameBut d0 lw_cs) (hZ : ZH G true base s.heap M H locs) (hl : lv_has ls 7 [(0, .ref (base + x0)), (1, .int x1), (2, .int x2), (3, .int x3), (4, .int x4)]) (h : wp_X5_spanEnd_55 x0 x1 x2 x3 x4 M Q K18 K79) (hK18 : ∀ {d0 : Drawn} {H : Heap} {locs : List Loc} {cells slots : Nat} {ls : Array Slot} {x0 : Nat} {x1 : Int32} {x2 : Int32} {x3 : Int32} {x4 : Int32} {x5 : Int32} {M : Mem} (ho_x0 : isO M x0 5), s.drawn.sameBut d0 lw_cs → ZH G true base s.heap M H locs → lv_has ls 7 [(0, .ref (base + x0)), (1, .int x1), (2, .int x2), (3, .int x3), (4, .int x4), (5, .int x5)] → K18 x0 x1 x2 x3 x4 x5 M → W p l e R (s.setDrawn d0) m args below meth c H locs cells slots (ZEnd below G true base z0 (qI Q) args s) (F0 m 18 ls [])) (hK79 : ∀ {d0 : Drawn} {H : Heap} {locs : List Loc} {cells slots : Nat} {ls : Array Slot} {x4 : Int32} {M : Mem}, s.drawn.sameBut d0 lw_cs → ZH G true base s.heap M H locs → lv_has ls 7 [(4, .int x4)] → K79 x4 M → W p l e R (s.setDrawn d0) m args below meth c H locs cells slots (ZEnd below G true base z0 (qI Q) args s) (F0 m 79 ls [])) : W p l e R (s.setDrawn d0) m args below meth c H locs cells slots (ZEnd below G true base z0 (qI Q) args s) (F0 m 55 ls []) := by
  have hx := (A d0).1
  have hb := (A d0).2.1
  unfold wp_X5_spanEnd_55 at h
  refine lv_aload_n hx hb dX5_spanEnd_55 rfl (lv_at hl 0 rfl) ?_
  refine z_callV A hd0 hZ (ci := 5) (nA := 0) (As := []) (by decide) ho_x0 (c_X5_fits l G base M x0 _ h) k_ml_RX5_172 k_im_yX5_fits k_se_yX5_fits k_in_RX5 k_co_yX5_fits (by decide +kernel) ⟨by decide, by decide⟩ rfl rfl (Nat.le_of_ble_eq_true rfl) hl dX5_spanEnd_56 (fun v M3 H locs d0 cells slots hq hd0 hZ hm => ?_)
  clear h
  obtain ⟨i4, rfl, h⟩ := hq
  have ho_x0 := isO_le hm ho_x0
  refine lv_istore (lv' := [(5, .int i4), (0, .ref (base + x0)), (1, .int x1), (2, .int x2), (3, .int x3), (4, .int x4)]) hx hb dX5_spanEnd_59 hl (by decide) rfl (fun ls hl2 => ?_)
  replace hl := hl2
  refine lv_iload hx hb dX5_spanEnd_61 (lv_at hl 5 rfl) ?_
  refine lv_iload hx hb dX5_spanEnd_63 (lv_at hl 0 rfl) ?_
  refine lv_if_eq (tgt := 72) hx hb dX5_spanEnd_65 (by decide) (fun hc => ?_) (fun hc => ?_)
  · replace h := h.1 hc
    refine lv_iconst (v := (0 : Int32)) hx hb dX5_spanEnd_72 (by decide) ?_
    exact (zb_X5_spanEnd_73 A hr ho_x0 hd0 hZ (lv_sub hl [1, 2, 3, 4, 0] rfl) h hK18 hK79)
  · replace h := h.2 hc
    refine lv_iconst (v := (1 : Int32)) hx hb dX5_spanEnd_68 (by decide) ?_
    refine lv_goto (tgt := 73) hx hb dX5_spanEnd_69 (by decide) ?_
    exact (zb_X5_spanEnd_73 A hr ho_x0 hd0 hZ (lv_sub hl [1, 2, 3, 4, 0] rfl) h hK18 hK79)
set_option maxRecDepth 100000 in
set_option maxHeartbeats 4000000 in
theorem zb_X5_spanEnd_18 {p : Program} {l : Launch} {e : Env} {R : Room} {s : State} {m : MethodId} {args : Array Value} {below : List Frame} {meth : Method} {c : Code} {G : ZG} {base z0 : Nat} {Q : Int32 → Mem → Prop} (A : ∀ d, Amb p R (s.setDrawn d) m args meth c G base z0 cX5_spanEnd yX5_spanEnd.cls 7 1 30) (hr : meth.sig.returnType = (some .int)) {K79 : Int32 → Mem → Prop} :
  ∀ (n : Nat) {d0 : Drawn} {H : Heap} {locs : List Loc} {cells slots : Nat} {ls : Array Slot} {x0 : Nat} {x1 : Int32} {x2 : Int32} {x3 : Int32} {x4 : Int32} {x5 : Int32} {M : Mem} (ho_x0 : isO M x0 5) (hd0 : s.drawn.sameBut d0 lw_cs) (hZ : ZH G true base s.heap M H locs) (hl : lv_has ls 7 [(0, .ref (base + x0)), (1, .int x1), (2, .int x2), (3, .int x3), (4, .int x4), (5, .int x5)]) (h : wp_X5_spanEnd_18 n x0 x1 x2 x3 x4 x5 M Q K79) (hK79 : ∀ {d0 : Drawn} {H : Heap} {locs : List Loc} {cells slots : Nat} {ls : Array Slot} {x4 : Int32} {M : Mem}, s.drawn.sameBut d0 lw_cs → ZH G true base s.heap M H locs → lv_has ls 7 [(4, .int x4)] → K79 x4 M → W p l e R (s.setDrawn d0) m args below meth c H locs cells slots (ZEnd below G true base z0 (qI Q) args s) (F0 m 79 ls [])), W p l e R (s.setDrawn d0) m args below meth c H locs cells slots (ZEnd below G true base z0 (qI Q) args s) (F0 m 18 ls []) := by
  have hx := (A default).1
  have hb := (A default).2.1
  intro n
  induction n with
  | zero => intro d0 H locs cells slots ls x0 x1 x2 x3 x4 x5 M ho_x0 hd0 hZ hl h hK79; exact h.elim
  | succ n ih =>
    intro d0 H locs cells slots ls x0 x1 x2 x3 x4 x5 M ho_x0 hd0 hZ hl h hK79
    unfold wp_X5_spanEnd_18 at h
    refine lv_iload hx hb dX5_spanEnd_18 (lv_at hl 4 rfl) ?_
    refine lv_iload_n hx hb dX5_spanEnd_20 rfl (lv_at hl 2 rfl) ?_
    refine lv_icmp_ge (tgt := 79) hx hb dX5_spanEnd_21 (by decide) (fun hc => ?_) (fun hc => ?_)
    · replace h := h.1 hc
      exact hK79 hd0 hZ (lv_sub hl [4] rfl) h
    · replace h := h.2 hc
      refine lv_iload hx hb dX5_spanEnd_24 (lv_at hl 5 rfl) ?_
      refine lv_if_eq (tgt := 79) hx hb dX5_spanEnd_26 (by decide) (fun hc => ?_) (fun hc => ?_)
      · replace h := h.1 hc
        exact hK79 hd0 hZ (lv_sub hl [4] rfl) h
      · replace h := h.2 hc
        refine lv_iload_n hx hb dX5_spanEnd_29 rfl (lv_at hl 1 rfl) ?_
        refine lv_istore (lv' := [(6, .int x1), (0, .ref (base + x0)), (1, .int x1), (2, .int x2), (3, .int x3), (4, .int x4), (5, .int x5)]) hx hb dX5_spanEnd_30 hl (by decide) rfl (fun ls hl2 => ?_)
        replace hl := hl2
        exact (Exists.elim h fun kk h => zb_X5_spanEnd_32 A hr kk ho_x0 hd0 hZ (lv_sub hl [1, 2, 3, 4, 5, 0] rfl) h (fun ho_x0 hd0 hZ hl h => (zb_X5_spanEnd_55 A hr ho_x0 hd0 hZ hl h (fun ho_x0 hd0 hZ hl h => ih ho_x0 hd0 hZ hl h hK79) hK79)))
set_option maxRecDepth 100000 in
set_option maxHeartbeats 4000000 in
theorem c_X5_spanEnd (l : Launch) (G : ZG) (base : Nat) (M : Mem) (x0 : Nat) (x1 : Int32) (x2 : Int32) (x3 : Int32) (Q : Int32 → Mem → Prop) (h : wp_X5_spanEnd x0 x1 x2 x3 M Q) : ZMet l yX5_spanEnd cX5_spanEnd 7 (some .int) 1 30 G true base M [.ref (base + x0), .int x1, .int x2, .int x3] (qI Q) := by
  refine z_start (by decide) (Nat.le_of_ble_eq_true rfl) k_co_yX5_spanEnd ?_
  intro p e s m below meth c R d0 H locs cells slots ls A hr hn hd0 hZ hl
  have hx := (A d0).1
  have hb := (A d0).2.1
  have hl : lv_has ls 7 [(0, .ref (base + x0)), (1, .int x1), (2, .int x2), (3, .int x3)] := hl
  unfold wp_X5_spanEnd at h
  obtain ⟨ho_x0, h⟩ := h
  refine lv_aload_n hx hb dX5_spanEnd_0 rfl (lv_at hl 0 rfl) ?_
  refine lv_lconst (v := (0 : Int64)) hx hb dX5_spanEnd_1 (by decide) ?_
  obtain ⟨M6, eM6⟩ : ∃ y : Mem, y = sL M x0 5 (0 : Int64) := ⟨_, rfl⟩
  refine z_put (A d0) hZ (ci := 5) (j := 5) (M' := M6) ho_x0.1 ho_x0.2 (by decide) (by decide) k_fl_RX5_27 rfl (by rw [eM6]; exact zUpd_L) rfl rfl dX5_spanEnd_2 (fun H locs hZ => ?_)
  have hm : mz M6 = mz M := by rw [eM6] <;> rfl
  have ho_x0 := isO_le (Nat.le_of_eq hm.symm) ho_x0
  replace h := h M6 eM6
  refine lv_aload_n hx hb dX5_spanEnd_5 rfl (lv_at hl 0 rfl) ?_
  refine lv_lconst (v := (0 : Int64)) hx hb dX5_spanEnd_6 (by decide) ?_
  obtain ⟨M7, eM7⟩ : ∃ y : Mem, y = sL M6 x0 7 (0 : Int64) := ⟨_, rfl⟩
  refine z_put (A d0) hZ (ci := 5) (j := 7) (M' := M7) ho_x0.1 ho_x0.2 (by decide) (by decide) k_fl_RX5_33 rfl (by rw [eM7]; exact zUpd_L) rfl rfl dX5_spanEnd_7 (fun H locs hZ => ?_)
  have hm : mz M7 = mz M6 := by rw [eM7] <;> rfl
  have ho_x0 := isO_le (Nat.le_of_eq hm.symm) ho_x0
  replace h := h M7 eM7
  refine lv_iload_n hx hb dX5_spanEnd_10 rfl (lv_at hl 1 rfl) ?_
  refine lv_iconst (v := (1 : Int32)) hx hb dX5_spanEnd_11 (by decide) ?_
  refine lv_iadd hx hb dX5_spanEnd_12 ?_
  obtain ⟨i8, ei8⟩ : ∃ y : Int32, y = x1 + (1 : Int32) := ⟨_, rfl⟩
  rw [← ei8]
  replace h := h i8 ei8
  refine lv_istore (lv' := [(4, .int i8), (0, .ref (base + x0)), (1, .int x1), (2, .int x2), (3, .int x3)]) hx hb dX5_spanEnd_13 hl (by decide) rfl (fun ls hl2 => ?_)
  replace hl := hl2
  refine lv_iconst (v := (1 : Int32)) hx hb dX5_spanEnd_15 (by decide) ?_
  refine lv_istore (lv' := [(5, .int (1 : Int32)), (4, .int i8), (0, .ref (base + x0)), (1, .int x1), (2, .int x2), (3, .int x3)]) hx hb dX5_spanEnd_16 hl (by decide) rfl (fun ls hl2 => ?_)
  replace hl := hl2
  exact (Exists.elim h fun kk h => zb_X5_spanEnd_18 A hr kk ho_x0 hd0 hZ (lv_sub hl [2, 3, 4, 5, 1, 0] rfl) h (fun hd0 hZ hl h => (zb_X5_spanEnd_79 A hr hd0 hZ hl h)))
/-! cX5_take -/
set_option maxRecDepth 100000 in
set_option maxHeartbeats 4000000 in
theorem zb_X5_take_2 {p : Program} {l : Launch} {e : Env} {R : Room} {s : State} {m : MethodId} {args : Array Value} {below : List Frame} {meth : Method} {c : Code} {G : ZG} {base z0 : Nat} {Q : Mem → Prop} (A : ∀ d, Amb p R (s.setDrawn d) m args meth c G base z0 cX5_take yX5_take.cls 2 0 0) (hr : meth.sig.returnType = none) {K28 : Mem → Prop} :
  ∀ (n : Nat) {d0 : Drawn} {H : Heap} {locs : List Loc} {cells slots : Nat} {ls : Array Slot} {x0 : Nat} {x1 : Int32} {M : Mem} (ho_x0 : isO M x0 5) (hd0 : s.drawn.sameBut d0 lw_cs) (hZ : ZH G true base s.heap M H locs) (hl : lv_has ls 2 [(0, .ref (base + x0)), (1, .int x1)]) (h : wp_X5_take_2 n x0 x1 M Q K28) (hK28 : ∀ {d0 : Drawn} {H : Heap} {locs : List Loc} {cells slots : Nat} {ls : Array Slot} {M : Mem}, s.drawn.sameBut d0 lw_cs → ZH G true base s.heap M H locs → lv_has ls 2 [] → K28 M → W p l e R (s.setDrawn d0) m args below meth c H locs cells slots (ZEnd below G true base z0 (qV Q) args s) (F0 m 28 ls [])), W p l e R (s.setDrawn d0) m args below meth c H locs cells slots (ZEnd below G true base z0 (qV Q) args s) (F0 m 2 ls []) := by
  have hx := (A default).1
  have hb := (A default).2.1
  intro n
  induction n with
  | zero => intro d0 H locs cells slots ls x0 x1 M ho_x0 hd0 hZ hl h hK28; exact h.elim
  | succ n ih =>
    intro d0 H locs cells slots ls x0 x1 M ho_x0 hd0 hZ hl h hK28
    unfold wp_X5_take_2 at h
    refine lv_iload_n hx hb dX5_take_2 rfl (lv_at hl 1 rfl) ?_
    refine lv_aload_n hx hb dX5_take_3 rfl (lv_at hl 0 rfl) ?_
    refine z_get (A d0) hZ (ci := 5) (j := 1) ho_x0.1 ho_x0.2 (by decide) (by decide) k_fl_RX5_13 (v := .int (mI M x0 1)) rfl dX5_take_4 ?_
    refine lv_icmp_ge (tgt := 28) hx hb dX5_take_7 (by decide) (fun hc => ?_) (fun hc => ?_)
    · replace h := h.1 hc
      exact hK28 hd0 hZ (lv_sub hl [] rfl) h
    · replace h := h.2 hc
      refine lv_aload_n hx hb dX5_take_10 rfl (lv_at hl 0 rfl) ?_
      refine z_get (A d0) hZ (ci := 5) (j := 3) ho_x0.1 ho_x0.2 (by decide) (by decide) k_fl_RX5_20 (v := .ref (base + 71)) (zv_fin (zf5 ho_x0 rfl) rfl) dX5_take_11 ?_
      refine lv_iload_n hx hb dX5_take_14 rfl (lv_at hl 1 rfl) ?_
      refine lv_aload_n hx hb dX5_take_15 rfl (lv_at hl 0 rfl) ?_
      refine z_get (A d0) hZ (ci := 5) (j := 0) ho_x0.1 ho_x0.2 (by decide) (by decide) k_fl_RX5_7 (v := .ref (base + 70)) (zv_fin (zf5 ho_x0 rfl) rfl) dX5_take_16 ?_
      refine lv_iload_n hx hb dX5_take_19 rfl (lv_at hl 1 rfl) ?_
      obtain ⟨hin, h⟩ := h
      refine z_lald (A d0) hZ (isA_c (a := 70) hZ.k0 (by decide) rfl) hin dX5_take_20 ?_
      obtain ⟨hin, h⟩ := h
      obtain ⟨M1, eM1⟩ : ∃ y : Mem, y = sL M 71 x1.toNatClampNeg (mL M 70 x1.toNatClampNeg) := ⟨_, rfl⟩
      refine z_last (A d0) hZ (isA_c (a := 71) hZ.k0 (by decide) rfl) hin dX5_take_21 (fun H locs hZ => ?_)
      rw [← eM1] at hZ
      have hm : mz M1 = mz M := by rw [eM1] <;> rfl
      have ho_x0 := isO_le (Nat.le_of_eq hm.symm) ho_x0
      replace h := h M1 eM1
      obtain ⟨i2, ei2⟩ : ∃ y : Int32, y = x1 + (1 : Int32) := ⟨_, rfl⟩
      replace h := h i2 ei2
      refine lv_iinc (v := i2) (lv' := [(1, .int i2), (0, .ref (base + x0))]) hx hb dX5_take_22 hl (k := 1) rfl (by rw [ei2]; rfl) (by decide) rfl (fun ls hl2 => ?_)
      replace hl := hl2
      refine lv_goto (tgt := 2) hx hb dX5_take_25 (by decide) ?_
      exact ih ho_x0 hd0 hZ (lv_sub hl [1, 0] rfl) h hK28
set_option maxRecDepth 100000 in
set_option maxHeartbeats 4000000 in
theorem zb_X5_take_28 {p : Program} {l : Launch} {e : Env} {R : Room} {s : State} {m : MethodId} {args : Array Value} {below : List Frame} {meth : Method} {c : Code} {G : ZG} {base z0 : Nat} {Q : Mem → Prop} (A : ∀ d, Amb p R (s.setDrawn d) m args meth c G base z0 cX5_take yX5_take.cls 2 0 0) (hr : meth.sig.returnType = none) {d0 : Drawn} {H : Heap} {locs : List Loc} {cells slots : Nat} {ls : Array Slot}  {M : Mem} (hd0 : s.drawn.sameBut d0 lw_cs) (hZ : ZH G true base s.heap M H locs) (hl : lv_has ls 2 []) (h : wp_X5_take_28 M Q) : W p l e R (s.setDrawn d0) m args below meth c H locs cells slots (ZEnd below G true base z0 (qV Q) args s) (F0 m 28 ls []) := by
  have hx := (A d0).1
  have hb := (A d0).2.1
  unfold wp_X5_take_28 at h
  exact z_vret A hd0 hZ hr ⟨rfl, h⟩ dX5_take_28
set_option maxRecDepth 100000 in
set_option maxHeartbeats 4000000 in
theorem c_X5_take (l : Launch) (G : ZG) (base : Nat) (M : Mem) (x0 : Nat) (Q : Mem → Prop) (h : wp_X5_take x0 M Q) : ZMet l yX5_take cX5_take 2 none 0 0 G true base M [.ref (base + x0)] (qV Q) := by
  refine z_start (by decide) (Nat.le_of_ble_eq_true rfl) k_co_yX5_take ?_
  intro p e s m below meth c R d0 H locs cells slots ls A hr hn hd0 hZ hl
  have hx := (A d0).1
  have hb := (A d0).2.1
  have hl : lv_has ls 2 [(0, .ref (base + x0))] := hl
  unfold wp_X5_take at h
  obtain ⟨ho_x0, h⟩ := h
  refine lv_iconst (v := (0 : Int32)) hx hb dX5_take_0 (by decide) ?_
  refine lv_istore_n (lv' := [(1, .int (0 : Int32)), (0, .ref (base + x0))]) hx hb dX5_take_1 rfl hl (by decide) rfl (fun ls hl2 => ?_)
  replace hl := hl2
  exact (Exists.elim h fun kk h => zb_X5_take_2 A hr kk ho_x0 hd0 hZ (lv_sub hl [1, 0] rfl) h (fun hd0 hZ hl h => (zb_X5_take_28 A hr hd0 hZ hl h)))
/-! cX5_few -/
set_option maxRecDepth 100000 in
set_option maxHeartbeats 4000000 in
theorem zb_X5_few_10 {p : Program} {l : Launch} {e : Env} {R : Room} {s : State} {m : MethodId} {args : Array Value} {below : List Frame} {meth : Method} {c : Code} {G : ZG} {base z0 : Nat} {Q : Int32 → Mem → Prop} (A : ∀ d, Amb p R (s.setDrawn d) m args meth c G base z0 cX5_few yX5_few.cls 4 2 56) (hr : meth.sig.returnType = (some .int)) {d0 : Drawn} {H : Heap} {locs : List Loc} {cells slots : Nat} {ls : Array Slot}  {M : Mem} (hd0 : s.drawn.sameBut d0 lw_cs) (hZ : ZH G true base s.heap M H locs) (hl : lv_has ls 4 []) (h : wp_X5_few_10 M Q) : W p l e R (s.setDrawn d0) m args below meth c H locs cells slots (ZEnd below G true base z0 (qI Q) args s) (F0 m 10 ls []) := by
  have hx := (A d0).1
  have hb := (A d0).2.1
  unfold wp_X5_few_10 at h
  refine lv_bipush (v := (-2 : Int32)) hx hb dX5_few_10 (by decide) ?_
  exact z_iret A hd0 hZ hr ⟨_, rfl, h⟩ dX5_few_12
set_option maxRecDepth 100000 in
set_option maxHeartbeats 4000000 in
theorem zb_X5_few_21 {p : Program} {l : Launch} {e : Env} {R : Room} {s : State} {m : MethodId} {args : Array Value} {below : List Frame} {meth : Method} {c : Code} {G : ZG} {base z0 : Nat} {Q : Int32 → Mem → Prop} (A : ∀ d, Amb p R (s.setDrawn d) m args meth c G base z0 cX5_few yX5_few.cls 4 2 56) (hr : meth.sig.returnType = (some .int)) {K46 : Int32 → Mem → Prop} :
  ∀ (n : Nat) {d0 : Drawn} {H : Heap} {locs : List Loc} {cells slots : Nat} {ls : Array Slot} {x0 : Nat} {x1 : Int32} {x2 : Int32} {x3 : Int32} {M : Mem} (ho_x0 : isO M x0 5) (hd0 : s.drawn.sameBut d0 lw_cs) (hZ : ZH G true base s.heap M H locs) (hl : lv_has ls 4 [(0, .ref (base + x0)), (1, .int x1), (2, .int x2), (3, .int x3)]) (h : wp_X5_few_21 n x0 x1 x2 x3 M Q K46) (hK46 : ∀ {d0 : Drawn} {H : Heap} {locs : List Loc} {cells slots : Nat} {ls : Array Slot} {x2 : Int32} {M : Mem}, s.drawn.sameBut d0 lw_cs → ZH G true base s.heap M H locs → lv_has ls 4 [(2, .int x2)] → K46 x2 M → W p l e R (s.setDrawn d0) m args below meth c H locs cells slots (ZEnd below G true base z0 (qI Q) args s) (F0 m 46 ls [])), W p l e R (s.setDrawn d0) m args below meth c H locs cells slots (ZEnd below G true base z0 (qI Q) args s) (F0 m 21 ls []) := by
  have hx := (A default).1
  have hb := (A default).2.1
  intro n
  induction n with
  | zero => intro d0 H locs cells slots ls x0 x1 x2 x3 M ho_x0 hd0 hZ hl h hK46; exact h.elim
  | succ n ih =>
    intro d0 H locs cells slots ls x0 x1 x2 x3 M ho_x0 hd0 hZ hl h hK46
    unfold wp_X5_few_21 at h
    refine lv_iload_n hx hb dX5_few_21 rfl (lv_at hl 3 rfl) ?_
    refine lv_aload_n hx hb dX5_few_22 rfl (lv_at hl 0 rfl) ?_
    refine z_get (A d0) hZ (ci := 5) (j := 1) ho_x0.1 ho_x0.2 (by decide) (by decide) k_fl_RX5_13 (v := .int (mI M x0 1)) rfl dX5_few_23 ?_
    refine lv_icmp_ge (tgt := 46) hx hb dX5_few_26 (by decide) (fun hc => ?_) (fun hc => ?_)
    · replace h := h.1 hc
      exact hK46 hd0 hZ (lv_sub hl [2] rfl) h
    · replace h := h.2 hc
      obtain ⟨i1, ei1⟩ : ∃ y : Int32, y = x2 + (1 : Int32) := ⟨_, rfl⟩
      replace h := h i1 ei1
      refine lv_iinc (v := i1) (lv' := [(2, .int i1), (0, .ref (base + x0)), (1, .int x1), (3, .int x3)]) hx hb dX5_few_29 hl (k := 2) rfl (by rw [ei1]; rfl) (by decide) rfl (fun ls hl2 => ?_)
      replace hl := hl2
      refine lv_aload_n hx hb dX5_few_32 rfl (lv_at hl 1 rfl) ?_
      refine lv_iload_n hx hb dX5_few_33 rfl (lv_at hl 3 rfl) ?_
      refine lv_aload_n hx hb dX5_few_34 rfl (lv_at hl 1 rfl) ?_
      refine z_get (A d0) hZ (ci := 5) (j := 1) ho_x0.1 ho_x0.2 (by decide) (by decide) k_fl_RX5_13 (v := .int (mI M x0 1)) rfl dX5_few_35 ?_
      refine lv_iload_n hx hb dX5_few_38 rfl (lv_at hl 2 rfl) ?_
      refine z_callV A hd0 hZ (ci := 5) (nA := 3) (As := [.int x3, .int (mI M x0 1), .int x1]) (by decide) ho_x0 (c_X5_spanEnd l G base M x0 x3 (mI M x0 1) x1 _ h) k_ml_RX5_181 k_im_yX5_spanEnd k_se_yX5_spanEnd k_in_RX5 k_co_yX5_spanEnd (by decide +kernel) ⟨by decide, by decide⟩ rfl rfl (Nat.le_of_ble_eq_true rfl) hl dX5_few_39 (fun v M2 H locs d0 cells slots hq hd0 hZ hm => ?_)
      clear h
      obtain ⟨i3, rfl, h⟩ := hq
      have ho_x0 := isO_le hm ho_x0
      refine lv_istore_n (lv' := [(3, .int i3), (2, .int i1), (0, .ref (base + x0)), (1, .int x1)]) hx hb dX5_few_42 rfl hl (by decide) rfl (fun ls hl2 => ?_)
      replace hl := hl2
      refine lv_goto (tgt := 21) hx hb dX5_few_43 (by decide) ?_
      exact ih ho_x0 hd0 hZ (lv_sub hl [2, 3, 1, 0] rfl) h hK46
set_option maxRecDepth 100000 in
set_option maxHeartbeats 4000000 in
theorem zb_X5_few_46 {p : Program} {l : Launch} {e : Env} {R : Room} {s : State} {m : MethodId} {args : Array Value} {below : List Frame} {meth : Method} {c : Code} {G : ZG} {base z0 : Nat} {Q : Int32 → Mem → Prop} (A : ∀ d, Amb p R (s.setDrawn d) m args meth c G base z0 cX5_few yX5_few.cls 4 2 56) (hr : meth.sig.returnType = (some .int)) {d0 : Drawn} {H : Heap} {locs : List Loc} {cells slots : Nat} {ls : Array Slot} {x2 : Int32} {M : Mem} (hd0 : s.drawn.sameBut d0 lw_cs) (hZ : ZH G true base s.heap M H locs) (hl : lv_has ls 4 [(2, .int x2)]) (h : wp_X5_few_46 x2 M Q) : W p l e R (s.setDrawn d0) m args below meth c H locs cells slots (ZEnd below G true base z0 (qI Q) args s) (F0 m 46 ls []) := by
  have hx := (A d0).1
  have hb := (A d0).2.1
  unfold wp_X5_few_46 at h
  refine lv_iload_n hx hb dX5_few_46 rfl (lv_at hl 0 rfl) ?_
  exact z_iret A hd0 hZ hr ⟨_, rfl, h⟩ dX5_few_47
set_option maxRecDepth 100000 in
set_option maxHeartbeats 4000000 in
theorem c_X5_few (l : Launch) (G : ZG) (base : Nat) (M : Mem) (x0 : Nat) (x1 : Int32) (Q : Int32 → Mem → Prop) (h : wp_X5_few x0 x1 M Q) : ZMet l yX5_few cX5_few 4 (some .int) 2 56 G true base M [.ref (base + x0), .int x1] (qI Q) := by
  refine z_start (by decide) (Nat.le_of_ble_eq_true rfl) k_co_yX5_few ?_
  intro p e s m below meth c R d0 H locs cells slots ls A hr hn hd0 hZ hl
  have hx := (A d0).1
  have hb := (A d0).2.1
  have hl : lv_has ls 4 [(0, .ref (base + x0)), (1, .int x1)] := hl
  unfold wp_X5_few at h
  obtain ⟨ho_x0, h⟩ := h
  refine lv_iload_n hx hb dX5_few_0 rfl (lv_at hl 1 rfl) ?_
  refine lv_if_lt (tgt := 10) hx hb dX5_few_1 (by decide) (fun hc => ?_) (fun hc => ?_)
  · replace h := h.1 hc
    exact (zb_X5_few_10 A hr hd0 hZ (lv_sub hl [] rfl) h)
  · replace h := h.2 hc
    refine lv_iload_n hx hb dX5_few_4 rfl (lv_at hl 1 rfl) ?_
    refine lv_bipush (v := (40 : Int32)) hx hb dX5_few_5 (by decide) ?_
    refine lv_icmp_le (tgt := 13) hx hb dX5_few_7 (by decide) (fun hc => ?_) (fun hc => ?_)
    · replace h := h.1 hc
      refine lv_aload_n hx hb dX5_few_13 rfl (lv_at hl 0 rfl) ?_
      refine z_callV A hd0 hZ (ci := 5) (nA := 0) (As := []) (by decide) ho_x0 (c_X5_take l G base M x0 _ h) k_ml_RX5_178 k_im_yX5_take k_se_yX5_take k_in_RX5 k_co_yX5_take (by decide +kernel) ⟨by decide, by decide⟩ rfl rfl (Nat.le_of_ble_eq_true rfl) hl dX5_few_14 (fun v M4 H locs d0 cells slots hq hd0 hZ hm => ?_)
      clear h
      obtain ⟨rfl, h⟩ := hq
      have ho_x0 := isO_le hm ho_x0
      refine lv_iconst (v := (0 : Int32)) hx hb dX5_few_17 (by decide) ?_
      refine lv_istore_n (lv' := [(2, .int (0 : Int32)), (0, .ref (base + x0)), (1, .int x1)]) hx hb dX5_few_18 rfl hl (by decide) rfl (fun ls hl2 => ?_)
      replace hl := hl2
      refine lv_iconst (v := (0 : Int32)) hx hb dX5_few_19 (by decide) ?_
      refine lv_istore_n (lv' := [(3, .int (0 : Int32)), (2, .int (0 : Int32)), (0, .ref (base + x0)), (1, .int x1)]) hx hb dX5_few_20 rfl hl (by decide) rfl (fun ls hl2 => ?_)
      replace hl := hl2
      exact (Exists.elim h fun kk h => zb_X5_few_21 A hr kk ho_x0 hd0 hZ (lv_sub hl [2, 3, 1, 0] rfl) h (fun hd0 hZ hl h => (zb_X5_few_46 A hr hd0 hZ hl h)))
    · replace h := h.2 hc
      exact (zb_X5_few_10 A hr hd0 hZ (lv_sub hl [] rfl) h)
