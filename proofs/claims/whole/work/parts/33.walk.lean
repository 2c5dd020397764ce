/-! cX5_below -/
set_option maxRecDepth 100000 in
set_option maxHeartbeats 4000000 in
theorem zb_X5_below_27 {p : Program} {l : Launch} {e : Env} {R : Room} {s : State} {m : MethodId} {args : Array Value} {below : List Frame} {meth : Method} {c : Code} {G : ZG} {base z0 : Nat} {Q : Int32 → Mem → Prop} (A : ∀ d, Amb p R (s.setDrawn d) m args meth c G base z0 cX5_below yX5_below.cls 3 4 90) (hr : meth.sig.returnType = (some .int)) {d0 : Drawn} {H : Heap} {locs : List Loc} {cells slots : Nat} {ls : Array Slot} {t0 : Int32} {M : Mem} (hd0 : s.drawn.sameBut d0 lw_cs) (hZ : ZH G true base s.heap M H locs) (hl : lv_has ls 3 []) (h : wp_X5_below_27 t0 M Q) : W p l e R (s.setDrawn d0) m args below meth c H locs cells slots (ZEnd below G true base z0 (qI Q) args s) (F0 m 27 ls [.int t0]) := by
  have hx := (A d0).1
  have hb := (A d0).2.1
  unfold wp_X5_below_27 at h
  exact z_iret A hd0 hZ hr ⟨_, rfl, h⟩ dX5_below_27
set_option maxRecDepth 100000 in
set_option maxHeartbeats 4000000 in
theorem c_X5_below (l : Launch) (G : ZG) (base : Nat) (M : Mem) (x0 : Nat) (x1 : Int64) (Q : Int32 → Mem → Prop) (h : wp_X5_below x0 x1 M Q) : ZMet l yX5_below cX5_below 3 (some .int) 4 90 G true base M [.ref (base + x0), .long x1] (qI Q) := by
  refine z_start (by decide) (Nat.le_of_ble_eq_true rfl) k_co_yX5_below ?_
  intro p e s m below meth c R d0 H locs cells slots ls A hr hn hd0 hZ hl
  have hx := (A d0).1
  have hb := (A d0).2.1
  have hl : lv_has ls 3 [(0, .ref (base + x0)), (1, .long x1)] := hl
  unfold wp_X5_below at h
  obtain ⟨ho_x0, h⟩ := h
  refine lv_aload_n hx hb dX5_below_0 rfl (lv_at hl 0 rfl) ?_
  refine z_get (A d0) hZ (ci := 5) (j := 23) ho_x0.1 ho_x0.2 (by decide) (by decide) k_fl_RX5_84 (v := .int (mI M x0 23)) rfl dX5_below_1 ?_
  refine lv_if_ne (tgt := 9) hx hb dX5_below_4 (by decide) (fun hc => ?_) (fun hc => ?_)
  · replace h := h.1 hc
    refine lv_aload_n hx hb dX5_below_9 rfl (lv_at hl 0 rfl) ?_
    refine lv_lload_n hx hb dX5_below_10 rfl (lv_at hl 1 rfl) ?_
    refine z_callV A hd0 hZ (ci := 5) (nA := 1) (As := [.long x1]) (by decide) ho_x0 (c_X5_isKey l G base M x0 x1 _ h) k_ml_RX5_162 k_im_yX5_isKey k_se_yX5_isKey k_in_RX5 k_co_yX5_isKey (by decide +kernel) ⟨by decide, by decide⟩ rfl rfl (Nat.le_of_ble_eq_true rfl) hl dX5_below_11 (fun v M1 H locs d0 cells slots hq hd0 hZ hm => ?_)
    clear h
    obtain ⟨i2, rfl, h⟩ := hq
    have ho_x0 := isO_le hm ho_x0
    refine lv_if_eq (tgt := 25) hx hb dX5_below_14 (by decide) (fun hc => ?_) (fun hc => ?_)
    · replace h := h.1 hc
      refine lv_bipush (v := (-2 : Int32)) hx hb dX5_below_25 (by decide) ?_
      exact (zb_X5_below_27 A hr hd0 hZ (lv_sub hl [] rfl) h)
    · replace h := h.2 hc
      refine lv_aload_n hx hb dX5_below_17 rfl (lv_at hl 0 rfl) ?_
      refine lv_lload_n hx hb dX5_below_18 rfl (lv_at hl 1 rfl) ?_
      refine z_callV A hd0 hZ (ci := 5) (nA := 1) (As := [.long x1]) (by decide) ho_x0 (c_X5_ahead l G base M1 x0 x1 _ h) k_ml_RX5_254 k_im_yX5_ahead k_se_yX5_ahead k_in_RX5 k_co_yX5_ahead (by decide +kernel) ⟨by decide, by decide⟩ rfl rfl (Nat.le_of_ble_eq_true rfl) hl dX5_below_19 (fun v M3 H locs d0 cells slots hq hd0 hZ hm => ?_)
      clear h
      obtain ⟨i4, rfl, h⟩ := hq
      have ho_x0 := isO_le hm ho_x0
      refine lv_goto (tgt := 27) hx hb dX5_below_22 (by decide) ?_
      exact (zb_X5_below_27 A hr hd0 hZ (lv_sub hl [] rfl) h)
  · replace h := h.2 hc
    refine lv_iconst (v := (-1 : Int32)) hx hb dX5_below_7 (by decide) ?_
    exact z_iret A hd0 hZ hr ⟨_, rfl, h⟩ dX5_below_8
/-! cX5_above -/
set_option maxRecDepth 100000 in
set_option maxHeartbeats 4000000 in
theorem zb_X5_above_6 {p : Program} {l : Launch} {e : Env} {R : Room} {s : State} {m : MethodId} {args : Array Value} {below : List Frame} {meth : Method} {c : Code} {G : ZG} {base z0 : Nat} {Q : Int64 → Mem → Prop} (A : ∀ d, Amb p R (s.setDrawn d) m args meth c G base z0 cX5_above yX5_above.cls 4 3 67) (hr : meth.sig.returnType = (some .long)) {K31 : Nat → Int32 → Mem → Prop} :
  ∀ (n : Nat) {d0 : Drawn} {H : Heap} {locs : List Loc} {cells slots : Nat} {ls : Array Slot} {x0 : Nat} {x1 : Int64} {x3 : Int32} {M : Mem} (ho_x0 : isO M x0 5) (hd0 : s.drawn.sameBut d0 lw_cs) (hZ : ZH G true base s.heap M H locs) (hl : lv_has ls 4 [(0, .ref (base + x0)), (1, .long x1), (3, .int x3)]) (h : wp_X5_above_6 n x0 x1 x3 M Q K31) (hK31 : ∀ {d0 : Drawn} {H : Heap} {locs : List Loc} {cells slots : Nat} {ls : Array Slot} {x0 : Nat} {x3 : Int32} {M : Mem} (ho_x0 : isO M x0 5), s.drawn.sameBut d0 lw_cs → ZH G true base s.heap M H locs → lv_has ls 4 [(0, .ref (base + x0)), (3, .int x3)] → K31 x0 x3 M → W p l e R (s.setDrawn d0) m args below meth c H locs cells slots (ZEnd below G true base z0 (qL Q) args s) (F0 m 31 ls [])), W p l e R (s.setDrawn d0) m args below meth c H locs cells slots (ZEnd below G true base z0 (qL Q) args s) (F0 m 6 ls []) := by
  have hx := (A default).1
  have hb := (A default).2.1
  intro n
  induction n with
  | zero => intro d0 H locs cells slots ls x0 x1 x3 M ho_x0 hd0 hZ hl h hK31; exact h.elim
  | succ n ih =>
    intro d0 H locs cells slots ls x0 x1 x3 M ho_x0 hd0 hZ hl h hK31
    unfold wp_X5_above_6 at h
    refine lv_iload_n hx hb dX5_above_6 rfl (lv_at hl 2 rfl) ?_
    refine lv_aload_n hx hb dX5_above_7 rfl (lv_at hl 0 rfl) ?_
    refine z_get (A d0) hZ (ci := 5) (j := 26) ho_x0.1 ho_x0.2 (by decide) (by decide) k_fl_RX5_94 (v := .int (mI M x0 26)) rfl dX5_above_8 ?_
    refine lv_icmp_ge (tgt := 31) hx hb dX5_above_11 (by decide) (fun hc => ?_) (fun hc => ?_)
    · replace h := h.1 hc
      exact hK31 ho_x0 hd0 hZ (lv_sub hl [0, 2] rfl) h
    · replace h := h.2 hc
      refine lv_aload_n hx hb dX5_above_14 rfl (lv_at hl 0 rfl) ?_
      refine z_get (A d0) hZ (ci := 5) (j := 3) ho_x0.1 ho_x0.2 (by decide) (by decide) k_fl_RX5_20 (v := .ref (base + 71)) (zv_fin (zf5 ho_x0 rfl) rfl) dX5_above_15 ?_
      refine lv_iload_n hx hb dX5_above_18 rfl (lv_at hl 2 rfl) ?_
      obtain ⟨hin, h⟩ := h
      refine z_lald (A d0) hZ (isA_c (a := 71) hZ.k0 (by decide) rfl) hin dX5_above_19 ?_
      refine lv_lload_n hx hb dX5_above_20 rfl (lv_at hl 1 rfl) ?_
      refine z_lc_gt (tgt := 31) hx hb dX5_above_21 dX5_above_22 (by decide) (fun hc => ?_) (fun hc => ?_)
      · replace h := h.1 hc
        exact hK31 ho_x0 hd0 hZ (lv_sub hl [0, 2] rfl) h
      · replace h := h.2 hc
        obtain ⟨i1, ei1⟩ : ∃ y : Int32, y = x3 + (1 : Int32) := ⟨_, rfl⟩
        replace h := h i1 ei1
        refine lv_iinc (v := i1) (lv' := [(3, .int i1), (0, .ref (base + x0)), (1, .long x1)]) hx hb dX5_above_25 hl (k := 2) rfl (by rw [ei1]; rfl) (by decide) rfl (fun ls hl2 => ?_)
        replace hl := hl2
        refine lv_goto (tgt := 6) hx hb dX5_above_28 (by decide) ?_
        exact ih ho_x0 hd0 hZ (lv_sub hl [1, 2, 0] rfl) h hK31
set_option maxRecDepth 100000 in
set_option maxHeartbeats 4000000 in
theorem zb_X5_above_51 {p : Program} {l : Launch} {e : Env} {R : Room} {s : State} {m : MethodId} {args : Array Value} {below : List Frame} {meth : Method} {c : Code} {G : ZG} {base z0 : Nat} {Q : Int64 → Mem → Prop} (A : ∀ d, Amb p R (s.setDrawn d) m args meth c G base z0 cX5_above yX5_above.cls 4 3 67) (hr : meth.sig.returnType = (some .long)) {d0 : Drawn} {H : Heap} {locs : List Loc} {cells slots : Nat} {ls : Array Slot} {t0 : Int64} {M : Mem} (hd0 : s.drawn.sameBut d0 lw_cs) (hZ : ZH G true base s.heap M H locs) (hl : lv_has ls 4 []) (h : wp_X5_above_51 t0 M Q) : W p l e R (s.setDrawn d0) m args below meth c H locs cells slots (ZEnd below G true base z0 (qL Q) args s) (F0 m 51 ls [.long t0]) := by
  have hx := (A d0).1
  have hb := (A d0).2.1
  unfold wp_X5_above_51 at h
  exact z_lret A hd0 hZ hr ⟨_, rfl, h⟩ dX5_above_51
set_option maxRecDepth 100000 in
set_option maxHeartbeats 4000000 in
theorem zb_X5_above_31 {p : Program} {l : Launch} {e : Env} {R : Room} {s : State} {m : MethodId} {args : Array Value} {below : List Frame} {meth : Method} {c : Code} {G : ZG} {base z0 : Nat} {Q : Int64 → Mem → Prop} (A : ∀ d, Amb p R (s.setDrawn d) m args meth c G base z0 cX5_above yX5_above.cls 4 3 67) (hr : meth.sig.returnType = (some .long)) {d0 : Drawn} {H : Heap} {locs : List Loc} {cells slots : Nat} {ls : Array Slot} {x0 : Nat} {x3 : Int32} {M : Mem} (ho_x0 : isO M x0 5) (hd0 : s.drawn.sameBut d0 lw_cs) (hZ : ZH G true base s.heap M H locs) (hl : lv_has ls 4 [(0, .ref (base + x0)), (3, .int x3)]) (h : wp_X5_above_31 x0 x3 M Q) : W p l e R (s.setDrawn d0) m args below meth c H locs cells slots (ZEnd below G true base z0 (qL Q) args s) (F0 m 31 ls []) := by
  have hx := (A d0).1
  have hb := (A d0).2.1
  unfold wp_X5_above_31 at h
  refine lv_iload_n hx hb dX5_above_31 rfl (lv_at hl 1 rfl) ?_
  refine lv_aload_n hx hb dX5_above_32 rfl (lv_at hl 0 rfl) ?_
  refine z_get (A d0) hZ (ci := 5) (j := 26) ho_x0.1 ho_x0.2 (by decide) (by decide) k_fl_RX5_94 (v := .int (mI M x0 26)) rfl dX5_above_33 ?_
  refine lv_icmp_ge (tgt := 48) hx hb dX5_above_36 (by decide) (fun hc => ?_) (fun hc => ?_)
  · replace h := h.1 hc
    refine lv_ldc2 (v := (-9223372036854775808 : Int64)) hx hb (A d0).2.2.2.1 ((A d0).2.2.2.2.1 _ k_lc_RX5_252) dX5_above_48 ?_
    exact (zb_X5_above_51 A hr hd0 hZ (lv_sub hl [] rfl) h)
  · replace h := h.2 hc
    refine lv_aload_n hx hb dX5_above_39 rfl (lv_at hl 0 rfl) ?_
    refine z_get (A d0) hZ (ci := 5) (j := 3) ho_x0.1 ho_x0.2 (by decide) (by decide) k_fl_RX5_20 (v := .ref (base + 71)) (zv_fin (zf5 ho_x0 rfl) rfl) dX5_above_40 ?_
    refine lv_iload_n hx hb dX5_above_43 rfl (lv_at hl 1 rfl) ?_
    obtain ⟨hin, h⟩ := h
    refine z_lald (A d0) hZ (isA_c (a := 71) hZ.k0 (by decide) rfl) hin dX5_above_44 ?_
    refine lv_goto (tgt := 51) hx hb dX5_above_45 (by decide) ?_
    exact (zb_X5_above_51 A hr hd0 hZ (lv_sub hl [] rfl) h)
set_option maxRecDepth 100000 in
set_option maxHeartbeats 4000000 in
theorem c_X5_above (l : Launch) (G : ZG) (base : Nat) (M : Mem) (x0 : Nat) (x1 : Int64) (Q : Int64 → Mem → Prop) (h : wp_X5_above x0 x1 M Q) : ZMet l yX5_above cX5_above 4 (some .long) 3 67 G true base M [.ref (base + x0), .long x1] (qL Q) := by
  refine z_start (by decide) (Nat.le_of_ble_eq_true rfl) k_co_yX5_above ?_
  intro p e s m below meth c R d0 H locs cells slots ls A hr hn hd0 hZ hl
  have hx := (A d0).1
  have hb := (A d0).2.1
  have hl : lv_has ls 4 [(0, .ref (base + x0)), (1, .long x1)] := hl
  unfold wp_X5_above at h
  obtain ⟨ho_x0, h⟩ := h
  refine lv_aload_n hx hb dX5_above_0 rfl (lv_at hl 0 rfl) ?_
  refine z_callV A hd0 hZ (ci := 5) (nA := 0) (As := []) (by decide) ho_x0 (c_X5_all l G base M x0 _ h) k_ml_RX5_249 k_im_yX5_all k_se_yX5_all k_in_RX5 k_co_yX5_all (by decide +kernel) ⟨by decide, by decide⟩ rfl rfl (Nat.le_of_ble_eq_true rfl) hl dX5_above_1 (fun v M2 H locs d0 cells slots hq hd0 hZ hm => ?_)
  clear h
  obtain ⟨rfl, h⟩ := hq
  have ho_x0 := isO_le hm ho_x0
  refine lv_iconst (v := (0 : Int32)) hx hb dX5_above_4 (by decide) ?_
  refine lv_istore_n (lv' := [(3, .int (0 : Int32)), (0, .ref (base + x0)), (1, .long x1)]) hx hb dX5_above_5 rfl hl (by decide) rfl (fun ls hl2 => ?_)
  replace hl := hl2
  exact (Exists.elim h fun kk h => zb_X5_above_6 A hr kk ho_x0 hd0 hZ (lv_sub hl [1, 2, 0] rfl) h (fun ho_x0 hd0 hZ hl h => (zb_X5_above_31 A hr ho_x0 hd0 hZ hl h)))
/-! cX5_between -/
set_option maxRecDepth 100000 in
set_option maxHeartbeats 4000000 in
theorem zb_X5_between_25 {p : Program} {l : Launch} {e : Env} {R : Room} {s : State} {m : MethodId} {args : Array Value} {below : List Frame} {meth : Method} {c : Code} {G : ZG} {base z0 : Nat} {Q : Int32 → Mem → Prop} (A : ∀ d, Amb p R (s.setDrawn d) m args meth c G base z0 cX5_between yX5_between.cls 5 4 90) (hr : meth.sig.returnType = (some .int)) {d0 : Drawn} {H : Heap} {locs : List Loc} {cells slots : Nat} {ls : Array Slot}  {M : Mem} (hd0 : s.drawn.sameBut d0 lw_cs) (hZ : ZH G true base s.heap M H locs) (hl : lv_has ls 5 []) (h : wp_X5_between_25 M Q) : W p l e R (s.setDrawn d0) m args below meth c H locs cells slots (ZEnd below G true base z0 (qI Q) args s) (F0 m 25 ls []) := by
  have hx := (A d0).1
  have hb := (A d0).2.1
  unfold wp_X5_between_25 at h
  refine lv_bipush (v := (-2 : Int32)) hx hb dX5_between_25 (by decide) ?_
  exact z_iret A hd0 hZ hr ⟨_, rfl, h⟩ dX5_between_27
set_option maxRecDepth 100000 in
set_option maxHeartbeats 4000000 in
theorem zb_X5_between_49 {p : Program} {l : Launch} {e : Env} {R : Room} {s : State} {m : MethodId} {args : Array Value} {below : List Frame} {meth : Method} {c : Code} {G : ZG} {base z0 : Nat} {Q : Int32 → Mem → Prop} (A : ∀ d, Amb p R (s.setDrawn d) m args meth c G base z0 cX5_between yX5_between.cls 5 4 90) (hr : meth.sig.returnType = (some .int)) {d0 : Drawn} {H : Heap} {locs : List Loc} {cells slots : Nat} {ls : Array Slot} {t0 : Int32} {M : Mem} (hd0 : s.drawn.sameBut d0 lw_cs) (hZ : ZH G true base s.heap M H locs) (hl : lv_has ls 5 []) (h : wp_X5_between_49 t0 M Q) : W p l e R (s.setDrawn d0) m args below meth c H locs cells slots (ZEnd below G true base z0 (qI Q) args s) (F0 m 49 ls [.int t0]) := by
  have hx := (A d0).1
  have hb := (A d0).2.1
  unfold wp_X5_between_49 at h
  exact z_iret A hd0 hZ hr ⟨_, rfl, h⟩ dX5_between_49
set_option maxRecDepth 100000 in
set_option maxHeartbeats 4000000 in
theorem c_X5_between (l : Launch) (G : ZG) (base : Nat) (M : Mem) (x0 : Nat) (x1 : Int64) (x3 : Int64) (Q : Int32 → Mem → Prop) (h : wp_X5_between x0 x1 x3 M Q) : ZMet l yX5_between cX5_between 5 (some .int) 4 90 G true base M [.ref (base + x0), .long x1, .long x3] (qI Q) := by
  refine z_start (by decide) (Nat.le_of_ble_eq_true rfl) k_co_yX5_between ?_
  intro p e s m below meth c R d0 H locs cells slots ls A hr hn hd0 hZ hl
  have hx := (A d0).1
  have hb := (A d0).2.1
  have hl : lv_has ls 5 [(0, .ref (base + x0)), (1, .long x1), (3, .long x3)] := hl
  unfold wp_X5_between at h
  obtain ⟨ho_x0, h⟩ := h
  refine lv_aload_n hx hb dX5_between_0 rfl (lv_at hl 0 rfl) ?_
  refine z_get (A d0) hZ (ci := 5) (j := 23) ho_x0.1 ho_x0.2 (by decide) (by decide) k_fl_RX5_84 (v := .int (mI M x0 23)) rfl dX5_between_1 ?_
  refine lv_if_ne (tgt := 9) hx hb dX5_between_4 (by decide) (fun hc => ?_) (fun hc => ?_)
  · replace h := h.1 hc
    refine lv_aload_n hx hb dX5_between_9 rfl (lv_at hl 0 rfl) ?_
    refine lv_lload_n hx hb dX5_between_10 rfl (lv_at hl 1 rfl) ?_
    refine z_callV A hd0 hZ (ci := 5) (nA := 1) (As := [.long x1]) (by decide) ho_x0 (c_X5_isKey l G base M x0 x1 _ h) k_ml_RX5_162 k_im_yX5_isKey k_se_yX5_isKey k_in_RX5 k_co_yX5_isKey (by decide +kernel) ⟨by decide, by decide⟩ rfl rfl (Nat.le_of_ble_eq_true rfl) hl dX5_between_11 (fun v M1 H locs d0 cells slots hq hd0 hZ hm => ?_)
    clear h
    obtain ⟨i2, rfl, h⟩ := hq
    have ho_x0 := isO_le hm ho_x0
    refine lv_if_eq (tgt := 25) hx hb dX5_between_14 (by decide) (fun hc => ?_) (fun hc => ?_)
    · replace h := h.1 hc
      exact (zb_X5_between_25 A hr hd0 hZ (lv_sub hl [] rfl) h)
    · replace h := h.2 hc
      refine lv_aload_n hx hb dX5_between_17 rfl (lv_at hl 0 rfl) ?_
      refine lv_lload_n hx hb dX5_between_18 rfl (lv_at hl 2 rfl) ?_
      refine z_callV A hd0 hZ (ci := 5) (nA := 1) (As := [.long x3]) (by decide) ho_x0 (c_X5_isKey l G base M1 x0 x3 _ h) k_ml_RX5_162 k_im_yX5_isKey k_se_yX5_isKey k_in_RX5 k_co_yX5_isKey (by decide +kernel) ⟨by decide, by decide⟩ rfl rfl (Nat.le_of_ble_eq_true rfl) hl dX5_between_19 (fun v M3 H locs d0 cells slots hq hd0 hZ hm => ?_)
      clear h
      obtain ⟨i4, rfl, h⟩ := hq
      have ho_x0 := isO_le hm ho_x0
      refine lv_if_ne (tgt := 28) hx hb dX5_between_22 (by decide) (fun hc => ?_) (fun hc => ?_)
      · replace h := h.1 hc
        refine lv_lload_n hx hb dX5_between_28 rfl (lv_at hl 2 rfl) ?_
        refine lv_lload_n hx hb dX5_between_29 rfl (lv_at hl 1 rfl) ?_
        refine z_lc_gt (tgt := 38) hx hb dX5_between_30 dX5_between_31 (by decide) (fun hc => ?_) (fun hc => ?_)
        · replace h := h.1 hc
          refine lv_aload_n hx hb dX5_between_38 rfl (lv_at hl 0 rfl) ?_
          refine lv_lload_n hx hb dX5_between_39 rfl (lv_at hl 2 rfl) ?_
          refine z_callV A hd0 hZ (ci := 5) (nA := 1) (As := [.long x3]) (by decide) ho_x0 (c_X5_ahead l G base M3 x0 x3 _ h) k_ml_RX5_254 k_im_yX5_ahead k_se_yX5_ahead k_in_RX5 k_co_yX5_ahead (by decide +kernel) ⟨by decide, by decide⟩ rfl rfl (Nat.le_of_ble_eq_true rfl) hl dX5_between_40 (fun v M5 H locs d0 cells slots hq hd0 hZ hm => ?_)
          clear h
          obtain ⟨i6, rfl, h⟩ := hq
          have ho_x0 := isO_le hm ho_x0
          refine lv_aload_n hx hb dX5_between_43 rfl (lv_at hl 0 rfl) ?_
          refine lv_lload_n hx hb dX5_between_44 rfl (lv_at hl 1 rfl) ?_
          refine z_callV A hd0 hZ (ci := 5) (nA := 1) (As := [.long x1]) (by decide) ho_x0 (c_X5_ahead l G base M5 x0 x1 _ h) k_ml_RX5_254 k_im_yX5_ahead k_se_yX5_ahead k_in_RX5 k_co_yX5_ahead (by decide +kernel) ⟨by decide, by decide⟩ rfl rfl (Nat.le_of_ble_eq_true rfl) hl dX5_between_45 (fun v M7 H locs d0 cells slots hq hd0 hZ hm => ?_)
          clear h
          obtain ⟨i8, rfl, h⟩ := hq
          have ho_x0 := isO_le hm ho_x0
          refine lv_isub hx hb dX5_between_48 ?_
          exact (zb_X5_between_49 A hr hd0 hZ (lv_sub hl [] rfl) h)
        · replace h := h.2 hc
          refine lv_iconst (v := (0 : Int32)) hx hb dX5_between_34 (by decide) ?_
          refine lv_goto (tgt := 49) hx hb dX5_between_35 (by decide) ?_
          exact (zb_X5_between_49 A hr hd0 hZ (lv_sub hl [] rfl) h)
      · replace h := h.2 hc
        exact (zb_X5_between_25 A hr hd0 hZ (lv_sub hl [] rfl) h)
  · replace h := h.2 hc
    refine lv_iconst (v := (-1 : Int32)) hx hb dX5_between_7 (by decide) ?_
    exact z_iret A hd0 hZ hr ⟨_, rfl, h⟩ dX5_between_8
/-! cX5_layers -/
set_option maxRecDepth 100000 in
set_option maxHeartbeats 4000000 in
theorem zb_X5_layers_15 {p : Program} {l : Launch} {e : Env} {R : Room} {s : State} {m : MethodId} {args : Array Value} {below : List Frame} {meth : Method} {c : Code} {G : ZG} {base z0 : Nat} {Q : Int32 → Mem → Prop} (A : ∀ d, Amb p R (s.setDrawn d) m args meth c G base z0 cX5_layers yX5_layers.cls 1 0 0) (hr : meth.sig.returnType = (some .int)) {d0 : Drawn} {H : Heap} {locs : List Loc} {cells slots : Nat} {ls : Array Slot} {t0 : Int32} {M : Mem} (hd0 : s.drawn.sameBut d0 lw_cs) (hZ : ZH G true base s.heap M H locs) (hl : lv_has ls 1 []) (h : wp_X5_layers_15 t0 M Q) : W p l e R (s.setDrawn d0) m args below meth c H locs cells slots (ZEnd below G true base z0 (qI Q) args s) (F0 m 15 ls [.int t0]) := by
  have hx := (A d0).1
  have hb := (A d0).2.1
  unfold wp_X5_layers_15 at h
  exact z_iret A hd0 hZ hr ⟨_, rfl, h⟩ dX5_layers_15
set_option maxRecDepth 100000 in
set_option maxHeartbeats 4000000 in
theorem c_X5_layers (l : Launch) (G : ZG) (base : Nat) (M : Mem) (x0 : Nat) (Q : Int32 → Mem → Prop) (h : wp_X5_layers x0 M Q) : ZMet l yX5_layers cX5_layers 1 (some .int) 0 0 G true base M [.ref (base + x0)] (qI Q) := by
  refine z_start (by decide) (Nat.le_of_ble_eq_true rfl) k_co_yX5_layers ?_
  intro p e s m below meth c R d0 H locs cells slots ls A hr hn hd0 hZ hl
  have hx := (A d0).1
  have hb := (A d0).2.1
  have hl : lv_has ls 1 [(0, .ref (base + x0))] := hl
  unfold wp_X5_layers at h
  obtain ⟨ho_x0, h⟩ := h
  refine lv_aload_n hx hb dX5_layers_0 rfl (lv_at hl 0 rfl) ?_
  refine z_get (A d0) hZ (ci := 5) (j := 23) ho_x0.1 ho_x0.2 (by decide) (by decide) k_fl_RX5_84 (v := .int (mI M x0 23)) rfl dX5_layers_1 ?_
  refine lv_if_eq (tgt := 14) hx hb dX5_layers_4 (by decide) (fun hc => ?_) (fun hc => ?_)
  · replace h := h.1 hc
    refine lv_iconst (v := (-1 : Int32)) hx hb dX5_layers_14 (by decide) ?_
    exact (zb_X5_layers_15 A hr hd0 hZ (lv_sub hl [] rfl) h)
  · replace h := h.2 hc
    refine lv_aload_n hx hb dX5_layers_7 rfl (lv_at hl 0 rfl) ?_
    refine z_get (A d0) hZ (ci := 5) (j := 9) ho_x0.1 ho_x0.2 (by decide) (by decide) k_fl_RX5_39 (v := .int (mI M x0 9)) rfl dX5_layers_8 ?_
    refine lv_goto (tgt := 15) hx hb dX5_layers_11 (by decide) ?_
    exact (zb_X5_layers_15 A hr hd0 hZ (lv_sub hl [] rfl) h)
/-! cX5_pieces_ -/
set_option maxRecDepth 100000 in
set_option maxHeartbeats 4000000 in
theorem zb_X5_pieces__41 {p : Program} {l : Launch} {e : Env} {R : Room} {s : State} {m : MethodId} {args : Array Value} {below : List Frame} {meth : Method} {c : Code} {G : ZG} {base z0 : Nat} {Q : Int32 → Mem → Prop} (A : ∀ d, Amb p R (s.setDrawn d) m args meth c G base z0 cX5_pieces_ yX5_pieces_.cls 2 0 0) (hr : meth.sig.returnType = (some .int)) {d0 : Drawn} {H : Heap} {locs : List Loc} {cells slots : Nat} {ls : Array Slot} {t0 : Int32} {M : Mem} (hd0 : s.drawn.sameBut d0 lw_cs) (hZ : ZH G true base s.heap M H locs) (hl : lv_has ls 2 []) (h : wp_X5_pieces__41 t0 M Q) : W p l e R (s.setDrawn d0) m args below meth c H locs cells slots (ZEnd below G true base z0 (qI Q) args s) (F0 m 41 ls [.int t0]) := by
  have hx := (A d0).1
  have hb := (A d0).2.1
  unfold wp_X5_pieces__41 at h
  exact z_iret A hd0 hZ hr ⟨_, rfl, h⟩ dX5_pieces__41
set_option maxRecDepth 100000 in
set_option maxHeartbeats 4000000 in
theorem zb_X5_pieces__20 {p : Program} {l : Launch} {e : Env} {R : Room} {s : State} {m : MethodId} {args : Array Value} {below : List Frame} {meth : Method} {c : Code} {G : ZG} {base z0 : Nat} {Q : Int32 → Mem → Prop} (A : ∀ d, Amb p R (s.setDrawn d) m args meth c G base z0 cX5_pieces_ yX5_pieces_.cls 2 0 0) (hr : meth.sig.returnType = (some .int)) {d0 : Drawn} {H : Heap} {locs : List Loc} {cells slots : Nat} {ls : Array Slot}  {M : Mem} (hd0 : s.drawn.sameBut d0 lw_cs) (hZ : ZH G true base s.heap M H locs) (hl : lv_has ls 2 []) (h : wp_X5_pieces__20 M Q) : W p l e R (s.setDrawn d0) m args below meth c H locs cells slots (ZEnd below G true base z0 (qI Q) args s) (F0 m 20 ls []) := by
  have hx := (A d0).1
  have hb := (A d0).2.1
  unfold wp_X5_pieces__20 at h
  refine lv_iconst (v := (-1 : Int32)) hx hb dX5_pieces__20 (by decide) ?_
  refine lv_goto (tgt := 41) hx hb dX5_pieces__21 (by decide) ?_
  exact (zb_X5_pieces__41 A hr hd0 hZ (lv_sub hl [] rfl) h)
set_option maxRecDepth 100000 in
set_option maxHeartbeats 4000000 in
theorem c_X5_pieces_ (l : Launch) (G : ZG) (base : Nat) (M : Mem) (x0 : Nat) (x1 : Int32) (Q : Int32 → Mem → Prop) (h : wp_X5_pieces_ x0 x1 M Q) : ZMet l yX5_pieces_ cX5_pieces_ 2 (some .int) 0 0 G true base M [.ref (base + x0), .int x1] (qI Q) := by
  refine z_start (by decide) (Nat.le_of_ble_eq_true rfl) k_co_yX5_pieces_ ?_
  intro p e s m below meth c R d0 H locs cells slots ls A hr hn hd0 hZ hl
  have hx := (A d0).1
  have hb := (A d0).2.1
  have hl : lv_has ls 2 [(0, .ref (base + x0)), (1, .int x1)] := hl
  unfold wp_X5_pieces_ at h
  obtain ⟨ho_x0, h⟩ := h
  refine lv_aload_n hx hb dX5_pieces__0 rfl (lv_at hl 0 rfl) ?_
  refine z_get (A d0) hZ (ci := 5) (j := 23) ho_x0.1 ho_x0.2 (by decide) (by decide) k_fl_RX5_84 (v := .int (mI M x0 23)) rfl dX5_pieces__1 ?_
  refine lv_if_eq (tgt := 20) hx hb dX5_pieces__4 (by decide) (fun hc => ?_) (fun hc => ?_)
  · replace h := h.1 hc
    exact (zb_X5_pieces__20 A hr hd0 hZ (lv_sub hl [] rfl) h)
  · replace h := h.2 hc
    refine lv_iload_n hx hb dX5_pieces__7 rfl (lv_at hl 1 rfl) ?_
    refine lv_iconst (v := (-1 : Int32)) hx hb dX5_pieces__8 (by decide) ?_
    refine lv_icmp_lt (tgt := 20) hx hb dX5_pieces__9 (by decide) (fun hc => ?_) (fun hc => ?_)
    · replace h := h.1 hc
      exact (zb_X5_pieces__20 A hr hd0 hZ (lv_sub hl [] rfl) h)
    · replace h := h.2 hc
      refine lv_iload_n hx hb dX5_pieces__12 rfl (lv_at hl 1 rfl) ?_
      refine lv_aload_n hx hb dX5_pieces__13 rfl (lv_at hl 0 rfl) ?_
      refine z_get (A d0) hZ (ci := 5) (j := 9) ho_x0.1 ho_x0.2 (by decide) (by decide) k_fl_RX5_39 (v := .int (mI M x0 9)) rfl dX5_pieces__14 ?_
      refine lv_icmp_lt (tgt := 24) hx hb dX5_pieces__17 (by decide) (fun hc => ?_) (fun hc => ?_)
      · replace h := h.1 hc
        refine lv_aload_n hx hb dX5_pieces__24 rfl (lv_at hl 0 rfl) ?_
        refine z_get (A d0) hZ (ci := 5) (j := 11) ho_x0.1 ho_x0.2 (by decide) (by decide) k_fl_RX5_46 (v := .ref (base + 73)) (zv_fin (zf5 ho_x0 rfl) rfl) dX5_pieces__25 ?_
        refine lv_iload_n hx hb dX5_pieces__28 rfl (lv_at hl 1 rfl) ?_
        refine lv_iconst (v := (1 : Int32)) hx hb dX5_pieces__29 (by decide) ?_
        refine lv_iadd hx hb dX5_pieces__30 ?_
        obtain ⟨hin, h⟩ := h
        refine z_iald (A d0) hZ (isA_c (a := 73) hZ.k0 (by decide) rfl) hin dX5_pieces__31 ?_
        refine lv_aload_n hx hb dX5_pieces__32 rfl (lv_at hl 0 rfl) ?_
        refine z_get (A d0) hZ (ci := 5) (j := 10) ho_x0.1 ho_x0.2 (by decide) (by decide) k_fl_RX5_42 (v := .ref (base + 72)) (zv_fin (zf5 ho_x0 rfl) rfl) dX5_pieces__33 ?_
        refine lv_iload_n hx hb dX5_pieces__36 rfl (lv_at hl 1 rfl) ?_
        refine lv_iconst (v := (1 : Int32)) hx hb dX5_pieces__37 (by decide) ?_
        refine lv_iadd hx hb dX5_pieces__38 ?_
        obtain ⟨hin, h⟩ := h
        refine z_iald (A d0) hZ (isA_c (a := 72) hZ.k0 (by decide) rfl) hin dX5_pieces__39 ?_
        refine lv_isub hx hb dX5_pieces__40 ?_
        exact (zb_X5_pieces__41 A hr hd0 hZ (lv_sub hl [] rfl) h)
      · replace h := h.2 hc
        exact (zb_X5_pieces__20 A hr hd0 hZ (lv_sub hl [] rfl) h)
/-! cX5_pieceOf -/
set_option maxRecDepth 100000 in
set_option maxHeartbeats 4000000 in
theorem zb_X5_pieceOf_45 {p : Program} {l : Launch} {e : Env} {R : Room} {s : State} {m : MethodId} {args : Array Value} {below : List Frame} {meth : Method} {c : Code} {G : ZG} {base z0 : Nat} {Q : Int32 → Mem → Prop} (A : ∀ d, Amb p R (s.setDrawn d) m args meth c G base z0 cX5_pieceOf yX5_pieceOf.cls 3 0 0) (hr : meth.sig.returnType = (some .int)) {d0 : Drawn} {H : Heap} {locs : List Loc} {cells slots : Nat} {ls : Array Slot}  {M : Mem} (hd0 : s.drawn.sameBut d0 lw_cs) (hZ : ZH G true base s.heap M H locs) (hl : lv_has ls 3 []) (h : wp_X5_pieceOf_45 M Q) : W p l e R (s.setDrawn d0) m args below meth c H locs cells slots (ZEnd below G true base z0 (qI Q) args s) (F0 m 45 ls []) := by
  have hx := (A d0).1
  have hb := (A d0).2.1
  unfold wp_X5_pieceOf_45 at h
  refine lv_iconst (v := (-1 : Int32)) hx hb dX5_pieceOf_45 (by decide) ?_
  exact z_iret A hd0 hZ hr ⟨_, rfl, h⟩ dX5_pieceOf_46
set_option maxRecDepth 100000 in
set_option maxHeartbeats 4000000 in
theorem c_X5_pieceOf (l : Launch) (G : ZG) (base : Nat) (M : Mem) (x0 : Nat) (x1 : Int32) (x2 : Int32) (Q : Int32 → Mem → Prop) (h : wp_X5_pieceOf x0 x1 x2 M Q) : ZMet l yX5_pieceOf cX5_pieceOf 3 (some .int) 0 0 G true base M [.ref (base + x0), .int x1, .int x2] (qI Q) := by
  refine z_start (by decide) (Nat.le_of_ble_eq_true rfl) k_co_yX5_pieceOf ?_
  intro p e s m below meth c R d0 H locs cells slots ls A hr hn hd0 hZ hl
  have hx := (A d0).1
  have hb := (A d0).2.1
  have hl : lv_has ls 3 [(0, .ref (base + x0)), (1, .int x1), (2, .int x2)] := hl
  unfold wp_X5_pieceOf at h
  obtain ⟨ho_x0, h⟩ := h
  refine lv_aload_n hx hb dX5_pieceOf_0 rfl (lv_at hl 0 rfl) ?_
  refine z_get (A d0) hZ (ci := 5) (j := 23) ho_x0.1 ho_x0.2 (by decide) (by decide) k_fl_RX5_84 (v := .int (mI M x0 23)) rfl dX5_pieceOf_1 ?_
  refine lv_if_eq (tgt := 45) hx hb dX5_pieceOf_4 (by decide) (fun hc => ?_) (fun hc => ?_)
  · replace h := h.1 hc
    exact (zb_X5_pieceOf_45 A hr hd0 hZ (lv_sub hl [] rfl) h)
  · replace h := h.2 hc
    refine lv_iload_n hx hb dX5_pieceOf_7 rfl (lv_at hl 1 rfl) ?_
    refine lv_iconst (v := (-1 : Int32)) hx hb dX5_pieceOf_8 (by decide) ?_
    refine lv_icmp_lt (tgt := 45) hx hb dX5_pieceOf_9 (by decide) (fun hc => ?_) (fun hc => ?_)
    · replace h := h.1 hc
      exact (zb_X5_pieceOf_45 A hr hd0 hZ (lv_sub hl [] rfl) h)
    · replace h := h.2 hc
      refine lv_iload_n hx hb dX5_pieceOf_12 rfl (lv_at hl 1 rfl) ?_
      refine lv_aload_n hx hb dX5_pieceOf_13 rfl (lv_at hl 0 rfl) ?_
      refine z_get (A d0) hZ (ci := 5) (j := 9) ho_x0.1 ho_x0.2 (by decide) (by decide) k_fl_RX5_39 (v := .int (mI M x0 9)) rfl dX5_pieceOf_14 ?_
      refine lv_icmp_ge (tgt := 45) hx hb dX5_pieceOf_17 (by decide) (fun hc => ?_) (fun hc => ?_)
      · replace h := h.1 hc
        exact (zb_X5_pieceOf_45 A hr hd0 hZ (lv_sub hl [] rfl) h)
      · replace h := h.2 hc
        refine lv_iload_n hx hb dX5_pieceOf_20 rfl (lv_at hl 2 rfl) ?_
        refine lv_if_lt (tgt := 45) hx hb dX5_pieceOf_21 (by decide) (fun hc => ?_) (fun hc => ?_)
        · replace h := h.1 hc
          exact (zb_X5_pieceOf_45 A hr hd0 hZ (lv_sub hl [] rfl) h)
        · replace h := h.2 hc
          refine lv_iload_n hx hb dX5_pieceOf_24 rfl (lv_at hl 2 rfl) ?_
          refine lv_aload_n hx hb dX5_pieceOf_25 rfl (lv_at hl 0 rfl) ?_
          refine z_get (A d0) hZ (ci := 5) (j := 11) ho_x0.1 ho_x0.2 (by decide) (by decide) k_fl_RX5_46 (v := .ref (base + 73)) (zv_fin (zf5 ho_x0 rfl) rfl) dX5_pieceOf_26 ?_
          refine lv_iload_n hx hb dX5_pieceOf_29 rfl (lv_at hl 1 rfl) ?_
          refine lv_iconst (v := (1 : Int32)) hx hb dX5_pieceOf_30 (by decide) ?_
          refine lv_iadd hx hb dX5_pieceOf_31 ?_
          obtain ⟨hin, h⟩ := h
          refine z_iald (A d0) hZ (isA_c (a := 73) hZ.k0 (by decide) rfl) hin dX5_pieceOf_32 ?_
          refine lv_aload_n hx hb dX5_pieceOf_33 rfl (lv_at hl 0 rfl) ?_
          refine z_get (A d0) hZ (ci := 5) (j := 10) ho_x0.1 ho_x0.2 (by decide) (by decide) k_fl_RX5_42 (v := .ref (base + 72)) (zv_fin (zf5 ho_x0 rfl) rfl) dX5_pieceOf_34 ?_
          refine lv_iload_n hx hb dX5_pieceOf_37 rfl (lv_at hl 1 rfl) ?_
          refine lv_iconst (v := (1 : Int32)) hx hb dX5_pieceOf_38 (by decide) ?_
          refine lv_iadd hx hb dX5_pieceOf_39 ?_
          obtain ⟨hin, h⟩ := h
          refine z_iald (A d0) hZ (isA_c (a := 72) hZ.k0 (by decide) rfl) hin dX5_pieceOf_40 ?_
          refine lv_isub hx hb dX5_pieceOf_41 ?_
          refine lv_icmp_lt (tgt := 47) hx hb dX5_pieceOf_42 (by decide) (fun hc => ?_) (fun hc => ?_)
          · replace h := h.1 hc
            refine lv_aload_n hx hb dX5_pieceOf_47 rfl (lv_at hl 0 rfl) ?_
            refine z_get (A d0) hZ (ci := 5) (j := 10) ho_x0.1 ho_x0.2 (by decide) (by decide) k_fl_RX5_42 (v := .ref (base + 72)) (zv_fin (zf5 ho_x0 rfl) rfl) dX5_pieceOf_48 ?_
            refine lv_iload_n hx hb dX5_pieceOf_51 rfl (lv_at hl 1 rfl) ?_
            refine lv_iconst (v := (1 : Int32)) hx hb dX5_pieceOf_52 (by decide) ?_
            refine lv_iadd hx hb dX5_pieceOf_53 ?_
            obtain ⟨hin, h⟩ := h
            refine z_iald (A d0) hZ (isA_c (a := 72) hZ.k0 (by decide) rfl) hin dX5_pieceOf_54 ?_
            refine lv_iload_n hx hb dX5_pieceOf_55 rfl (lv_at hl 2 rfl) ?_
            refine lv_iadd hx hb dX5_pieceOf_56 ?_
            exact z_iret A hd0 hZ hr ⟨_, rfl, h⟩ dX5_pieceOf_57
          · replace h := h.2 hc
            exact (zb_X5_pieceOf_45 A hr hd0 hZ (lv_sub hl [] rfl) h)
/-! cX5_piece -/
set_option maxRecDepth 100000 in
set_option maxHeartbeats 4000000 in
theorem zb_X5_piece_105 {p : Program} {l : Launch} {e : Env} {R : Room} {s : State} {m : MethodId} {args : Array Value} {below : List Frame} {meth : Method} {c : Code} {G : ZG} {base z0 : Nat} {Q : Int32 → Mem → Prop} (A : ∀ d, Amb p R (s.setDrawn d) m args meth c G base z0 cX5_piece yX5_piece.cls 7 2 52) (hr : meth.sig.returnType = (some .int)) {K75 : Nat → Int32 → Int32 → Int32 → Mem → Prop} {K114 : Int32 → Mem → Prop} {d0 : Drawn} {H : Heap} {locs : List Loc} {cells slots : Nat} {ls : Array Slot} {x0 : Nat} {x4 : Int32} {x6 : Int32} {t0 : Int32} {t1 : Int32} {M : Mem} (ho_x0 : isO M x0 5) (hd0 : s.drawn.sameBut d0 lw_cs) (hZ : ZH G true base s.heap M H locs) (hl : lv_has ls 7 [(0, .ref (base + x0)), (4, .int x4), (6, .int x6)]) (h : wp_X5_piece_105 x0 x4 x6 t0 t1 M Q K75 K114) (hK75 : ∀ {d0 : Drawn} {H : Heap} {locs : List Loc} {cells slots : Nat} {ls : Array Slot} {x0 : Nat} {x4 : Int32} {x5 : Int32} {x6 : Int32} {M : Mem} (ho_x0 : isO M x0 5), s.drawn.sameBut d0 lw_cs → ZH G true base s.heap M H locs → lv_has ls 7 [(0, .ref (base + x0)), (4, .int x4), (5, .int x5), (6, .int x6)] → K75 x0 x4 x5 x6 M → W p l e R (s.setDrawn d0) m args below meth c H locs cells slots (ZEnd below G true base z0 (qI Q) args s) (F0 m 75 ls [])) (hK114 : ∀ {d0 : Drawn} {H : Heap} {locs : List Loc} {cells slots : Nat} {ls : Array Slot} {x5 : Int32} {M : Mem}, s.drawn.sameBut d0 lw_cs → ZH G true base s.heap M H locs → lv_has ls 7 [(5, .int x5)] → K114 x5 M → W p l e R (s.setDrawn d0) m args below meth c H locs cells slots (ZEnd below G true base z0 (qI Q) args s) (F0 m 114 ls [])) : W p l e R (s.setDrawn d0) m args below meth c H locs cells slots (ZEnd below G true base z0 (qI Q) args s) (F0 m 105 ls [.int t0, .int t1]) := by
  have hx := (A d0).1
  have hb := (A d0).2.1
  unfold wp_X5_piece_105 at h
  refine lv_iadd hx hb dX5_piece_105 ?_
  obtain ⟨i3, ei3⟩ : ∃ y : Int32, y = t1 + t0 := ⟨_, rfl⟩
  rw [← ei3]
  replace h := h i3 ei3
  refine lv_istore (lv' := [(5, .int i3), (0, .ref (base + x0)), (4, .int x4), (6, .int x6)]) hx hb dX5_piece_106 hl (by decide) rfl (fun ls hl2 => ?_)
  replace hl := hl2
  obtain ⟨i4, ei4⟩ : ∃ y : Int32, y = x6 + (1 : Int32) := ⟨_, rfl⟩
  replace h := h i4 ei4
  refine lv_iinc (v := i4) (lv' := [(6, .int i4), (5, .int i3), (0, .ref (base + x0)), (4, .int x4)]) hx hb dX5_piece_108 hl (k := 3) rfl (by rw [ei4]; rfl) (by decide) rfl (fun ls hl2 => ?_)
  replace hl := hl2
  refine lv_goto (tgt := 75) hx hb dX5_piece_111 (by decide) ?_
  exact hK75 ho_x0 hd0 hZ (lv_sub hl [2, 3, 1, 0] rfl) h
set_option maxRecDepth 100000 in
set_option maxHeartbeats 4000000 in
theorem zb_X5_piece_114 {p : Program} {l : Launch} {e : Env} {R : Room} {s : State} {m : MethodId} {args : Array Value} {below : List Frame} {meth : Method} {c : Code} {G : ZG} {base z0 : Nat} {Q : Int32 → Mem → Prop} (A : ∀ d, Amb p R (s.setDrawn d) m args meth c G base z0 cX5_piece yX5_piece.cls 7 2 52) (hr : meth.sig.returnType = (some .int)) {d0 : Drawn} {H : Heap} {locs : List Loc} {cells slots : Nat} {ls : Array Slot} {x5 : Int32} {M : Mem} (hd0 : s.drawn.sameBut d0 lw_cs) (hZ : ZH G true base s.heap M H locs) (hl : lv_has ls 7 [(5, .int x5)]) (h : wp_X5_piece_114 x5 M Q) : W p l e R (s.setDrawn d0) m args below meth c H locs cells slots (ZEnd below G true base z0 (qI Q) args s) (F0 m 114 ls []) := by
  have hx := (A d0).1
  have hb := (A d0).2.1
  unfold wp_X5_piece_114 at h
  refine lv_iload hx hb dX5_piece_114 (lv_at hl 0 rfl) ?_
  exact z_iret A hd0 hZ hr ⟨_, rfl, h⟩ dX5_piece_116
set_option maxRecDepth 100000 in
set_option maxHeartbeats 4000000 in
theorem zb_X5_piece_75 {p : Program} {l : Launch} {e : Env} {R : Room} {s : State} {m : MethodId} {args : Array Value} {below : List Frame} {meth : Method} {c : Code} {G : ZG} {base z0 : Nat} {Q : Int32 → Mem → Prop} (A : ∀ d, Amb p R (s.setDrawn d) m args meth c G base z0 cX5_piece yX5_piece.cls 7 2 52) (hr : meth.sig.returnType = (some .int)) {K114 : Int32 → Mem → Prop} :
  ∀ (n : Nat) {d0 : Drawn} {H : Heap} {locs : List Loc} {cells slots : Nat} {ls : Array Slot} {x0 : Nat} {x4 : Int32} {x5 : Int32} {x6 : Int32} {M : Mem} (ho_x0 : isO M x0 5) (hd0 : s.drawn.sameBut d0 lw_cs) (hZ : ZH G true base s.heap M H locs) (hl : lv_has ls 7 [(0, .ref (base + x0)), (4, .int x4), (5, .int x5), (6, .int x6)]) (h : wp_X5_piece_75 n x0 x4 x5 x6 M Q K114) (hK114 : ∀ {d0 : Drawn} {H : Heap} {locs : List Loc} {cells slots : Nat} {ls : Array Slot} {x5 : Int32} {M : Mem}, s.drawn.sameBut d0 lw_cs → ZH G true base s.heap M H locs → lv_has ls 7 [(5, .int x5)] → K114 x5 M → W p l e R (s.setDrawn d0) m args below meth c H locs cells slots (ZEnd below G true base z0 (qI Q) args s) (F0 m 114 ls [])), W p l e R (s.setDrawn d0) m args below meth c H locs cells slots (ZEnd below G true base z0 (qI Q) args s) (F0 m 75 ls []) := by
  have hx := (A default).1
  have hb := (A default).2.1
  intro n
  induction n with
  | zero => intro d0 H locs cells slots ls x0 x4 x5 x6 M ho_x0 hd0 hZ hl h hK114; exact h.elim
  | succ n ih =>
    intro d0 H locs cells slots ls x0 x4 x5 x6 M ho_x0 hd0 hZ hl h hK114
    unfold wp_X5_piece_75 at h
    refine lv_iload hx hb dX5_piece_75 (lv_at hl 3 rfl) ?_
    refine lv_aload_n hx hb dX5_piece_77 rfl (lv_at hl 0 rfl) ?_
    refine z_get (A d0) hZ (ci := 5) (j := 14) ho_x0.1 ho_x0.2 (by decide) (by decide) k_fl_RX5_55 (v := .ref (base + 76)) (zv_fin (zf5 ho_x0 rfl) rfl) dX5_piece_78 ?_
    refine lv_iload hx hb dX5_piece_81 (lv_at hl 1 rfl) ?_
    obtain ⟨hin, h⟩ := h
    refine z_iald (A d0) hZ (isA_c (a := 76) hZ.k0 (by decide) rfl) hin dX5_piece_83 ?_
    refine lv_icmp_ge (tgt := 114) hx hb dX5_piece_84 (by decide) (fun hc => ?_) (fun hc => ?_)
    · replace h := h.1 hc
      exact hK114 hd0 hZ (lv_sub hl [2] rfl) h
    · replace h := h.2 hc
      refine lv_iload hx hb dX5_piece_87 (lv_at hl 2 rfl) ?_
      refine lv_aload_n hx hb dX5_piece_89 rfl (lv_at hl 0 rfl) ?_
      refine lv_iload hx hb dX5_piece_90 (lv_at hl 1 rfl) ?_
      refine lv_iload hx hb dX5_piece_92 (lv_at hl 3 rfl) ?_
      refine z_callV A hd0 hZ (ci := 5) (nA := 2) (As := [.int x4, .int x6]) (by decide) ho_x0 (c_X5_isThere l G base M x0 x4 x6 _ h) k_ml_RX5_209 k_im_yX5_isThere k_se_yX5_isThere k_in_RX5 k_co_yX5_isThere (by decide +kernel) ⟨by decide, by decide⟩ rfl rfl (Nat.le_of_ble_eq_true rfl) hl dX5_piece_94 (fun v M1 H locs d0 cells slots hq hd0 hZ hm => ?_)
      clear h
      obtain ⟨i2, rfl, h⟩ := hq
      have ho_x0 := isO_le hm ho_x0
      refine lv_if_eq (tgt := 104) hx hb dX5_piece_97 (by decide) (fun hc => ?_) (fun hc => ?_)
      · replace h := h.1 hc
        refine lv_iconst (v := (1 : Int32)) hx hb dX5_piece_104 (by decide) ?_
        exact (zb_X5_piece_105 A hr ho_x0 hd0 hZ (lv_sub hl [0, 1, 3] rfl) h (fun ho_x0 hd0 hZ hl h => ih ho_x0 hd0 hZ hl h hK114) hK114)
      · replace h := h.2 hc
        refine lv_iconst (v := (0 : Int32)) hx hb dX5_piece_100 (by decide) ?_
        refine lv_goto (tgt := 105) hx hb dX5_piece_101 (by decide) ?_
        exact (zb_X5_piece_105 A hr ho_x0 hd0 hZ (lv_sub hl [0, 1, 3] rfl) h (fun ho_x0 hd0 hZ hl h => ih ho_x0 hd0 hZ hl h hK114) hK114)
set_option maxRecDepth 100000 in
set_option maxHeartbeats 4000000 in
theorem c_X5_piece (l : Launch) (G : ZG) (base : Nat) (M : Mem) (x0 : Nat) (x1 : Int32) (x2 : Int32) (x3 : Int32) (Q : Int32 → Mem → Prop) (h : wp_X5_piece x0 x1 x2 x3 M Q) : ZMet l yX5_piece cX5_piece 7 (some .int) 2 52 G true base M [.ref (base + x0), .int x1, .int x2, .int x3] (qI Q) := by
  refine z_start (by decide) (Nat.le_of_ble_eq_true rfl) k_co_yX5_piece ?_
  intro p e s m below meth c R d0 H locs cells slots ls A hr hn hd0 hZ hl
  have hx := (A d0).1
  have hb := (A d0).2.1
  have hl : lv_has ls 7 [(0, .ref (base + x0)), (1, .int x1), (2, .int x2), (3, .int x3)] := hl
  unfold wp_X5_piece at h
  obtain ⟨ho_x0, h⟩ := h
  refine lv_aload_n hx hb dX5_piece_0 rfl (lv_at hl 0 rfl) ?_
  refine lv_iload_n hx hb dX5_piece_1 rfl (lv_at hl 1 rfl) ?_
  refine lv_iload_n hx hb dX5_piece_2 rfl (lv_at hl 2 rfl) ?_
  refine z_callV A hd0 hZ (ci := 5) (nA := 2) (As := [.int x1, .int x2]) (by decide) ho_x0 (c_X5_pieceOf l G base M x0 x1 x2 _ h) k_ml_RX5_258 k_im_yX5_pieceOf k_se_yX5_pieceOf k_in_RX5 k_co_yX5_pieceOf (by decide +kernel) ⟨by decide, by decide⟩ rfl rfl (Nat.le_of_ble_eq_true rfl) hl dX5_piece_3 (fun v M5 H locs d0 cells slots hq hd0 hZ hm => ?_)
  clear h
  obtain ⟨i6, rfl, h⟩ := hq
  have ho_x0 := isO_le hm ho_x0
  refine lv_istore (lv' := [(4, .int i6), (0, .ref (base + x0)), (1, .int x1), (2, .int x2), (3, .int x3)]) hx hb dX5_piece_6 hl (by decide) rfl (fun ls hl2 => ?_)
  replace hl := hl2
  refine lv_iload hx hb dX5_piece_8 (lv_at hl 0 rfl) ?_
  refine lv_if_ge (tgt := 15) hx hb dX5_piece_10 (by decide) (fun hc => ?_) (fun hc => ?_)
  · replace h := h.1 hc
    refine lv_iconst (v := (0 : Int32)) hx hb dX5_piece_15 (by decide) ?_
    refine lv_istore (lv' := [(5, .int (0 : Int32)), (4, .int i6), (0, .ref (base + x0)), (1, .int x1), (2, .int x2), (3, .int x3)]) hx hb dX5_piece_16 hl (by decide) rfl (fun ls hl2 => ?_)
    replace hl := hl2
    refine lv_iload_n hx hb dX5_piece_18 rfl (lv_at hl 5 rfl) ?_
    by_cases hc0 : x3 = 0
    · refine lv_tableIn (off := 37) (tgt := 56) hx hb dX5_piece_19 (by rw [hc0]; decide) (by rw [hc0]; decide) (by rw [hc0]; rfl) (by decide) ?_
      replace h := h.1 hc0
      refine lv_aload_n hx hb dX5_piece_56 rfl (lv_at hl 2 rfl) ?_
      refine z_get (A d0) hZ (ci := 5) (j := 12) ho_x0.1 ho_x0.2 (by decide) (by decide) k_fl_RX5_49 (v := .ref (base + 74)) (zv_fin (zf5 ho_x0 rfl) rfl) dX5_piece_57 ?_
      refine lv_iload hx hb dX5_piece_60 (lv_at hl 1 rfl) ?_
      obtain ⟨hin, h⟩ := h
      refine z_iald (A d0) hZ (isA_c (a := 74) hZ.k0 (by decide) rfl) hin dX5_piece_62 ?_
      exact z_iret A hd0 hZ hr ⟨_, rfl, h⟩ dX5_piece_63
    by_cases hc1 : x3 = 1
    · refine lv_tableIn (off := 45) (tgt := 64) hx hb dX5_piece_19 (by rw [hc1]; decide) (by rw [hc1]; decide) (by rw [hc1]; rfl) (by decide) ?_
      replace h := h.2.1 hc1
      refine lv_aload_n hx hb dX5_piece_64 rfl (lv_at hl 2 rfl) ?_
      refine z_get (A d0) hZ (ci := 5) (j := 14) ho_x0.1 ho_x0.2 (by decide) (by decide) k_fl_RX5_55 (v := .ref (base + 76)) (zv_fin (zf5 ho_x0 rfl) rfl) dX5_piece_65 ?_
      refine lv_iload hx hb dX5_piece_68 (lv_at hl 1 rfl) ?_
      obtain ⟨hin, h⟩ := h
      refine z_iald (A d0) hZ (isA_c (a := 76) hZ.k0 (by decide) rfl) hin dX5_piece_70 ?_
      exact z_iret A hd0 hZ hr ⟨_, rfl, h⟩ dX5_piece_71
    by_cases hc2 : x3 = 2
    · refine lv_tableIn (off := 53) (tgt := 72) hx hb dX5_piece_19 (by rw [hc2]; decide) (by rw [hc2]; decide) (by rw [hc2]; rfl) (by decide) ?_
      replace h := h.2.2.1 hc2
      refine lv_iconst (v := (0 : Int32)) hx hb dX5_piece_72 (by decide) ?_
      refine lv_istore (lv' := [(6, .int (0 : Int32)), (5, .int (0 : Int32)), (4, .int i6), (0, .ref (base + x0)), (1, .int x1), (2, .int x2), (3, .int x3)]) hx hb dX5_piece_73 hl (by decide) rfl (fun ls hl2 => ?_)
      replace hl := hl2
      exact (Exists.elim h fun kk h => zb_X5_piece_75 A hr kk ho_x0 hd0 hZ (lv_sub hl [3, 2, 1, 0] rfl) h (fun hd0 hZ hl h => (zb_X5_piece_114 A hr hd0 hZ hl h)))
    by_cases hc3 : x3 = 3
    · refine lv_tableIn (off := 98) (tgt := 117) hx hb dX5_piece_19 (by rw [hc3]; decide) (by rw [hc3]; decide) (by rw [hc3]; rfl) (by decide) ?_
      replace h := h.2.2.2.1 hc3
      refine lv_aload_n hx hb dX5_piece_117 rfl (lv_at hl 2 rfl) ?_
      refine z_get (A d0) hZ (ci := 5) (j := 16) ho_x0.1 ho_x0.2 (by decide) (by decide) k_fl_RX5_61 (v := .ref (base + 78)) (zv_fin (zf5 ho_x0 rfl) rfl) dX5_piece_118 ?_
      refine lv_iload hx hb dX5_piece_121 (lv_at hl 1 rfl) ?_
      obtain ⟨hin, h⟩ := h
      refine z_iald (A d0) hZ (isA_c (a := 78) hZ.k0 (by decide) rfl) hin dX5_piece_123 ?_
      exact z_iret A hd0 hZ hr ⟨_, rfl, h⟩ dX5_piece_124
    by_cases hc4 : x3 = 4
    · refine lv_tableIn (off := 106) (tgt := 125) hx hb dX5_piece_19 (by rw [hc4]; decide) (by rw [hc4]; decide) (by rw [hc4]; rfl) (by decide) ?_
      replace h := h.2.2.2.2.1 hc4
      refine lv_aload_n hx hb dX5_piece_125 rfl (lv_at hl 2 rfl) ?_
      refine z_get (A d0) hZ (ci := 5) (j := 15) ho_x0.1 ho_x0.2 (by decide) (by decide) k_fl_RX5_58 (v := .ref (base + 77)) (zv_fin (zf5 ho_x0 rfl) rfl) dX5_piece_126 ?_
      refine lv_iload hx hb dX5_piece_129 (lv_at hl 1 rfl) ?_
      obtain ⟨hin, h⟩ := h
      refine z_iald (A d0) hZ (isA_c (a := 77) hZ.k0 (by decide) rfl) hin dX5_piece_131 ?_
      exact z_iret A hd0 hZ hr ⟨_, rfl, h⟩ dX5_piece_132
    by_cases hc5 : x3 = 5
    · refine lv_tableIn (off := 114) (tgt := 133) hx hb dX5_piece_19 (by rw [hc5]; decide) (by rw [hc5]; decide) (by rw [hc5]; rfl) (by decide) ?_
      replace h := h.2.2.2.2.2.1 hc5
      refine lv_aload_n hx hb dX5_piece_133 rfl (lv_at hl 2 rfl) ?_
      refine lv_iload hx hb dX5_piece_134 (lv_at hl 1 rfl) ?_
      refine z_callV A hd0 hZ (ci := 5) (nA := 1) (As := [.int i6]) (by decide) ho_x0 (c_X5_miss l G base M5 x0 i6 _ h) k_ml_RX5_197 k_im_yX5_miss k_se_yX5_miss k_in_RX5 k_co_yX5_miss (by decide +kernel) ⟨by decide, by decide⟩ rfl rfl (Nat.le_of_ble_eq_true rfl) hl dX5_piece_136 (fun v M7 H locs d0 cells slots hq hd0 hZ hm => ?_)
      clear h
      obtain ⟨i8, rfl, h⟩ := hq
      have ho_x0 := isO_le hm ho_x0
      exact z_iret A hd0 hZ hr ⟨_, rfl, h⟩ dX5_piece_139
    have hn0 := lv_neT hc0 (show (0 : Int32).toInt = 0 from rfl)
    have hn1 := lv_neT hc1 (show (1 : Int32).toInt = 1 from rfl)
    have hn2 := lv_neT hc2 (show (2 : Int32).toInt = 2 from rfl)
    have hn3 := lv_neT hc3 (show (3 : Int32).toInt = 3 from rfl)
    have hn4 := lv_neT hc4 (show (4 : Int32).toInt = 4 from rfl)
    have hn5 := lv_neT hc5 (show (5 : Int32).toInt = 5 from rfl)
    refine lv_tableOut (tgt := 140) hx hb dX5_piece_19 (by omega) (by decide) ?_
    replace h := h.2.2.2.2.2.2 hc0 hc1 hc2 hc3 hc4 hc5
    refine lv_iconst (v := (-1 : Int32)) hx hb dX5_piece_140 (by decide) ?_
    exact z_iret A hd0 hZ hr ⟨_, rfl, h⟩ dX5_piece_141
  · replace h := h.2 hc
    refine lv_iconst (v := (-1 : Int32)) hx hb dX5_piece_13 (by decide) ?_
    exact z_iret A hd0 hZ hr ⟨_, rfl, h⟩ dX5_piece_14
/-! cX5_line -/
set_option maxRecDepth 100000 in
set_option maxHeartbeats 4000000 in
theorem c_X5_line (l : Launch) (G : ZG) (base : Nat) (M : Mem) (x0 : Nat) (x1 : Int32) (x2 : Int32) (x3 : Int32) (Q : Int64 → Mem → Prop) (h : wp_X5_line x0 x1 x2 x3 M Q) : ZMet l yX5_line cX5_line 5 (some .long) 1 22 G true base M [.ref (base + x0), .int x1, .int x2, .int x3] (qL Q) := by
  refine z_start (by decide) (Nat.le_of_ble_eq_true rfl) k_co_yX5_line ?_
  intro p e s m below meth c R d0 H locs cells slots ls A hr hn hd0 hZ hl
  have hx := (A d0).1
  have hb := (A d0).2.1
  have hl : lv_has ls 5 [(0, .ref (base + x0)), (1, .int x1), (2, .int x2), (3, .int x3)] := hl
  unfold wp_X5_line at h
  obtain ⟨ho_x0, h⟩ := h
  refine lv_aload_n hx hb dX5_line_0 rfl (lv_at hl 0 rfl) ?_
  refine lv_iload_n hx hb dX5_line_1 rfl (lv_at hl 1 rfl) ?_
  refine lv_iload_n hx hb dX5_line_2 rfl (lv_at hl 2 rfl) ?_
  refine z_callV A hd0 hZ (ci := 5) (nA := 2) (As := [.int x1, .int x2]) (by decide) ho_x0 (c_X5_pieceOf l G base M x0 x1 x2 _ h) k_ml_RX5_258 k_im_yX5_pieceOf k_se_yX5_pieceOf k_in_RX5 k_co_yX5_pieceOf (by decide +kernel) ⟨by decide, by decide⟩ rfl rfl (Nat.le_of_ble_eq_true rfl) hl dX5_line_3 (fun v M1 H locs d0 cells slots hq hd0 hZ hm => ?_)
  clear h
  obtain ⟨i2, rfl, h⟩ := hq
  have ho_x0 := isO_le hm ho_x0
  refine lv_istore (lv' := [(4, .int i2), (0, .ref (base + x0)), (1, .int x1), (2, .int x2), (3, .int x3)]) hx hb dX5_line_6 hl (by decide) rfl (fun ls hl2 => ?_)
  replace hl := hl2
  refine lv_iload hx hb dX5_line_8 (lv_at hl 0 rfl) ?_
  refine lv_if_ge (tgt := 17) hx hb dX5_line_10 (by decide) (fun hc => ?_) (fun hc => ?_)
  · replace h := h.1 hc
    refine lv_iload_n hx hb dX5_line_17 rfl (lv_at hl 4 rfl) ?_
    by_cases hc0 : x3 = 0
    · refine lv_tableIn (off := 34) (tgt := 52) hx hb dX5_line_18 (by rw [hc0]; decide) (by rw [hc0]; decide) (by rw [hc0]; rfl) (by decide) ?_
      replace h := h.1 hc0
      refine lv_aload_n hx hb dX5_line_52 rfl (lv_at hl 1 rfl) ?_
      refine z_get (A d0) hZ (ci := 5) (j := 17) ho_x0.1 ho_x0.2 (by decide) (by decide) k_fl_RX5_64 (v := .ref (base + 79)) (zv_fin (zf5 ho_x0 rfl) rfl) dX5_line_53 ?_
      refine lv_iload hx hb dX5_line_56 (lv_at hl 0 rfl) ?_
      obtain ⟨hin, h⟩ := h
      refine z_lald (A d0) hZ (isA_c (a := 79) hZ.k0 (by decide) rfl) hin dX5_line_58 ?_
      exact z_lret A hd0 hZ hr ⟨_, rfl, h⟩ dX5_line_59
    by_cases hc1 : x3 = 1
    · refine lv_tableIn (off := 42) (tgt := 60) hx hb dX5_line_18 (by rw [hc1]; decide) (by rw [hc1]; decide) (by rw [hc1]; rfl) (by decide) ?_
      replace h := h.2.1 hc1
      refine lv_aload_n hx hb dX5_line_60 rfl (lv_at hl 1 rfl) ?_
      refine z_get (A d0) hZ (ci := 5) (j := 18) ho_x0.1 ho_x0.2 (by decide) (by decide) k_fl_RX5_67 (v := .ref (base + 80)) (zv_fin (zf5 ho_x0 rfl) rfl) dX5_line_61 ?_
      refine lv_iload hx hb dX5_line_64 (lv_at hl 0 rfl) ?_
      obtain ⟨hin, h⟩ := h
      refine z_lald (A d0) hZ (isA_c (a := 80) hZ.k0 (by decide) rfl) hin dX5_line_66 ?_
      exact z_lret A hd0 hZ hr ⟨_, rfl, h⟩ dX5_line_67
    by_cases hc2 : x3 = 2
    · refine lv_tableIn (off := 50) (tgt := 68) hx hb dX5_line_18 (by rw [hc2]; decide) (by rw [hc2]; decide) (by rw [hc2]; rfl) (by decide) ?_
      replace h := h.2.2.1 hc2
      refine lv_aload_n hx hb dX5_line_68 rfl (lv_at hl 1 rfl) ?_
      refine z_get (A d0) hZ (ci := 5) (j := 19) ho_x0.1 ho_x0.2 (by decide) (by decide) k_fl_RX5_70 (v := .ref (base + 81)) (zv_fin (zf5 ho_x0 rfl) rfl) dX5_line_69 ?_
      refine lv_iload hx hb dX5_line_72 (lv_at hl 0 rfl) ?_
      obtain ⟨hin, h⟩ := h
      refine z_lald (A d0) hZ (isA_c (a := 81) hZ.k0 (by decide) rfl) hin dX5_line_74 ?_
      exact z_lret A hd0 hZ hr ⟨_, rfl, h⟩ dX5_line_75
    by_cases hc3 : x3 = 3
    · refine lv_tableIn (off := 58) (tgt := 76) hx hb dX5_line_18 (by rw [hc3]; decide) (by rw [hc3]; decide) (by rw [hc3]; rfl) (by decide) ?_
      replace h := h.2.2.2.1 hc3
      refine lv_aload_n hx hb dX5_line_76 rfl (lv_at hl 1 rfl) ?_
      refine z_get (A d0) hZ (ci := 5) (j := 20) ho_x0.1 ho_x0.2 (by decide) (by decide) k_fl_RX5_73 (v := .ref (base + 82)) (zv_fin (zf5 ho_x0 rfl) rfl) dX5_line_77 ?_
      refine lv_aload_n hx hb dX5_line_80 rfl (lv_at hl 1 rfl) ?_
      refine z_get (A d0) hZ (ci := 5) (j := 13) ho_x0.1 ho_x0.2 (by decide) (by decide) k_fl_RX5_52 (v := .ref (base + 75)) (zv_fin (zf5 ho_x0 rfl) rfl) dX5_line_81 ?_
      refine lv_iload hx hb dX5_line_84 (lv_at hl 0 rfl) ?_
      obtain ⟨hin, h⟩ := h
      refine z_iald (A d0) hZ (isA_c (a := 75) hZ.k0 (by decide) rfl) hin dX5_line_86 ?_
      obtain ⟨hin, h⟩ := h
      refine z_lald (A d0) hZ (isA_c (a := 82) hZ.k0 (by decide) rfl) hin dX5_line_87 ?_
      exact z_lret A hd0 hZ hr ⟨_, rfl, h⟩ dX5_line_88
    by_cases hc4 : x3 = 4
    · refine lv_tableIn (off := 71) (tgt := 89) hx hb dX5_line_18 (by rw [hc4]; decide) (by rw [hc4]; decide) (by rw [hc4]; rfl) (by decide) ?_
      replace h := h.2.2.2.2.1 hc4
      refine lv_aload_n hx hb dX5_line_89 rfl (lv_at hl 1 rfl) ?_
      refine z_get (A d0) hZ (ci := 5) (j := 20) ho_x0.1 ho_x0.2 (by decide) (by decide) k_fl_RX5_73 (v := .ref (base + 82)) (zv_fin (zf5 ho_x0 rfl) rfl) dX5_line_90 ?_
      refine lv_aload_n hx hb dX5_line_93 rfl (lv_at hl 1 rfl) ?_
      refine z_get (A d0) hZ (ci := 5) (j := 13) ho_x0.1 ho_x0.2 (by decide) (by decide) k_fl_RX5_52 (v := .ref (base + 75)) (zv_fin (zf5 ho_x0 rfl) rfl) dX5_line_94 ?_
      refine lv_iload hx hb dX5_line_97 (lv_at hl 0 rfl) ?_
      obtain ⟨hin, h⟩ := h
      refine z_iald (A d0) hZ (isA_c (a := 75) hZ.k0 (by decide) rfl) hin dX5_line_99 ?_
      refine lv_aload_n hx hb dX5_line_100 rfl (lv_at hl 1 rfl) ?_
      refine z_get (A d0) hZ (ci := 5) (j := 14) ho_x0.1 ho_x0.2 (by decide) (by decide) k_fl_RX5_55 (v := .ref (base + 76)) (zv_fin (zf5 ho_x0 rfl) rfl) dX5_line_101 ?_
      refine lv_iload hx hb dX5_line_104 (lv_at hl 0 rfl) ?_
      obtain ⟨hin, h⟩ := h
      refine z_iald (A d0) hZ (isA_c (a := 76) hZ.k0 (by decide) rfl) hin dX5_line_106 ?_
      refine lv_iadd hx hb dX5_line_107 ?_
      refine lv_iconst (v := (1 : Int32)) hx hb dX5_line_108 (by decide) ?_
      refine lv_isub hx hb dX5_line_109 ?_
      obtain ⟨hin, h⟩ := h
      refine z_lald (A d0) hZ (isA_c (a := 82) hZ.k0 (by decide) rfl) hin dX5_line_110 ?_
      exact z_lret A hd0 hZ hr ⟨_, rfl, h⟩ dX5_line_111
    have hn0 := lv_neT hc0 (show (0 : Int32).toInt = 0 from rfl)
    have hn1 := lv_neT hc1 (show (1 : Int32).toInt = 1 from rfl)
    have hn2 := lv_neT hc2 (show (2 : Int32).toInt = 2 from rfl)
    have hn3 := lv_neT hc3 (show (3 : Int32).toInt = 3 from rfl)
    have hn4 := lv_neT hc4 (show (4 : Int32).toInt = 4 from rfl)
    refine lv_tableOut (tgt := 112) hx hb dX5_line_18 (by omega) (by decide) ?_
    replace h := h.2.2.2.2.2 hc0 hc1 hc2 hc3 hc4
    refine lv_ldc2 (v := (-9223372036854775808 : Int64)) hx hb (A d0).2.2.2.1 ((A d0).2.2.2.2.1 _ k_lc_RX5_252) dX5_line_112 ?_
    exact z_lret A hd0 hZ hr ⟨_, rfl, h⟩ dX5_line_115
  · replace h := h.2 hc
    refine lv_ldc2 (v := (-9223372036854775808 : Int64)) hx hb (A d0).2.2.2.1 ((A d0).2.2.2.2.1 _ k_lc_RX5_252) dX5_line_13 ?_
    exact z_lret A hd0 hZ hr ⟨_, rfl, h⟩ dX5_line_16
/-! cX5_guess -/
set_option maxRecDepth 100000 in
set_option maxHeartbeats 4000000 in
theorem zb_X5_guess_35 {p : Program} {l : Launch} {e : Env} {R : Room} {s : State} {m : MethodId} {args : Array Value} {below : List Frame} {meth : Method} {c : Code} {G : ZG} {base z0 : Nat} {Q : Int32 → Mem → Prop} (A : ∀ d, Amb p R (s.setDrawn d) m args meth c G base z0 cX5_guess yX5_guess.cls 6 1 28) (hr : meth.sig.returnType = (some .int)) {d0 : Drawn} {H : Heap} {locs : List Loc} {cells slots : Nat} {ls : Array Slot} {t0 : Int32} {M : Mem} (hd0 : s.drawn.sameBut d0 lw_cs) (hZ : ZH G true base s.heap M H locs) (hl : lv_has ls 6 []) (h : wp_X5_guess_35 t0 M Q) : W p l e R (s.setDrawn d0) m args below meth c H locs cells slots (ZEnd below G true base z0 (qI Q) args s) (F0 m 35 ls [.int t0]) := by
  have hx := (A d0).1
  have hb := (A d0).2.1
  unfold wp_X5_guess_35 at h
  exact z_iret A hd0 hZ hr ⟨_, rfl, h⟩ dX5_guess_35
set_option maxRecDepth 100000 in
set_option maxHeartbeats 4000000 in
theorem c_X5_guess (l : Launch) (G : ZG) (base : Nat) (M : Mem) (x0 : Nat) (x1 : Int32) (x2 : Int32) (x3 : Int64) (Q : Int32 → Mem → Prop) (h : wp_X5_guess x0 x1 x2 x3 M Q) : ZMet l yX5_guess cX5_guess 6 (some .int) 1 28 G true base M [.ref (base + x0), .int x1, .int x2, .long x3] (qI Q) := by
  refine z_start (by decide) (Nat.le_of_ble_eq_true rfl) k_co_yX5_guess ?_
  intro p e s m below meth c R d0 H locs cells slots ls A hr hn hd0 hZ hl
  have hx := (A d0).1
  have hb := (A d0).2.1
  have hl : lv_has ls 6 [(0, .ref (base + x0)), (1, .int x1), (2, .int x2), (3, .long x3)] := hl
  unfold wp_X5_guess at h
  obtain ⟨ho_x0, h⟩ := h
  refine lv_aload_n hx hb dX5_guess_0 rfl (lv_at hl 0 rfl) ?_
  refine lv_iload_n hx hb dX5_guess_1 rfl (lv_at hl 1 rfl) ?_
  refine lv_iload_n hx hb dX5_guess_2 rfl (lv_at hl 2 rfl) ?_
  refine z_callV A hd0 hZ (ci := 5) (nA := 2) (As := [.int x1, .int x2]) (by decide) ho_x0 (c_X5_pieceOf l G base M x0 x1 x2 _ h) k_ml_RX5_258 k_im_yX5_pieceOf k_se_yX5_pieceOf k_in_RX5 k_co_yX5_pieceOf (by decide +kernel) ⟨by decide, by decide⟩ rfl rfl (Nat.le_of_ble_eq_true rfl) hl dX5_guess_3 (fun v M1 H locs d0 cells slots hq hd0 hZ hm => ?_)
  clear h
  obtain ⟨i2, rfl, h⟩ := hq
  have ho_x0 := isO_le hm ho_x0
  refine lv_istore (lv' := [(5, .int i2), (0, .ref (base + x0)), (1, .int x1), (2, .int x2), (3, .long x3)]) hx hb dX5_guess_6 hl (by decide) rfl (fun ls hl2 => ?_)
  replace hl := hl2
  refine lv_iload hx hb dX5_guess_8 (lv_at hl 0 rfl) ?_
  refine lv_if_ge (tgt := 15) hx hb dX5_guess_10 (by decide) (fun hc => ?_) (fun hc => ?_)
  · replace h := h.1 hc
    refine lv_aload_n hx hb dX5_guess_15 rfl (lv_at hl 1 rfl) ?_
    refine lv_lload_n hx hb dX5_guess_16 rfl (lv_at hl 4 rfl) ?_
    refine z_callV A hd0 hZ (ci := 5) (nA := 1) (As := [.long x3]) (by decide) ho_x0 (c_X5_isKey l G base M1 x0 x3 _ h) k_ml_RX5_162 k_im_yX5_isKey k_se_yX5_isKey k_in_RX5 k_co_yX5_isKey (by decide +kernel) ⟨by decide, by decide⟩ rfl rfl (Nat.le_of_ble_eq_true rfl) hl dX5_guess_17 (fun v M3 H locs d0 cells slots hq hd0 hZ hm => ?_)
    clear h
    obtain ⟨i4, rfl, h⟩ := hq
    have ho_x0 := isO_le hm ho_x0
    refine lv_if_eq (tgt := 33) hx hb dX5_guess_20 (by decide) (fun hc => ?_) (fun hc => ?_)
    · replace h := h.1 hc
      refine lv_bipush (v := (-2 : Int32)) hx hb dX5_guess_33 (by decide) ?_
      exact (zb_X5_guess_35 A hr hd0 hZ (lv_sub hl [] rfl) h)
    · replace h := h.2 hc
      refine lv_aload_n hx hb dX5_guess_23 rfl (lv_at hl 1 rfl) ?_
      refine lv_iload hx hb dX5_guess_24 (lv_at hl 0 rfl) ?_
      refine lv_lload_n hx hb dX5_guess_26 rfl (lv_at hl 4 rfl) ?_
      refine z_callV A hd0 hZ (ci := 5) (nA := 2) (As := [.int i2, .long x3]) (by decide) ho_x0 (c_X5_guessOf l G base M3 x0 i2 x3 _ h) k_ml_RX5_235 k_im_yX5_guessOf k_se_yX5_guessOf k_in_RX5 k_co_yX5_guessOf (by decide +kernel) ⟨by decide, by decide⟩ rfl rfl (Nat.le_of_ble_eq_true rfl) hl dX5_guess_27 (fun v M5 H locs d0 cells slots hq hd0 hZ hm => ?_)
      clear h
      obtain ⟨i6, rfl, h⟩ := hq
      have ho_x0 := isO_le hm ho_x0
      refine lv_goto (tgt := 35) hx hb dX5_guess_30 (by decide) ?_
      exact (zb_X5_guess_35 A hr hd0 hZ (lv_sub hl [] rfl) h)
  · replace h := h.2 hc
    refine lv_iconst (v := (-1 : Int32)) hx hb dX5_guess_13 (by decide) ?_
    exact z_iret A hd0 hZ hr ⟨_, rfl, h⟩ dX5_guess_14
/-! cJxe99ae_isNaN_b9ae7 -/
set_option maxRecDepth 100000 in
set_option maxHeartbeats 4000000 in
theorem zb_Jxe99ae_isNaN_b9ae7_11 {p : Program} {l : Launch} {e : Env} {R : Room} {s : State} {m : MethodId} {args : Array Value} {below : List Frame} {meth : Method} {c : Code} {G : ZG} {base z0 : Nat} {Q : Int32 → Mem → Prop} (A : ∀ d, Amb p R (s.setDrawn d) m args meth c G base z0 cJxe99ae_isNaN_b9ae7 yJxe99ae_isNaN_b9ae7.cls 2 0 0) (hr : meth.sig.returnType = (some .boolean)) {d0 : Drawn} {H : Heap} {locs : List Loc} {cells slots : Nat} {ls : Array Slot} {t0 : Int32} {M : Mem} (hd0 : s.drawn.sameBut d0 lw_cs) (hZ : ZH G true base s.heap M H locs) (hl : lv_has ls 2 []) (h : wp_Jxe99ae_isNaN_b9ae7_11 t0 M Q) : W p l e R (s.setDrawn d0) m args below meth c H locs cells slots (ZEnd below G true base z0 (qI Q) args s) (F0 m 11 ls [.int t0]) := by
  have hx := (A d0).1
  have hb := (A d0).2.1
  unfold wp_Jxe99ae_isNaN_b9ae7_11 at h
  exact z_zret A hd0 hZ hr h.1 ⟨_, rfl, h.2⟩ dJxe99ae_isNaN_b9ae7_11
set_option maxRecDepth 100000 in
set_option maxHeartbeats 4000000 in
theorem c_Jxe99ae_isNaN_b9ae7 (l : Launch) (G : ZG) (base : Nat) (M : Mem) (x0 : UInt64) (Q : Int32 → Mem → Prop) (h : wp_Jxe99ae_isNaN_b9ae7 x0 M Q) : ZMet l yJxe99ae_isNaN_b9ae7 cJxe99ae_isNaN_b9ae7 2 (some .boolean) 0 0 G true base M [.double x0] (qI Q) := by
  refine z_start (by decide +kernel) (Nat.le_of_ble_eq_true rfl) k_co_yJxe99ae_isNaN_b9ae7 ?_
  intro p e s m below meth c R d0 H locs cells slots ls A hr hn hd0 hZ hl
  have hx := (A d0).1
  have hb := (A d0).2.1
  have hl : lv_has ls 2 [(0, .double x0)] := hl
  unfold wp_Jxe99ae_isNaN_b9ae7 at h
  refine lv_dload_n hx hb dJxe99ae_isNaN_b9ae7_0 rfl (lv_at hl 0 rfl) ?_
  refine lv_dload_n hx hb dJxe99ae_isNaN_b9ae7_1 rfl (lv_at hl 0 rfl) ?_
  refine lv_dcmp hx hb dJxe99ae_isNaN_b9ae7_2 ?_
  refine lv_if_eq (tgt := 10) hx hb dJxe99ae_isNaN_b9ae7_3 (by decide) (fun hc => ?_) (fun hc => ?_)
  · replace h := h.1 hc
    refine lv_iconst (v := (0 : Int32)) hx hb dJxe99ae_isNaN_b9ae7_10 (by decide) ?_
    exact (zb_Jxe99ae_isNaN_b9ae7_11 A hr hd0 hZ (lv_sub hl [] rfl) h)
  · replace h := h.2 hc
    refine lv_iconst (v := (1 : Int32)) hx hb dJxe99ae_isNaN_b9ae7_6 (by decide) ?_
    refine lv_goto (tgt := 11) hx hb dJxe99ae_isNaN_b9ae7_7 (by decide) ?_
    exact (zb_Jxe99ae_isNaN_b9ae7_11 A hr hd0 hZ (lv_sub hl [] rfl) h)
/-! cJxe99ae_doubleToLongBits_ccdee -/
set_option maxRecDepth 100000 in
set_option maxHeartbeats 4000000 in
theorem c_Jxe99ae_doubleToLongBits_ccdee (l : Launch) (G : ZG) (base : Nat) (M : Mem) (x0 : UInt64) (Q : Int64 → Mem → Prop) (h : wp_Jxe99ae_doubleToLongBits_ccdee x0 M Q) : ZMet l yJxe99ae_doubleToLongBits_ccdee cJxe99ae_doubleToLongBits_ccdee 2 (some .long) 1 21 G true base M [.double x0] (qL Q) := by
  refine z_start (by decide +kernel) (Nat.le_of_ble_eq_true rfl) k_co_yJxe99ae_doubleToLongBits_ccdee ?_
  intro p e s m below meth c R d0 H locs cells slots ls A hr hn hd0 hZ hl
  have hx := (A d0).1
  have hb := (A d0).2.1
  have hl : lv_has ls 2 [(0, .double x0)] := hl
  unfold wp_Jxe99ae_doubleToLongBits_ccdee at h
  refine lv_dload_n hx hb dJxe99ae_doubleToLongBits_ccdee_0 rfl (lv_at hl 0 rfl) ?_
  refine z_callS A hd0 hZ (nA := 1) (As := [.double x0]) (c_Jxe99ae_isNaN_b9ae7 l G base M x0 _ h) k_ml_RJxe99ae_122 k_st_yJxe99ae_isNaN_b9ae7 k_in_RJxe99ae k_co_yJxe99ae_isNaN_b9ae7 (by decide +kernel) ⟨by decide, by decide⟩ rfl rfl (Nat.le_of_ble_eq_true rfl) hl dJxe99ae_doubleToLongBits_ccdee_1 (fun v M1 H locs d0 cells slots hq hd0 hZ hm => ?_)
  clear h
  obtain ⟨i2, rfl, h⟩ := hq
  refine lv_if_ne (tgt := 12) hx hb dJxe99ae_doubleToLongBits_ccdee_4 (by decide) (fun hc => ?_) (fun hc => ?_)
  · replace h := h.1 hc
    refine lv_ldc2 (v := (9221120237041090560 : Int64)) hx hb (A d0).2.2.2.1 ((A d0).2.2.2.2.1 _ k_lc_RJxe99ae_137) dJxe99ae_doubleToLongBits_ccdee_12 ?_
    exact z_lret A hd0 hZ hr ⟨_, rfl, h⟩ dJxe99ae_doubleToLongBits_ccdee_15
  · replace h := h.2 hc
    refine lv_dload_n hx hb dJxe99ae_doubleToLongBits_ccdee_7 rfl (lv_at hl 0 rfl) ?_
    refine z_d2l (A d0) hl k_ml_RJxe99ae_134 dJxe99ae_doubleToLongBits_ccdee_8 (by decide) (Nat.le_of_ble_eq_true rfl) ?_
    exact z_lret A hd0 hZ hr ⟨_, rfl, h⟩ dJxe99ae_doubleToLongBits_ccdee_11
/-! cX5_bits -/
set_option maxRecDepth 100000 in
set_option maxHeartbeats 4000000 in
theorem zb_X5_bits_30 {p : Program} {l : Launch} {e : Env} {R : Room} {s : State} {m : MethodId} {args : Array Value} {below : List Frame} {meth : Method} {c : Code} {G : ZG} {base z0 : Nat} {Q : Int64 → Mem → Prop} (A : ∀ d, Amb p R (s.setDrawn d) m args meth c G base z0 cX5_bits yX5_bits.cls 4 2 42) (hr : meth.sig.returnType = (some .long)) {d0 : Drawn} {H : Heap} {locs : List Loc} {cells slots : Nat} {ls : Array Slot}  {M : Mem} (hd0 : s.drawn.sameBut d0 lw_cs) (hZ : ZH G true base s.heap M H locs) (hl : lv_has ls 4 []) (h : wp_X5_bits_30 M Q) : W p l e R (s.setDrawn d0) m args below meth c H locs cells slots (ZEnd below G true base z0 (qL Q) args s) (F0 m 30 ls []) := by
  have hx := (A d0).1
  have hb := (A d0).2.1
  unfold wp_X5_bits_30 at h
  refine lv_lconst (v := (0 : Int64)) hx hb dX5_bits_30 (by decide) ?_
  exact z_lret A hd0 hZ hr ⟨_, rfl, h⟩ dX5_bits_31
set_option maxRecDepth 100000 in
set_option maxHeartbeats 4000000 in
theorem zb_X5_bits_51 {p : Program} {l : Launch} {e : Env} {R : Room} {s : State} {m : MethodId} {args : Array Value} {below : List Frame} {meth : Method} {c : Code} {G : ZG} {base z0 : Nat} {Q : Int64 → Mem → Prop} (A : ∀ d, Amb p R (s.setDrawn d) m args meth c G base z0 cX5_bits yX5_bits.cls 4 2 42) (hr : meth.sig.returnType = (some .long)) {d0 : Drawn} {H : Heap} {locs : List Loc} {cells slots : Nat} {ls : Array Slot} {x0 : Nat} {x3 : Int32} {t0 : Int64} {M : Mem} (ho_x0 : isO M x0 5) (hd0 : s.drawn.sameBut d0 lw_cs) (hZ : ZH G true base s.heap M H locs) (hl : lv_has ls 4 [(0, .ref (base + x0)), (3, .int x3)]) (h : wp_X5_bits_51 x0 x3 t0 M Q) : W p l e R (s.setDrawn d0) m args below meth c H locs cells slots (ZEnd below G true base z0 (qL Q) args s) (F0 m 51 ls [.long t0]) := by
  have hx := (A d0).1
  have hb := (A d0).2.1
  unfold wp_X5_bits_51 at h
  refine lv_l2d hx hb dX5_bits_51 ?_
  refine lv_aload_n hx hb dX5_bits_52 rfl (lv_at hl 0 rfl) ?_
  refine z_get (A d0) hZ (ci := 5) (j := 18) ho_x0.1 ho_x0.2 (by decide) (by decide) k_fl_RX5_67 (v := .ref (base + 80)) (zv_fin (zf5 ho_x0 rfl) rfl) dX5_bits_53 ?_
  refine lv_iload_n hx hb dX5_bits_56 rfl (lv_at hl 1 rfl) ?_
  obtain ⟨hin, h⟩ := h
  refine z_lald (A d0) hZ (isA_c (a := 80) hZ.k0 (by decide) rfl) hin dX5_bits_57 ?_
  refine lv_l2d hx hb dX5_bits_58 ?_
  refine lv_ddiv_any hd0 lw_bits hx hb dX5_bits_59 (fun f1 d0 hal hd0 => ?_)
  replace h := h f1 hal
  refine z_callS A hd0 hZ (nA := 1) (As := [.double f1]) (c_Jxe99ae_doubleToLongBits_ccdee l G base M f1 _ h) k_ml_RX5_262 k_st_yJxe99ae_doubleToLongBits_ccdee k_in_RJxe99ae k_co_yJxe99ae_doubleToLongBits_ccdee (by decide +kernel) ⟨by decide, by decide⟩ rfl rfl (Nat.le_of_ble_eq_true rfl) hl dX5_bits_60 (fun v M2 H locs d0 cells slots hq hd0 hZ hm => ?_)
  clear h
  obtain ⟨j3, rfl, h⟩ := hq
  have ho_x0 := isO_le hm ho_x0
  exact z_lret A hd0 hZ hr ⟨_, rfl, h⟩ dX5_bits_63
set_option maxRecDepth 100000 in
set_option maxHeartbeats 4000000 in
theorem c_X5_bits (l : Launch) (G : ZG) (base : Nat) (M : Mem) (x0 : Nat) (x1 : Int32) (x2 : Int32) (Q : Int64 → Mem → Prop) (h : wp_X5_bits x0 x1 x2 M Q) : ZMet l yX5_bits cX5_bits 4 (some .long) 2 42 G true base M [.ref (base + x0), .int x1, .int x2] (qL Q) := by
  refine z_start (by decide) (Nat.le_of_ble_eq_true rfl) k_co_yX5_bits ?_
  intro p e s m below meth c R d0 H locs cells slots ls A hr hn hd0 hZ hl
  have hx := (A d0).1
  have hb := (A d0).2.1
  have hl : lv_has ls 4 [(0, .ref (base + x0)), (1, .int x1), (2, .int x2)] := hl
  unfold wp_X5_bits at h
  obtain ⟨ho_x0, h⟩ := h
  refine lv_aload_n hx hb dX5_bits_0 rfl (lv_at hl 0 rfl) ?_
  refine lv_iconst (v := (-1 : Int32)) hx hb dX5_bits_1 (by decide) ?_
  refine lv_iload_n hx hb dX5_bits_2 rfl (lv_at hl 1 rfl) ?_
  refine z_callV A hd0 hZ (ci := 5) (nA := 2) (As := [.int (-1 : Int32), .int x1]) (by decide) ho_x0 (c_X5_pieceOf l G base M x0 (-1 : Int32) x1 _ h) k_ml_RX5_258 k_im_yX5_pieceOf k_se_yX5_pieceOf k_in_RX5 k_co_yX5_pieceOf (by decide +kernel) ⟨by decide, by decide⟩ rfl rfl (Nat.le_of_ble_eq_true rfl) hl dX5_bits_3 (fun v M4 H locs d0 cells slots hq hd0 hZ hm => ?_)
  clear h
  obtain ⟨i5, rfl, h⟩ := hq
  have ho_x0 := isO_le hm ho_x0
  refine lv_istore_n (lv' := [(3, .int i5), (0, .ref (base + x0)), (1, .int x1), (2, .int x2)]) hx hb dX5_bits_6 rfl hl (by decide) rfl (fun ls hl2 => ?_)
  replace hl := hl2
  refine lv_iload_n hx hb dX5_bits_7 rfl (lv_at hl 0 rfl) ?_
  refine lv_if_lt (tgt := 30) hx hb dX5_bits_8 (by decide) (fun hc => ?_) (fun hc => ?_)
  · replace h := h.1 hc
    exact (zb_X5_bits_30 A hr hd0 hZ (lv_sub hl [] rfl) h)
  · replace h := h.2 hc
    refine lv_aload_n hx hb dX5_bits_11 rfl (lv_at hl 1 rfl) ?_
    refine z_get (A d0) hZ (ci := 5) (j := 12) ho_x0.1 ho_x0.2 (by decide) (by decide) k_fl_RX5_49 (v := .ref (base + 74)) (zv_fin (zf5 ho_x0 rfl) rfl) dX5_bits_12 ?_
    refine lv_iload_n hx hb dX5_bits_15 rfl (lv_at hl 0 rfl) ?_
    obtain ⟨hin, h⟩ := h
    refine z_iald (A d0) hZ (isA_c (a := 74) hZ.k0 (by decide) rfl) hin dX5_bits_16 ?_
    refine lv_iconst (v := (2 : Int32)) hx hb dX5_bits_17 (by decide) ?_
    refine lv_icmp_ne (tgt := 30) hx hb dX5_bits_18 (by decide) (fun hc => ?_) (fun hc => ?_)
    · replace h := h.1 hc
      exact (zb_X5_bits_30 A hr hd0 hZ (lv_sub hl [] rfl) h)
    · replace h := h.2 hc
      refine lv_iload_n hx hb dX5_bits_21 rfl (lv_at hl 3 rfl) ?_
      refine lv_if_lt (tgt := 30) hx hb dX5_bits_22 (by decide) (fun hc => ?_) (fun hc => ?_)
      · replace h := h.1 hc
        exact (zb_X5_bits_30 A hr hd0 hZ (lv_sub hl [] rfl) h)
      · replace h := h.2 hc
        refine lv_iload_n hx hb dX5_bits_25 rfl (lv_at hl 3 rfl) ?_
        refine lv_iconst (v := (1 : Int32)) hx hb dX5_bits_26 (by decide) ?_
        refine lv_icmp_le (tgt := 32) hx hb dX5_bits_27 (by decide) (fun hc => ?_) (fun hc => ?_)
        · replace h := h.1 hc
          refine lv_iload_n hx hb dX5_bits_32 rfl (lv_at hl 3 rfl) ?_
          refine lv_if_ne (tgt := 45) hx hb dX5_bits_33 (by decide) (fun hc => ?_) (fun hc => ?_)
          · replace h := h.1 hc
            refine lv_aload_n hx hb dX5_bits_45 rfl (lv_at hl 1 rfl) ?_
            refine z_get (A d0) hZ (ci := 5) (j := 19) ho_x0.1 ho_x0.2 (by decide) (by decide) k_fl_RX5_70 (v := .ref (base + 81)) (zv_fin (zf5 ho_x0 rfl) rfl) dX5_bits_46 ?_
            refine lv_iload_n hx hb dX5_bits_49 rfl (lv_at hl 0 rfl) ?_
            obtain ⟨hin, h⟩ := h
            refine z_lald (A d0) hZ (isA_c (a := 81) hZ.k0 (by decide) rfl) hin dX5_bits_50 ?_
            exact (zb_X5_bits_51 A hr ho_x0 hd0 hZ (lv_sub hl [1, 0] rfl) h)
          · replace h := h.2 hc
            refine lv_aload_n hx hb dX5_bits_36 rfl (lv_at hl 1 rfl) ?_
            refine z_get (A d0) hZ (ci := 5) (j := 17) ho_x0.1 ho_x0.2 (by decide) (by decide) k_fl_RX5_64 (v := .ref (base + 79)) (zv_fin (zf5 ho_x0 rfl) rfl) dX5_bits_37 ?_
            refine lv_iload_n hx hb dX5_bits_40 rfl (lv_at hl 0 rfl) ?_
            obtain ⟨hin, h⟩ := h
            refine z_lald (A d0) hZ (isA_c (a := 79) hZ.k0 (by decide) rfl) hin dX5_bits_41 ?_
            refine lv_goto (tgt := 51) hx hb dX5_bits_42 (by decide) ?_
            exact (zb_X5_bits_51 A hr ho_x0 hd0 hZ (lv_sub hl [1, 0] rfl) h)
        · replace h := h.2 hc
          exact (zb_X5_bits_30 A hr hd0 hZ (lv_sub hl [] rfl) h)
/-! cX5_key -/
set_option maxRecDepth 100000 in
set_option maxHeartbeats 4000000 in
theorem zb_X5_key_42 {p : Program} {l : Launch} {e : Env} {R : Room} {s : State} {m : MethodId} {args : Array Value} {below : List Frame} {meth : Method} {c : Code} {G : ZG} {base z0 : Nat} {Q : Int64 → Mem → Prop} (A : ∀ d, Amb p R (s.setDrawn d) m args meth c G base z0 cX5_key yX5_key.cls 5 1 22) (hr : meth.sig.returnType = (some .long)) {d0 : Drawn} {H : Heap} {locs : List Loc} {cells slots : Nat} {ls : Array Slot}  {M : Mem} (hd0 : s.drawn.sameBut d0 lw_cs) (hZ : ZH G true base s.heap M H locs) (hl : lv_has ls 5 []) (h : wp_X5_key_42 M Q) : W p l e R (s.setDrawn d0) m args below meth c H locs cells slots (ZEnd below G true base z0 (qL Q) args s) (F0 m 42 ls []) := by
  have hx := (A d0).1
  have hb := (A d0).2.1
  unfold wp_X5_key_42 at h
  refine lv_ldc2 (v := (-9223372036854775808 : Int64)) hx hb (A d0).2.2.2.1 ((A d0).2.2.2.2.1 _ k_lc_RX5_252) dX5_key_42 ?_
  exact z_lret A hd0 hZ hr ⟨_, rfl, h⟩ dX5_key_45
set_option maxRecDepth 100000 in
set_option maxHeartbeats 4000000 in
theorem zb_X5_key_79 {p : Program} {l : Launch} {e : Env} {R : Room} {s : State} {m : MethodId} {args : Array Value} {below : List Frame} {meth : Method} {c : Code} {G : ZG} {base z0 : Nat} {Q : Int64 → Mem → Prop} (A : ∀ d, Amb p R (s.setDrawn d) m args meth c G base z0 cX5_key yX5_key.cls 5 1 22) (hr : meth.sig.returnType = (some .long)) {d0 : Drawn} {H : Heap} {locs : List Loc} {cells slots : Nat} {ls : Array Slot} {t0 : Int64} {M : Mem} (hd0 : s.drawn.sameBut d0 lw_cs) (hZ : ZH G true base s.heap M H locs) (hl : lv_has ls 5 []) (h : wp_X5_key_79 t0 M Q) : W p l e R (s.setDrawn d0) m args below meth c H locs cells slots (ZEnd below G true base z0 (qL Q) args s) (F0 m 79 ls [.long t0]) := by
  have hx := (A d0).1
  have hb := (A d0).2.1
  unfold wp_X5_key_79 at h
  exact z_lret A hd0 hZ hr ⟨_, rfl, h⟩ dX5_key_79
set_option maxRecDepth 100000 in
set_option maxHeartbeats 4000000 in
theorem zb_X5_key_39 {p : Program} {l : Launch} {e : Env} {R : Room} {s : State} {m : MethodId} {args : Array Value} {below : List Frame} {meth : Method} {c : Code} {G : ZG} {base z0 : Nat} {Q : Int64 → Mem → Prop} (A : ∀ d, Amb p R (s.setDrawn d) m args meth c G base z0 cX5_key yX5_key.cls 5 1 22) (hr : meth.sig.returnType = (some .long)) {d0 : Drawn} {H : Heap} {locs : List Loc} {cells slots : Nat} {ls : Array Slot} {x0 : Nat} {x2 : Int32} {x3 : Int32} {x4 : Int32} {t0 : Int32} {t1 : Int32} {M : Mem} (ho_x0 : isO M x0 5) (hd0 : s.drawn.sameBut d0 lw_cs) (hZ : ZH G true base s.heap M H locs) (hl : lv_has ls 5 [(0, .ref (base + x0)), (2, .int x2), (3, .int x3), (4, .int x4)]) (h : wp_X5_key_39 x0 x2 x3 x4 t0 t1 M Q) : W p l e R (s.setDrawn d0) m args below meth c H locs cells slots (ZEnd below G true base z0 (qL Q) args s) (F0 m 39 ls [.int t0, .int t1]) := by
  have hx := (A d0).1
  have hb := (A d0).2.1
  unfold wp_X5_key_39 at h
  refine lv_icmp_lt (tgt := 46) hx hb dX5_key_39 (by decide) (fun hc => ?_) (fun hc => ?_)
  · replace h := h.1 hc
    refine lv_iload_n hx hb dX5_key_46 rfl (lv_at hl 2 rfl) ?_
    refine lv_if_eq (tgt := 65) hx hb dX5_key_47 (by decide) (fun hc => ?_) (fun hc => ?_)
    · replace h := h.1 hc
      refine lv_aload_n hx hb dX5_key_65 rfl (lv_at hl 0 rfl) ?_
      refine z_get (A d0) hZ (ci := 5) (j := 20) ho_x0.1 ho_x0.2 (by decide) (by decide) k_fl_RX5_73 (v := .ref (base + 82)) (zv_fin (zf5 ho_x0 rfl) rfl) dX5_key_66 ?_
      refine lv_aload_n hx hb dX5_key_69 rfl (lv_at hl 0 rfl) ?_
      refine z_get (A d0) hZ (ci := 5) (j := 13) ho_x0.1 ho_x0.2 (by decide) (by decide) k_fl_RX5_52 (v := .ref (base + 75)) (zv_fin (zf5 ho_x0 rfl) rfl) dX5_key_70 ?_
      refine lv_iload hx hb dX5_key_73 (lv_at hl 3 rfl) ?_
      obtain ⟨hin, h⟩ := h
      refine z_iald (A d0) hZ (isA_c (a := 75) hZ.k0 (by decide) rfl) hin dX5_key_75 ?_
      refine lv_iload_n hx hb dX5_key_76 rfl (lv_at hl 1 rfl) ?_
      refine lv_iadd hx hb dX5_key_77 ?_
      obtain ⟨hin, h⟩ := h
      refine z_lald (A d0) hZ (isA_c (a := 82) hZ.k0 (by decide) rfl) hin dX5_key_78 ?_
      exact (zb_X5_key_79 A hr hd0 hZ (lv_sub hl [] rfl) h)
    · replace h := h.2 hc
      refine lv_aload_n hx hb dX5_key_50 rfl (lv_at hl 0 rfl) ?_
      refine z_get (A d0) hZ (ci := 5) (j := 21) ho_x0.1 ho_x0.2 (by decide) (by decide) k_fl_RX5_77 (v := .ref (base + 83)) (zv_fin (zf5 ho_x0 rfl) rfl) dX5_key_51 ?_
      refine lv_bipush (v := (16 : Int32)) hx hb dX5_key_54 (by decide) ?_
      refine lv_iload hx hb dX5_key_56 (lv_at hl 3 rfl) ?_
      refine lv_imul hx hb dX5_key_58 ?_
      refine lv_iload_n hx hb dX5_key_59 rfl (lv_at hl 1 rfl) ?_
      refine lv_iadd hx hb dX5_key_60 ?_
      obtain ⟨hin, h⟩ := h
      refine z_lald (A d0) hZ (isA_c (a := 83) hZ.k0 (by decide) rfl) hin dX5_key_61 ?_
      refine lv_goto (tgt := 79) hx hb dX5_key_62 (by decide) ?_
      exact (zb_X5_key_79 A hr hd0 hZ (lv_sub hl [] rfl) h)
  · replace h := h.2 hc
    exact (zb_X5_key_42 A hr hd0 hZ (lv_sub hl [] rfl) h)
set_option maxRecDepth 100000 in
set_option maxHeartbeats 4000000 in
theorem c_X5_key (l : Launch) (G : ZG) (base : Nat) (M : Mem) (x0 : Nat) (x1 : Int32) (x2 : Int32) (x3 : Int32) (Q : Int64 → Mem → Prop) (h : wp_X5_key x0 x1 x2 x3 M Q) : ZMet l yX5_key cX5_key 5 (some .long) 1 22 G true base M [.ref (base + x0), .int x1, .int x2, .int x3] (qL Q) := by
  refine z_start (by decide) (Nat.le_of_ble_eq_true rfl) k_co_yX5_key ?_
  intro p e s m below meth c R d0 H locs cells slots ls A hr hn hd0 hZ hl
  have hx := (A d0).1
  have hb := (A d0).2.1
  have hl : lv_has ls 5 [(0, .ref (base + x0)), (1, .int x1), (2, .int x2), (3, .int x3)] := hl
  unfold wp_X5_key at h
  obtain ⟨ho_x0, h⟩ := h
  refine lv_aload_n hx hb dX5_key_0 rfl (lv_at hl 0 rfl) ?_
  refine lv_iconst (v := (-1 : Int32)) hx hb dX5_key_1 (by decide) ?_
  refine lv_iload_n hx hb dX5_key_2 rfl (lv_at hl 1 rfl) ?_
  refine z_callV A hd0 hZ (ci := 5) (nA := 2) (As := [.int (-1 : Int32), .int x1]) (by decide) ho_x0 (c_X5_pieceOf l G base M x0 (-1 : Int32) x1 _ h) k_ml_RX5_258 k_im_yX5_pieceOf k_se_yX5_pieceOf k_in_RX5 k_co_yX5_pieceOf (by decide +kernel) ⟨by decide, by decide⟩ rfl rfl (Nat.le_of_ble_eq_true rfl) hl dX5_key_3 (fun v M1 H locs d0 cells slots hq hd0 hZ hm => ?_)
  clear h
  obtain ⟨i2, rfl, h⟩ := hq
  have ho_x0 := isO_le hm ho_x0
  refine lv_istore (lv' := [(4, .int i2), (0, .ref (base + x0)), (1, .int x1), (2, .int x2), (3, .int x3)]) hx hb dX5_key_6 hl (by decide) rfl (fun ls hl2 => ?_)
  replace hl := hl2
  refine lv_iload hx hb dX5_key_8 (lv_at hl 0 rfl) ?_
  refine lv_if_lt (tgt := 42) hx hb dX5_key_10 (by decide) (fun hc => ?_) (fun hc => ?_)
  · replace h := h.1 hc
    exact (zb_X5_key_42 A hr hd0 hZ (lv_sub hl [] rfl) h)
  · replace h := h.2 hc
    refine lv_iload_n hx hb dX5_key_13 rfl (lv_at hl 3 rfl) ?_
    refine lv_if_lt (tgt := 42) hx hb dX5_key_14 (by decide) (fun hc => ?_) (fun hc => ?_)
    · replace h := h.1 hc
      exact (zb_X5_key_42 A hr hd0 hZ (lv_sub hl [] rfl) h)
    · replace h := h.2 hc
      refine lv_iload_n hx hb dX5_key_17 rfl (lv_at hl 3 rfl) ?_
      refine lv_iload_n hx hb dX5_key_18 rfl (lv_at hl 4 rfl) ?_
      refine lv_if_eq (tgt := 32) hx hb dX5_key_19 (by decide) (fun hc => ?_) (fun hc => ?_)
      · replace h := h.1 hc
        refine lv_aload_n hx hb dX5_key_32 rfl (lv_at hl 1 rfl) ?_
        refine z_get (A d0) hZ (ci := 5) (j := 14) ho_x0.1 ho_x0.2 (by decide) (by decide) k_fl_RX5_55 (v := .ref (base + 76)) (zv_fin (zf5 ho_x0 rfl) rfl) dX5_key_33 ?_
        refine lv_iload hx hb dX5_key_36 (lv_at hl 0 rfl) ?_
        obtain ⟨hin, h⟩ := h
        refine z_iald (A d0) hZ (isA_c (a := 76) hZ.k0 (by decide) rfl) hin dX5_key_38 ?_
        exact (zb_X5_key_39 A hr ho_x0 hd0 hZ (lv_sub hl [1, 3, 4, 0] rfl) h)
      · replace h := h.2 hc
        refine lv_aload_n hx hb dX5_key_22 rfl (lv_at hl 1 rfl) ?_
        refine z_get (A d0) hZ (ci := 5) (j := 16) ho_x0.1 ho_x0.2 (by decide) (by decide) k_fl_RX5_61 (v := .ref (base + 78)) (zv_fin (zf5 ho_x0 rfl) rfl) dX5_key_23 ?_
        refine lv_iload hx hb dX5_key_26 (lv_at hl 0 rfl) ?_
        obtain ⟨hin, h⟩ := h
        refine z_iald (A d0) hZ (isA_c (a := 78) hZ.k0 (by decide) rfl) hin dX5_key_28 ?_
        refine lv_goto (tgt := 39) hx hb dX5_key_29 (by decide) ?_
        exact (zb_X5_key_39 A hr ho_x0 hd0 hZ (lv_sub hl [1, 3, 4, 0] rfl) h)
/-! cX5_count -/
set_option maxRecDepth 100000 in
set_option maxHeartbeats 4000000 in
theorem c_X5_count (l : Launch) (G : ZG) (base : Nat) (M : Mem) (x0 : Nat) (x1 : Int32) (Q : Int32 → Mem → Prop) (h : wp_X5_count x0 x1 M Q) : ZMet l yX5_count cX5_count 2 (some .int) 2 45 G true base M [.ref (base + x0), .int x1] (qI Q) := by
  refine z_start (by decide) (Nat.le_of_ble_eq_true rfl) k_co_yX5_count ?_
  intro p e s m below meth c R d0 H locs cells slots ls A hr hn hd0 hZ hl
  have hx := (A d0).1
  have hb := (A d0).2.1
  have hl : lv_has ls 2 [(0, .ref (base + x0)), (1, .int x1)] := hl
  unfold wp_X5_count at h
  obtain ⟨ho_x0, h⟩ := h
  refine lv_iload_n hx hb dX5_count_0 rfl (lv_at hl 1 rfl) ?_
  by_cases hc0 : x1 = 0
  · refine lv_tableIn (off := 35) (tgt := 36) hx hb dX5_count_1 (by rw [hc0]; decide) (by rw [hc0]; decide) (by rw [hc0]; rfl) (by decide) ?_
    replace h := h.1 hc0
    refine lv_aload_n hx hb dX5_count_36 rfl (lv_at hl 0 rfl) ?_
    refine z_get (A d0) hZ (ci := 5) (j := 1) ho_x0.1 ho_x0.2 (by decide) (by decide) k_fl_RX5_13 (v := .int (mI M x0 1)) rfl dX5_count_37 ?_
    exact z_iret A hd0 hZ hr ⟨_, rfl, h⟩ dX5_count_40
  by_cases hc1 : x1 = 1
  · refine lv_tableIn (off := 40) (tgt := 41) hx hb dX5_count_1 (by rw [hc1]; decide) (by rw [hc1]; decide) (by rw [hc1]; rfl) (by decide) ?_
    replace h := h.2.1 hc1
    refine lv_aload_n hx hb dX5_count_41 rfl (lv_at hl 0 rfl) ?_
    refine z_get (A d0) hZ (ci := 5) (j := 2) ho_x0.1 ho_x0.2 (by decide) (by decide) k_fl_RX5_17 (v := .int (mI M x0 2)) rfl dX5_count_42 ?_
    exact z_iret A hd0 hZ hr ⟨_, rfl, h⟩ dX5_count_45
  by_cases hc2 : x1 = 2
  · refine lv_tableIn (off := 45) (tgt := 46) hx hb dX5_count_1 (by rw [hc2]; decide) (by rw [hc2]; decide) (by rw [hc2]; rfl) (by decide) ?_
    replace h := h.2.2.1 hc2
    refine lv_aload_n hx hb dX5_count_46 rfl (lv_at hl 0 rfl) ?_
    refine z_callV A hd0 hZ (ci := 5) (nA := 0) (As := []) (by decide) ho_x0 (c_X5_there l G base M x0 _ h) k_ml_RX5_232 k_im_yX5_there k_se_yX5_there k_in_RX5 k_co_yX5_there (by decide +kernel) ⟨by decide, by decide⟩ rfl rfl (Nat.le_of_ble_eq_true rfl) hl dX5_count_47 (fun v M1 H locs d0 cells slots hq hd0 hZ hm => ?_)
    clear h
    obtain ⟨i2, rfl, h⟩ := hq
    have ho_x0 := isO_le hm ho_x0
    exact z_iret A hd0 hZ hr ⟨_, rfl, h⟩ dX5_count_50
  by_cases hc3 : x1 = 3
  · refine lv_tableIn (off := 50) (tgt := 51) hx hb dX5_count_1 (by rw [hc3]; decide) (by rw [hc3]; decide) (by rw [hc3]; rfl) (by decide) ?_
    replace h := h.2.2.2.1 hc3
    refine lv_aload_n hx hb dX5_count_51 rfl (lv_at hl 0 rfl) ?_
    refine z_get (A d0) hZ (ci := 5) (j := 24) ho_x0.1 ho_x0.2 (by decide) (by decide) k_fl_RX5_88 (v := .int (mI M x0 24)) rfl dX5_count_52 ?_
    exact z_iret A hd0 hZ hr ⟨_, rfl, h⟩ dX5_count_55
  by_cases hc4 : x1 = 4
  · refine lv_tableIn (off := 55) (tgt := 56) hx hb dX5_count_1 (by rw [hc4]; decide) (by rw [hc4]; decide) (by rw [hc4]; rfl) (by decide) ?_
    replace h := h.2.2.2.2.1 hc4
    refine lv_aload_n hx hb dX5_count_56 rfl (lv_at hl 0 rfl) ?_
    refine z_get (A d0) hZ (ci := 5) (j := 25) ho_x0.1 ho_x0.2 (by decide) (by decide) k_fl_RX5_91 (v := .int (mI M x0 25)) rfl dX5_count_57 ?_
    exact z_iret A hd0 hZ hr ⟨_, rfl, h⟩ dX5_count_60
  have hn0 := lv_neT hc0 (show (0 : Int32).toInt = 0 from rfl)
  have hn1 := lv_neT hc1 (show (1 : Int32).toInt = 1 from rfl)
  have hn2 := lv_neT hc2 (show (2 : Int32).toInt = 2 from rfl)
  have hn3 := lv_neT hc3 (show (3 : Int32).toInt = 3 from rfl)
  have hn4 := lv_neT hc4 (show (4 : Int32).toInt = 4 from rfl)
  refine lv_tableOut (tgt := 61) hx hb dX5_count_1 (by omega) (by decide) ?_
  replace h := h.2.2.2.2.2 hc0 hc1 hc2 hc3 hc4
  refine lv_iconst (v := (-1 : Int32)) hx hb dX5_count_61 (by decide) ?_
  exact z_iret A hd0 hZ hr ⟨_, rfl, h⟩ dX5_count_62
