/-! cX4_few -/
set_option maxRecDepth 100000 in
set_option maxHeartbeats 4000000 in
theorem zb_X4_few_14 {p : Program} {l : Launch} {e : Env} {R : Room} {s : State} {m : MethodId} {args : Array Value} {below : List Frame} {meth : Method} {c : Code} {G : ZG} {base z0 : Nat} {Q : Int32 → Mem → Prop} (A : ∀ d, Amb p R (s.setDrawn d) m args meth c G base z0 cX4_few yX4_few.cls 4 3 85) (hr : meth.sig.returnType = (some .int)) {K54 : Int32 → Mem → Prop} :
  ∀ (n : Nat) {d0 : Drawn} {H : Heap} {locs : List Loc} {cells slots : Nat} {ls : Array Slot} {x0 : Nat} {x1 : Int32} {x2 : Int32} {x3 : Int32} {M : Mem} (ho_x0 : isO M x0 4) (hd0 : s.drawn.sameBut d0 lw_cs) (hZ : ZH G true base s.heap M H locs) (hl : lv_has ls 4 [(0, .ref (base + x0)), (1, .int x1), (2, .int x2), (3, .int x3)]) (h : wp_X4_few_14 n x0 x1 x2 x3 M Q K54) (hK54 : ∀ {d0 : Drawn} {H : Heap} {locs : List Loc} {cells slots : Nat} {ls : Array Slot} {x2 : Int32} {M : Mem}, s.drawn.sameBut d0 lw_cs → ZH G true base s.heap M H locs → lv_has ls 4 [(2, .int x2)] → K54 x2 M → W p l e R (s.setDrawn d0) m args below meth c H locs cells slots (ZEnd below G true base z0 (qI Q) args s) (F0 m 54 ls [])), W p l e R (s.setDrawn d0) m args below meth c H locs cells slots (ZEnd below G true base z0 (qI Q) args s) (F0 m 14 ls []) := by
  have hx := (A default).1
  have hb := (A default).2.1
  intro n
  induction n with
  | zero => intro d0 H locs cells slots ls x0 x1 x2 x3 M ho_x0 hd0 hZ hl h hK54; exact h.elim
  | succ n ih =>
    intro d0 H locs cells slots ls x0 x1 x2 x3 M ho_x0 hd0 hZ hl h hK54
    unfold wp_X4_few_14 at h
    refine lv_iload_n hx hb dX4_few_14 rfl (lv_at hl 3 rfl) ?_
    refine lv_aload_n hx hb dX4_few_15 rfl (lv_at hl 0 rfl) ?_
    refine z_get (A d0) hZ (ci := 4) (j := 1) ho_x0.1 ho_x0.2 (by decide) (by decide) k_fl_RX4_15 (v := .int (mI M x0 1)) rfl dX4_few_16 ?_
    refine lv_icmp_ge (tgt := 54) hx hb dX4_few_19 (by decide) (fun hc => ?_) (fun hc => ?_)
    · replace h := h.1 hc
      exact hK54 hd0 hZ (lv_sub hl [2] rfl) h
    · replace h := h.2 hc
      refine lv_iload_n hx hb dX4_few_22 rfl (lv_at hl 2 rfl) ?_
      refine lv_aload_n hx hb dX4_few_23 rfl (lv_at hl 0 rfl) ?_
      refine z_get (A d0) hZ (ci := 4) (j := 1) ho_x0.1 ho_x0.2 (by decide) (by decide) k_fl_RX4_15 (v := .int (mI M x0 1)) rfl dX4_few_24 ?_
      refine lv_icmp_ge (tgt := 54) hx hb dX4_few_27 (by decide) (fun hc => ?_) (fun hc => ?_)
      · replace h := h.1 hc
        exact hK54 hd0 hZ (lv_sub hl [2] rfl) h
      · replace h := h.2 hc
        refine lv_aload_n hx hb dX4_few_30 rfl (lv_at hl 0 rfl) ?_
        refine z_get (A d0) hZ (ci := 4) (j := 12) ho_x0.1 ho_x0.2 (by decide) (by decide) k_fl_RX4_63 (v := .ref (base + 17)) (zv_fin (zf4 ho_x0 rfl) rfl) dX4_few_31 ?_
        refine lv_aload_n hx hb dX4_few_34 rfl (lv_at hl 0 rfl) ?_
        refine z_get (A d0) hZ (ci := 4) (j := 0) ho_x0.1 ho_x0.2 (by decide) (by decide) k_fl_RX4_11 (v := .ref (base + 1)) (zv_fin (zf4 ho_x0 rfl) rfl) dX4_few_35 ?_
        refine lv_iload_n hx hb dX4_few_38 rfl (lv_at hl 3 rfl) ?_
        refine lv_aload_n hx hb dX4_few_39 rfl (lv_at hl 0 rfl) ?_
        refine z_get (A d0) hZ (ci := 4) (j := 1) ho_x0.1 ho_x0.2 (by decide) (by decide) k_fl_RX4_15 (v := .int (mI M x0 1)) rfl dX4_few_40 ?_
        refine lv_iload_n hx hb dX4_few_43 rfl (lv_at hl 1 rfl) ?_
        refine z_callV A hd0 hZ (ci := 1) (nA := 4) (As := [vr base (some 1), .int x3, .int (mI M x0 1), .int x1]) (by decide) (isO_c (a := 17) hZ.k0 (by decide) rfl) (c_X1_endOfSpan l G base M 17 (some 1) x3 (mI M x0 1) x1 _ h) k_ml_RX4_83 k_im_yX1_endOfSpan k_se_yX1_endOfSpan k_in_RX1 k_co_yX1_endOfSpan (by decide +kernel) ⟨by decide, by decide⟩ rfl rfl (Nat.le_of_ble_eq_true rfl) hl dX4_few_44 (fun v M1 H locs d0 cells slots hq hd0 hZ hm => ?_)
        clear h
        obtain ⟨i2, rfl, h⟩ := hq
        have ho_x0 := isO_le hm ho_x0
        refine lv_istore_n (lv' := [(3, .int i2), (0, .ref (base + x0)), (1, .int x1), (2, .int x2)]) hx hb dX4_few_47 rfl hl (by decide) rfl (fun ls hl2 => ?_)
        replace hl := hl2
        obtain ⟨i3, ei3⟩ : ∃ y : Int32, y = x2 + (1 : Int32) := ⟨_, rfl⟩
        replace h := h i3 ei3
        refine lv_iinc (v := i3) (lv' := [(2, .int i3), (3, .int i2), (0, .ref (base + x0)), (1, .int x1)]) hx hb dX4_few_48 hl (k := 3) rfl (by rw [ei3]; rfl) (by decide) rfl (fun ls hl2 => ?_)
        replace hl := hl2
        refine lv_goto (tgt := 14) hx hb dX4_few_51 (by decide) ?_
        exact ih ho_x0 hd0 hZ (lv_sub hl [2, 3, 0, 1] rfl) h hK54
set_option maxRecDepth 100000 in
set_option maxHeartbeats 4000000 in
theorem zb_X4_few_54 {p : Program} {l : Launch} {e : Env} {R : Room} {s : State} {m : MethodId} {args : Array Value} {below : List Frame} {meth : Method} {c : Code} {G : ZG} {base z0 : Nat} {Q : Int32 → Mem → Prop} (A : ∀ d, Amb p R (s.setDrawn d) m args meth c G base z0 cX4_few yX4_few.cls 4 3 85) (hr : meth.sig.returnType = (some .int)) {d0 : Drawn} {H : Heap} {locs : List Loc} {cells slots : Nat} {ls : Array Slot} {x2 : Int32} {M : Mem} (hd0 : s.drawn.sameBut d0 lw_cs) (hZ : ZH G true base s.heap M H locs) (hl : lv_has ls 4 [(2, .int x2)]) (h : wp_X4_few_54 x2 M Q) : W p l e R (s.setDrawn d0) m args below meth c H locs cells slots (ZEnd below G true base z0 (qI Q) args s) (F0 m 54 ls []) := by
  have hx := (A d0).1
  have hb := (A d0).2.1
  unfold wp_X4_few_54 at h
  refine lv_iload_n hx hb dX4_few_54 rfl (lv_at hl 0 rfl) ?_
  exact z_iret A hd0 hZ hr ⟨_, rfl, h⟩ dX4_few_55
set_option maxRecDepth 100000 in
set_option maxHeartbeats 4000000 in
theorem c_X4_few (l : Launch) (G : ZG) (base : Nat) (M : Mem) (x0 : Nat) (x1 : Int32) (Q : Int32 → Mem → Prop) (h : wp_X4_few x0 x1 M Q) : ZMet l yX4_few cX4_few 4 (some .int) 3 85 G true base M [.ref (base + x0), .int x1] (qI Q) := by
  refine z_start (by decide) (Nat.le_of_ble_eq_true rfl) k_co_yX4_few ?_
  intro p e s m below meth c R d0 H locs cells slots ls A hr hn hd0 hZ hl
  have hx := (A d0).1
  have hb := (A d0).2.1
  have hl : lv_has ls 4 [(0, .ref (base + x0)), (1, .int x1)] := hl
  unfold wp_X4_few at h
  obtain ⟨ho_x0, h⟩ := h
  refine lv_iload_n hx hb dX4_few_0 rfl (lv_at hl 1 rfl) ?_
  refine z_callS A hd0 hZ (nA := 1) (As := [.int x1]) (c_X4_isMargin l G base M x1 _ h) k_ml_RX4_79 k_st_yX4_isMargin k_in_RX4 k_co_yX4_isMargin (by decide +kernel) ⟨by decide, by decide⟩ rfl rfl (Nat.le_of_ble_eq_true rfl) hl dX4_few_1 (fun v M4 H locs d0 cells slots hq hd0 hZ hm => ?_)
  clear h
  obtain ⟨i5, rfl, h⟩ := hq
  have ho_x0 := isO_le hm ho_x0
  refine lv_if_ne (tgt := 10) hx hb dX4_few_4 (by decide) (fun hc => ?_) (fun hc => ?_)
  · replace h := h.1 hc
    refine lv_iconst (v := (0 : Int32)) hx hb dX4_few_10 (by decide) ?_
    refine lv_istore_n (lv' := [(2, .int (0 : Int32)), (0, .ref (base + x0)), (1, .int x1)]) hx hb dX4_few_11 rfl hl (by decide) rfl (fun ls hl2 => ?_)
    replace hl := hl2
    refine lv_iconst (v := (0 : Int32)) hx hb dX4_few_12 (by decide) ?_
    refine lv_istore_n (lv' := [(3, .int (0 : Int32)), (2, .int (0 : Int32)), (0, .ref (base + x0)), (1, .int x1)]) hx hb dX4_few_13 rfl hl (by decide) rfl (fun ls hl2 => ?_)
    replace hl := hl2
    exact (Exists.elim h fun kk h => zb_X4_few_14 A hr kk ho_x0 hd0 hZ (lv_sub hl [2, 3, 1, 0] rfl) h (fun hd0 hZ hl h => (zb_X4_few_54 A hr hd0 hZ hl h)))
  · replace h := h.2 hc
    refine lv_bipush (v := (-2 : Int32)) hx hb dX4_few_7 (by decide) ?_
    exact z_iret A hd0 hZ hr ⟨_, rfl, h⟩ dX4_few_9
/-! cX4_passes -/
set_option maxRecDepth 100000 in
set_option maxHeartbeats 4000000 in
theorem zb_X4_passes_30 {p : Program} {l : Launch} {e : Env} {R : Room} {s : State} {m : MethodId} {args : Array Value} {below : List Frame} {meth : Method} {c : Code} {G : ZG} {base z0 : Nat} {Q : Int32 → Mem → Prop} (A : ∀ d, Amb p R (s.setDrawn d) m args meth c G base z0 cX4_passes yX4_passes.cls 5 2 55) (hr : meth.sig.returnType = (some .int)) {d0 : Drawn} {H : Heap} {locs : List Loc} {cells slots : Nat} {ls : Array Slot}  {M : Mem} (hd0 : s.drawn.sameBut d0 lw_cs) (hZ : ZH G true base s.heap M H locs) (hl : lv_has ls 5 []) (h : wp_X4_passes_30 M Q) : W p l e R (s.setDrawn d0) m args below meth c H locs cells slots (ZEnd below G true base z0 (qI Q) args s) (F0 m 30 ls []) := by
  have hx := (A d0).1
  have hb := (A d0).2.1
  unfold wp_X4_passes_30 at h
  refine lv_bipush (v := (-2 : Int32)) hx hb dX4_passes_30 (by decide) ?_
  exact z_iret A hd0 hZ hr ⟨_, rfl, h⟩ dX4_passes_32
set_option maxRecDepth 100000 in
set_option maxHeartbeats 4000000 in
theorem zb_X4_passes_57 {p : Program} {l : Launch} {e : Env} {R : Room} {s : State} {m : MethodId} {args : Array Value} {below : List Frame} {meth : Method} {c : Code} {G : ZG} {base z0 : Nat} {Q : Int32 → Mem → Prop} (A : ∀ d, Amb p R (s.setDrawn d) m args meth c G base z0 cX4_passes yX4_passes.cls 5 2 55) (hr : meth.sig.returnType = (some .int)) {d0 : Drawn} {H : Heap} {locs : List Loc} {cells slots : Nat} {ls : Array Slot} {t0 : Int32} {M : Mem} (hd0 : s.drawn.sameBut d0 lw_cs) (hZ : ZH G true base s.heap M H locs) (hl : lv_has ls 5 []) (h : wp_X4_passes_57 t0 M Q) : W p l e R (s.setDrawn d0) m args below meth c H locs cells slots (ZEnd below G true base z0 (qI Q) args s) (F0 m 57 ls [.int t0]) := by
  have hx := (A d0).1
  have hb := (A d0).2.1
  unfold wp_X4_passes_57 at h
  exact z_iret A hd0 hZ hr ⟨_, rfl, h⟩ dX4_passes_57
set_option maxRecDepth 100000 in
set_option maxHeartbeats 4000000 in
theorem c_X4_passes (l : Launch) (G : ZG) (base : Nat) (M : Mem) (x0 : Nat) (x1 : Int32) (x2 : Int32) (x3 : Int32) (x4 : Int32) (Q : Int32 → Mem → Prop) (h : wp_X4_passes x0 x1 x2 x3 x4 M Q) : ZMet l yX4_passes cX4_passes 5 (some .int) 2 55 G true base M [.ref (base + x0), .int x1, .int x2, .int x3, .int x4] (qI Q) := by
  refine z_start (by decide) (Nat.le_of_ble_eq_true rfl) k_co_yX4_passes ?_
  intro p e s m below meth c R d0 H locs cells slots ls A hr hn hd0 hZ hl
  have hx := (A d0).1
  have hb := (A d0).2.1
  have hl : lv_has ls 5 [(0, .ref (base + x0)), (1, .int x1), (2, .int x2), (3, .int x3), (4, .int x4)] := hl
  unfold wp_X4_passes at h
  obtain ⟨ho_x0, h⟩ := h
  refine lv_iload hx hb dX4_passes_0 (lv_at hl 4 rfl) ?_
  refine z_callS A hd0 hZ (nA := 1) (As := [.int x4]) (c_X4_isMargin l G base M x4 _ h) k_ml_RX4_79 k_st_yX4_isMargin k_in_RX4 k_co_yX4_isMargin (by decide +kernel) ⟨by decide, by decide⟩ rfl rfl (Nat.le_of_ble_eq_true rfl) hl dX4_passes_2 (fun v M1 H locs d0 cells slots hq hd0 hZ hm => ?_)
  clear h
  obtain ⟨i2, rfl, h⟩ := hq
  have ho_x0 := isO_le hm ho_x0
  refine lv_if_eq (tgt := 30) hx hb dX4_passes_5 (by decide) (fun hc => ?_) (fun hc => ?_)
  · replace h := h.1 hc
    exact (zb_X4_passes_30 A hr hd0 hZ (lv_sub hl [] rfl) h)
  · replace h := h.2 hc
    refine lv_iload_n hx hb dX4_passes_8 rfl (lv_at hl 1 rfl) ?_
    refine lv_if_lt (tgt := 30) hx hb dX4_passes_9 (by decide) (fun hc => ?_) (fun hc => ?_)
    · replace h := h.1 hc
      exact (zb_X4_passes_30 A hr hd0 hZ (lv_sub hl [] rfl) h)
    · replace h := h.2 hc
      refine lv_iload_n hx hb dX4_passes_12 rfl (lv_at hl 2 rfl) ?_
      refine lv_iload_n hx hb dX4_passes_13 rfl (lv_at hl 1 rfl) ?_
      refine lv_icmp_le (tgt := 30) hx hb dX4_passes_14 (by decide) (fun hc => ?_) (fun hc => ?_)
      · replace h := h.1 hc
        exact (zb_X4_passes_30 A hr hd0 hZ (lv_sub hl [] rfl) h)
      · replace h := h.2 hc
        refine lv_iload_n hx hb dX4_passes_17 rfl (lv_at hl 3 rfl) ?_
        refine lv_iload_n hx hb dX4_passes_18 rfl (lv_at hl 2 rfl) ?_
        refine lv_icmp_le (tgt := 30) hx hb dX4_passes_19 (by decide) (fun hc => ?_) (fun hc => ?_)
        · replace h := h.1 hc
          exact (zb_X4_passes_30 A hr hd0 hZ (lv_sub hl [] rfl) h)
        · replace h := h.2 hc
          refine lv_iload_n hx hb dX4_passes_22 rfl (lv_at hl 3 rfl) ?_
          refine lv_aload_n hx hb dX4_passes_23 rfl (lv_at hl 0 rfl) ?_
          refine z_get (A d0) hZ (ci := 4) (j := 1) ho_x0.1 ho_x0.2 (by decide) (by decide) k_fl_RX4_15 (v := .int (mI M1 x0 1)) rfl dX4_passes_24 ?_
          refine lv_icmp_lt (tgt := 33) hx hb dX4_passes_27 (by decide) (fun hc => ?_) (fun hc => ?_)
          · replace h := h.1 hc
            refine lv_aload_n hx hb dX4_passes_33 rfl (lv_at hl 0 rfl) ?_
            refine z_get (A d0) hZ (ci := 4) (j := 12) ho_x0.1 ho_x0.2 (by decide) (by decide) k_fl_RX4_63 (v := .ref (base + 17)) (zv_fin (zf4 ho_x0 rfl) rfl) dX4_passes_34 ?_
            refine lv_aload_n hx hb dX4_passes_37 rfl (lv_at hl 0 rfl) ?_
            refine z_get (A d0) hZ (ci := 4) (j := 0) ho_x0.1 ho_x0.2 (by decide) (by decide) k_fl_RX4_11 (v := .ref (base + 1)) (zv_fin (zf4 ho_x0 rfl) rfl) dX4_passes_38 ?_
            refine lv_iload_n hx hb dX4_passes_41 rfl (lv_at hl 1 rfl) ?_
            refine lv_iload_n hx hb dX4_passes_42 rfl (lv_at hl 2 rfl) ?_
            refine lv_iload_n hx hb dX4_passes_43 rfl (lv_at hl 3 rfl) ?_
            refine lv_iload hx hb dX4_passes_44 (lv_at hl 4 rfl) ?_
            refine z_callV A hd0 hZ (ci := 1) (nA := 5) (As := [vr base (some 1), .int x1, .int x2, .int x3, .int x4]) (by decide) (isO_c (a := 17) hZ.k0 (by decide) rfl) (c_X1_passThree l G base M1 17 (some 1) x1 x2 x3 x4 _ h) k_ml_RX4_87 k_im_yX1_passThree k_se_yX1_passThree k_in_RX1 k_co_yX1_passThree (by decide +kernel) ⟨by decide, by decide⟩ rfl rfl (Nat.le_of_ble_eq_true rfl) hl dX4_passes_46 (fun v M3 H locs d0 cells slots hq hd0 hZ hm => ?_)
            clear h
            obtain ⟨i4, rfl, h⟩ := hq
            have ho_x0 := isO_le hm ho_x0
            refine lv_if_eq (tgt := 56) hx hb dX4_passes_49 (by decide) (fun hc => ?_) (fun hc => ?_)
            · replace h := h.1 hc
              refine lv_iconst (v := (0 : Int32)) hx hb dX4_passes_56 (by decide) ?_
              exact (zb_X4_passes_57 A hr hd0 hZ (lv_sub hl [] rfl) h)
            · replace h := h.2 hc
              refine lv_iconst (v := (1 : Int32)) hx hb dX4_passes_52 (by decide) ?_
              refine lv_goto (tgt := 57) hx hb dX4_passes_53 (by decide) ?_
              exact (zb_X4_passes_57 A hr hd0 hZ (lv_sub hl [] rfl) h)
          · replace h := h.2 hc
            exact (zb_X4_passes_30 A hr hd0 hZ (lv_sub hl [] rfl) h)
/-! cX4_oneOfTwoThatBar -/
set_option maxRecDepth 100000 in
set_option maxHeartbeats 4000000 in
theorem zb_X4_oneOfTwoThatBar_15 {p : Program} {l : Launch} {e : Env} {R : Room} {s : State} {m : MethodId} {args : Array Value} {below : List Frame} {meth : Method} {c : Code} {G : ZG} {base z0 : Nat} {Q : Int32 → Mem → Prop} (A : ∀ d, Amb p R (s.setDrawn d) m args meth c G base z0 cX4_oneOfTwoThatBar yX4_oneOfTwoThatBar.cls 6 2 55) (hr : meth.sig.returnType = (some .int)) {K44 : Int32 → Int32 → Int32 → Mem → Prop} {K62 : Nat → Int32 → Int32 → Int32 → Mem → Prop} :
  ∀ (n : Nat) {d0 : Drawn} {H : Heap} {locs : List Loc} {cells slots : Nat} {ls : Array Slot} {x0 : Nat} {x2 : Int32} {x3 : Int32} {x4 : Int32} {x5 : Int32} {M : Mem} (ho_x0 : isO M x0 4) (hd0 : s.drawn.sameBut d0 lw_cs) (hZ : ZH G true base s.heap M H locs) (hl : lv_has ls 6 [(0, .ref (base + x0)), (2, .int x2), (3, .int x3), (4, .int x4), (5, .int x5)]) (h : wp_X4_oneOfTwoThatBar_15 n x0 x2 x3 x4 x5 M Q K44 K62) (hK44 : ∀ {d0 : Drawn} {H : Heap} {locs : List Loc} {cells slots : Nat} {ls : Array Slot} {x3 : Int32} {x4 : Int32} {x5 : Int32} {M : Mem}, s.drawn.sameBut d0 lw_cs → ZH G true base s.heap M H locs → lv_has ls 6 [(3, .int x3), (4, .int x4), (5, .int x5)] → K44 x3 x4 x5 M → W p l e R (s.setDrawn d0) m args below meth c H locs cells slots (ZEnd below G true base z0 (qI Q) args s) (F0 m 44 ls [])) (hK62 : ∀ {d0 : Drawn} {H : Heap} {locs : List Loc} {cells slots : Nat} {ls : Array Slot} {x0 : Nat} {x2 : Int32} {x3 : Int32} {x4 : Int32} {M : Mem} (ho_x0 : isO M x0 4), s.drawn.sameBut d0 lw_cs → ZH G true base s.heap M H locs → lv_has ls 6 [(0, .ref (base + x0)), (2, .int x2), (3, .int x3), (4, .int x4)] → K62 x0 x2 x3 x4 M → W p l e R (s.setDrawn d0) m args below meth c H locs cells slots (ZEnd below G true base z0 (qI Q) args s) (F0 m 62 ls [])), W p l e R (s.setDrawn d0) m args below meth c H locs cells slots (ZEnd below G true base z0 (qI Q) args s) (F0 m 15 ls []) := by
  have hx := (A default).1
  have hb := (A default).2.1
  intro n
  induction n with
  | zero => intro d0 H locs cells slots ls x0 x2 x3 x4 x5 M ho_x0 hd0 hZ hl h hK44 hK62; exact h.elim
  | succ n ih =>
    intro d0 H locs cells slots ls x0 x2 x3 x4 x5 M ho_x0 hd0 hZ hl h hK44 hK62
    unfold wp_X4_oneOfTwoThatBar_15 at h
    refine lv_iload hx hb dX4_oneOfTwoThatBar_15 (lv_at hl 4 rfl) ?_
    refine lv_iload_n hx hb dX4_oneOfTwoThatBar_17 rfl (lv_at hl 1 rfl) ?_
    refine lv_icmp_ge (tgt := 62) hx hb dX4_oneOfTwoThatBar_18 (by decide) (fun hc => ?_) (fun hc => ?_)
    · replace h := h.1 hc
      exact hK62 ho_x0 hd0 hZ (lv_sub hl [0, 1, 2, 3] rfl) h
    · replace h := h.2 hc
      refine lv_aload_n hx hb dX4_oneOfTwoThatBar_21 rfl (lv_at hl 0 rfl) ?_
      refine z_get (A d0) hZ (ci := 4) (j := 12) ho_x0.1 ho_x0.2 (by decide) (by decide) k_fl_RX4_63 (v := .ref (base + 17)) (zv_fin (zf4 ho_x0 rfl) rfl) dX4_oneOfTwoThatBar_22 ?_
      refine lv_aload_n hx hb dX4_oneOfTwoThatBar_25 rfl (lv_at hl 0 rfl) ?_
      refine z_get (A d0) hZ (ci := 4) (j := 0) ho_x0.1 ho_x0.2 (by decide) (by decide) k_fl_RX4_11 (v := .ref (base + 1)) (zv_fin (zf4 ho_x0 rfl) rfl) dX4_oneOfTwoThatBar_26 ?_
      refine lv_iload hx hb dX4_oneOfTwoThatBar_29 (lv_at hl 3 rfl) ?_
      refine lv_iload hx hb dX4_oneOfTwoThatBar_31 (lv_at hl 4 rfl) ?_
      refine lv_iload_n hx hb dX4_oneOfTwoThatBar_33 rfl (lv_at hl 1 rfl) ?_
      refine lv_aload_n hx hb dX4_oneOfTwoThatBar_34 rfl (lv_at hl 0 rfl) ?_
      refine z_get (A d0) hZ (ci := 4) (j := 2) ho_x0.1 ho_x0.2 (by decide) (by decide) k_fl_RX4_19 (v := .int (mI M x0 2)) rfl dX4_oneOfTwoThatBar_35 ?_
      refine z_callV A hd0 hZ (ci := 1) (nA := 5) (As := [vr base (some 1), .int x4, .int x5, .int x2, .int (mI M x0 2)]) (by decide) (isO_c (a := 17) hZ.k0 (by decide) rfl) (c_X1_passThree l G base M 17 (some 1) x4 x5 x2 (mI M x0 2) _ h) k_ml_RX4_87 k_im_yX1_passThree k_se_yX1_passThree k_in_RX1 k_co_yX1_passThree (by decide +kernel) ⟨by decide, by decide⟩ rfl rfl (Nat.le_of_ble_eq_true rfl) hl dX4_oneOfTwoThatBar_38 (fun v M2 H locs d0 cells slots hq hd0 hZ hm => ?_)
      clear h
      obtain ⟨i3, rfl, h⟩ := hq
      have ho_x0 := isO_le hm ho_x0
      refine lv_if_ne (tgt := 56) hx hb dX4_oneOfTwoThatBar_41 (by decide) (fun hc => ?_) (fun hc => ?_)
      · replace h := h.1 hc
        obtain ⟨i4, ei4⟩ : ∃ y : Int32, y = x5 + (1 : Int32) := ⟨_, rfl⟩
        replace h := h i4 ei4
        refine lv_iinc (v := i4) (lv' := [(5, .int i4), (0, .ref (base + x0)), (2, .int x2), (3, .int x3), (4, .int x4)]) hx hb dX4_oneOfTwoThatBar_56 hl (k := 4) rfl (by rw [ei4]; rfl) (by decide) rfl (fun ls hl2 => ?_)
        replace hl := hl2
        refine lv_goto (tgt := 15) hx hb dX4_oneOfTwoThatBar_59 (by decide) ?_
        exact ih ho_x0 hd0 hZ (lv_sub hl [1, 2, 3, 4, 0] rfl) h hK44 hK62
      · replace h := h.2 hc
        exact hK44 hd0 hZ (lv_sub hl [2, 3, 4] rfl) h
set_option maxRecDepth 100000 in
set_option maxHeartbeats 4000000 in
theorem zb_X4_oneOfTwoThatBar_55 {p : Program} {l : Launch} {e : Env} {R : Room} {s : State} {m : MethodId} {args : Array Value} {below : List Frame} {meth : Method} {c : Code} {G : ZG} {base z0 : Nat} {Q : Int32 → Mem → Prop} (A : ∀ d, Amb p R (s.setDrawn d) m args meth c G base z0 cX4_oneOfTwoThatBar yX4_oneOfTwoThatBar.cls 6 2 55) (hr : meth.sig.returnType = (some .int)) {d0 : Drawn} {H : Heap} {locs : List Loc} {cells slots : Nat} {ls : Array Slot} {t0 : Int32} {M : Mem} (hd0 : s.drawn.sameBut d0 lw_cs) (hZ : ZH G true base s.heap M H locs) (hl : lv_has ls 6 []) (h : wp_X4_oneOfTwoThatBar_55 t0 M Q) : W p l e R (s.setDrawn d0) m args below meth c H locs cells slots (ZEnd below G true base z0 (qI Q) args s) (F0 m 55 ls [.int t0]) := by
  have hx := (A d0).1
  have hb := (A d0).2.1
  unfold wp_X4_oneOfTwoThatBar_55 at h
  exact z_iret A hd0 hZ hr ⟨_, rfl, h⟩ dX4_oneOfTwoThatBar_55
set_option maxRecDepth 100000 in
set_option maxHeartbeats 4000000 in
theorem zb_X4_oneOfTwoThatBar_62 {p : Program} {l : Launch} {e : Env} {R : Room} {s : State} {m : MethodId} {args : Array Value} {below : List Frame} {meth : Method} {c : Code} {G : ZG} {base z0 : Nat} {Q : Int32 → Mem → Prop} (A : ∀ d, Amb p R (s.setDrawn d) m args meth c G base z0 cX4_oneOfTwoThatBar yX4_oneOfTwoThatBar.cls 6 2 55) (hr : meth.sig.returnType = (some .int)) {K3 : Nat → Int32 → Int32 → Int32 → Mem → Prop} {K44 : Int32 → Int32 → Int32 → Mem → Prop} {K68 : Mem → Prop} {d0 : Drawn} {H : Heap} {locs : List Loc} {cells slots : Nat} {ls : Array Slot} {x0 : Nat} {x2 : Int32} {x3 : Int32} {x4 : Int32} {M : Mem} (ho_x0 : isO M x0 4) (hd0 : s.drawn.sameBut d0 lw_cs) (hZ : ZH G true base s.heap M H locs) (hl : lv_has ls 6 [(0, .ref (base + x0)), (2, .int x2), (3, .int x3), (4, .int x4)]) (h : wp_X4_oneOfTwoThatBar_62 x0 x2 x3 x4 M Q K3 K44 K68) (hK3 : ∀ {d0 : Drawn} {H : Heap} {locs : List Loc} {cells slots : Nat} {ls : Array Slot} {x0 : Nat} {x2 : Int32} {x3 : Int32} {x4 : Int32} {M : Mem} (ho_x0 : isO M x0 4), s.drawn.sameBut d0 lw_cs → ZH G true base s.heap M H locs → lv_has ls 6 [(0, .ref (base + x0)), (2, .int x2), (3, .int x3), (4, .int x4)] → K3 x0 x2 x3 x4 M → W p l e R (s.setDrawn d0) m args below meth c H locs cells slots (ZEnd below G true base z0 (qI Q) args s) (F0 m 3 ls [])) (hK44 : ∀ {d0 : Drawn} {H : Heap} {locs : List Loc} {cells slots : Nat} {ls : Array Slot} {x3 : Int32} {x4 : Int32} {x5 : Int32} {M : Mem}, s.drawn.sameBut d0 lw_cs → ZH G true base s.heap M H locs → lv_has ls 6 [(3, .int x3), (4, .int x4), (5, .int x5)] → K44 x3 x4 x5 M → W p l e R (s.setDrawn d0) m args below meth c H locs cells slots (ZEnd below G true base z0 (qI Q) args s) (F0 m 44 ls [])) (hK68 : ∀ {d0 : Drawn} {H : Heap} {locs : List Loc} {cells slots : Nat} {ls : Array Slot} {M : Mem}, s.drawn.sameBut d0 lw_cs → ZH G true base s.heap M H locs → lv_has ls 6 [] → K68 M → W p l e R (s.setDrawn d0) m args below meth c H locs cells slots (ZEnd below G true base z0 (qI Q) args s) (F0 m 68 ls [])) : W p l e R (s.setDrawn d0) m args below meth c H locs cells slots (ZEnd below G true base z0 (qI Q) args s) (F0 m 62 ls []) := by
  have hx := (A d0).1
  have hb := (A d0).2.1
  unfold wp_X4_oneOfTwoThatBar_62 at h
  obtain ⟨i5, ei5⟩ : ∃ y : Int32, y = x4 + (1 : Int32) := ⟨_, rfl⟩
  replace h := h i5 ei5
  refine lv_iinc (v := i5) (lv' := [(4, .int i5), (0, .ref (base + x0)), (2, .int x2), (3, .int x3)]) hx hb dX4_oneOfTwoThatBar_62 hl (k := 3) rfl (by rw [ei5]; rfl) (by decide) rfl (fun ls hl2 => ?_)
  replace hl := hl2
  refine lv_goto (tgt := 3) hx hb dX4_oneOfTwoThatBar_65 (by decide) ?_
  exact hK3 ho_x0 hd0 hZ (lv_sub hl [1, 2, 3, 0] rfl) h
set_option maxRecDepth 100000 in
set_option maxHeartbeats 4000000 in
theorem zb_X4_oneOfTwoThatBar_68 {p : Program} {l : Launch} {e : Env} {R : Room} {s : State} {m : MethodId} {args : Array Value} {below : List Frame} {meth : Method} {c : Code} {G : ZG} {base z0 : Nat} {Q : Int32 → Mem → Prop} (A : ∀ d, Amb p R (s.setDrawn d) m args meth c G base z0 cX4_oneOfTwoThatBar yX4_oneOfTwoThatBar.cls 6 2 55) (hr : meth.sig.returnType = (some .int)) {d0 : Drawn} {H : Heap} {locs : List Loc} {cells slots : Nat} {ls : Array Slot}  {M : Mem} (hd0 : s.drawn.sameBut d0 lw_cs) (hZ : ZH G true base s.heap M H locs) (hl : lv_has ls 6 []) (h : wp_X4_oneOfTwoThatBar_68 M Q) : W p l e R (s.setDrawn d0) m args below meth c H locs cells slots (ZEnd below G true base z0 (qI Q) args s) (F0 m 68 ls []) := by
  have hx := (A d0).1
  have hb := (A d0).2.1
  unfold wp_X4_oneOfTwoThatBar_68 at h
  refine lv_iconst (v := (-1 : Int32)) hx hb dX4_oneOfTwoThatBar_68 (by decide) ?_
  exact z_iret A hd0 hZ hr ⟨_, rfl, h⟩ dX4_oneOfTwoThatBar_69
set_option maxRecDepth 100000 in
set_option maxHeartbeats 4000000 in
theorem zb_X4_oneOfTwoThatBar_3 {p : Program} {l : Launch} {e : Env} {R : Room} {s : State} {m : MethodId} {args : Array Value} {below : List Frame} {meth : Method} {c : Code} {G : ZG} {base z0 : Nat} {Q : Int32 → Mem → Prop} (A : ∀ d, Amb p R (s.setDrawn d) m args meth c G base z0 cX4_oneOfTwoThatBar yX4_oneOfTwoThatBar.cls 6 2 55) (hr : meth.sig.returnType = (some .int)) {K44 : Int32 → Int32 → Int32 → Mem → Prop} {K68 : Mem → Prop} :
  ∀ (n : Nat) {d0 : Drawn} {H : Heap} {locs : List Loc} {cells slots : Nat} {ls : Array Slot} {x0 : Nat} {x2 : Int32} {x3 : Int32} {x4 : Int32} {M : Mem} (ho_x0 : isO M x0 4) (hd0 : s.drawn.sameBut d0 lw_cs) (hZ : ZH G true base s.heap M H locs) (hl : lv_has ls 6 [(0, .ref (base + x0)), (2, .int x2), (3, .int x3), (4, .int x4)]) (h : wp_X4_oneOfTwoThatBar_3 n x0 x2 x3 x4 M Q K44 K68) (hK44 : ∀ {d0 : Drawn} {H : Heap} {locs : List Loc} {cells slots : Nat} {ls : Array Slot} {x3 : Int32} {x4 : Int32} {x5 : Int32} {M : Mem}, s.drawn.sameBut d0 lw_cs → ZH G true base s.heap M H locs → lv_has ls 6 [(3, .int x3), (4, .int x4), (5, .int x5)] → K44 x3 x4 x5 M → W p l e R (s.setDrawn d0) m args below meth c H locs cells slots (ZEnd below G true base z0 (qI Q) args s) (F0 m 44 ls [])) (hK68 : ∀ {d0 : Drawn} {H : Heap} {locs : List Loc} {cells slots : Nat} {ls : Array Slot} {M : Mem}, s.drawn.sameBut d0 lw_cs → ZH G true base s.heap M H locs → lv_has ls 6 [] → K68 M → W p l e R (s.setDrawn d0) m args below meth c H locs cells slots (ZEnd below G true base z0 (qI Q) args s) (F0 m 68 ls [])), W p l e R (s.setDrawn d0) m args below meth c H locs cells slots (ZEnd below G true base z0 (qI Q) args s) (F0 m 3 ls []) := by
  have hx := (A default).1
  have hb := (A default).2.1
  intro n
  induction n with
  | zero => intro d0 H locs cells slots ls x0 x2 x3 x4 M ho_x0 hd0 hZ hl h hK44 hK68; exact h.elim
  | succ n ih =>
    intro d0 H locs cells slots ls x0 x2 x3 x4 M ho_x0 hd0 hZ hl h hK44 hK68
    unfold wp_X4_oneOfTwoThatBar_3 at h
    refine lv_iload hx hb dX4_oneOfTwoThatBar_3 (lv_at hl 3 rfl) ?_
    refine lv_iload_n hx hb dX4_oneOfTwoThatBar_5 rfl (lv_at hl 1 rfl) ?_
    refine lv_icmp_ge (tgt := 68) hx hb dX4_oneOfTwoThatBar_6 (by decide) (fun hc => ?_) (fun hc => ?_)
    · replace h := h.1 hc
      exact hK68 hd0 hZ (lv_sub hl [] rfl) h
    · replace h := h.2 hc
      refine lv_iload hx hb dX4_oneOfTwoThatBar_9 (lv_at hl 3 rfl) ?_
      refine lv_iconst (v := (1 : Int32)) hx hb dX4_oneOfTwoThatBar_11 (by decide) ?_
      refine lv_iadd hx hb dX4_oneOfTwoThatBar_12 ?_
      obtain ⟨i1, ei1⟩ : ∃ y : Int32, y = x4 + (1 : Int32) := ⟨_, rfl⟩
      rw [← ei1]
      replace h := h i1 ei1
      refine lv_istore (lv' := [(5, .int i1), (0, .ref (base + x0)), (2, .int x2), (3, .int x3), (4, .int x4)]) hx hb dX4_oneOfTwoThatBar_13 hl (by decide) rfl (fun ls hl2 => ?_)
      replace hl := hl2
      exact (Exists.elim h fun kk h => zb_X4_oneOfTwoThatBar_15 A hr kk ho_x0 hd0 hZ (lv_sub hl [1, 2, 3, 4, 0] rfl) h (fun hd0 hZ hl h => hK44 hd0 hZ hl h) (fun ho_x0 hd0 hZ hl h => (zb_X4_oneOfTwoThatBar_62 A hr ho_x0 hd0 hZ hl h (fun ho_x0 hd0 hZ hl h => ih ho_x0 hd0 hZ hl h hK44 hK68) hK44 hK68)))
set_option maxRecDepth 100000 in
set_option maxHeartbeats 4000000 in
theorem zb_X4_oneOfTwoThatBar_44 {p : Program} {l : Launch} {e : Env} {R : Room} {s : State} {m : MethodId} {args : Array Value} {below : List Frame} {meth : Method} {c : Code} {G : ZG} {base z0 : Nat} {Q : Int32 → Mem → Prop} (A : ∀ d, Amb p R (s.setDrawn d) m args meth c G base z0 cX4_oneOfTwoThatBar yX4_oneOfTwoThatBar.cls 6 2 55) (hr : meth.sig.returnType = (some .int)) {d0 : Drawn} {H : Heap} {locs : List Loc} {cells slots : Nat} {ls : Array Slot} {x3 : Int32} {x4 : Int32} {x5 : Int32} {M : Mem} (hd0 : s.drawn.sameBut d0 lw_cs) (hZ : ZH G true base s.heap M H locs) (hl : lv_has ls 6 [(3, .int x3), (4, .int x4), (5, .int x5)]) (h : wp_X4_oneOfTwoThatBar_44 x3 x4 x5 M Q) : W p l e R (s.setDrawn d0) m args below meth c H locs cells slots (ZEnd below G true base z0 (qI Q) args s) (F0 m 44 ls []) := by
  have hx := (A d0).1
  have hb := (A d0).2.1
  unfold wp_X4_oneOfTwoThatBar_44 at h
  refine lv_iload_n hx hb dX4_oneOfTwoThatBar_44 rfl (lv_at hl 0 rfl) ?_
  refine lv_if_eq (tgt := 53) hx hb dX4_oneOfTwoThatBar_45 (by decide) (fun hc => ?_) (fun hc => ?_)
  · replace h := h.1 hc
    refine lv_iload hx hb dX4_oneOfTwoThatBar_53 (lv_at hl 2 rfl) ?_
    exact (zb_X4_oneOfTwoThatBar_55 A hr hd0 hZ (lv_sub hl [] rfl) h)
  · replace h := h.2 hc
    refine lv_iload hx hb dX4_oneOfTwoThatBar_48 (lv_at hl 1 rfl) ?_
    refine lv_goto (tgt := 55) hx hb dX4_oneOfTwoThatBar_50 (by decide) ?_
    exact (zb_X4_oneOfTwoThatBar_55 A hr hd0 hZ (lv_sub hl [] rfl) h)
set_option maxRecDepth 100000 in
set_option maxHeartbeats 4000000 in
theorem c_X4_oneOfTwoThatBar (l : Launch) (G : ZG) (base : Nat) (M : Mem) (x0 : Nat) (x1 : Int32) (x2 : Int32) (x3 : Int32) (Q : Int32 → Mem → Prop) (h : wp_X4_oneOfTwoThatBar x0 x1 x2 x3 M Q) : ZMet l yX4_oneOfTwoThatBar cX4_oneOfTwoThatBar 6 (some .int) 2 55 G true base M [.ref (base + x0), .int x1, .int x2, .int x3] (qI Q) := by
  refine z_start (by decide) (Nat.le_of_ble_eq_true rfl) k_co_yX4_oneOfTwoThatBar ?_
  intro p e s m below meth c R d0 H locs cells slots ls A hr hn hd0 hZ hl
  have hx := (A d0).1
  have hb := (A d0).2.1
  have hl : lv_has ls 6 [(0, .ref (base + x0)), (1, .int x1), (2, .int x2), (3, .int x3)] := hl
  unfold wp_X4_oneOfTwoThatBar at h
  obtain ⟨ho_x0, h⟩ := h
  refine lv_iload_n hx hb dX4_oneOfTwoThatBar_0 rfl (lv_at hl 1 rfl) ?_
  refine lv_istore (lv' := [(4, .int x1), (0, .ref (base + x0)), (1, .int x1), (2, .int x2), (3, .int x3)]) hx hb dX4_oneOfTwoThatBar_1 hl (by decide) rfl (fun ls hl2 => ?_)
  replace hl := hl2
  exact (Exists.elim h fun kk h => zb_X4_oneOfTwoThatBar_3 A hr kk ho_x0 hd0 hZ (lv_sub hl [1, 3, 4, 0] rfl) h (fun hd0 hZ hl h => (zb_X4_oneOfTwoThatBar_44 A hr hd0 hZ hl h)) (fun hd0 hZ hl h => (zb_X4_oneOfTwoThatBar_68 A hr hd0 hZ hl h)))
/-! cX4_span -/
set_option maxRecDepth 100000 in
set_option maxHeartbeats 4000000 in
theorem zb_X4_span_23 {p : Program} {l : Launch} {e : Env} {R : Room} {s : State} {m : MethodId} {args : Array Value} {below : List Frame} {meth : Method} {c : Code} {G : ZG} {base z0 : Nat} {Q : Int32 → Mem → Prop} (A : ∀ d, Amb p R (s.setDrawn d) m args meth c G base z0 cX4_span yX4_span.cls 7 3 85) (hr : meth.sig.returnType = (some .int)) {d0 : Drawn} {H : Heap} {locs : List Loc} {cells slots : Nat} {ls : Array Slot}  {M : Mem} (hd0 : s.drawn.sameBut d0 lw_cs) (hZ : ZH G true base s.heap M H locs) (hl : lv_has ls 7 []) (h : wp_X4_span_23 M Q) : W p l e R (s.setDrawn d0) m args below meth c H locs cells slots (ZEnd below G true base z0 (qI Q) args s) (F0 m 23 ls []) := by
  have hx := (A d0).1
  have hb := (A d0).2.1
  unfold wp_X4_span_23 at h
  refine lv_iconst (v := (-1 : Int32)) hx hb dX4_span_23 (by decide) ?_
  exact z_iret A hd0 hZ hr ⟨_, rfl, h⟩ dX4_span_24
set_option maxRecDepth 100000 in
set_option maxHeartbeats 4000000 in
theorem zb_X4_span_34 {p : Program} {l : Launch} {e : Env} {R : Room} {s : State} {m : MethodId} {args : Array Value} {below : List Frame} {meth : Method} {c : Code} {G : ZG} {base z0 : Nat} {Q : Int32 → Mem → Prop} (A : ∀ d, Amb p R (s.setDrawn d) m args meth c G base z0 cX4_span yX4_span.cls 7 3 85) (hr : meth.sig.returnType = (some .int)) {K82 : Nat → Int32 → Int32 → Int32 → Mem → Prop} :
  ∀ (n : Nat) {d0 : Drawn} {H : Heap} {locs : List Loc} {cells slots : Nat} {ls : Array Slot} {x0 : Nat} {x1 : Int32} {x2 : Int32} {x4 : Int32} {x5 : Int32} {x6 : Int32} {M : Mem} (ho_x0 : isO M x0 4) (hd0 : s.drawn.sameBut d0 lw_cs) (hZ : ZH G true base s.heap M H locs) (hl : lv_has ls 7 [(0, .ref (base + x0)), (1, .int x1), (2, .int x2), (4, .int x4), (5, .int x5), (6, .int x6)]) (h : wp_X4_span_34 n x0 x1 x2 x4 x5 x6 M Q K82) (hK82 : ∀ {d0 : Drawn} {H : Heap} {locs : List Loc} {cells slots : Nat} {ls : Array Slot} {x0 : Nat} {x2 : Int32} {x4 : Int32} {x5 : Int32} {M : Mem} (ho_x0 : isO M x0 4), s.drawn.sameBut d0 lw_cs → ZH G true base s.heap M H locs → lv_has ls 7 [(0, .ref (base + x0)), (2, .int x2), (4, .int x4), (5, .int x5)] → K82 x0 x2 x4 x5 M → W p l e R (s.setDrawn d0) m args below meth c H locs cells slots (ZEnd below G true base z0 (qI Q) args s) (F0 m 82 ls [])), W p l e R (s.setDrawn d0) m args below meth c H locs cells slots (ZEnd below G true base z0 (qI Q) args s) (F0 m 34 ls []) := by
  have hx := (A default).1
  have hb := (A default).2.1
  intro n
  induction n with
  | zero => intro d0 H locs cells slots ls x0 x1 x2 x4 x5 x6 M ho_x0 hd0 hZ hl h hK82; exact h.elim
  | succ n ih =>
    intro d0 H locs cells slots ls x0 x1 x2 x4 x5 x6 M ho_x0 hd0 hZ hl h hK82
    unfold wp_X4_span_34 at h
    refine lv_iload hx hb dX4_span_34 (lv_at hl 5 rfl) ?_
    refine lv_iload_n hx hb dX4_span_36 rfl (lv_at hl 1 rfl) ?_
    refine lv_icmp_ge (tgt := 82) hx hb dX4_span_37 (by decide) (fun hc => ?_) (fun hc => ?_)
    · replace h := h.1 hc
      exact hK82 ho_x0 hd0 hZ (lv_sub hl [0, 2, 3, 4] rfl) h
    · replace h := h.2 hc
      refine lv_iload hx hb dX4_span_40 (lv_at hl 4 rfl) ?_
      refine lv_aload_n hx hb dX4_span_42 rfl (lv_at hl 0 rfl) ?_
      refine z_get (A d0) hZ (ci := 4) (j := 1) ho_x0.1 ho_x0.2 (by decide) (by decide) k_fl_RX4_15 (v := .int (mI M x0 1)) rfl dX4_span_43 ?_
      refine lv_icmp_ge (tgt := 82) hx hb dX4_span_46 (by decide) (fun hc => ?_) (fun hc => ?_)
      · replace h := h.1 hc
        exact hK82 ho_x0 hd0 hZ (lv_sub hl [0, 2, 3, 4] rfl) h
      · replace h := h.2 hc
        refine lv_iload hx hb dX4_span_49 (lv_at hl 4 rfl) ?_
        refine lv_istore (lv' := [(4, .int x5), (0, .ref (base + x0)), (1, .int x1), (2, .int x2), (5, .int x5), (6, .int x6)]) hx hb dX4_span_51 hl (by decide) rfl (fun ls hl2 => ?_)
        replace hl := hl2
        refine lv_aload_n hx hb dX4_span_53 rfl (lv_at hl 1 rfl) ?_
        refine z_get (A d0) hZ (ci := 4) (j := 12) ho_x0.1 ho_x0.2 (by decide) (by decide) k_fl_RX4_63 (v := .ref (base + 17)) (zv_fin (zf4 ho_x0 rfl) rfl) dX4_span_54 ?_
        refine lv_aload_n hx hb dX4_span_57 rfl (lv_at hl 1 rfl) ?_
        refine z_get (A d0) hZ (ci := 4) (j := 0) ho_x0.1 ho_x0.2 (by decide) (by decide) k_fl_RX4_11 (v := .ref (base + 1)) (zv_fin (zf4 ho_x0 rfl) rfl) dX4_span_58 ?_
        refine lv_iload hx hb dX4_span_61 (lv_at hl 4 rfl) ?_
        refine lv_aload_n hx hb dX4_span_63 rfl (lv_at hl 1 rfl) ?_
        refine z_get (A d0) hZ (ci := 4) (j := 1) ho_x0.1 ho_x0.2 (by decide) (by decide) k_fl_RX4_15 (v := .int (mI M x0 1)) rfl dX4_span_64 ?_
        refine lv_aload_n hx hb dX4_span_67 rfl (lv_at hl 1 rfl) ?_
        refine z_get (A d0) hZ (ci := 4) (j := 2) ho_x0.1 ho_x0.2 (by decide) (by decide) k_fl_RX4_19 (v := .int (mI M x0 2)) rfl dX4_span_68 ?_
        refine z_callV A hd0 hZ (ci := 1) (nA := 4) (As := [vr base (some 1), .int x5, .int (mI M x0 1), .int (mI M x0 2)]) (by decide) (isO_c (a := 17) hZ.k0 (by decide) rfl) (c_X1_endOfSpan l G base M 17 (some 1) x5 (mI M x0 1) (mI M x0 2) _ h) k_ml_RX4_83 k_im_yX1_endOfSpan k_se_yX1_endOfSpan k_in_RX1 k_co_yX1_endOfSpan (by decide +kernel) ⟨by decide, by decide⟩ rfl rfl (Nat.le_of_ble_eq_true rfl) hl dX4_span_71 (fun v M1 H locs d0 cells slots hq hd0 hZ hm => ?_)
        clear h
        obtain ⟨i2, rfl, h⟩ := hq
        have ho_x0 := isO_le hm ho_x0
        refine lv_istore (lv' := [(5, .int i2), (4, .int x5), (0, .ref (base + x0)), (1, .int x1), (2, .int x2), (6, .int x6)]) hx hb dX4_span_74 hl (by decide) rfl (fun ls hl2 => ?_)
        replace hl := hl2
        obtain ⟨i3, ei3⟩ : ∃ y : Int32, y = x6 + (1 : Int32) := ⟨_, rfl⟩
        replace h := h i3 ei3
        refine lv_iinc (v := i3) (lv' := [(6, .int i3), (5, .int i2), (4, .int x5), (0, .ref (base + x0)), (1, .int x1), (2, .int x2)]) hx hb dX4_span_76 hl (k := 5) rfl (by rw [ei3]; rfl) (by decide) rfl (fun ls hl2 => ?_)
        replace hl := hl2
        refine lv_goto (tgt := 34) hx hb dX4_span_79 (by decide) ?_
        exact ih ho_x0 hd0 hZ (lv_sub hl [3, 4, 5, 2, 1, 0] rfl) h hK82
set_option maxRecDepth 100000 in
set_option maxHeartbeats 4000000 in
theorem zb_X4_span_145 {p : Program} {l : Launch} {e : Env} {R : Room} {s : State} {m : MethodId} {args : Array Value} {below : List Frame} {meth : Method} {c : Code} {G : ZG} {base z0 : Nat} {Q : Int32 → Mem → Prop} (A : ∀ d, Amb p R (s.setDrawn d) m args meth c G base z0 cX4_span yX4_span.cls 7 3 85) (hr : meth.sig.returnType = (some .int)) {d0 : Drawn} {H : Heap} {locs : List Loc} {cells slots : Nat} {ls : Array Slot} {t0 : Int32} {t1 : Int32} {t2 : Int32} {t3 : Nat} {M : Mem} (ho_t3 : isO M t3 4) (hd0 : s.drawn.sameBut d0 lw_cs) (hZ : ZH G true base s.heap M H locs) (hl : lv_has ls 7 []) (h : wp_X4_span_145 t0 t1 t2 t3 M Q) : W p l e R (s.setDrawn d0) m args below meth c H locs cells slots (ZEnd below G true base z0 (qI Q) args s) (F0 m 145 ls [.int t0, .int t1, .int t2, .ref (base + t3)]) := by
  have hx := (A d0).1
  have hb := (A d0).2.1
  unfold wp_X4_span_145 at h
  refine z_callV A hd0 hZ (ci := 4) (nA := 3) (As := [.int t2, .int t1, .int t0]) (by decide) ho_t3 (c_X4_oneOfTwoThatBar l G base M t3 t2 t1 t0 _ h) k_ml_RX4_91 k_im_yX4_oneOfTwoThatBar k_se_yX4_oneOfTwoThatBar k_in_RX4 k_co_yX4_oneOfTwoThatBar (by decide +kernel) ⟨by decide, by decide⟩ rfl rfl (Nat.le_of_ble_eq_true rfl) hl dX4_span_145 (fun v M6 H locs d0 cells slots hq hd0 hZ hm => ?_)
  clear h
  obtain ⟨i7, rfl, h⟩ := hq
  exact z_iret A hd0 hZ hr ⟨_, rfl, h⟩ dX4_span_148
set_option maxRecDepth 100000 in
set_option maxHeartbeats 4000000 in
theorem zb_X4_span_82 {p : Program} {l : Launch} {e : Env} {R : Room} {s : State} {m : MethodId} {args : Array Value} {below : List Frame} {meth : Method} {c : Code} {G : ZG} {base z0 : Nat} {Q : Int32 → Mem → Prop} (A : ∀ d, Amb p R (s.setDrawn d) m args meth c G base z0 cX4_span yX4_span.cls 7 3 85) (hr : meth.sig.returnType = (some .int)) {d0 : Drawn} {H : Heap} {locs : List Loc} {cells slots : Nat} {ls : Array Slot} {x0 : Nat} {x2 : Int32} {x4 : Int32} {x5 : Int32} {M : Mem} (ho_x0 : isO M x0 4) (hd0 : s.drawn.sameBut d0 lw_cs) (hZ : ZH G true base s.heap M H locs) (hl : lv_has ls 7 [(0, .ref (base + x0)), (2, .int x2), (4, .int x4), (5, .int x5)]) (h : wp_X4_span_82 x0 x2 x4 x5 M Q) : W p l e R (s.setDrawn d0) m args below meth c H locs cells slots (ZEnd below G true base z0 (qI Q) args s) (F0 m 82 ls []) := by
  have hx := (A d0).1
  have hb := (A d0).2.1
  unfold wp_X4_span_82 at h
  refine lv_iload hx hb dX4_span_82 (lv_at hl 3 rfl) ?_
  refine lv_aload_n hx hb dX4_span_84 rfl (lv_at hl 0 rfl) ?_
  refine z_get (A d0) hZ (ci := 4) (j := 1) ho_x0.1 ho_x0.2 (by decide) (by decide) k_fl_RX4_15 (v := .int (mI M x0 1)) rfl dX4_span_85 ?_
  refine lv_icmp_lt (tgt := 93) hx hb dX4_span_88 (by decide) (fun hc => ?_) (fun hc => ?_)
  · replace h := h.1 hc
    refine lv_iload_n hx hb dX4_span_93 rfl (lv_at hl 1 rfl) ?_
    refine lv_if_ne (tgt := 100) hx hb dX4_span_94 (by decide) (fun hc => ?_) (fun hc => ?_)
    · replace h := h.1 hc
      refine lv_iload_n hx hb dX4_span_100 rfl (lv_at hl 1 rfl) ?_
      refine lv_iconst (v := (1 : Int32)) hx hb dX4_span_101 (by decide) ?_
      refine lv_icmp_ne (tgt := 130) hx hb dX4_span_102 (by decide) (fun hc => ?_) (fun hc => ?_)
      · replace h := h.1 hc
        refine lv_aload_n hx hb dX4_span_130 rfl (lv_at hl 0 rfl) ?_
        refine lv_iload hx hb dX4_span_131 (lv_at hl 2 rfl) ?_
        refine lv_iload hx hb dX4_span_133 (lv_at hl 3 rfl) ?_
        refine lv_iload_n hx hb dX4_span_135 rfl (lv_at hl 1 rfl) ?_
        refine lv_iconst (v := (2 : Int32)) hx hb dX4_span_136 (by decide) ?_
        refine lv_icmp_ne (tgt := 144) hx hb dX4_span_137 (by decide) (fun hc => ?_) (fun hc => ?_)
        · replace h := h.1 hc
          refine lv_iconst (v := (0 : Int32)) hx hb dX4_span_144 (by decide) ?_
          exact (zb_X4_span_145 A hr ho_x0 hd0 hZ (lv_sub hl [] rfl) h)
        · replace h := h.2 hc
          refine lv_iconst (v := (1 : Int32)) hx hb dX4_span_140 (by decide) ?_
          refine lv_goto (tgt := 145) hx hb dX4_span_141 (by decide) ?_
          exact (zb_X4_span_145 A hr ho_x0 hd0 hZ (lv_sub hl [] rfl) h)
      · replace h := h.2 hc
        refine lv_aload_n hx hb dX4_span_105 rfl (lv_at hl 0 rfl) ?_
        refine z_get (A d0) hZ (ci := 4) (j := 12) ho_x0.1 ho_x0.2 (by decide) (by decide) k_fl_RX4_63 (v := .ref (base + 17)) (zv_fin (zf4 ho_x0 rfl) rfl) dX4_span_106 ?_
        refine lv_aload_n hx hb dX4_span_109 rfl (lv_at hl 0 rfl) ?_
        refine z_get (A d0) hZ (ci := 4) (j := 0) ho_x0.1 ho_x0.2 (by decide) (by decide) k_fl_RX4_11 (v := .ref (base + 1)) (zv_fin (zf4 ho_x0 rfl) rfl) dX4_span_110 ?_
        refine lv_iload hx hb dX4_span_113 (lv_at hl 3 rfl) ?_
        refine lv_aload_n hx hb dX4_span_115 rfl (lv_at hl 0 rfl) ?_
        refine z_get (A d0) hZ (ci := 4) (j := 1) ho_x0.1 ho_x0.2 (by decide) (by decide) k_fl_RX4_15 (v := .int (mI M x0 1)) rfl dX4_span_116 ?_
        refine lv_aload_n hx hb dX4_span_119 rfl (lv_at hl 0 rfl) ?_
        refine z_get (A d0) hZ (ci := 4) (j := 2) ho_x0.1 ho_x0.2 (by decide) (by decide) k_fl_RX4_19 (v := .int (mI M x0 2)) rfl dX4_span_120 ?_
        refine z_callV A hd0 hZ (ci := 1) (nA := 4) (As := [vr base (some 1), .int x5, .int (mI M x0 1), .int (mI M x0 2)]) (by decide) (isO_c (a := 17) hZ.k0 (by decide) rfl) (c_X1_endOfSpan l G base M 17 (some 1) x5 (mI M x0 1) (mI M x0 2) _ h) k_ml_RX4_83 k_im_yX1_endOfSpan k_se_yX1_endOfSpan k_in_RX1 k_co_yX1_endOfSpan (by decide +kernel) ⟨by decide, by decide⟩ rfl rfl (Nat.le_of_ble_eq_true rfl) hl dX4_span_123 (fun v M4 H locs d0 cells slots hq hd0 hZ hm => ?_)
        clear h
        obtain ⟨i5, rfl, h⟩ := hq
        have ho_x0 := isO_le hm ho_x0
        refine lv_iload hx hb dX4_span_126 (lv_at hl 3 rfl) ?_
        refine lv_isub hx hb dX4_span_128 ?_
        exact z_iret A hd0 hZ hr ⟨_, rfl, h⟩ dX4_span_129
    · replace h := h.2 hc
      refine lv_iload hx hb dX4_span_97 (lv_at hl 3 rfl) ?_
      exact z_iret A hd0 hZ hr ⟨_, rfl, h⟩ dX4_span_99
  · replace h := h.2 hc
    refine lv_iconst (v := (-1 : Int32)) hx hb dX4_span_91 (by decide) ?_
    exact z_iret A hd0 hZ hr ⟨_, rfl, h⟩ dX4_span_92
set_option maxRecDepth 100000 in
set_option maxHeartbeats 4000000 in
theorem zb_X4_span_9 {p : Program} {l : Launch} {e : Env} {R : Room} {s : State} {m : MethodId} {args : Array Value} {below : List Frame} {meth : Method} {c : Code} {G : ZG} {base z0 : Nat} {Q : Int32 → Mem → Prop} (A : ∀ d, Amb p R (s.setDrawn d) m args meth c G base z0 cX4_span yX4_span.cls 7 3 85) (hr : meth.sig.returnType = (some .int)) {d0 : Drawn} {H : Heap} {locs : List Loc} {cells slots : Nat} {ls : Array Slot} {x0 : Nat} {x1 : Int32} {x2 : Int32} {t0 : Int32} {M : Mem} (ho_x0 : isO M x0 4) (hd0 : s.drawn.sameBut d0 lw_cs) (hZ : ZH G true base s.heap M H locs) (hl : lv_has ls 7 [(0, .ref (base + x0)), (1, .int x1), (2, .int x2)]) (h : wp_X4_span_9 x0 x1 x2 t0 M Q) : W p l e R (s.setDrawn d0) m args below meth c H locs cells slots (ZEnd below G true base z0 (qI Q) args s) (F0 m 9 ls [.int t0]) := by
  have hx := (A d0).1
  have hb := (A d0).2.1
  unfold wp_X4_span_9 at h
  refine lv_istore_n (lv' := [(3, .int t0), (0, .ref (base + x0)), (1, .int x1), (2, .int x2)]) hx hb dX4_span_9 rfl hl (by decide) rfl (fun ls hl2 => ?_)
  replace hl := hl2
  refine lv_iload_n hx hb dX4_span_10 rfl (lv_at hl 2 rfl) ?_
  refine lv_if_lt (tgt := 23) hx hb dX4_span_11 (by decide) (fun hc => ?_) (fun hc => ?_)
  · replace h := h.1 hc
    exact (zb_X4_span_23 A hr hd0 hZ (lv_sub hl [] rfl) h)
  · replace h := h.2 hc
    refine lv_iload_n hx hb dX4_span_14 rfl (lv_at hl 3 rfl) ?_
    refine lv_if_lt (tgt := 23) hx hb dX4_span_15 (by decide) (fun hc => ?_) (fun hc => ?_)
    · replace h := h.1 hc
      exact (zb_X4_span_23 A hr hd0 hZ (lv_sub hl [] rfl) h)
    · replace h := h.2 hc
      refine lv_iload_n hx hb dX4_span_18 rfl (lv_at hl 3 rfl) ?_
      refine lv_iload_n hx hb dX4_span_19 rfl (lv_at hl 0 rfl) ?_
      refine lv_icmp_le (tgt := 25) hx hb dX4_span_20 (by decide) (fun hc => ?_) (fun hc => ?_)
      · replace h := h.1 hc
        refine lv_iconst (v := (0 : Int32)) hx hb dX4_span_25 (by decide) ?_
        refine lv_istore (lv' := [(4, .int (0 : Int32)), (3, .int t0), (0, .ref (base + x0)), (1, .int x1), (2, .int x2)]) hx hb dX4_span_26 hl (by decide) rfl (fun ls hl2 => ?_)
        replace hl := hl2
        refine lv_iconst (v := (0 : Int32)) hx hb dX4_span_28 (by decide) ?_
        refine lv_istore (lv' := [(5, .int (0 : Int32)), (4, .int (0 : Int32)), (3, .int t0), (0, .ref (base + x0)), (1, .int x1), (2, .int x2)]) hx hb dX4_span_29 hl (by decide) rfl (fun ls hl2 => ?_)
        replace hl := hl2
        refine lv_iconst (v := (0 : Int32)) hx hb dX4_span_31 (by decide) ?_
        refine lv_istore (lv' := [(6, .int (0 : Int32)), (5, .int (0 : Int32)), (4, .int (0 : Int32)), (3, .int t0), (0, .ref (base + x0)), (1, .int x1), (2, .int x2)]) hx hb dX4_span_32 hl (by decide) rfl (fun ls hl2 => ?_)
        replace hl := hl2
        exact (Exists.elim h fun kk h => zb_X4_span_34 A hr kk ho_x0 hd0 hZ (lv_sub hl [4, 5, 6, 2, 1, 0] rfl) h (fun ho_x0 hd0 hZ hl h => (zb_X4_span_82 A hr ho_x0 hd0 hZ hl h)))
      · replace h := h.2 hc
        exact (zb_X4_span_23 A hr hd0 hZ (lv_sub hl [] rfl) h)
set_option maxRecDepth 100000 in
set_option maxHeartbeats 4000000 in
theorem c_X4_span (l : Launch) (G : ZG) (base : Nat) (M : Mem) (x0 : Nat) (x1 : Int32) (x2 : Int32) (Q : Int32 → Mem → Prop) (h : wp_X4_span x0 x1 x2 M Q) : ZMet l yX4_span cX4_span 7 (some .int) 3 85 G true base M [.ref (base + x0), .int x1, .int x2] (qI Q) := by
  refine z_start (by decide) (Nat.le_of_ble_eq_true rfl) k_co_yX4_span ?_
  intro p e s m below meth c R d0 H locs cells slots ls A hr hn hd0 hZ hl
  have hx := (A d0).1
  have hb := (A d0).2.1
  have hl : lv_has ls 7 [(0, .ref (base + x0)), (1, .int x1), (2, .int x2)] := hl
  unfold wp_X4_span at h
  obtain ⟨ho_x0, h⟩ := h
  refine lv_iload_n hx hb dX4_span_0 rfl (lv_at hl 1 rfl) ?_
  refine lv_if_le (tgt := 8) hx hb dX4_span_1 (by decide) (fun hc => ?_) (fun hc => ?_)
  · replace h := h.1 hc
    refine lv_iconst (v := (1 : Int32)) hx hb dX4_span_8 (by decide) ?_
    exact (zb_X4_span_9 A hr ho_x0 hd0 hZ (lv_sub hl [0, 1, 2] rfl) h)
  · replace h := h.2 hc
    refine lv_iconst (v := (3 : Int32)) hx hb dX4_span_4 (by decide) ?_
    refine lv_goto (tgt := 9) hx hb dX4_span_5 (by decide) ?_
    exact (zb_X4_span_9 A hr ho_x0 hd0 hZ (lv_sub hl [0, 1, 2] rfl) h)
/-! cX4_isKindToMake -/
set_option maxRecDepth 100000 in
set_option maxHeartbeats 4000000 in
theorem zb_X4_isKindToMake_22 {p : Program} {l : Launch} {e : Env} {R : Room} {s : State} {m : MethodId} {args : Array Value} {below : List Frame} {meth : Method} {c : Code} {G : ZG} {base z0 : Nat} {Q : Int32 → Mem → Prop} (A : ∀ d, Amb p R (s.setDrawn d) m args meth c G base z0 cX4_isKindToMake yX4_isKindToMake.cls 2 0 0) (hr : meth.sig.returnType = (some .boolean)) {d0 : Drawn} {H : Heap} {locs : List Loc} {cells slots : Nat} {ls : Array Slot} {t0 : Int32} {M : Mem} (hd0 : s.drawn.sameBut d0 lw_cs) (hZ : ZH G true base s.heap M H locs) (hl : lv_has ls 2 []) (h : wp_X4_isKindToMake_22 t0 M Q) : W p l e R (s.setDrawn d0) m args below meth c H locs cells slots (ZEnd below G true base z0 (qI Q) args s) (F0 m 22 ls [.int t0]) := by
  have hx := (A d0).1
  have hb := (A d0).2.1
  unfold wp_X4_isKindToMake_22 at h
  exact z_zret A hd0 hZ hr h.1 ⟨_, rfl, h.2⟩ dX4_isKindToMake_22
set_option maxRecDepth 100000 in
set_option maxHeartbeats 4000000 in
theorem zb_X4_isKindToMake_17 {p : Program} {l : Launch} {e : Env} {R : Room} {s : State} {m : MethodId} {args : Array Value} {below : List Frame} {meth : Method} {c : Code} {G : ZG} {base z0 : Nat} {Q : Int32 → Mem → Prop} (A : ∀ d, Amb p R (s.setDrawn d) m args meth c G base z0 cX4_isKindToMake yX4_isKindToMake.cls 2 0 0) (hr : meth.sig.returnType = (some .boolean)) {d0 : Drawn} {H : Heap} {locs : List Loc} {cells slots : Nat} {ls : Array Slot}  {M : Mem} (hd0 : s.drawn.sameBut d0 lw_cs) (hZ : ZH G true base s.heap M H locs) (hl : lv_has ls 2 []) (h : wp_X4_isKindToMake_17 M Q) : W p l e R (s.setDrawn d0) m args below meth c H locs cells slots (ZEnd below G true base z0 (qI Q) args s) (F0 m 17 ls []) := by
  have hx := (A d0).1
  have hb := (A d0).2.1
  unfold wp_X4_isKindToMake_17 at h
  refine lv_iconst (v := (1 : Int32)) hx hb dX4_isKindToMake_17 (by decide) ?_
  refine lv_goto (tgt := 22) hx hb dX4_isKindToMake_18 (by decide) ?_
  exact (zb_X4_isKindToMake_22 A hr hd0 hZ (lv_sub hl [] rfl) h)
set_option maxRecDepth 100000 in
set_option maxHeartbeats 4000000 in
theorem zb_X4_isKindToMake_21 {p : Program} {l : Launch} {e : Env} {R : Room} {s : State} {m : MethodId} {args : Array Value} {below : List Frame} {meth : Method} {c : Code} {G : ZG} {base z0 : Nat} {Q : Int32 → Mem → Prop} (A : ∀ d, Amb p R (s.setDrawn d) m args meth c G base z0 cX4_isKindToMake yX4_isKindToMake.cls 2 0 0) (hr : meth.sig.returnType = (some .boolean)) {d0 : Drawn} {H : Heap} {locs : List Loc} {cells slots : Nat} {ls : Array Slot}  {M : Mem} (hd0 : s.drawn.sameBut d0 lw_cs) (hZ : ZH G true base s.heap M H locs) (hl : lv_has ls 2 []) (h : wp_X4_isKindToMake_21 M Q) : W p l e R (s.setDrawn d0) m args below meth c H locs cells slots (ZEnd below G true base z0 (qI Q) args s) (F0 m 21 ls []) := by
  have hx := (A d0).1
  have hb := (A d0).2.1
  unfold wp_X4_isKindToMake_21 at h
  refine lv_iconst (v := (0 : Int32)) hx hb dX4_isKindToMake_21 (by decide) ?_
  exact (zb_X4_isKindToMake_22 A hr hd0 hZ (lv_sub hl [] rfl) h)
set_option maxRecDepth 100000 in
set_option maxHeartbeats 4000000 in
theorem c_X4_isKindToMake (l : Launch) (G : ZG) (base : Nat) (M : Mem) (x0 : Nat) (x1 : Int32) (Q : Int32 → Mem → Prop) (h : wp_X4_isKindToMake x0 x1 M Q) : ZMet l yX4_isKindToMake cX4_isKindToMake 2 (some .boolean) 0 0 G true base M [.ref (base + x0), .int x1] (qI Q) := by
  refine z_start (by decide) (Nat.le_of_ble_eq_true rfl) k_co_yX4_isKindToMake ?_
  intro p e s m below meth c R d0 H locs cells slots ls A hr hn hd0 hZ hl
  have hx := (A d0).1
  have hb := (A d0).2.1
  have hl : lv_has ls 2 [(0, .ref (base + x0)), (1, .int x1)] := hl
  unfold wp_X4_isKindToMake at h
  obtain ⟨ho_x0, h⟩ := h
  refine lv_iload_n hx hb dX4_isKindToMake_0 rfl (lv_at hl 1 rfl) ?_
  refine lv_iconst (v := (1 : Int32)) hx hb dX4_isKindToMake_1 (by decide) ?_
  refine lv_icmp_eq (tgt := 17) hx hb dX4_isKindToMake_2 (by decide) (fun hc => ?_) (fun hc => ?_)
  · replace h := h.1 hc
    exact (zb_X4_isKindToMake_17 A hr hd0 hZ (lv_sub hl [] rfl) h)
  · replace h := h.2 hc
    refine lv_iload_n hx hb dX4_isKindToMake_5 rfl (lv_at hl 1 rfl) ?_
    refine lv_iconst (v := (2 : Int32)) hx hb dX4_isKindToMake_6 (by decide) ?_
    refine lv_icmp_ne (tgt := 21) hx hb dX4_isKindToMake_7 (by decide) (fun hc => ?_) (fun hc => ?_)
    · replace h := h.1 hc
      exact (zb_X4_isKindToMake_21 A hr hd0 hZ (lv_sub hl [] rfl) h)
    · replace h := h.2 hc
      refine lv_aload_n hx hb dX4_isKindToMake_10 rfl (lv_at hl 0 rfl) ?_
      refine z_get (A d0) hZ (ci := 4) (j := 2) ho_x0.1 ho_x0.2 (by decide) (by decide) k_fl_RX4_19 (v := .int (mI M x0 2)) rfl dX4_isKindToMake_11 ?_
      refine lv_if_le (tgt := 21) hx hb dX4_isKindToMake_14 (by decide) (fun hc => ?_) (fun hc => ?_)
      · replace h := h.1 hc
        exact (zb_X4_isKindToMake_21 A hr hd0 hZ (lv_sub hl [] rfl) h)
      · replace h := h.2 hc
        exact (zb_X4_isKindToMake_17 A hr hd0 hZ (lv_sub hl [] rfl) h)
/-! cX4_makeLayers -/
set_option maxRecDepth 100000 in
set_option maxHeartbeats 4000000 in
theorem zb_X4_makeLayers_10 {p : Program} {l : Launch} {e : Env} {R : Room} {s : State} {m : MethodId} {args : Array Value} {below : List Frame} {meth : Method} {c : Code} {G : ZG} {base z0 : Nat} {Q : Mem → Prop} (A : ∀ d, Amb p R (s.setDrawn d) m args meth c G base z0 cX4_makeLayers yX4_makeLayers.cls 4 4 114) (hr : meth.sig.returnType = none) {K87 : Mem → Prop} :
  ∀ (n : Nat) {d0 : Drawn} {H : Heap} {locs : List Loc} {cells slots : Nat} {ls : Array Slot} {x0 : Nat} {x1 : Option Nat} {M : Mem} (ho_x0 : isO M x0 4) (hd0 : s.drawn.sameBut d0 lw_cs) (hZ : ZH G true base s.heap M H locs) (hl : lv_has ls 4 [(0, .ref (base + x0)), (1, vr base x1)]) (h : wp_X4_makeLayers_10 n x0 x1 M Q K87) (hK87 : ∀ {d0 : Drawn} {H : Heap} {locs : List Loc} {cells slots : Nat} {ls : Array Slot} {M : Mem}, s.drawn.sameBut d0 lw_cs → ZH G true base s.heap M H locs → lv_has ls 4 [] → K87 M → W p l e R (s.setDrawn d0) m args below meth c H locs cells slots (ZEnd below G true base z0 (qV Q) args s) (F0 m 87 ls [])), W p l e R (s.setDrawn d0) m args below meth c H locs cells slots (ZEnd below G true base z0 (qV Q) args s) (F0 m 10 ls []) := by
  have hx := (A default).1
  have hb := (A default).2.1
  intro n
  induction n with
  | zero => intro d0 H locs cells slots ls x0 x1 M ho_x0 hd0 hZ hl h hK87; exact h.elim
  | succ n ih =>
    intro d0 H locs cells slots ls x0 x1 M ho_x0 hd0 hZ hl h hK87
    unfold wp_X4_makeLayers_10 at h
    refine z_aload_n (base := base) hx hb dX4_makeLayers_10 rfl (lv_at hl 1 rfl) ?_
    obtain ⟨a1, rfl, ho_a1, h⟩ := h
    refine z_getN (A d0) hZ (ci := 2) (j := 6) ho_a1.1 ho_a1.2 (by decide) (by decide) k_fn_RX4_104 (v := .int (mI M a1 6)) rfl dX4_makeLayers_11 ?_
    refine lv_iconst (v := (1 : Int32)) hx hb dX4_makeLayers_14 (by decide) ?_
    refine lv_icmp_le (tgt := 87) hx hb dX4_makeLayers_15 (by decide) (fun hc => ?_) (fun hc => ?_)
    · replace h := h.1 hc
      exact hK87 hd0 hZ (lv_sub hl [] rfl) h
    · replace h := h.2 hc
      refine lv_aload_n hx hb dX4_makeLayers_18 rfl (lv_at hl 0 rfl) ?_
      refine z_get (A d0) hZ (ci := 4) (j := 6) ho_x0.1 ho_x0.2 (by decide) (by decide) k_fl_RX4_38 (v := .int (mI M x0 6)) rfl dX4_makeLayers_19 ?_
      refine lv_bipush (v := (10 : Int32)) hx hb dX4_makeLayers_22 (by decide) ?_
      refine lv_icmp_ge (tgt := 87) hx hb dX4_makeLayers_24 (by decide) (fun hc => ?_) (fun hc => ?_)
      · replace h := h.1 hc
        exact hK87 hd0 hZ (lv_sub hl [] rfl) h
      · replace h := h.2 hc
        refine lv_aload_n hx hb dX4_makeLayers_27 rfl (lv_at hl 1 rfl) ?_
        refine lv_aload_n hx hb dX4_makeLayers_28 rfl (lv_at hl 0 rfl) ?_
        refine z_get (A d0) hZ (ci := 4) (j := 13) ho_x0.1 ho_x0.2 (by decide) (by decide) k_fl_RX4_67 (v := .ref (base + 18)) (zv_fin (zf4 ho_x0 rfl) rfl) dX4_makeLayers_29 ?_
        refine z_callV A hd0 hZ (ci := 2) (nA := 1) (As := [vr base (some 18)]) (by decide) ho_a1 (c_X2_firstKeys l G base M a1 (some 18) _ h) k_ml_RX4_153 k_im_yX2_firstKeys k_se_yX2_firstKeys k_in_RX2 k_co_yX2_firstKeys (by decide +kernel) ⟨by decide, by decide⟩ rfl rfl (Nat.le_of_ble_eq_true rfl) hl dX4_makeLayers_32 (fun v M2 H locs d0 cells slots hq hd0 hZ hm => ?_)
        clear h
        obtain ⟨i3, rfl, h⟩ := hq
        have ho_x0 := isO_le hm ho_x0
        have ho_a1 := isO_le hm ho_a1
        refine lv_istore_n (lv' := [(2, .int i3), (0, .ref (base + x0)), (1, .ref (base + a1))]) hx hb dX4_makeLayers_35 rfl hl (by decide) rfl (fun ls hl2 => ?_)
        replace hl := hl2
        refine lv_aload_n hx hb dX4_makeLayers_36 rfl (lv_at hl 1 rfl) ?_
        refine z_get (A d0) hZ (ci := 4) (j := 5) ho_x0.1 ho_x0.2 (by decide) (by decide) k_fl_RX4_34 (v := .ref (base + 12)) (zv_fin (zf4 ho_x0 rfl) rfl) dX4_makeLayers_37 ?_
        refine lv_aload_n hx hb dX4_makeLayers_40 rfl (lv_at hl 1 rfl) ?_
        refine z_get (A d0) hZ (ci := 4) (j := 6) ho_x0.1 ho_x0.2 (by decide) (by decide) k_fl_RX4_38 (v := .int (mI M2 x0 6)) rfl dX4_makeLayers_41 ?_
        obtain ⟨hin, h⟩ := h
        refine z_aaldT (A d0) hZ (isA_c (a := 12) hZ.k0 (by decide) rfl) hin dX4_makeLayers_44 ?_
        obtain ⟨r4, er4⟩ : ∃ y : Option Nat, y = zref true M2 12 (mI M2 x0 6).toNatClampNeg := ⟨_, rfl⟩
        rw [← er4]
        replace h := h r4 er4
        refine z_astore_n (lv' := [(3, vr base r4), (2, .int i3), (0, .ref (base + x0)), (1, .ref (base + a1))]) hx hb dX4_makeLayers_45 rfl hl (by decide) rfl (fun ls hl2 => ?_)
        replace hl := hl2
        refine z_aload_n (base := base) hx hb dX4_makeLayers_46 rfl (lv_at hl 0 rfl) ?_
        obtain ⟨a5, rfl, ho_a5, h⟩ := h
        refine z_callV A hd0 hZ (ci := 2) (nA := 0) (As := []) (by decide) ho_a5 (c_X2_empty l G base M2 a5 _ h) k_ml_RX4_119 k_im_yX2_empty k_se_yX2_empty k_in_RX2 k_co_yX2_empty (by decide +kernel) ⟨by decide, by decide⟩ rfl rfl (Nat.le_of_ble_eq_true rfl) hl dX4_makeLayers_47 (fun v M6 H locs d0 cells slots hq hd0 hZ hm => ?_)
        clear h
        obtain ⟨rfl, h⟩ := hq
        have ho_x0 := isO_le hm ho_x0
        have ho_a1 := isO_le hm ho_a1
        have ho_a5 := isO_le hm ho_a5
        refine lv_aload_n hx hb dX4_makeLayers_50 rfl (lv_at hl 0 rfl) ?_
        refine lv_aload_n hx hb dX4_makeLayers_51 rfl (lv_at hl 2 rfl) ?_
        refine z_get (A d0) hZ (ci := 4) (j := 13) ho_x0.1 ho_x0.2 (by decide) (by decide) k_fl_RX4_67 (v := .ref (base + 18)) (zv_fin (zf4 ho_x0 rfl) rfl) dX4_makeLayers_52 ?_
        refine lv_iload_n hx hb dX4_makeLayers_55 rfl (lv_at hl 1 rfl) ?_
        refine lv_aload_n hx hb dX4_makeLayers_56 rfl (lv_at hl 2 rfl) ?_
        refine z_get (A d0) hZ (ci := 4) (j := 2) ho_x0.1 ho_x0.2 (by decide) (by decide) k_fl_RX4_19 (v := .int (mI M6 x0 2)) rfl dX4_makeLayers_57 ?_
        refine lv_aload_n hx hb dX4_makeLayers_60 rfl (lv_at hl 2 rfl) ?_
        refine z_get (A d0) hZ (ci := 4) (j := 2) ho_x0.1 ho_x0.2 (by decide) (by decide) k_fl_RX4_19 (v := .int (mI M6 x0 2)) rfl dX4_makeLayers_61 ?_
        refine lv_aload_n hx hb dX4_makeLayers_64 rfl (lv_at hl 2 rfl) ?_
        refine z_get (A d0) hZ (ci := 4) (j := 12) ho_x0.1 ho_x0.2 (by decide) (by decide) k_fl_RX4_63 (v := .ref (base + 17)) (zv_fin (zf4 ho_x0 rfl) rfl) dX4_makeLayers_65 ?_
        refine z_callV A hd0 hZ (ci := 2) (nA := 5) (As := [vr base (some 18), .int i3, .int (mI M6 x0 2), .int (mI M6 x0 2), vr base (some 17)]) (by decide) ho_a5 (c_X2_makePieces l G base M6 a5 (some 18) i3 (mI M6 x0 2) (mI M6 x0 2) (some 17) _ h) k_ml_RX4_143 k_im_yX2_makePieces k_se_yX2_makePieces k_in_RX2 k_co_yX2_makePieces (by decide +kernel) ⟨by decide, by decide⟩ rfl rfl (Nat.le_of_ble_eq_true rfl) hl dX4_makeLayers_68 (fun v M7 H locs d0 cells slots hq hd0 hZ hm => ?_)
        clear h
        obtain ⟨i8, rfl, h⟩ := hq
        have ho_x0 := isO_le hm ho_x0
        have ho_a1 := isO_le hm ho_a1
        have ho_a5 := isO_le hm ho_a5
        refine lv_pop hx hb dX4_makeLayers_71 rfl ?_
        refine lv_aload_n hx hb dX4_makeLayers_72 rfl (lv_at hl 2 rfl) ?_
        refine lv_dup hx hb dX4_makeLayers_73 rfl ?_
        refine z_get (A d0) hZ (ci := 4) (j := 6) ho_x0.1 ho_x0.2 (by decide) (by decide) k_fl_RX4_38 (v := .int (mI M7 x0 6)) rfl dX4_makeLayers_74 ?_
        refine lv_iconst (v := (1 : Int32)) hx hb dX4_makeLayers_77 (by decide) ?_
        refine lv_iadd hx hb dX4_makeLayers_78 ?_
        obtain ⟨M9, eM9⟩ : ∃ y : Mem, y = sI M7 x0 6 ((mI M7 x0 6) + (1 : Int32)) := ⟨_, rfl⟩
        refine z_put (A d0) hZ (ci := 4) (j := 6) (M' := M9) ho_x0.1 ho_x0.2 (by decide) (by decide) k_fl_RX4_38 rfl (by rw [eM9]; exact zUpd_I) rfl rfl dX4_makeLayers_79 (fun H locs hZ => ?_)
        have hm : mz M9 = mz M7 := by rw [eM9] <;> rfl
        have ho_x0 := isO_le (Nat.le_of_eq hm.symm) ho_x0
        have ho_a1 := isO_le (Nat.le_of_eq hm.symm) ho_a1
        have ho_a5 := isO_le (Nat.le_of_eq hm.symm) ho_a5
        replace h := h M9 eM9
        refine lv_aload_n hx hb dX4_makeLayers_82 rfl (lv_at hl 0 rfl) ?_
        refine lv_astore_n (lv' := [(1, .ref (base + a5)), (3, .ref (base + a5)), (2, .int i3), (0, .ref (base + x0))]) hx hb dX4_makeLayers_83 rfl hl (by decide) rfl (fun ls hl2 => ?_)
        replace hl := hl2
        refine lv_goto (tgt := 10) hx hb dX4_makeLayers_84 (by decide) ?_
        exact ih ho_x0 hd0 hZ (lv_sub hl [3, 0] rfl) h hK87
set_option maxRecDepth 100000 in
set_option maxHeartbeats 4000000 in
theorem zb_X4_makeLayers_87 {p : Program} {l : Launch} {e : Env} {R : Room} {s : State} {m : MethodId} {args : Array Value} {below : List Frame} {meth : Method} {c : Code} {G : ZG} {base z0 : Nat} {Q : Mem → Prop} (A : ∀ d, Amb p R (s.setDrawn d) m args meth c G base z0 cX4_makeLayers yX4_makeLayers.cls 4 4 114) (hr : meth.sig.returnType = none) {d0 : Drawn} {H : Heap} {locs : List Loc} {cells slots : Nat} {ls : Array Slot}  {M : Mem} (hd0 : s.drawn.sameBut d0 lw_cs) (hZ : ZH G true base s.heap M H locs) (hl : lv_has ls 4 []) (h : wp_X4_makeLayers_87 M Q) : W p l e R (s.setDrawn d0) m args below meth c H locs cells slots (ZEnd below G true base z0 (qV Q) args s) (F0 m 87 ls []) := by
  have hx := (A d0).1
  have hb := (A d0).2.1
  unfold wp_X4_makeLayers_87 at h
  exact z_vret A hd0 hZ hr ⟨rfl, h⟩ dX4_makeLayers_87
set_option maxRecDepth 100000 in
set_option maxHeartbeats 4000000 in
theorem c_X4_makeLayers (l : Launch) (G : ZG) (base : Nat) (M : Mem) (x0 : Nat) (Q : Mem → Prop) (h : wp_X4_makeLayers x0 M Q) : ZMet l yX4_makeLayers cX4_makeLayers 4 none 4 114 G true base M [.ref (base + x0)] (qV Q) := by
  refine z_start (by decide) (Nat.le_of_ble_eq_true rfl) k_co_yX4_makeLayers ?_
  intro p e s m below meth c R d0 H locs cells slots ls A hr hn hd0 hZ hl
  have hx := (A d0).1
  have hb := (A d0).2.1
  have hl : lv_has ls 4 [(0, .ref (base + x0))] := hl
  unfold wp_X4_makeLayers at h
  obtain ⟨ho_x0, h⟩ := h
  refine lv_aload_n hx hb dX4_makeLayers_0 rfl (lv_at hl 0 rfl) ?_
  refine lv_iconst (v := (0 : Int32)) hx hb dX4_makeLayers_1 (by decide) ?_
  obtain ⟨M10, eM10⟩ : ∃ y : Mem, y = sI M x0 6 (0 : Int32) := ⟨_, rfl⟩
  refine z_put (A d0) hZ (ci := 4) (j := 6) (M' := M10) ho_x0.1 ho_x0.2 (by decide) (by decide) k_fl_RX4_38 rfl (by rw [eM10]; exact zUpd_I) rfl rfl dX4_makeLayers_2 (fun H locs hZ => ?_)
  have hm : mz M10 = mz M := by rw [eM10] <;> rfl
  have ho_x0 := isO_le (Nat.le_of_eq hm.symm) ho_x0
  replace h := h M10 eM10
  refine lv_aload_n hx hb dX4_makeLayers_5 rfl (lv_at hl 0 rfl) ?_
  refine z_get (A d0) hZ (ci := 4) (j := 3) ho_x0.1 ho_x0.2 (by decide) (by decide) k_fl_RX4_27 (v := vr base (mR M10 x0 3)) (zv_dyn (zf4 ho_x0 rfl) rfl) dX4_makeLayers_6 ?_
  obtain ⟨r11, er11⟩ : ∃ y : Option Nat, y = mR M10 x0 3 := ⟨_, rfl⟩
  rw [← er11]
  replace h := h r11 er11
  refine z_astore_n (lv' := [(1, vr base r11), (0, .ref (base + x0))]) hx hb dX4_makeLayers_9 rfl hl (by decide) rfl (fun ls hl2 => ?_)
  replace hl := hl2
  exact (Exists.elim h fun kk h => zb_X4_makeLayers_10 A hr kk ho_x0 hd0 hZ (lv_sub hl [1, 0] rfl) h (fun hd0 hZ hl h => (zb_X4_makeLayers_87 A hr hd0 hZ hl h)))
/-! cX4_replace -/
set_option maxRecDepth 100000 in
set_option maxHeartbeats 4000000 in
theorem zb_X4_replace_83 {p : Program} {l : Launch} {e : Env} {R : Room} {s : State} {m : MethodId} {args : Array Value} {below : List Frame} {meth : Method} {c : Code} {G : ZG} {base z0 : Nat} {Q : Int32 → Mem → Prop} (A : ∀ d, Amb p R (s.setDrawn d) m args meth c G base z0 cX4_replace yX4_replace.cls 8 5 137) (hr : meth.sig.returnType = (some .int)) {d0 : Drawn} {H : Heap} {locs : List Loc} {cells slots : Nat} {ls : Array Slot} {x0 : Nat} {x2 : Int32} {x6 : Int32} {M : Mem} (ho_x0 : isO M x0 4) (hd0 : s.drawn.sameBut d0 lw_cs) (hZ : ZH G true base s.heap M H locs) (hl : lv_has ls 8 [(0, .ref (base + x0)), (2, .int x2), (6, .int x6)]) (h : wp_X4_replace_83 x0 x2 x6 M Q) : W p l e R (s.setDrawn d0) m args below meth c H locs cells slots (ZEnd below G true base z0 (qI Q) args s) (F0 m 83 ls []) := by
  have hx := (A d0).1
  have hb := (A d0).2.1
  unfold wp_X4_replace_83 at h
  refine lv_aload_n hx hb dX4_replace_83 rfl (lv_at hl 0 rfl) ?_
  refine z_get (A d0) hZ (ci := 4) (j := 4) ho_x0.1 ho_x0.2 (by decide) (by decide) k_fl_RX4_31 (v := vr base (mR M x0 4)) (zv_dyn (zf4 ho_x0 rfl) rfl) dX4_replace_84 ?_
  obtain ⟨r8, er8⟩ : ∃ y : Option Nat, y = mR M x0 4 := ⟨_, rfl⟩
  rw [← er8]
  replace h := h r8 er8
  refine lv_aload_n hx hb dX4_replace_87 rfl (lv_at hl 0 rfl) ?_
  refine z_get (A d0) hZ (ci := 4) (j := 3) ho_x0.1 ho_x0.2 (by decide) (by decide) k_fl_RX4_27 (v := vr base (mR M x0 3)) (zv_dyn (zf4 ho_x0 rfl) rfl) dX4_replace_88 ?_
  obtain ⟨r9, er9⟩ : ∃ y : Option Nat, y = mR M x0 3 := ⟨_, rfl⟩
  rw [← er9]
  replace h := h r9 er9
  refine lv_iload_n hx hb dX4_replace_91 rfl (lv_at hl 1 rfl) ?_
  refine lv_aload_n hx hb dX4_replace_92 rfl (lv_at hl 0 rfl) ?_
  refine z_get (A d0) hZ (ci := 4) (j := 3) ho_x0.1 ho_x0.2 (by decide) (by decide) k_fl_RX4_27 (v := vr base (mR M x0 3)) (zv_dyn (zf4 ho_x0 rfl) rfl) dX4_replace_93 ?_
  obtain ⟨r10, er10⟩ : ∃ y : Option Nat, y = mR M x0 3 := ⟨_, rfl⟩
  rw [← er10]
  replace h := h r10 er10
  obtain ⟨a11, rfl, ho_a11, h⟩ := h
  refine z_getN (A d0) hZ (ci := 2) (j := 6) ho_a11.1 ho_a11.2 (by decide) (by decide) k_fn_RX4_104 (v := .int (mI M a11 6)) rfl dX4_replace_96 ?_
  obtain ⟨a12, rfl, ho_a12, h⟩ := h
  refine z_callV A hd0 hZ (ci := 2) (nA := 3) (As := [vr base r9, .int x2, .int (mI M a11 6)]) (by decide) ho_a12 (c_X2_takeOver l G base M a12 r9 x2 (mI M a11 6) _ h) k_ml_RX4_139 k_im_yX2_takeOver k_se_yX2_takeOver k_in_RX2 k_co_yX2_takeOver (by decide +kernel) ⟨by decide, by decide⟩ rfl rfl (Nat.le_of_ble_eq_true rfl) hl dX4_replace_99 (fun v M13 H locs d0 cells slots hq hd0 hZ hm => ?_)
  clear h
  obtain ⟨rfl, h⟩ := hq
  have ho_x0 := isO_le hm ho_x0
  refine lv_aload_n hx hb dX4_replace_102 rfl (lv_at hl 0 rfl) ?_
  refine z_get (A d0) hZ (ci := 4) (j := 3) ho_x0.1 ho_x0.2 (by decide) (by decide) k_fl_RX4_27 (v := vr base (mR M13 x0 3)) (zv_dyn (zf4 ho_x0 rfl) rfl) dX4_replace_103 ?_
  obtain ⟨r14, er14⟩ : ∃ y : Option Nat, y = mR M13 x0 3 := ⟨_, rfl⟩
  rw [← er14]
  replace h := h r14 er14
  refine z_astore (lv' := [(7, vr base r14), (0, .ref (base + x0)), (2, .int x2), (6, .int x6)]) hx hb dX4_replace_106 hl (by decide) rfl (fun ls hl2 => ?_)
  replace hl := hl2
  refine lv_aload_n hx hb dX4_replace_108 rfl (lv_at hl 1 rfl) ?_
  refine lv_aload_n hx hb dX4_replace_109 rfl (lv_at hl 1 rfl) ?_
  refine z_get (A d0) hZ (ci := 4) (j := 4) ho_x0.1 ho_x0.2 (by decide) (by decide) k_fl_RX4_31 (v := vr base (mR M13 x0 4)) (zv_dyn (zf4 ho_x0 rfl) rfl) dX4_replace_110 ?_
  obtain ⟨r15, er15⟩ : ∃ y : Option Nat, y = mR M13 x0 4 := ⟨_, rfl⟩
  rw [← er15]
  replace h := h r15 er15
  obtain ⟨M16, eM16⟩ : ∃ y : Mem, y = sR M13 x0 3 r15 := ⟨_, rfl⟩
  refine z_put (A d0) hZ (ci := 4) (j := 3) (M' := M16) ho_x0.1 ho_x0.2 (by decide) (by decide) k_fl_RX4_27 rfl (by rw [eM16]; exact zUpd_R (fun q => zf4 ho_x0 rfl)) (narrow_vr _ _ _) (fits_vr _ _ _) dX4_replace_113 (fun H locs hZ => ?_)
  have hm : mz M16 = mz M13 := by rw [eM16] <;> rfl
  have ho_x0 := isO_le (Nat.le_of_eq hm.symm) ho_x0
  replace h := h M16 eM16
  refine lv_aload_n hx hb dX4_replace_116 rfl (lv_at hl 1 rfl) ?_
  refine z_aload (base := base) hx hb dX4_replace_117 (lv_at hl 0 rfl) ?_
  obtain ⟨M17, eM17⟩ : ∃ y : Mem, y = sR M16 x0 4 r14 := ⟨_, rfl⟩
  refine z_put (A d0) hZ (ci := 4) (j := 4) (M' := M17) ho_x0.1 ho_x0.2 (by decide) (by decide) k_fl_RX4_31 rfl (by rw [eM17]; exact zUpd_R (fun q => zf4 ho_x0 rfl)) (narrow_vr _ _ _) (fits_vr _ _ _) dX4_replace_119 (fun H locs hZ => ?_)
  have hm : mz M17 = mz M16 := by rw [eM17] <;> rfl
  have ho_x0 := isO_le (Nat.le_of_eq hm.symm) ho_x0
  replace h := h M17 eM17
  refine lv_aload_n hx hb dX4_replace_122 rfl (lv_at hl 1 rfl) ?_
  refine lv_dup hx hb dX4_replace_123 rfl ?_
  refine z_get (A d0) hZ (ci := 4) (j := 8) ho_x0.1 ho_x0.2 (by decide) (by decide) k_fl_RX4_44 (v := .int (mI M17 x0 8)) rfl dX4_replace_124 ?_
  refine lv_iload hx hb dX4_replace_127 (lv_at hl 3 rfl) ?_
  refine lv_iadd hx hb dX4_replace_129 ?_
  obtain ⟨M18, eM18⟩ : ∃ y : Mem, y = sI M17 x0 8 ((mI M17 x0 8) + x6) := ⟨_, rfl⟩
  refine z_put (A d0) hZ (ci := 4) (j := 8) (M' := M18) ho_x0.1 ho_x0.2 (by decide) (by decide) k_fl_RX4_44 rfl (by rw [eM18]; exact zUpd_I) rfl rfl dX4_replace_130 (fun H locs hZ => ?_)
  have hm : mz M18 = mz M17 := by rw [eM18] <;> rfl
  have ho_x0 := isO_le (Nat.le_of_eq hm.symm) ho_x0
  replace h := h M18 eM18
  refine lv_aload_n hx hb dX4_replace_133 rfl (lv_at hl 1 rfl) ?_
  refine z_callV A hd0 hZ (ci := 4) (nA := 0) (As := []) (by decide) ho_x0 (c_X4_makeLayers l G base M18 x0 _ h) k_ml_RX4_150 k_im_yX4_makeLayers k_se_yX4_makeLayers k_in_RX4 k_co_yX4_makeLayers (by decide +kernel) ⟨by decide, by decide⟩ rfl rfl (Nat.le_of_ble_eq_true rfl) hl dX4_replace_134 (fun v M19 H locs d0 cells slots hq hd0 hZ hm => ?_)
  clear h
  obtain ⟨rfl, h⟩ := hq
  have ho_x0 := isO_le hm ho_x0
  refine lv_iload hx hb dX4_replace_137 (lv_at hl 3 rfl) ?_
  exact z_iret A hd0 hZ hr ⟨_, rfl, h⟩ dX4_replace_139
set_option maxRecDepth 100000 in
set_option maxHeartbeats 4000000 in
theorem zb_X4_replace_39 {p : Program} {l : Launch} {e : Env} {R : Room} {s : State} {m : MethodId} {args : Array Value} {below : List Frame} {meth : Method} {c : Code} {G : ZG} {base z0 : Nat} {Q : Int32 → Mem → Prop} (A : ∀ d, Amb p R (s.setDrawn d) m args meth c G base z0 cX4_replace yX4_replace.cls 8 5 137) (hr : meth.sig.returnType = (some .int)) {d0 : Drawn} {H : Heap} {locs : List Loc} {cells slots : Nat} {ls : Array Slot} {x0 : Nat} {x1 : Int32} {x2 : Int32} {x3 : Int32} {x4 : Int32} {t0 : Int32} {M : Mem} (ho_x0 : isO M x0 4) (hd0 : s.drawn.sameBut d0 lw_cs) (hZ : ZH G true base s.heap M H locs) (hl : lv_has ls 8 [(0, .ref (base + x0)), (1, .int x1), (2, .int x2), (3, .int x3), (4, .int x4)]) (h : wp_X4_replace_39 x0 x1 x2 x3 x4 t0 M Q) : W p l e R (s.setDrawn d0) m args below meth c H locs cells slots (ZEnd below G true base z0 (qI Q) args s) (F0 m 39 ls [.int t0]) := by
  have hx := (A d0).1
  have hb := (A d0).2.1
  unfold wp_X4_replace_39 at h
  refine lv_istore (lv' := [(5, .int t0), (0, .ref (base + x0)), (1, .int x1), (2, .int x2), (3, .int x3), (4, .int x4)]) hx hb dX4_replace_39 hl (by decide) rfl (fun ls hl2 => ?_)
  replace hl := hl2
  refine lv_aload_n hx hb dX4_replace_41 rfl (lv_at hl 1 rfl) ?_
  refine z_get (A d0) hZ (ci := 4) (j := 4) ho_x0.1 ho_x0.2 (by decide) (by decide) k_fl_RX4_31 (v := vr base (mR M x0 4)) (zv_dyn (zf4 ho_x0 rfl) rfl) dX4_replace_42 ?_
  obtain ⟨r1, er1⟩ : ∃ y : Option Nat, y = mR M x0 4 := ⟨_, rfl⟩
  rw [← er1]
  replace h := h r1 er1
  refine lv_aload_n hx hb dX4_replace_45 rfl (lv_at hl 1 rfl) ?_
  refine z_get (A d0) hZ (ci := 4) (j := 13) ho_x0.1 ho_x0.2 (by decide) (by decide) k_fl_RX4_67 (v := .ref (base + 18)) (zv_fin (zf4 ho_x0 rfl) rfl) dX4_replace_46 ?_
  refine lv_iload_n hx hb dX4_replace_49 rfl (lv_at hl 4 rfl) ?_
  refine lv_iload hx hb dX4_replace_50 (lv_at hl 0 rfl) ?_
  refine lv_aload_n hx hb dX4_replace_52 rfl (lv_at hl 1 rfl) ?_
  refine z_get (A d0) hZ (ci := 4) (j := 2) ho_x0.1 ho_x0.2 (by decide) (by decide) k_fl_RX4_19 (v := .int (mI M x0 2)) rfl dX4_replace_53 ?_
  refine lv_aload_n hx hb dX4_replace_56 rfl (lv_at hl 1 rfl) ?_
  refine z_get (A d0) hZ (ci := 4) (j := 12) ho_x0.1 ho_x0.2 (by decide) (by decide) k_fl_RX4_63 (v := .ref (base + 17)) (zv_fin (zf4 ho_x0 rfl) rfl) dX4_replace_57 ?_
  obtain ⟨a2, rfl, ho_a2, h⟩ := h
  refine z_callV A hd0 hZ (ci := 2) (nA := 5) (As := [vr base (some 18), .int x3, .int t0, .int (mI M x0 2), vr base (some 17)]) (by decide) ho_a2 (c_X2_makePieces l G base M a2 (some 18) x3 t0 (mI M x0 2) (some 17) _ h) k_ml_RX4_143 k_im_yX2_makePieces k_se_yX2_makePieces k_in_RX2 k_co_yX2_makePieces (by decide +kernel) ⟨by decide, by decide⟩ rfl rfl (Nat.le_of_ble_eq_true rfl) hl dX4_replace_60 (fun v M3 H locs d0 cells slots hq hd0 hZ hm => ?_)
  clear h
  obtain ⟨i4, rfl, h⟩ := hq
  have ho_x0 := isO_le hm ho_x0
  refine lv_istore (lv' := [(6, .int i4), (5, .int t0), (0, .ref (base + x0)), (1, .int x1), (2, .int x2), (3, .int x3), (4, .int x4)]) hx hb dX4_replace_63 hl (by decide) rfl (fun ls hl2 => ?_)
  replace hl := hl2
  refine lv_iload hx hb dX4_replace_65 (lv_at hl 6 rfl) ?_
  refine lv_iconst (v := (2 : Int32)) hx hb dX4_replace_67 (by decide) ?_
  refine lv_icmp_ne (tgt := 83) hx hb dX4_replace_68 (by decide) (fun hc => ?_) (fun hc => ?_)
  · replace h := h.1 hc
    exact (zb_X4_replace_83 A hr ho_x0 hd0 hZ (lv_sub hl [2, 4, 0] rfl) h)
  · replace h := h.2 hc
    refine lv_aload_n hx hb dX4_replace_71 rfl (lv_at hl 2 rfl) ?_
    refine z_get (A d0) hZ (ci := 4) (j := 4) ho_x0.1 ho_x0.2 (by decide) (by decide) k_fl_RX4_31 (v := vr base (mR M3 x0 4)) (zv_dyn (zf4 ho_x0 rfl) rfl) dX4_replace_72 ?_
    obtain ⟨r5, er5⟩ : ∃ y : Option Nat, y = mR M3 x0 4 := ⟨_, rfl⟩
    rw [← er5]
    replace h := h r5 er5
    refine lv_iload_n hx hb dX4_replace_75 rfl (lv_at hl 3 rfl) ?_
    refine lv_iload_n hx hb dX4_replace_76 rfl (lv_at hl 3 rfl) ?_
    refine lv_iload hx hb dX4_replace_77 (lv_at hl 0 rfl) ?_
    refine lv_iadd hx hb dX4_replace_79 ?_
    obtain ⟨a6, rfl, ho_a6, h⟩ := h
    refine z_callV A hd0 hZ (ci := 2) (nA := 2) (As := [.int x1, .int (x1 + i4)]) (by decide) ho_a6 (c_X2_roundPieces l G base M3 a6 x1 (x1 + i4) _ h) k_ml_RX4_147 k_im_yX2_roundPieces k_se_yX2_roundPieces k_in_RX2 k_co_yX2_roundPieces (by decide +kernel) ⟨by decide, by decide⟩ rfl rfl (Nat.le_of_ble_eq_true rfl) hl dX4_replace_80 (fun v M7 H locs d0 cells slots hq hd0 hZ hm => ?_)
    clear h
    obtain ⟨rfl, h⟩ := hq
    have ho_x0 := isO_le hm ho_x0
    exact (zb_X4_replace_83 A hr ho_x0 hd0 hZ (lv_sub hl [2, 4, 0] rfl) h)
set_option maxRecDepth 100000 in
set_option maxHeartbeats 4000000 in
theorem c_X4_replace (l : Launch) (G : ZG) (base : Nat) (M : Mem) (x0 : Nat) (x1 : Int32) (x2 : Int32) (x3 : Int32) (x4 : Int32) (Q : Int32 → Mem → Prop) (h : wp_X4_replace x0 x1 x2 x3 x4 M Q) : ZMet l yX4_replace cX4_replace 8 (some .int) 5 137 G true base M [.ref (base + x0), .int x1, .int x2, .int x3, .int x4] (qI Q) := by
  refine z_start (by decide) (Nat.le_of_ble_eq_true rfl) k_co_yX4_replace ?_
  intro p e s m below meth c R d0 H locs cells slots ls A hr hn hd0 hZ hl
  have hx := (A d0).1
  have hb := (A d0).2.1
  have hl : lv_has ls 8 [(0, .ref (base + x0)), (1, .int x1), (2, .int x2), (3, .int x3), (4, .int x4)] := hl
  unfold wp_X4_replace at h
  obtain ⟨ho_x0, h⟩ := h
  refine lv_aload_n hx hb dX4_replace_0 rfl (lv_at hl 0 rfl) ?_
  refine z_get (A d0) hZ (ci := 4) (j := 4) ho_x0.1 ho_x0.2 (by decide) (by decide) k_fl_RX4_31 (v := vr base (mR M x0 4)) (zv_dyn (zf4 ho_x0 rfl) rfl) dX4_replace_1 ?_
  obtain ⟨r20, er20⟩ : ∃ y : Option Nat, y = mR M x0 4 := ⟨_, rfl⟩
  rw [← er20]
  replace h := h r20 er20
  obtain ⟨a21, rfl, ho_a21, h⟩ := h
  refine z_callV A hd0 hZ (ci := 2) (nA := 0) (As := []) (by decide) ho_a21 (c_X2_empty l G base M a21 _ h) k_ml_RX4_119 k_im_yX2_empty k_se_yX2_empty k_in_RX2 k_co_yX2_empty (by decide +kernel) ⟨by decide, by decide⟩ rfl rfl (Nat.le_of_ble_eq_true rfl) hl dX4_replace_4 (fun v M22 H locs d0 cells slots hq hd0 hZ hm => ?_)
  clear h
  obtain ⟨rfl, h⟩ := hq
  have ho_x0 := isO_le hm ho_x0
  refine lv_aload_n hx hb dX4_replace_7 rfl (lv_at hl 0 rfl) ?_
  refine z_get (A d0) hZ (ci := 4) (j := 4) ho_x0.1 ho_x0.2 (by decide) (by decide) k_fl_RX4_31 (v := vr base (mR M22 x0 4)) (zv_dyn (zf4 ho_x0 rfl) rfl) dX4_replace_8 ?_
  obtain ⟨r23, er23⟩ : ∃ y : Option Nat, y = mR M22 x0 4 := ⟨_, rfl⟩
  rw [← er23]
  replace h := h r23 er23
  refine lv_aload_n hx hb dX4_replace_11 rfl (lv_at hl 0 rfl) ?_
  refine z_get (A d0) hZ (ci := 4) (j := 3) ho_x0.1 ho_x0.2 (by decide) (by decide) k_fl_RX4_27 (v := vr base (mR M22 x0 3)) (zv_dyn (zf4 ho_x0 rfl) rfl) dX4_replace_12 ?_
  obtain ⟨r24, er24⟩ : ∃ y : Option Nat, y = mR M22 x0 3 := ⟨_, rfl⟩
  rw [← er24]
  replace h := h r24 er24
  refine lv_iconst (v := (0 : Int32)) hx hb dX4_replace_15 (by decide) ?_
  refine lv_iload_n hx hb dX4_replace_16 rfl (lv_at hl 1 rfl) ?_
  obtain ⟨a25, rfl, ho_a25, h⟩ := h
  refine z_callV A hd0 hZ (ci := 2) (nA := 3) (As := [vr base r24, .int (0 : Int32), .int x1]) (by decide) ho_a25 (c_X2_takeOver l G base M22 a25 r24 (0 : Int32) x1 _ h) k_ml_RX4_139 k_im_yX2_takeOver k_se_yX2_takeOver k_in_RX2 k_co_yX2_takeOver (by decide +kernel) ⟨by decide, by decide⟩ rfl rfl (Nat.le_of_ble_eq_true rfl) hl dX4_replace_17 (fun v M26 H locs d0 cells slots hq hd0 hZ hm => ?_)
  clear h
  obtain ⟨rfl, h⟩ := hq
  have ho_x0 := isO_le hm ho_x0
  refine lv_iload hx hb dX4_replace_20 (lv_at hl 4 rfl) ?_
  refine lv_iconst (v := (2 : Int32)) hx hb dX4_replace_22 (by decide) ?_
  refine lv_icmp_ne (tgt := 35) hx hb dX4_replace_23 (by decide) (fun hc => ?_) (fun hc => ?_)
  · replace h := h.1 hc
    refine lv_aload_n hx hb dX4_replace_35 rfl (lv_at hl 0 rfl) ?_
    refine z_get (A d0) hZ (ci := 4) (j := 2) ho_x0.1 ho_x0.2 (by decide) (by decide) k_fl_RX4_19 (v := .int (mI M26 x0 2)) rfl dX4_replace_36 ?_
    exact (zb_X4_replace_39 A hr ho_x0 hd0 hZ (lv_sub hl [0, 1, 2, 3, 4] rfl) h)
  · replace h := h.2 hc
    refine lv_aload_n hx hb dX4_replace_26 rfl (lv_at hl 0 rfl) ?_
    refine z_get (A d0) hZ (ci := 4) (j := 2) ho_x0.1 ho_x0.2 (by decide) (by decide) k_fl_RX4_19 (v := .int (mI M26 x0 2)) rfl dX4_replace_27 ?_
    refine lv_iconst (v := (1 : Int32)) hx hb dX4_replace_30 (by decide) ?_
    refine lv_isub hx hb dX4_replace_31 ?_
    refine lv_goto (tgt := 39) hx hb dX4_replace_32 (by decide) ?_
    exact (zb_X4_replace_39 A hr ho_x0 hd0 hZ (lv_sub hl [0, 1, 2, 3, 4] rfl) h)
/-! cX4_build -/
set_option maxRecDepth 100000 in
set_option maxHeartbeats 4000000 in
theorem zb_X4_build_15 {p : Program} {l : Launch} {e : Env} {R : Room} {s : State} {m : MethodId} {args : Array Value} {below : List Frame} {meth : Method} {c : Code} {G : ZG} {base z0 : Nat} {Q : Int32 → Mem → Prop} (A : ∀ d, Amb p R (s.setDrawn d) m args meth c G base z0 cX4_build yX4_build.cls 2 6 164) (hr : meth.sig.returnType = (some .int)) {d0 : Drawn} {H : Heap} {locs : List Loc} {cells slots : Nat} {ls : Array Slot}  {M : Mem} (hd0 : s.drawn.sameBut d0 lw_cs) (hZ : ZH G true base s.heap M H locs) (hl : lv_has ls 2 []) (h : wp_X4_build_15 M Q) : W p l e R (s.setDrawn d0) m args below meth c H locs cells slots (ZEnd below G true base z0 (qI Q) args s) (F0 m 15 ls []) := by
  have hx := (A d0).1
  have hb := (A d0).2.1
  unfold wp_X4_build_15 at h
  refine lv_bipush (v := (-2 : Int32)) hx hb dX4_build_15 (by decide) ?_
  exact z_iret A hd0 hZ hr ⟨_, rfl, h⟩ dX4_build_17
set_option maxRecDepth 100000 in
set_option maxHeartbeats 4000000 in
theorem c_X4_build (l : Launch) (G : ZG) (base : Nat) (M : Mem) (x0 : Nat) (x1 : Int32) (Q : Int32 → Mem → Prop) (h : wp_X4_build x0 x1 M Q) : ZMet l yX4_build cX4_build 2 (some .int) 6 164 G true base M [.ref (base + x0), .int x1] (qI Q) := by
  refine z_start (by decide) (Nat.le_of_ble_eq_true rfl) k_co_yX4_build ?_
  intro p e s m below meth c R d0 H locs cells slots ls A hr hn hd0 hZ hl
  have hx := (A d0).1
  have hb := (A d0).2.1
  have hl : lv_has ls 2 [(0, .ref (base + x0)), (1, .int x1)] := hl
  unfold wp_X4_build at h
  obtain ⟨ho_x0, h⟩ := h
  refine lv_aload_n hx hb dX4_build_0 rfl (lv_at hl 0 rfl) ?_
  refine lv_iload_n hx hb dX4_build_1 rfl (lv_at hl 1 rfl) ?_
  refine z_callV A hd0 hZ (ci := 4) (nA := 1) (As := [.int x1]) (by decide) ho_x0 (c_X4_isKindToMake l G base M x0 x1 _ h) k_ml_RX4_95 k_im_yX4_isKindToMake k_se_yX4_isKindToMake k_in_RX4 k_co_yX4_isKindToMake (by decide +kernel) ⟨by decide, by decide⟩ rfl rfl (Nat.le_of_ble_eq_true rfl) hl dX4_build_2 (fun v M1 H locs d0 cells slots hq hd0 hZ hm => ?_)
  clear h
  obtain ⟨i2, rfl, h⟩ := hq
  have ho_x0 := isO_le hm ho_x0
  refine lv_if_eq (tgt := 15) hx hb dX4_build_5 (by decide) (fun hc => ?_) (fun hc => ?_)
  · replace h := h.1 hc
    exact (zb_X4_build_15 A hr hd0 hZ (lv_sub hl [] rfl) h)
  · replace h := h.2 hc
    refine lv_aload_n hx hb dX4_build_8 rfl (lv_at hl 0 rfl) ?_
    refine z_get (A d0) hZ (ci := 4) (j := 1) ho_x0.1 ho_x0.2 (by decide) (by decide) k_fl_RX4_15 (v := .int (mI M1 x0 1)) rfl dX4_build_9 ?_
    refine lv_if_ne (tgt := 18) hx hb dX4_build_12 (by decide) (fun hc => ?_) (fun hc => ?_)
    · replace h := h.1 hc
      refine lv_aload_n hx hb dX4_build_18 rfl (lv_at hl 0 rfl) ?_
      refine z_get (A d0) hZ (ci := 4) (j := 0) ho_x0.1 ho_x0.2 (by decide) (by decide) k_fl_RX4_11 (v := .ref (base + 1)) (zv_fin (zf4 ho_x0 rfl) rfl) dX4_build_19 ?_
      refine lv_iconst (v := (0 : Int32)) hx hb dX4_build_22 (by decide) ?_
      refine lv_aload_n hx hb dX4_build_23 rfl (lv_at hl 0 rfl) ?_
      refine z_get (A d0) hZ (ci := 4) (j := 13) ho_x0.1 ho_x0.2 (by decide) (by decide) k_fl_RX4_67 (v := .ref (base + 18)) (zv_fin (zf4 ho_x0 rfl) rfl) dX4_build_24 ?_
      refine lv_iconst (v := (0 : Int32)) hx hb dX4_build_27 (by decide) ?_
      refine lv_aload_n hx hb dX4_build_28 rfl (lv_at hl 0 rfl) ?_
      refine z_get (A d0) hZ (ci := 4) (j := 1) ho_x0.1 ho_x0.2 (by decide) (by decide) k_fl_RX4_15 (v := .int (mI M1 x0 1)) rfl dX4_build_29 ?_
      obtain ⟨hc1, hc2, hc3, hc4, hc5, h⟩ := h
      obtain ⟨M3, eM3⟩ : ∃ y : Mem, y = cpL M1 1 (0 : Int32).toNatClampNeg 18 (0 : Int32).toNatClampNeg (mI M1 x0 1).toNatClampNeg := ⟨_, rfl⟩
      refine z_copyl (A d0) hZ hl k_ml_RX4_98 (isA_c (a := 1) hZ.k0 (by decide) rfl) (isA_c (a := 18) hZ.k0 (by decide) rfl) hc1 hc2 hc3 hc4 hc5 (by decide) (Nat.le_of_ble_eq_true rfl) dX4_build_32 (fun H locs hZ => ?_)
      rw [← eM3] at hZ
      have hm : mz M3 = mz M1 := by rw [eM3] <;> rfl
      have ho_x0 := isO_le (Nat.le_of_eq hm.symm) ho_x0
      replace h := h M3 eM3
      refine lv_aload_n hx hb dX4_build_35 rfl (lv_at hl 0 rfl) ?_
      refine lv_aload_n hx hb dX4_build_36 rfl (lv_at hl 0 rfl) ?_
      refine z_get (A d0) hZ (ci := 4) (j := 1) ho_x0.1 ho_x0.2 (by decide) (by decide) k_fl_RX4_15 (v := .int (mI M3 x0 1)) rfl dX4_build_37 ?_
      obtain ⟨M4, eM4⟩ : ∃ y : Mem, y = sI M3 x0 7 (mI M3 x0 1) := ⟨_, rfl⟩
      refine z_put (A d0) hZ (ci := 4) (j := 7) (M' := M4) ho_x0.1 ho_x0.2 (by decide) (by decide) k_fl_RX4_41 rfl (by rw [eM4]; exact zUpd_I) rfl rfl dX4_build_40 (fun H locs hZ => ?_)
      have hm : mz M4 = mz M3 := by rw [eM4] <;> rfl
      have ho_x0 := isO_le (Nat.le_of_eq hm.symm) ho_x0
      replace h := h M4 eM4
      refine lv_aload_n hx hb dX4_build_43 rfl (lv_at hl 0 rfl) ?_
      refine lv_iconst (v := (0 : Int32)) hx hb dX4_build_44 (by decide) ?_
      refine lv_aload_n hx hb dX4_build_45 rfl (lv_at hl 0 rfl) ?_
      refine z_get (A d0) hZ (ci := 4) (j := 3) ho_x0.1 ho_x0.2 (by decide) (by decide) k_fl_RX4_27 (v := vr base (mR M4 x0 3)) (zv_dyn (zf4 ho_x0 rfl) rfl) dX4_build_46 ?_
      obtain ⟨r5, er5⟩ : ∃ y : Option Nat, y = mR M4 x0 3 := ⟨_, rfl⟩
      rw [← er5]
      replace h := h r5 er5
      obtain ⟨a6, rfl, ho_a6, h⟩ := h
      refine z_getN (A d0) hZ (ci := 2) (j := 6) ho_a6.1 ho_a6.2 (by decide) (by decide) k_fn_RX4_104 (v := .int (mI M4 a6 6)) rfl dX4_build_49 ?_
      refine lv_aload_n hx hb dX4_build_52 rfl (lv_at hl 0 rfl) ?_
      refine z_get (A d0) hZ (ci := 4) (j := 1) ho_x0.1 ho_x0.2 (by decide) (by decide) k_fl_RX4_15 (v := .int (mI M4 x0 1)) rfl dX4_build_53 ?_
      refine lv_iload_n hx hb dX4_build_56 rfl (lv_at hl 1 rfl) ?_
      refine z_callV A hd0 hZ (ci := 4) (nA := 4) (As := [.int (0 : Int32), .int (mI M4 a6 6), .int (mI M4 x0 1), .int x1]) (by decide) ho_x0 (c_X4_replace l G base M4 x0 (0 : Int32) (mI M4 a6 6) (mI M4 x0 1) x1 _ h) k_ml_RX4_107 k_im_yX4_replace k_se_yX4_replace k_in_RX4 k_co_yX4_replace (by decide +kernel) ⟨by decide, by decide⟩ rfl rfl (Nat.le_of_ble_eq_true rfl) hl dX4_build_57 (fun v M7 H locs d0 cells slots hq hd0 hZ hm => ?_)
      clear h
      obtain ⟨i8, rfl, h⟩ := hq
      have ho_x0 := isO_le hm ho_x0
      exact z_iret A hd0 hZ hr ⟨_, rfl, h⟩ dX4_build_60
    · replace h := h.2 hc
      exact (zb_X4_build_15 A hr hd0 hZ (lv_sub hl [] rfl) h)
/-! cX4_hasIndex -/
set_option maxRecDepth 100000 in
set_option maxHeartbeats 4000000 in
theorem zb_X4_hasIndex_15 {p : Program} {l : Launch} {e : Env} {R : Room} {s : State} {m : MethodId} {args : Array Value} {below : List Frame} {meth : Method} {c : Code} {G : ZG} {base z0 : Nat} {Q : Int32 → Mem → Prop} (A : ∀ d, Amb p R (s.setDrawn d) m args meth c G base z0 cX4_hasIndex yX4_hasIndex.cls 1 0 0) (hr : meth.sig.returnType = (some .boolean)) {d0 : Drawn} {H : Heap} {locs : List Loc} {cells slots : Nat} {ls : Array Slot} {t0 : Int32} {M : Mem} (hd0 : s.drawn.sameBut d0 lw_cs) (hZ : ZH G true base s.heap M H locs) (hl : lv_has ls 1 []) (h : wp_X4_hasIndex_15 t0 M Q) : W p l e R (s.setDrawn d0) m args below meth c H locs cells slots (ZEnd below G true base z0 (qI Q) args s) (F0 m 15 ls [.int t0]) := by
  have hx := (A d0).1
  have hb := (A d0).2.1
  unfold wp_X4_hasIndex_15 at h
  exact z_zret A hd0 hZ hr h.1 ⟨_, rfl, h.2⟩ dX4_hasIndex_15
set_option maxRecDepth 100000 in
set_option maxHeartbeats 4000000 in
theorem c_X4_hasIndex (l : Launch) (G : ZG) (base : Nat) (M : Mem) (x0 : Nat) (Q : Int32 → Mem → Prop) (h : wp_X4_hasIndex x0 M Q) : ZMet l yX4_hasIndex cX4_hasIndex 1 (some .boolean) 0 0 G true base M [.ref (base + x0)] (qI Q) := by
  refine z_start (by decide) (Nat.le_of_ble_eq_true rfl) k_co_yX4_hasIndex ?_
  intro p e s m below meth c R d0 H locs cells slots ls A hr hn hd0 hZ hl
  have hx := (A d0).1
  have hb := (A d0).2.1
  have hl : lv_has ls 1 [(0, .ref (base + x0))] := hl
  unfold wp_X4_hasIndex at h
  obtain ⟨ho_x0, h⟩ := h
  refine lv_aload_n hx hb dX4_hasIndex_0 rfl (lv_at hl 0 rfl) ?_
  refine z_get (A d0) hZ (ci := 4) (j := 3) ho_x0.1 ho_x0.2 (by decide) (by decide) k_fl_RX4_27 (v := vr base (mR M x0 3)) (zv_dyn (zf4 ho_x0 rfl) rfl) dX4_hasIndex_1 ?_
  obtain ⟨r1, er1⟩ : ∃ y : Option Nat, y = mR M x0 3 := ⟨_, rfl⟩
  rw [← er1]
  replace h := h r1 er1
  obtain ⟨a2, rfl, ho_a2, h⟩ := h
  refine z_getN (A d0) hZ (ci := 2) (j := 6) ho_a2.1 ho_a2.2 (by decide) (by decide) k_fn_RX4_104 (v := .int (mI M a2 6)) rfl dX4_hasIndex_4 ?_
  refine lv_if_le (tgt := 14) hx hb dX4_hasIndex_7 (by decide) (fun hc => ?_) (fun hc => ?_)
  · replace h := h.1 hc
    refine lv_iconst (v := (0 : Int32)) hx hb dX4_hasIndex_14 (by decide) ?_
    exact (zb_X4_hasIndex_15 A hr hd0 hZ (lv_sub hl [] rfl) h)
  · replace h := h.2 hc
    refine lv_iconst (v := (1 : Int32)) hx hb dX4_hasIndex_10 (by decide) ?_
    refine lv_goto (tgt := 15) hx hb dX4_hasIndex_11 (by decide) ?_
    exact (zb_X4_hasIndex_15 A hr hd0 hZ (lv_sub hl [] rfl) h)
/-! cX4_gatherAll -/
set_option maxRecDepth 100000 in
set_option maxHeartbeats 4000000 in
theorem c_X4_gatherAll (l : Launch) (G : ZG) (base : Nat) (M : Mem) (x0 : Nat) (Q : Int32 → Mem → Prop) (h : wp_X4_gatherAll x0 M Q) : ZMet l yX4_gatherAll cX4_gatherAll 1 (some .int) 2 51 G true base M [.ref (base + x0)] (qI Q) := by
  refine z_start (by decide) (Nat.le_of_ble_eq_true rfl) k_co_yX4_gatherAll ?_
  intro p e s m below meth c R d0 H locs cells slots ls A hr hn hd0 hZ hl
  have hx := (A d0).1
  have hb := (A d0).2.1
  have hl : lv_has ls 1 [(0, .ref (base + x0))] := hl
  unfold wp_X4_gatherAll at h
  obtain ⟨ho_x0, h⟩ := h
  refine lv_aload_n hx hb dX4_gatherAll_0 rfl (lv_at hl 0 rfl) ?_
  refine z_get (A d0) hZ (ci := 4) (j := 3) ho_x0.1 ho_x0.2 (by decide) (by decide) k_fl_RX4_27 (v := vr base (mR M x0 3)) (zv_dyn (zf4 ho_x0 rfl) rfl) dX4_gatherAll_1 ?_
  obtain ⟨r1, er1⟩ : ∃ y : Option Nat, y = mR M x0 3 := ⟨_, rfl⟩
  rw [← er1]
  replace h := h r1 er1
  refine lv_iconst (v := (0 : Int32)) hx hb dX4_gatherAll_4 (by decide) ?_
  refine lv_aload_n hx hb dX4_gatherAll_5 rfl (lv_at hl 0 rfl) ?_
  refine z_get (A d0) hZ (ci := 4) (j := 3) ho_x0.1 ho_x0.2 (by decide) (by decide) k_fl_RX4_27 (v := vr base (mR M x0 3)) (zv_dyn (zf4 ho_x0 rfl) rfl) dX4_gatherAll_6 ?_
  obtain ⟨r2, er2⟩ : ∃ y : Option Nat, y = mR M x0 3 := ⟨_, rfl⟩
  rw [← er2]
  replace h := h r2 er2
  obtain ⟨a3, rfl, ho_a3, h⟩ := h
  refine z_getN (A d0) hZ (ci := 2) (j := 6) ho_a3.1 ho_a3.2 (by decide) (by decide) k_fn_RX4_104 (v := .int (mI M a3 6)) rfl dX4_gatherAll_9 ?_
  refine lv_aload_n hx hb dX4_gatherAll_12 rfl (lv_at hl 0 rfl) ?_
  refine z_get (A d0) hZ (ci := 4) (j := 13) ho_x0.1 ho_x0.2 (by decide) (by decide) k_fl_RX4_67 (v := .ref (base + 18)) (zv_fin (zf4 ho_x0 rfl) rfl) dX4_gatherAll_13 ?_
  obtain ⟨a4, rfl, ho_a4, h⟩ := h
  refine z_callV A hd0 hZ (ci := 2) (nA := 3) (As := [.int (0 : Int32), .int (mI M a3 6), vr base (some 18)]) (by decide) ho_a4 (c_X2_gather l G base M a4 (0 : Int32) (mI M a3 6) (some 18) _ h) k_ml_RX4_135 k_im_yX2_gather k_se_yX2_gather k_in_RX2 k_co_yX2_gather (by decide +kernel) ⟨by decide, by decide⟩ rfl rfl (Nat.le_of_ble_eq_true rfl) hl dX4_gatherAll_16 (fun v M5 H locs d0 cells slots hq hd0 hZ hm => ?_)
  clear h
  obtain ⟨i6, rfl, h⟩ := hq
  have ho_x0 := isO_le hm ho_x0
  exact z_iret A hd0 hZ hr ⟨_, rfl, h⟩ dX4_gatherAll_19
