/-! cX4_pieces -/
set_option maxRecDepth 100000 in
set_option maxHeartbeats 4000000 in
theorem zb_X4_pieces_18 {p : Program} {l : Launch} {e : Env} {R : Room} {s : State} {m : MethodId} {args : Array Value} {below : List Frame} {meth : Method} {c : Code} {G : ZG} {base z0 : Nat} {Q : Int32 → Mem → Prop} (A : ∀ d, Amb p R (s.setDrawn d) m args meth c G base z0 cX4_pieces yX4_pieces.cls 3 2 41) (hr : meth.sig.returnType = (some .int)) {d0 : Drawn} {H : Heap} {locs : List Loc} {cells slots : Nat} {ls : Array Slot} {t0 : Int32} {M : Mem} (hd0 : s.drawn.sameBut d0 lw_cs) (hZ : ZH G true base s.heap M H locs) (hl : lv_has ls 3 []) (h : wp_X4_pieces_18 t0 M Q) : W p l e R (s.setDrawn d0) m args below meth c H locs cells slots (ZEnd below G true base z0 (qI Q) args s) (F0 m 18 ls [.int t0]) := by
  have hx := (A d0).1
  have hb := (A d0).2.1
  unfold wp_X4_pieces_18 at h
  exact z_iret A hd0 hZ hr ⟨_, rfl, h⟩ dX4_pieces_18
set_option maxRecDepth 100000 in
set_option maxHeartbeats 4000000 in
theorem c_X4_pieces (l : Launch) (G : ZG) (base : Nat) (M : Mem) (x0 : Nat) (x1 : Int32) (Q : Int32 → Mem → Prop) (h : wp_X4_pieces x0 x1 M Q) : ZMet l yX4_pieces cX4_pieces 3 (some .int) 2 41 G true base M [.ref (base + x0), .int x1] (qI Q) := by
  refine z_start (by decide) (Nat.le_of_ble_eq_true rfl) k_co_yX4_pieces ?_
  intro p e s m below meth c R d0 H locs cells slots ls A hr hn hd0 hZ hl
  have hx := (A d0).1
  have hb := (A d0).2.1
  have hl : lv_has ls 3 [(0, .ref (base + x0)), (1, .int x1)] := hl
  unfold wp_X4_pieces at h
  obtain ⟨ho_x0, h⟩ := h
  refine lv_aload_n hx hb dX4_pieces_0 rfl (lv_at hl 0 rfl) ?_
  refine lv_iload_n hx hb dX4_pieces_1 rfl (lv_at hl 1 rfl) ?_
  refine z_callV A hd0 hZ (ci := 4) (nA := 1) (As := [.int x1]) (by decide) ho_x0 (c_X4_tierOf l G base M x0 x1 _ h) k_ml_RX4_200 k_im_yX4_tierOf k_se_yX4_tierOf k_in_RX4 k_co_yX4_tierOf (by decide +kernel) ⟨by decide, by decide⟩ rfl rfl (Nat.le_of_ble_eq_true rfl) hl dX4_pieces_2 (fun v M1 H locs d0 cells slots hq hd0 hZ hm => ?_)
  clear h
  obtain ⟨r2, rfl, h⟩ := hq
  have ho_x0 := isO_le hm ho_x0
  refine z_astore_n (lv' := [(2, vr base r2), (0, .ref (base + x0)), (1, .int x1)]) hx hb dX4_pieces_5 rfl hl (by decide) rfl (fun ls hl2 => ?_)
  replace hl := hl2
  refine z_aload_n (base := base) hx hb dX4_pieces_6 rfl (lv_at hl 0 rfl) ?_
  refine z_ifnonnull (base := base) (tgt := 14) hx hb dX4_pieces_7 (by decide) (fun a3 hc => ?_) (fun hc => ?_)
  · replace h := h.2 a3 hc
    subst hc
    refine lv_aload_n hx hb dX4_pieces_14 rfl (lv_at hl 0 rfl) ?_
    obtain ⟨ho_4, h⟩ := h
    refine z_getN (A d0) hZ (ci := 2) (j := 6) ho_4.1 ho_4.2 (by decide) (by decide) k_fn_RX4_104 (v := .int (mI M1 a3 6)) rfl dX4_pieces_15 ?_
    exact (zb_X4_pieces_18 A hr hd0 hZ (lv_sub hl [] rfl) h)
  · replace h := h.1 hc
    subst hc
    refine lv_iconst (v := (-1 : Int32)) hx hb dX4_pieces_10 (by decide) ?_
    refine lv_goto (tgt := 18) hx hb dX4_pieces_11 (by decide) ?_
    exact (zb_X4_pieces_18 A hr hd0 hZ (lv_sub hl [] rfl) h)
/-! cX4_piece -/
set_option maxRecDepth 100000 in
set_option maxHeartbeats 4000000 in
theorem zb_X4_piece_34 {p : Program} {l : Launch} {e : Env} {R : Room} {s : State} {m : MethodId} {args : Array Value} {below : List Frame} {meth : Method} {c : Code} {G : ZG} {base z0 : Nat} {Q : Int32 → Mem → Prop} (A : ∀ d, Amb p R (s.setDrawn d) m args meth c G base z0 cX4_piece yX4_piece.cls 6 3 75) (hr : meth.sig.returnType = (some .int)) {d0 : Drawn} {H : Heap} {locs : List Loc} {cells slots : Nat} {ls : Array Slot}  {M : Mem} (hd0 : s.drawn.sameBut d0 lw_cs) (hZ : ZH G true base s.heap M H locs) (hl : lv_has ls 6 []) (h : wp_X4_piece_34 M Q) : W p l e R (s.setDrawn d0) m args below meth c H locs cells slots (ZEnd below G true base z0 (qI Q) args s) (F0 m 34 ls []) := by
  have hx := (A d0).1
  have hb := (A d0).2.1
  unfold wp_X4_piece_34 at h
  refine lv_iconst (v := (-1 : Int32)) hx hb dX4_piece_34 (by decide) ?_
  exact z_iret A hd0 hZ hr ⟨_, rfl, h⟩ dX4_piece_35
set_option maxRecDepth 100000 in
set_option maxHeartbeats 4000000 in
theorem zb_X4_piece_22 {p : Program} {l : Launch} {e : Env} {R : Room} {s : State} {m : MethodId} {args : Array Value} {below : List Frame} {meth : Method} {c : Code} {G : ZG} {base z0 : Nat} {Q : Int32 → Mem → Prop} (A : ∀ d, Amb p R (s.setDrawn d) m args meth c G base z0 cX4_piece yX4_piece.cls 6 3 75) (hr : meth.sig.returnType = (some .int)) {d0 : Drawn} {H : Heap} {locs : List Loc} {cells slots : Nat} {ls : Array Slot} {x3 : Int32} {x4 : Option Nat} {t0 : Option Nat} {M : Mem} (hd0 : s.drawn.sameBut d0 lw_cs) (hZ : ZH G true base s.heap M H locs) (hl : lv_has ls 6 [(3, .int x3), (4, vr base x4)]) (h : wp_X4_piece_22 x3 x4 t0 M Q) : W p l e R (s.setDrawn d0) m args below meth c H locs cells slots (ZEnd below G true base z0 (qI Q) args s) (F0 m 22 ls [vr base t0]) := by
  have hx := (A d0).1
  have hb := (A d0).2.1
  unfold wp_X4_piece_22 at h
  refine z_astore (lv' := [(5, vr base t0), (3, .int x3), (4, vr base x4)]) hx hb dX4_piece_22 hl (by decide) (by simp [cat_vr, cat_r, cat_i, cat_l, cat_d]) (fun ls hl2 => ?_)
  replace hl := hl2
  refine z_aload (base := base) hx hb dX4_piece_24 (lv_at hl 2 rfl) ?_
  refine z_ifnull (base := base) (tgt := 34) hx hb dX4_piece_26 (by decide) (fun hc => ?_) (fun a1 hc => ?_)
  · replace h := h.1 hc
    subst hc
    exact (zb_X4_piece_34 A hr hd0 hZ (lv_sub hl [] rfl) h)
  · replace h := h.2 a1 hc
    subst hc
    refine z_aload (base := base) hx hb dX4_piece_29 (lv_at hl 0 rfl) ?_
    refine z_ifnonnull (base := base) (tgt := 36) hx hb dX4_piece_31 (by decide) (fun a2 hc => ?_) (fun hc => ?_)
    · replace h := h.2 a2 hc
      subst hc
      refine lv_iload_n hx hb dX4_piece_36 rfl (lv_at hl 1 rfl) ?_
      by_cases hc0 : x3 = 0
      · refine lv_tableIn (off := 39) (tgt := 76) hx hb dX4_piece_37 (by rw [hc0]; decide) (by rw [hc0]; decide) (by rw [hc0]; rfl) (by decide) ?_
        replace h := h.1 hc0
        refine lv_aload hx hb dX4_piece_76 (lv_at hl 0 rfl) ?_
        obtain ⟨ho_3, h⟩ := h
        refine z_getN (A d0) hZ (ci := 0) (j := 0) ho_3.1 ho_3.2 (by decide) (by decide) k_fn_RX4_126 (v := .int (mI M a2 0)) rfl dX4_piece_78 ?_
        exact z_iret A hd0 hZ hr ⟨_, rfl, h⟩ dX4_piece_81
      by_cases hc1 : x3 = 1
      · refine lv_tableIn (off := 45) (tgt := 82) hx hb dX4_piece_37 (by rw [hc1]; decide) (by rw [hc1]; decide) (by rw [hc1]; rfl) (by decide) ?_
        replace h := h.2.1 hc1
        refine lv_aload hx hb dX4_piece_82 (lv_at hl 0 rfl) ?_
        obtain ⟨ho_4, h⟩ := h
        refine z_getN (A d0) hZ (ci := 0) (j := 3) ho_4.1 ho_4.2 (by decide) (by decide) k_fn_RX4_204 (v := .int (mI M a2 3)) rfl dX4_piece_84 ?_
        exact z_iret A hd0 hZ hr ⟨_, rfl, h⟩ dX4_piece_87
      by_cases hc2 : x3 = 2
      · refine lv_tableIn (off := 51) (tgt := 88) hx hb dX4_piece_37 (by rw [hc2]; decide) (by rw [hc2]; decide) (by rw [hc2]; rfl) (by decide) ?_
        replace h := h.2.2.1 hc2
        refine lv_aload hx hb dX4_piece_88 (lv_at hl 2 rfl) ?_
        refine lv_aload hx hb dX4_piece_90 (lv_at hl 0 rfl) ?_
        obtain ⟨ho_5, h⟩ := h
        refine z_callV A hd0 hZ (ci := 2) (nA := 1) (As := [vr base (some a2)]) (by decide) ho_5 (c_X2_countDropped l G base M a1 (some a2) _ h) k_ml_RX4_207 k_im_yX2_countDropped k_se_yX2_countDropped k_in_RX2 k_co_yX2_countDropped (by decide +kernel) ⟨by decide, by decide⟩ rfl rfl (Nat.le_of_ble_eq_true rfl) hl dX4_piece_92 (fun v M6 H locs d0 cells slots hq hd0 hZ hm => ?_)
        clear h
        obtain ⟨i7, rfl, h⟩ := hq
        have ho_5 := isO_le hm ho_5
        exact z_iret A hd0 hZ hr ⟨_, rfl, h⟩ dX4_piece_95
      by_cases hc3 : x3 = 3
      · refine lv_tableIn (off := 59) (tgt := 96) hx hb dX4_piece_37 (by rw [hc3]; decide) (by rw [hc3]; decide) (by rw [hc3]; rfl) (by decide) ?_
        replace h := h.2.2.2.1 hc3
        refine lv_aload hx hb dX4_piece_96 (lv_at hl 0 rfl) ?_
        obtain ⟨ho_8, h⟩ := h
        refine z_getN (A d0) hZ (ci := 0) (j := 5) ho_8.1 ho_8.2 (by decide) (by decide) k_fn_RX4_211 (v := .int (mI M a2 5)) rfl dX4_piece_98 ?_
        exact z_iret A hd0 hZ hr ⟨_, rfl, h⟩ dX4_piece_101
      by_cases hc4 : x3 = 4
      · refine lv_tableIn (off := 65) (tgt := 102) hx hb dX4_piece_37 (by rw [hc4]; decide) (by rw [hc4]; decide) (by rw [hc4]; rfl) (by decide) ?_
        replace h := h.2.2.2.2.1 hc4
        refine lv_aload hx hb dX4_piece_102 (lv_at hl 0 rfl) ?_
        obtain ⟨ho_9, h⟩ := h
        refine z_getN (A d0) hZ (ci := 0) (j := 1) ho_9.1 ho_9.2 (by decide) (by decide) k_fn_RX4_214 (v := .int (mI M a2 1)) rfl dX4_piece_104 ?_
        exact z_iret A hd0 hZ hr ⟨_, rfl, h⟩ dX4_piece_107
      by_cases hc5 : x3 = 5
      · refine lv_tableIn (off := 71) (tgt := 108) hx hb dX4_piece_37 (by rw [hc5]; decide) (by rw [hc5]; decide) (by rw [hc5]; rfl) (by decide) ?_
        replace h := h.2.2.2.2.2.1 hc5
        refine lv_aload hx hb dX4_piece_108 (lv_at hl 2 rfl) ?_
        refine lv_aload hx hb dX4_piece_110 (lv_at hl 0 rfl) ?_
        obtain ⟨ho_10, h⟩ := h
        refine z_callV A hd0 hZ (ci := 2) (nA := 1) (As := [vr base (some a2)]) (by decide) ho_10 (c_X2_greatestMiss l G base M a1 (some a2) _ h) k_ml_RX4_217 k_im_yX2_greatestMiss k_se_yX2_greatestMiss k_in_RX2 k_co_yX2_greatestMiss (by decide +kernel) ⟨by decide, by decide⟩ rfl rfl (Nat.le_of_ble_eq_true rfl) hl dX4_piece_112 (fun v M11 H locs d0 cells slots hq hd0 hZ hm => ?_)
        clear h
        obtain ⟨i12, rfl, h⟩ := hq
        have ho_10 := isO_le hm ho_10
        exact z_iret A hd0 hZ hr ⟨_, rfl, h⟩ dX4_piece_115
      have hn0 := lv_neT hc0 (show (0 : Int32).toInt = 0 from rfl)
      have hn1 := lv_neT hc1 (show (1 : Int32).toInt = 1 from rfl)
      have hn2 := lv_neT hc2 (show (2 : Int32).toInt = 2 from rfl)
      have hn3 := lv_neT hc3 (show (3 : Int32).toInt = 3 from rfl)
      have hn4 := lv_neT hc4 (show (4 : Int32).toInt = 4 from rfl)
      have hn5 := lv_neT hc5 (show (5 : Int32).toInt = 5 from rfl)
      refine lv_tableOut (tgt := 116) hx hb dX4_piece_37 (by omega) (by decide) ?_
      replace h := h.2.2.2.2.2.2 hc0 hc1 hc2 hc3 hc4 hc5
      refine lv_iconst (v := (-1 : Int32)) hx hb dX4_piece_116 (by decide) ?_
      exact z_iret A hd0 hZ hr ⟨_, rfl, h⟩ dX4_piece_117
    · replace h := h.1 hc
      subst hc
      exact (zb_X4_piece_34 A hr hd0 hZ (lv_sub hl [] rfl) h)
set_option maxRecDepth 100000 in
set_option maxHeartbeats 4000000 in
theorem c_X4_piece (l : Launch) (G : ZG) (base : Nat) (M : Mem) (x0 : Nat) (x1 : Int32) (x2 : Int32) (x3 : Int32) (Q : Int32 → Mem → Prop) (h : wp_X4_piece x0 x1 x2 x3 M Q) : ZMet l yX4_piece cX4_piece 6 (some .int) 3 75 G true base M [.ref (base + x0), .int x1, .int x2, .int x3] (qI Q) := by
  refine z_start (by decide) (Nat.le_of_ble_eq_true rfl) k_co_yX4_piece ?_
  intro p e s m below meth c R d0 H locs cells slots ls A hr hn hd0 hZ hl
  have hx := (A d0).1
  have hb := (A d0).2.1
  have hl : lv_has ls 6 [(0, .ref (base + x0)), (1, .int x1), (2, .int x2), (3, .int x3)] := hl
  unfold wp_X4_piece at h
  obtain ⟨ho_x0, h⟩ := h
  refine lv_aload_n hx hb dX4_piece_0 rfl (lv_at hl 0 rfl) ?_
  refine lv_iload_n hx hb dX4_piece_1 rfl (lv_at hl 1 rfl) ?_
  refine z_callV A hd0 hZ (ci := 4) (nA := 1) (As := [.int x1]) (by decide) ho_x0 (c_X4_tierOf l G base M x0 x1 _ h) k_ml_RX4_200 k_im_yX4_tierOf k_se_yX4_tierOf k_in_RX4 k_co_yX4_tierOf (by decide +kernel) ⟨by decide, by decide⟩ rfl rfl (Nat.le_of_ble_eq_true rfl) hl dX4_piece_2 (fun v M13 H locs d0 cells slots hq hd0 hZ hm => ?_)
  clear h
  obtain ⟨r14, rfl, h⟩ := hq
  have ho_x0 := isO_le hm ho_x0
  refine z_astore (lv' := [(4, vr base r14), (0, .ref (base + x0)), (1, .int x1), (2, .int x2), (3, .int x3)]) hx hb dX4_piece_5 hl (by decide) rfl (fun ls hl2 => ?_)
  replace hl := hl2
  refine z_aload (base := base) hx hb dX4_piece_7 (lv_at hl 0 rfl) ?_
  refine z_ifnonnull (base := base) (tgt := 16) hx hb dX4_piece_9 (by decide) (fun a15 hc => ?_) (fun hc => ?_)
  · replace h := h.2 a15 hc
    subst hc
    refine lv_aload hx hb dX4_piece_16 (lv_at hl 0 rfl) ?_
    refine lv_iload_n hx hb dX4_piece_18 rfl (lv_at hl 3 rfl) ?_
    obtain ⟨ho_16, h⟩ := h
    refine z_callV A hd0 hZ (ci := 2) (nA := 1) (As := [.int x2]) (by decide) ho_16 (c_X2_pieceAt l G base M13 a15 x2 _ h) k_ml_RX4_122 k_im_yX2_pieceAt k_se_yX2_pieceAt k_in_RX2 k_co_yX2_pieceAt (by decide +kernel) ⟨by decide, by decide⟩ rfl rfl (Nat.le_of_ble_eq_true rfl) hl dX4_piece_19 (fun v M17 H locs d0 cells slots hq hd0 hZ hm => ?_)
    clear h
    obtain ⟨r18, rfl, h⟩ := hq
    have ho_x0 := isO_le hm ho_x0
    have ho_16 := isO_le hm ho_16
    exact (zb_X4_piece_22 A hr hd0 hZ (lv_sub hl [4, 0] rfl) h)
  · replace h := h.1 hc
    subst hc
    refine z_null (base := base) hx hb dX4_piece_12 ?_
    refine lv_goto (tgt := 22) hx hb dX4_piece_13 (by decide) ?_
    exact (zb_X4_piece_22 A hr hd0 hZ (lv_sub hl [4, 0] rfl) h)
/-! cX4_line -/
set_option maxRecDepth 100000 in
set_option maxHeartbeats 4000000 in
theorem zb_X4_line_34 {p : Program} {l : Launch} {e : Env} {R : Room} {s : State} {m : MethodId} {args : Array Value} {below : List Frame} {meth : Method} {c : Code} {G : ZG} {base z0 : Nat} {Q : Int64 → Mem → Prop} (A : ∀ d, Amb p R (s.setDrawn d) m args meth c G base z0 cX4_line yX4_line.cls 6 2 41) (hr : meth.sig.returnType = (some .long)) {d0 : Drawn} {H : Heap} {locs : List Loc} {cells slots : Nat} {ls : Array Slot}  {M : Mem} (hd0 : s.drawn.sameBut d0 lw_cs) (hZ : ZH G true base s.heap M H locs) (hl : lv_has ls 6 []) (h : wp_X4_line_34 M Q) : W p l e R (s.setDrawn d0) m args below meth c H locs cells slots (ZEnd below G true base z0 (qL Q) args s) (F0 m 34 ls []) := by
  have hx := (A d0).1
  have hb := (A d0).2.1
  unfold wp_X4_line_34 at h
  refine lv_ldc2 (v := (-9223372036854775808 : Int64)) hx hb (A d0).2.2.2.1 ((A d0).2.2.2.2.1 _ k_lc_RX4_194) dX4_line_34 ?_
  exact z_lret A hd0 hZ hr ⟨_, rfl, h⟩ dX4_line_37
set_option maxRecDepth 100000 in
set_option maxHeartbeats 4000000 in
theorem zb_X4_line_22 {p : Program} {l : Launch} {e : Env} {R : Room} {s : State} {m : MethodId} {args : Array Value} {below : List Frame} {meth : Method} {c : Code} {G : ZG} {base z0 : Nat} {Q : Int64 → Mem → Prop} (A : ∀ d, Amb p R (s.setDrawn d) m args meth c G base z0 cX4_line yX4_line.cls 6 2 41) (hr : meth.sig.returnType = (some .long)) {d0 : Drawn} {H : Heap} {locs : List Loc} {cells slots : Nat} {ls : Array Slot} {x3 : Int32} {x4 : Option Nat} {t0 : Option Nat} {M : Mem} (hd0 : s.drawn.sameBut d0 lw_cs) (hZ : ZH G true base s.heap M H locs) (hl : lv_has ls 6 [(3, .int x3), (4, vr base x4)]) (h : wp_X4_line_22 x3 x4 t0 M Q) : W p l e R (s.setDrawn d0) m args below meth c H locs cells slots (ZEnd below G true base z0 (qL Q) args s) (F0 m 22 ls [vr base t0]) := by
  have hx := (A d0).1
  have hb := (A d0).2.1
  unfold wp_X4_line_22 at h
  refine z_astore (lv' := [(5, vr base t0), (3, .int x3), (4, vr base x4)]) hx hb dX4_line_22 hl (by decide) (by simp [cat_vr, cat_r, cat_i, cat_l, cat_d]) (fun ls hl2 => ?_)
  replace hl := hl2
  refine z_aload (base := base) hx hb dX4_line_24 (lv_at hl 2 rfl) ?_
  refine z_ifnull (base := base) (tgt := 34) hx hb dX4_line_26 (by decide) (fun hc => ?_) (fun a1 hc => ?_)
  · replace h := h.1 hc
    subst hc
    exact (zb_X4_line_34 A hr hd0 hZ (lv_sub hl [] rfl) h)
  · replace h := h.2 a1 hc
    subst hc
    refine z_aload (base := base) hx hb dX4_line_29 (lv_at hl 0 rfl) ?_
    refine z_ifnonnull (base := base) (tgt := 38) hx hb dX4_line_31 (by decide) (fun a2 hc => ?_) (fun hc => ?_)
    · replace h := h.2 a2 hc
      subst hc
      refine lv_iload_n hx hb dX4_line_38 rfl (lv_at hl 1 rfl) ?_
      by_cases hc0 : x3 = 0
      · refine lv_tableIn (off := 33) (tgt := 72) hx hb dX4_line_39 (by rw [hc0]; decide) (by rw [hc0]; decide) (by rw [hc0]; rfl) (by decide) ?_
        replace h := h.1 hc0
        refine lv_aload hx hb dX4_line_72 (lv_at hl 0 rfl) ?_
        obtain ⟨ho_3, h⟩ := h
        refine z_getN (A d0) hZ (ci := 0) (j := 6) ho_3.1 ho_3.2 (by decide) (by decide) k_fn_RX4_220 (v := .long (mL M a2 6)) rfl dX4_line_74 ?_
        exact z_lret A hd0 hZ hr ⟨_, rfl, h⟩ dX4_line_77
      by_cases hc1 : x3 = 1
      · refine lv_tableIn (off := 39) (tgt := 78) hx hb dX4_line_39 (by rw [hc1]; decide) (by rw [hc1]; decide) (by rw [hc1]; rfl) (by decide) ?_
        replace h := h.2.1 hc1
        refine lv_aload hx hb dX4_line_78 (lv_at hl 0 rfl) ?_
        obtain ⟨ho_4, h⟩ := h
        refine z_getN (A d0) hZ (ci := 0) (j := 7) ho_4.1 ho_4.2 (by decide) (by decide) k_fn_RX4_224 (v := .long (mL M a2 7)) rfl dX4_line_80 ?_
        exact z_lret A hd0 hZ hr ⟨_, rfl, h⟩ dX4_line_83
      by_cases hc2 : x3 = 2
      · refine lv_tableIn (off := 45) (tgt := 84) hx hb dX4_line_39 (by rw [hc2]; decide) (by rw [hc2]; decide) (by rw [hc2]; rfl) (by decide) ?_
        replace h := h.2.2.1 hc2
        refine lv_aload hx hb dX4_line_84 (lv_at hl 0 rfl) ?_
        obtain ⟨ho_5, h⟩ := h
        refine z_getN (A d0) hZ (ci := 0) (j := 8) ho_5.1 ho_5.2 (by decide) (by decide) k_fn_RX4_227 (v := .long (mL M a2 8)) rfl dX4_line_86 ?_
        exact z_lret A hd0 hZ hr ⟨_, rfl, h⟩ dX4_line_89
      by_cases hc3 : x3 = 3
      · refine lv_tableIn (off := 51) (tgt := 90) hx hb dX4_line_39 (by rw [hc3]; decide) (by rw [hc3]; decide) (by rw [hc3]; rfl) (by decide) ?_
        replace h := h.2.2.2.1 hc3
        refine lv_aload hx hb dX4_line_90 (lv_at hl 2 rfl) ?_
        refine lv_aload hx hb dX4_line_92 (lv_at hl 0 rfl) ?_
        refine lv_iconst (v := (0 : Int32)) hx hb dX4_line_94 (by decide) ?_
        obtain ⟨ho_6, h⟩ := h
        refine z_callV A hd0 hZ (ci := 2) (nA := 2) (As := [vr base (some a2), .int (0 : Int32)]) (by decide) ho_6 (c_X2_keyOf l G base M a1 (some a2) (0 : Int32) _ h) k_ml_RX4_230 k_im_yX2_keyOf k_se_yX2_keyOf k_in_RX2 k_co_yX2_keyOf (by decide +kernel) ⟨by decide, by decide⟩ rfl rfl (Nat.le_of_ble_eq_true rfl) hl dX4_line_95 (fun v M7 H locs d0 cells slots hq hd0 hZ hm => ?_)
        clear h
        obtain ⟨j8, rfl, h⟩ := hq
        have ho_6 := isO_le hm ho_6
        exact z_lret A hd0 hZ hr ⟨_, rfl, h⟩ dX4_line_98
      by_cases hc4 : x3 = 4
      · refine lv_tableIn (off := 60) (tgt := 99) hx hb dX4_line_39 (by rw [hc4]; decide) (by rw [hc4]; decide) (by rw [hc4]; rfl) (by decide) ?_
        replace h := h.2.2.2.2.1 hc4
        refine lv_aload hx hb dX4_line_99 (lv_at hl 2 rfl) ?_
        refine lv_aload hx hb dX4_line_101 (lv_at hl 0 rfl) ?_
        refine lv_aload hx hb dX4_line_103 (lv_at hl 0 rfl) ?_
        obtain ⟨ho_9, h⟩ := h
        refine z_getN (A d0) hZ (ci := 0) (j := 3) ho_9.1 ho_9.2 (by decide) (by decide) k_fn_RX4_204 (v := .int (mI M a2 3)) rfl dX4_line_105 ?_
        refine lv_iconst (v := (1 : Int32)) hx hb dX4_line_108 (by decide) ?_
        refine lv_isub hx hb dX4_line_109 ?_
        obtain ⟨ho_10, h⟩ := h
        refine z_callV A hd0 hZ (ci := 2) (nA := 2) (As := [vr base (some a2), .int ((mI M a2 3) - (1 : Int32))]) (by decide) ho_10 (c_X2_keyOf l G base M a1 (some a2) ((mI M a2 3) - (1 : Int32)) _ h) k_ml_RX4_230 k_im_yX2_keyOf k_se_yX2_keyOf k_in_RX2 k_co_yX2_keyOf (by decide +kernel) ⟨by decide, by decide⟩ rfl rfl (Nat.le_of_ble_eq_true rfl) hl dX4_line_110 (fun v M11 H locs d0 cells slots hq hd0 hZ hm => ?_)
        clear h
        obtain ⟨j12, rfl, h⟩ := hq
        have ho_10 := isO_le hm ho_10
        have ho_9 := isO_le hm ho_9
        exact z_lret A hd0 hZ hr ⟨_, rfl, h⟩ dX4_line_113
      have hn0 := lv_neT hc0 (show (0 : Int32).toInt = 0 from rfl)
      have hn1 := lv_neT hc1 (show (1 : Int32).toInt = 1 from rfl)
      have hn2 := lv_neT hc2 (show (2 : Int32).toInt = 2 from rfl)
      have hn3 := lv_neT hc3 (show (3 : Int32).toInt = 3 from rfl)
      have hn4 := lv_neT hc4 (show (4 : Int32).toInt = 4 from rfl)
      refine lv_tableOut (tgt := 114) hx hb dX4_line_39 (by omega) (by decide) ?_
      replace h := h.2.2.2.2.2 hc0 hc1 hc2 hc3 hc4
      refine lv_ldc2 (v := (-9223372036854775808 : Int64)) hx hb (A d0).2.2.2.1 ((A d0).2.2.2.2.1 _ k_lc_RX4_194) dX4_line_114 ?_
      exact z_lret A hd0 hZ hr ⟨_, rfl, h⟩ dX4_line_117
    · replace h := h.1 hc
      subst hc
      exact (zb_X4_line_34 A hr hd0 hZ (lv_sub hl [] rfl) h)
set_option maxRecDepth 100000 in
set_option maxHeartbeats 4000000 in
theorem c_X4_line (l : Launch) (G : ZG) (base : Nat) (M : Mem) (x0 : Nat) (x1 : Int32) (x2 : Int32) (x3 : Int32) (Q : Int64 → Mem → Prop) (h : wp_X4_line x0 x1 x2 x3 M Q) : ZMet l yX4_line cX4_line 6 (some .long) 2 41 G true base M [.ref (base + x0), .int x1, .int x2, .int x3] (qL Q) := by
  refine z_start (by decide) (Nat.le_of_ble_eq_true rfl) k_co_yX4_line ?_
  intro p e s m below meth c R d0 H locs cells slots ls A hr hn hd0 hZ hl
  have hx := (A d0).1
  have hb := (A d0).2.1
  have hl : lv_has ls 6 [(0, .ref (base + x0)), (1, .int x1), (2, .int x2), (3, .int x3)] := hl
  unfold wp_X4_line at h
  obtain ⟨ho_x0, h⟩ := h
  refine lv_aload_n hx hb dX4_line_0 rfl (lv_at hl 0 rfl) ?_
  refine lv_iload_n hx hb dX4_line_1 rfl (lv_at hl 1 rfl) ?_
  refine z_callV A hd0 hZ (ci := 4) (nA := 1) (As := [.int x1]) (by decide) ho_x0 (c_X4_tierOf l G base M x0 x1 _ h) k_ml_RX4_200 k_im_yX4_tierOf k_se_yX4_tierOf k_in_RX4 k_co_yX4_tierOf (by decide +kernel) ⟨by decide, by decide⟩ rfl rfl (Nat.le_of_ble_eq_true rfl) hl dX4_line_2 (fun v M13 H locs d0 cells slots hq hd0 hZ hm => ?_)
  clear h
  obtain ⟨r14, rfl, h⟩ := hq
  have ho_x0 := isO_le hm ho_x0
  refine z_astore (lv' := [(4, vr base r14), (0, .ref (base + x0)), (1, .int x1), (2, .int x2), (3, .int x3)]) hx hb dX4_line_5 hl (by decide) rfl (fun ls hl2 => ?_)
  replace hl := hl2
  refine z_aload (base := base) hx hb dX4_line_7 (lv_at hl 0 rfl) ?_
  refine z_ifnonnull (base := base) (tgt := 16) hx hb dX4_line_9 (by decide) (fun a15 hc => ?_) (fun hc => ?_)
  · replace h := h.2 a15 hc
    subst hc
    refine lv_aload hx hb dX4_line_16 (lv_at hl 0 rfl) ?_
    refine lv_iload_n hx hb dX4_line_18 rfl (lv_at hl 3 rfl) ?_
    obtain ⟨ho_16, h⟩ := h
    refine z_callV A hd0 hZ (ci := 2) (nA := 1) (As := [.int x2]) (by decide) ho_16 (c_X2_pieceAt l G base M13 a15 x2 _ h) k_ml_RX4_122 k_im_yX2_pieceAt k_se_yX2_pieceAt k_in_RX2 k_co_yX2_pieceAt (by decide +kernel) ⟨by decide, by decide⟩ rfl rfl (Nat.le_of_ble_eq_true rfl) hl dX4_line_19 (fun v M17 H locs d0 cells slots hq hd0 hZ hm => ?_)
    clear h
    obtain ⟨r18, rfl, h⟩ := hq
    have ho_x0 := isO_le hm ho_x0
    have ho_16 := isO_le hm ho_16
    exact (zb_X4_line_22 A hr hd0 hZ (lv_sub hl [4, 0] rfl) h)
  · replace h := h.1 hc
    subst hc
    refine z_null (base := base) hx hb dX4_line_12 ?_
    refine lv_goto (tgt := 22) hx hb dX4_line_13 (by decide) ?_
    exact (zb_X4_line_22 A hr hd0 hZ (lv_sub hl [4, 0] rfl) h)
/-! cX4_guess -/
set_option maxRecDepth 100000 in
set_option maxHeartbeats 4000000 in
theorem zb_X4_guess_34 {p : Program} {l : Launch} {e : Env} {R : Room} {s : State} {m : MethodId} {args : Array Value} {below : List Frame} {meth : Method} {c : Code} {G : ZG} {base z0 : Nat} {Q : Int32 → Mem → Prop} (A : ∀ d, Amb p R (s.setDrawn d) m args meth c G base z0 cX4_guess yX4_guess.cls 7 2 49) (hr : meth.sig.returnType = (some .int)) {d0 : Drawn} {H : Heap} {locs : List Loc} {cells slots : Nat} {ls : Array Slot}  {M : Mem} (hd0 : s.drawn.sameBut d0 lw_cs) (hZ : ZH G true base s.heap M H locs) (hl : lv_has ls 7 []) (h : wp_X4_guess_34 M Q) : W p l e R (s.setDrawn d0) m args below meth c H locs cells slots (ZEnd below G true base z0 (qI Q) args s) (F0 m 34 ls []) := by
  have hx := (A d0).1
  have hb := (A d0).2.1
  unfold wp_X4_guess_34 at h
  refine lv_iconst (v := (-1 : Int32)) hx hb dX4_guess_34 (by decide) ?_
  exact z_iret A hd0 hZ hr ⟨_, rfl, h⟩ dX4_guess_35
set_option maxRecDepth 100000 in
set_option maxHeartbeats 4000000 in
theorem zb_X4_guess_63 {p : Program} {l : Launch} {e : Env} {R : Room} {s : State} {m : MethodId} {args : Array Value} {below : List Frame} {meth : Method} {c : Code} {G : ZG} {base z0 : Nat} {Q : Int32 → Mem → Prop} (A : ∀ d, Amb p R (s.setDrawn d) m args meth c G base z0 cX4_guess yX4_guess.cls 7 2 49) (hr : meth.sig.returnType = (some .int)) {d0 : Drawn} {H : Heap} {locs : List Loc} {cells slots : Nat} {ls : Array Slot} {t0 : Int32} {M : Mem} (hd0 : s.drawn.sameBut d0 lw_cs) (hZ : ZH G true base s.heap M H locs) (hl : lv_has ls 7 []) (h : wp_X4_guess_63 t0 M Q) : W p l e R (s.setDrawn d0) m args below meth c H locs cells slots (ZEnd below G true base z0 (qI Q) args s) (F0 m 63 ls [.int t0]) := by
  have hx := (A d0).1
  have hb := (A d0).2.1
  unfold wp_X4_guess_63 at h
  exact z_iret A hd0 hZ hr ⟨_, rfl, h⟩ dX4_guess_63
set_option maxRecDepth 100000 in
set_option maxHeartbeats 4000000 in
theorem zb_X4_guess_22 {p : Program} {l : Launch} {e : Env} {R : Room} {s : State} {m : MethodId} {args : Array Value} {below : List Frame} {meth : Method} {c : Code} {G : ZG} {base z0 : Nat} {Q : Int32 → Mem → Prop} (A : ∀ d, Amb p R (s.setDrawn d) m args meth c G base z0 cX4_guess yX4_guess.cls 7 2 49) (hr : meth.sig.returnType = (some .int)) {d0 : Drawn} {H : Heap} {locs : List Loc} {cells slots : Nat} {ls : Array Slot} {x3 : Int64} {x5 : Option Nat} {t0 : Option Nat} {M : Mem} (hd0 : s.drawn.sameBut d0 lw_cs) (hZ : ZH G true base s.heap M H locs) (hl : lv_has ls 7 [(3, .long x3), (5, vr base x5)]) (h : wp_X4_guess_22 x3 x5 t0 M Q) : W p l e R (s.setDrawn d0) m args below meth c H locs cells slots (ZEnd below G true base z0 (qI Q) args s) (F0 m 22 ls [vr base t0]) := by
  have hx := (A d0).1
  have hb := (A d0).2.1
  unfold wp_X4_guess_22 at h
  refine z_astore (lv' := [(6, vr base t0), (3, .long x3), (5, vr base x5)]) hx hb dX4_guess_22 hl (by decide) (by simp [cat_vr, cat_r, cat_i, cat_l, cat_d]) (fun ls hl2 => ?_)
  replace hl := hl2
  refine z_aload (base := base) hx hb dX4_guess_24 (lv_at hl 2 rfl) ?_
  refine z_ifnull (base := base) (tgt := 34) hx hb dX4_guess_26 (by decide) (fun hc => ?_) (fun a1 hc => ?_)
  · replace h := h.1 hc
    subst hc
    exact (zb_X4_guess_34 A hr hd0 hZ (lv_sub hl [] rfl) h)
  · replace h := h.2 a1 hc
    subst hc
    refine z_aload (base := base) hx hb dX4_guess_29 (lv_at hl 0 rfl) ?_
    refine z_ifnonnull (base := base) (tgt := 36) hx hb dX4_guess_31 (by decide) (fun a2 hc => ?_) (fun hc => ?_)
    · replace h := h.2 a2 hc
      subst hc
      refine lv_lload_n hx hb dX4_guess_36 rfl (lv_at hl 1 rfl) ?_
      refine z_callS A hd0 hZ (nA := 1) (As := [.long x3]) (c_X4_isKey l G base M x3 _ h) k_ml_RX4_70 k_st_yX4_isKey k_in_RX4 k_co_yX4_isKey (by decide +kernel) ⟨by decide, by decide⟩ rfl rfl (Nat.le_of_ble_eq_true rfl) hl dX4_guess_37 (fun v M3 H locs d0 cells slots hq hd0 hZ hm => ?_)
      clear h
      obtain ⟨i4, rfl, h⟩ := hq
      refine lv_if_eq (tgt := 61) hx hb dX4_guess_40 (by decide) (fun hc => ?_) (fun hc => ?_)
      · replace h := h.1 hc
        refine lv_bipush (v := (-2 : Int32)) hx hb dX4_guess_61 (by decide) ?_
        exact (zb_X4_guess_63 A hr hd0 hZ (lv_sub hl [] rfl) h)
      · replace h := h.2 hc
        refine lv_aload hx hb dX4_guess_43 (lv_at hl 0 rfl) ?_
        refine lv_lload_n hx hb dX4_guess_45 rfl (lv_at hl 1 rfl) ?_
        refine lv_aload hx hb dX4_guess_46 (lv_at hl 2 rfl) ?_
        refine lv_aload hx hb dX4_guess_48 (lv_at hl 0 rfl) ?_
        refine lv_iconst (v := (0 : Int32)) hx hb dX4_guess_50 (by decide) ?_
        obtain ⟨ho_5, h⟩ := h
        refine z_callV A hd0 hZ (ci := 2) (nA := 2) (As := [vr base (some a2), .int (0 : Int32)]) (by decide) ho_5 (c_X2_keyOf l G base M3 a1 (some a2) (0 : Int32) _ h) k_ml_RX4_230 k_im_yX2_keyOf k_se_yX2_keyOf k_in_RX2 k_co_yX2_keyOf (by decide +kernel) ⟨by decide, by decide⟩ rfl rfl (Nat.le_of_ble_eq_true rfl) hl dX4_guess_51 (fun v M6 H locs d0 cells slots hq hd0 hZ hm => ?_)
        clear h
        obtain ⟨j7, rfl, h⟩ := hq
        have ho_5 := isO_le hm ho_5
        refine lv_lsub hx hb dX4_guess_54 ?_
        obtain ⟨ho_8, h⟩ := h
        refine z_callV A hd0 hZ (ci := 0) (nA := 1) (As := [.long (x3 - j7)]) (by decide) ho_8 (c_X0_guessAway l G base M6 a2 (x3 - j7) _ h) k_ml_RX4_234 k_im_yX0_guessAway k_se_yX0_guessAway k_in_RX0 k_co_yX0_guessAway (by decide +kernel) ⟨by decide, by decide⟩ rfl rfl (Nat.le_of_ble_eq_true rfl) hl dX4_guess_55 (fun v M9 H locs d0 cells slots hq hd0 hZ hm => ?_)
        clear h
        obtain ⟨i10, rfl, h⟩ := hq
        have ho_5 := isO_le hm ho_5
        have ho_8 := isO_le hm ho_8
        refine lv_goto (tgt := 63) hx hb dX4_guess_58 (by decide) ?_
        exact (zb_X4_guess_63 A hr hd0 hZ (lv_sub hl [] rfl) h)
    · replace h := h.1 hc
      subst hc
      exact (zb_X4_guess_34 A hr hd0 hZ (lv_sub hl [] rfl) h)
set_option maxRecDepth 100000 in
set_option maxHeartbeats 4000000 in
theorem c_X4_guess (l : Launch) (G : ZG) (base : Nat) (M : Mem) (x0 : Nat) (x1 : Int32) (x2 : Int32) (x3 : Int64) (Q : Int32 → Mem → Prop) (h : wp_X4_guess x0 x1 x2 x3 M Q) : ZMet l yX4_guess cX4_guess 7 (some .int) 2 49 G true base M [.ref (base + x0), .int x1, .int x2, .long x3] (qI Q) := by
  refine z_start (by decide) (Nat.le_of_ble_eq_true rfl) k_co_yX4_guess ?_
  intro p e s m below meth c R d0 H locs cells slots ls A hr hn hd0 hZ hl
  have hx := (A d0).1
  have hb := (A d0).2.1
  have hl : lv_has ls 7 [(0, .ref (base + x0)), (1, .int x1), (2, .int x2), (3, .long x3)] := hl
  unfold wp_X4_guess at h
  obtain ⟨ho_x0, h⟩ := h
  refine lv_aload_n hx hb dX4_guess_0 rfl (lv_at hl 0 rfl) ?_
  refine lv_iload_n hx hb dX4_guess_1 rfl (lv_at hl 1 rfl) ?_
  refine z_callV A hd0 hZ (ci := 4) (nA := 1) (As := [.int x1]) (by decide) ho_x0 (c_X4_tierOf l G base M x0 x1 _ h) k_ml_RX4_200 k_im_yX4_tierOf k_se_yX4_tierOf k_in_RX4 k_co_yX4_tierOf (by decide +kernel) ⟨by decide, by decide⟩ rfl rfl (Nat.le_of_ble_eq_true rfl) hl dX4_guess_2 (fun v M11 H locs d0 cells slots hq hd0 hZ hm => ?_)
  clear h
  obtain ⟨r12, rfl, h⟩ := hq
  have ho_x0 := isO_le hm ho_x0
  refine z_astore (lv' := [(5, vr base r12), (0, .ref (base + x0)), (1, .int x1), (2, .int x2), (3, .long x3)]) hx hb dX4_guess_5 hl (by decide) rfl (fun ls hl2 => ?_)
  replace hl := hl2
  refine z_aload (base := base) hx hb dX4_guess_7 (lv_at hl 0 rfl) ?_
  refine z_ifnonnull (base := base) (tgt := 16) hx hb dX4_guess_9 (by decide) (fun a13 hc => ?_) (fun hc => ?_)
  · replace h := h.2 a13 hc
    subst hc
    refine lv_aload hx hb dX4_guess_16 (lv_at hl 0 rfl) ?_
    refine lv_iload_n hx hb dX4_guess_18 rfl (lv_at hl 3 rfl) ?_
    obtain ⟨ho_14, h⟩ := h
    refine z_callV A hd0 hZ (ci := 2) (nA := 1) (As := [.int x2]) (by decide) ho_14 (c_X2_pieceAt l G base M11 a13 x2 _ h) k_ml_RX4_122 k_im_yX2_pieceAt k_se_yX2_pieceAt k_in_RX2 k_co_yX2_pieceAt (by decide +kernel) ⟨by decide, by decide⟩ rfl rfl (Nat.le_of_ble_eq_true rfl) hl dX4_guess_19 (fun v M15 H locs d0 cells slots hq hd0 hZ hm => ?_)
    clear h
    obtain ⟨r16, rfl, h⟩ := hq
    have ho_x0 := isO_le hm ho_x0
    have ho_14 := isO_le hm ho_14
    exact (zb_X4_guess_22 A hr hd0 hZ (lv_sub hl [4, 0] rfl) h)
  · replace h := h.1 hc
    subst hc
    refine z_null (base := base) hx hb dX4_guess_12 ?_
    refine lv_goto (tgt := 22) hx hb dX4_guess_13 (by decide) ?_
    exact (zb_X4_guess_22 A hr hd0 hZ (lv_sub hl [4, 0] rfl) h)
/-! cX4_bitsOf -/
set_option maxRecDepth 100000 in
set_option maxHeartbeats 4000000 in
theorem zb_X4_bitsOf_24 {p : Program} {l : Launch} {e : Env} {R : Room} {s : State} {m : MethodId} {args : Array Value} {below : List Frame} {meth : Method} {c : Code} {G : ZG} {base z0 : Nat} {Q : Int64 → Mem → Prop} (A : ∀ d, Amb p R (s.setDrawn d) m args meth c G base z0 cX4_bitsOf yX4_bitsOf.cls 9 0 0) (hr : meth.sig.returnType = (some .long)) {K52 : UInt64 → UInt64 → Int32 → Mem → Prop} :
  ∀ (n : Nat) {d0 : Drawn} {H : Heap} {locs : List Loc} {cells slots : Nat} {ls : Array Slot} {x0 : UInt64} {x2 : UInt64} {x4 : Int32} {M : Mem} (hd0 : s.drawn.sameBut d0 lw_cs) (hZ : ZH G true base s.heap M H locs) (hl : lv_has ls 9 [(0, .double x0), (2, .double x2), (4, .int x4)]) (h : wp_X4_bitsOf_24 n x0 x2 x4 M Q K52) (hK52 : ∀ {d0 : Drawn} {H : Heap} {locs : List Loc} {cells slots : Nat} {ls : Array Slot} {x0 : UInt64} {x2 : UInt64} {x4 : Int32} {M : Mem}, s.drawn.sameBut d0 lw_cs → ZH G true base s.heap M H locs → lv_has ls 9 [(0, .double x0), (2, .double x2), (4, .int x4)] → K52 x0 x2 x4 M → W p l e R (s.setDrawn d0) m args below meth c H locs cells slots (ZEnd below G true base z0 (qL Q) args s) (F0 m 52 ls [])), W p l e R (s.setDrawn d0) m args below meth c H locs cells slots (ZEnd below G true base z0 (qL Q) args s) (F0 m 24 ls []) := by
  have hx := (A default).1
  have hb := (A default).2.1
  intro n
  induction n with
  | zero => intro d0 H locs cells slots ls x0 x2 x4 M hd0 hZ hl h hK52; exact h.elim
  | succ n ih =>
    intro d0 H locs cells slots ls x0 x2 x4 M hd0 hZ hl h hK52
    unfold wp_X4_bitsOf_24 at h
    refine lv_dload_n hx hb dX4_bitsOf_24 rfl (lv_at hl 1 rfl) ?_
    refine lv_ldc2d (v := (4611686018427387904 : UInt64)) hx hb (A d0).2.2.2.1 ((A d0).2.2.2.2.1 _ k_dc_RX4_251) dX4_bitsOf_25 ?_
    refine lv_dcmp hx hb dX4_bitsOf_28 ?_
    refine lv_if_lt (tgt := 52) hx hb dX4_bitsOf_29 (by decide) (fun hc => ?_) (fun hc => ?_)
    · replace h := h.1 hc
      exact hK52 hd0 hZ (lv_sub hl [0, 1, 2] rfl) h
    · replace h := h.2 hc
      refine lv_iload hx hb dX4_bitsOf_32 (lv_at hl 2 rfl) ?_
      refine lv_sipush (v := (1023 : Int32)) hx hb dX4_bitsOf_34 (by decide) ?_
      refine lv_icmp_ge (tgt := 52) hx hb dX4_bitsOf_37 (by decide) (fun hc => ?_) (fun hc => ?_)
      · replace h := h.1 hc
        exact hK52 hd0 hZ (lv_sub hl [0, 1, 2] rfl) h
      · replace h := h.2 hc
        refine lv_dload_n hx hb dX4_bitsOf_40 rfl (lv_at hl 1 rfl) ?_
        refine lv_ldc2d (v := (4611686018427387904 : UInt64)) hx hb (A d0).2.2.2.1 ((A d0).2.2.2.2.1 _ k_dc_RX4_251) dX4_bitsOf_41 ?_
        refine lv_ddiv_any hd0 lw_bits hx hb dX4_bitsOf_44 (fun f1 d0 hal hd0 => ?_)
        replace h := h f1 hal
        refine lv_dstore_n (lv' := [(2, .double f1), (0, .double x0), (4, .int x4)]) hx hb dX4_bitsOf_45 rfl hl (by decide) rfl (fun ls hl2 => ?_)
        replace hl := hl2
        obtain ⟨i2, ei2⟩ : ∃ y : Int32, y = x4 + (1 : Int32) := ⟨_, rfl⟩
        replace h := h i2 ei2
        refine lv_iinc (v := i2) (lv' := [(4, .int i2), (2, .double f1), (0, .double x0)]) hx hb dX4_bitsOf_46 hl (k := 2) rfl (by rw [ei2]; rfl) (by decide) rfl (fun ls hl2 => ?_)
        replace hl := hl2
        refine lv_goto (tgt := 24) hx hb dX4_bitsOf_49 (by decide) ?_
        exact ih hd0 hZ (lv_sub hl [2, 1, 0] rfl) h hK52
set_option maxRecDepth 100000 in
set_option maxHeartbeats 4000000 in
theorem zb_X4_bitsOf_52 {p : Program} {l : Launch} {e : Env} {R : Room} {s : State} {m : MethodId} {args : Array Value} {below : List Frame} {meth : Method} {c : Code} {G : ZG} {base z0 : Nat} {Q : Int64 → Mem → Prop} (A : ∀ d, Amb p R (s.setDrawn d) m args meth c G base z0 cX4_bitsOf yX4_bitsOf.cls 9 0 0) (hr : meth.sig.returnType = (some .long)) {K78 : UInt64 → UInt64 → Int32 → Mem → Prop} :
  ∀ (n : Nat) {d0 : Drawn} {H : Heap} {locs : List Loc} {cells slots : Nat} {ls : Array Slot} {x0 : UInt64} {x2 : UInt64} {x4 : Int32} {M : Mem} (hd0 : s.drawn.sameBut d0 lw_cs) (hZ : ZH G true base s.heap M H locs) (hl : lv_has ls 9 [(0, .double x0), (2, .double x2), (4, .int x4)]) (h : wp_X4_bitsOf_52 n x0 x2 x4 M Q K78) (hK78 : ∀ {d0 : Drawn} {H : Heap} {locs : List Loc} {cells slots : Nat} {ls : Array Slot} {x0 : UInt64} {x2 : UInt64} {x4 : Int32} {M : Mem}, s.drawn.sameBut d0 lw_cs → ZH G true base s.heap M H locs → lv_has ls 9 [(0, .double x0), (2, .double x2), (4, .int x4)] → K78 x0 x2 x4 M → W p l e R (s.setDrawn d0) m args below meth c H locs cells slots (ZEnd below G true base z0 (qL Q) args s) (F0 m 78 ls [])), W p l e R (s.setDrawn d0) m args below meth c H locs cells slots (ZEnd below G true base z0 (qL Q) args s) (F0 m 52 ls []) := by
  have hx := (A default).1
  have hb := (A default).2.1
  intro n
  induction n with
  | zero => intro d0 H locs cells slots ls x0 x2 x4 M hd0 hZ hl h hK78; exact h.elim
  | succ n ih =>
    intro d0 H locs cells slots ls x0 x2 x4 M hd0 hZ hl h hK78
    unfold wp_X4_bitsOf_52 at h
    refine lv_dload_n hx hb dX4_bitsOf_52 rfl (lv_at hl 1 rfl) ?_
    refine lv_dconst1 hx hb dX4_bitsOf_53 ?_
    refine lv_dcmp hx hb dX4_bitsOf_54 ?_
    refine lv_if_ge (tgt := 78) hx hb dX4_bitsOf_55 (by decide) (fun hc => ?_) (fun hc => ?_)
    · replace h := h.1 hc
      exact hK78 hd0 hZ (lv_sub hl [0, 1, 2] rfl) h
    · replace h := h.2 hc
      refine lv_iload hx hb dX4_bitsOf_58 (lv_at hl 2 rfl) ?_
      refine lv_sipush (v := (-1022 : Int32)) hx hb dX4_bitsOf_60 (by decide) ?_
      refine lv_icmp_le (tgt := 78) hx hb dX4_bitsOf_63 (by decide) (fun hc => ?_) (fun hc => ?_)
      · replace h := h.1 hc
        exact hK78 hd0 hZ (lv_sub hl [0, 1, 2] rfl) h
      · replace h := h.2 hc
        refine lv_dload_n hx hb dX4_bitsOf_66 rfl (lv_at hl 1 rfl) ?_
        refine lv_ldc2d (v := (4611686018427387904 : UInt64)) hx hb (A d0).2.2.2.1 ((A d0).2.2.2.2.1 _ k_dc_RX4_251) dX4_bitsOf_67 ?_
        refine lv_dmul_any hd0 lw_bits hx hb dX4_bitsOf_70 (fun f3 d0 hal hd0 => ?_)
        replace h := h f3 hal
        refine lv_dstore_n (lv' := [(2, .double f3), (0, .double x0), (4, .int x4)]) hx hb dX4_bitsOf_71 rfl hl (by decide) rfl (fun ls hl2 => ?_)
        replace hl := hl2
        obtain ⟨i4, ei4⟩ : ∃ y : Int32, y = x4 + (-1 : Int32) := ⟨_, rfl⟩
        replace h := h i4 ei4
        refine lv_iinc (v := i4) (lv' := [(4, .int i4), (2, .double f3), (0, .double x0)]) hx hb dX4_bitsOf_72 hl (k := 2) rfl (by rw [ei4]; rfl) (by decide) rfl (fun ls hl2 => ?_)
        replace hl := hl2
        refine lv_goto (tgt := 52) hx hb dX4_bitsOf_75 (by decide) ?_
        exact ih hd0 hZ (lv_sub hl [2, 1, 0] rfl) h hK78
set_option maxRecDepth 100000 in
set_option maxHeartbeats 4000000 in
theorem zb_X4_bitsOf_120 {p : Program} {l : Launch} {e : Env} {R : Room} {s : State} {m : MethodId} {args : Array Value} {below : List Frame} {meth : Method} {c : Code} {G : ZG} {base z0 : Nat} {Q : Int64 → Mem → Prop} (A : ∀ d, Amb p R (s.setDrawn d) m args meth c G base z0 cX4_bitsOf yX4_bitsOf.cls 9 0 0) (hr : meth.sig.returnType = (some .long)) {d0 : Drawn} {H : Heap} {locs : List Loc} {cells slots : Nat} {ls : Array Slot} {t0 : Int64} {M : Mem} (hd0 : s.drawn.sameBut d0 lw_cs) (hZ : ZH G true base s.heap M H locs) (hl : lv_has ls 9 []) (h : wp_X4_bitsOf_120 t0 M Q) : W p l e R (s.setDrawn d0) m args below meth c H locs cells slots (ZEnd below G true base z0 (qL Q) args s) (F0 m 120 ls [.long t0]) := by
  have hx := (A d0).1
  have hb := (A d0).2.1
  unfold wp_X4_bitsOf_120 at h
  exact z_lret A hd0 hZ hr ⟨_, rfl, h⟩ dX4_bitsOf_120
set_option maxRecDepth 100000 in
set_option maxHeartbeats 4000000 in
theorem zb_X4_bitsOf_78 {p : Program} {l : Launch} {e : Env} {R : Room} {s : State} {m : MethodId} {args : Array Value} {below : List Frame} {meth : Method} {c : Code} {G : ZG} {base z0 : Nat} {Q : Int64 → Mem → Prop} (A : ∀ d, Amb p R (s.setDrawn d) m args meth c G base z0 cX4_bitsOf yX4_bitsOf.cls 9 0 0) (hr : meth.sig.returnType = (some .long)) {d0 : Drawn} {H : Heap} {locs : List Loc} {cells slots : Nat} {ls : Array Slot} {x0 : UInt64} {x2 : UInt64} {x4 : Int32} {M : Mem} (hd0 : s.drawn.sameBut d0 lw_cs) (hZ : ZH G true base s.heap M H locs) (hl : lv_has ls 9 [(0, .double x0), (2, .double x2), (4, .int x4)]) (h : wp_X4_bitsOf_78 x0 x2 x4 M Q) : W p l e R (s.setDrawn d0) m args below meth c H locs cells slots (ZEnd below G true base z0 (qL Q) args s) (F0 m 78 ls []) := by
  have hx := (A d0).1
  have hb := (A d0).2.1
  unfold wp_X4_bitsOf_78 at h
  refine lv_dload_n hx hb dX4_bitsOf_78 rfl (lv_at hl 1 rfl) ?_
  refine lv_dconst1 hx hb dX4_bitsOf_79 ?_
  refine lv_dsub_any hd0 lw_bits hx hb dX4_bitsOf_80 (fun f5 d0 hal hd0 => ?_)
  replace h := h f5 hal
  refine lv_ldc2d (v := (4841369599423283200 : UInt64)) hx hb (A d0).2.2.2.1 ((A d0).2.2.2.2.1 _ k_dc_RX4_253) dX4_bitsOf_81 ?_
  refine lv_dmul_any hd0 lw_bits hx hb dX4_bitsOf_84 (fun f6 d0 hal hd0 => ?_)
  replace h := h f6 hal
  refine lv_d2l hx hb dX4_bitsOf_85 ?_
  obtain ⟨j7, ej7⟩ : ∃ y : Int64, y = FP.d2l f6 := ⟨_, rfl⟩
  rw [← ej7]
  replace h := h j7 ej7
  refine lv_lstore (lv' := [(5, .long j7), (0, .double x0), (2, .double x2), (4, .int x4)]) hx hb dX4_bitsOf_86 hl (by decide) rfl (fun ls hl2 => ?_)
  replace hl := hl2
  refine lv_iload hx hb dX4_bitsOf_88 (lv_at hl 3 rfl) ?_
  refine lv_i2l hx hb dX4_bitsOf_90 rfl ?_
  refine lv_ldc2 (v := (1023 : Int64)) hx hb (A d0).2.2.2.1 ((A d0).2.2.2.2.1 _ k_lc_RX4_255) dX4_bitsOf_91 ?_
  refine lv_ladd hx hb dX4_bitsOf_94 ?_
  refine lv_bipush (v := (52 : Int32)) hx hb dX4_bitsOf_95 (by decide) ?_
  refine lv_lshl hx hb dX4_bitsOf_97 rfl ?_
  refine lv_lload hx hb dX4_bitsOf_98 (lv_at hl 0 rfl) ?_
  refine lv_lor hx hb dX4_bitsOf_100 ?_
  obtain ⟨j8, ej8⟩ : ∃ y : Int64, y = ((x4.toInt64 + (1023 : Int64)) <<< ((52 : Int32).toInt64 &&& 63)) ||| j7 := ⟨_, rfl⟩
  rw [← ej8]
  replace h := h j8 ej8
  refine lv_lstore (lv' := [(7, .long j8), (5, .long j7), (0, .double x0), (2, .double x2), (4, .int x4)]) hx hb dX4_bitsOf_101 hl (by decide) rfl (fun ls hl2 => ?_)
  replace hl := hl2
  refine lv_dload_n hx hb dX4_bitsOf_103 rfl (lv_at hl 2 rfl) ?_
  refine lv_dconst0 hx hb dX4_bitsOf_104 ?_
  refine lv_dcmp hx hb dX4_bitsOf_105 ?_
  refine lv_if_ge (tgt := 118) hx hb dX4_bitsOf_106 (by decide) (fun hc => ?_) (fun hc => ?_)
  · replace h := h.1 hc
    refine lv_lload hx hb dX4_bitsOf_118 (lv_at hl 0 rfl) ?_
    exact (zb_X4_bitsOf_120 A hr hd0 hZ (lv_sub hl [] rfl) h)
  · replace h := h.2 hc
    refine lv_lload hx hb dX4_bitsOf_109 (lv_at hl 0 rfl) ?_
    refine lv_ldc2 (v := (-9223372036854775808 : Int64)) hx hb (A d0).2.2.2.1 ((A d0).2.2.2.2.1 _ k_lc_RX4_194) dX4_bitsOf_111 ?_
    refine lv_lor hx hb dX4_bitsOf_114 ?_
    refine lv_goto (tgt := 120) hx hb dX4_bitsOf_115 (by decide) ?_
    exact (zb_X4_bitsOf_120 A hr hd0 hZ (lv_sub hl [] rfl) h)
set_option maxRecDepth 100000 in
set_option maxHeartbeats 4000000 in
theorem zb_X4_bitsOf_20 {p : Program} {l : Launch} {e : Env} {R : Room} {s : State} {m : MethodId} {args : Array Value} {below : List Frame} {meth : Method} {c : Code} {G : ZG} {base z0 : Nat} {Q : Int64 → Mem → Prop} (A : ∀ d, Amb p R (s.setDrawn d) m args meth c G base z0 cX4_bitsOf yX4_bitsOf.cls 9 0 0) (hr : meth.sig.returnType = (some .long)) {d0 : Drawn} {H : Heap} {locs : List Loc} {cells slots : Nat} {ls : Array Slot} {x0 : UInt64} {t0 : UInt64} {M : Mem} (hd0 : s.drawn.sameBut d0 lw_cs) (hZ : ZH G true base s.heap M H locs) (hl : lv_has ls 9 [(0, .double x0)]) (h : wp_X4_bitsOf_20 x0 t0 M Q) : W p l e R (s.setDrawn d0) m args below meth c H locs cells slots (ZEnd below G true base z0 (qL Q) args s) (F0 m 20 ls [.double t0]) := by
  have hx := (A d0).1
  have hb := (A d0).2.1
  unfold wp_X4_bitsOf_20 at h
  refine lv_dstore_n (lv' := [(2, .double t0), (0, .double x0)]) hx hb dX4_bitsOf_20 rfl hl (by decide) rfl (fun ls hl2 => ?_)
  replace hl := hl2
  refine lv_iconst (v := (0 : Int32)) hx hb dX4_bitsOf_21 (by decide) ?_
  refine lv_istore (lv' := [(4, .int (0 : Int32)), (2, .double t0), (0, .double x0)]) hx hb dX4_bitsOf_22 hl (by decide) rfl (fun ls hl2 => ?_)
  replace hl := hl2
  exact (Exists.elim h fun kk h => zb_X4_bitsOf_24 A hr kk hd0 hZ (lv_sub hl [2, 1, 0] rfl) h (fun hd0 hZ hl h => (Exists.elim h fun kk h => zb_X4_bitsOf_52 A hr kk hd0 hZ hl h (fun hd0 hZ hl h => (zb_X4_bitsOf_78 A hr hd0 hZ hl h)))))
set_option maxRecDepth 100000 in
set_option maxHeartbeats 4000000 in
theorem c_X4_bitsOf (l : Launch) (G : ZG) (base : Nat) (M : Mem) (x0 : UInt64) (Q : Int64 → Mem → Prop) (h : wp_X4_bitsOf x0 M Q) : ZMet l yX4_bitsOf cX4_bitsOf 9 (some .long) 0 0 G true base M [.double x0] (qL Q) := by
  refine z_start (by decide) (Nat.le_of_ble_eq_true rfl) k_co_yX4_bitsOf ?_
  intro p e s m below meth c R d0 H locs cells slots ls A hr hn hd0 hZ hl
  have hx := (A d0).1
  have hb := (A d0).2.1
  have hl : lv_has ls 9 [(0, .double x0)] := hl
  unfold wp_X4_bitsOf at h
  refine lv_dload_n hx hb dX4_bitsOf_0 rfl (lv_at hl 0 rfl) ?_
  refine lv_dconst0 hx hb dX4_bitsOf_1 ?_
  refine lv_dcmp hx hb dX4_bitsOf_2 ?_
  refine lv_if_ne (tgt := 8) hx hb dX4_bitsOf_3 (by decide) (fun hc => ?_) (fun hc => ?_)
  · replace h := h.1 hc
    refine lv_dload_n hx hb dX4_bitsOf_8 rfl (lv_at hl 0 rfl) ?_
    refine lv_dconst0 hx hb dX4_bitsOf_9 ?_
    refine lv_dcmp hx hb dX4_bitsOf_10 ?_
    refine lv_if_ge (tgt := 19) hx hb dX4_bitsOf_11 (by decide) (fun hc => ?_) (fun hc => ?_)
    · replace h := h.1 hc
      refine lv_dload_n hx hb dX4_bitsOf_19 rfl (lv_at hl 0 rfl) ?_
      exact (zb_X4_bitsOf_20 A hr hd0 hZ (lv_sub hl [0] rfl) h)
    · replace h := h.2 hc
      refine lv_dload_n hx hb dX4_bitsOf_14 rfl (lv_at hl 0 rfl) ?_
      refine lv_dneg hx hb dX4_bitsOf_15 ?_
      refine lv_goto (tgt := 20) hx hb dX4_bitsOf_16 (by decide) ?_
      exact (zb_X4_bitsOf_20 A hr hd0 hZ (lv_sub hl [0] rfl) h)
  · replace h := h.2 hc
    refine lv_lconst (v := (0 : Int64)) hx hb dX4_bitsOf_6 (by decide) ?_
    exact z_lret A hd0 hZ hr ⟨_, rfl, h⟩ dX4_bitsOf_7
/-! cX4_bits -/
set_option maxRecDepth 100000 in
set_option maxHeartbeats 4000000 in
theorem zb_X4_bits_30 {p : Program} {l : Launch} {e : Env} {R : Room} {s : State} {m : MethodId} {args : Array Value} {below : List Frame} {meth : Method} {c : Code} {G : ZG} {base z0 : Nat} {Q : Int64 → Mem → Prop} (A : ∀ d, Amb p R (s.setDrawn d) m args meth c G base z0 cX4_bits yX4_bits.cls 4 1 28) (hr : meth.sig.returnType = (some .long)) {d0 : Drawn} {H : Heap} {locs : List Loc} {cells slots : Nat} {ls : Array Slot}  {M : Mem} (hd0 : s.drawn.sameBut d0 lw_cs) (hZ : ZH G true base s.heap M H locs) (hl : lv_has ls 4 []) (h : wp_X4_bits_30 M Q) : W p l e R (s.setDrawn d0) m args below meth c H locs cells slots (ZEnd below G true base z0 (qL Q) args s) (F0 m 30 ls []) := by
  have hx := (A d0).1
  have hb := (A d0).2.1
  unfold wp_X4_bits_30 at h
  refine lv_lconst (v := (0 : Int64)) hx hb dX4_bits_30 (by decide) ?_
  exact z_lret A hd0 hZ hr ⟨_, rfl, h⟩ dX4_bits_31
set_option maxRecDepth 100000 in
set_option maxHeartbeats 4000000 in
theorem zb_X4_bits_47 {p : Program} {l : Launch} {e : Env} {R : Room} {s : State} {m : MethodId} {args : Array Value} {below : List Frame} {meth : Method} {c : Code} {G : ZG} {base z0 : Nat} {Q : Int64 → Mem → Prop} (A : ∀ d, Amb p R (s.setDrawn d) m args meth c G base z0 cX4_bits yX4_bits.cls 4 1 28) (hr : meth.sig.returnType = (some .long)) {d0 : Drawn} {H : Heap} {locs : List Loc} {cells slots : Nat} {ls : Array Slot} {t0 : UInt64} {M : Mem} (hd0 : s.drawn.sameBut d0 lw_cs) (hZ : ZH G true base s.heap M H locs) (hl : lv_has ls 4 []) (h : wp_X4_bits_47 t0 M Q) : W p l e R (s.setDrawn d0) m args below meth c H locs cells slots (ZEnd below G true base z0 (qL Q) args s) (F0 m 47 ls [.double t0]) := by
  have hx := (A d0).1
  have hb := (A d0).2.1
  unfold wp_X4_bits_47 at h
  refine z_callS A hd0 hZ (nA := 1) (As := [.double t0]) (c_X4_bitsOf l G base M t0 _ h) k_ml_RX4_244 k_st_yX4_bitsOf k_in_RX4 k_co_yX4_bitsOf (by decide +kernel) ⟨by decide, by decide⟩ rfl rfl (Nat.le_of_ble_eq_true rfl) hl dX4_bits_47 (fun v M1 H locs d0 cells slots hq hd0 hZ hm => ?_)
  clear h
  obtain ⟨j2, rfl, h⟩ := hq
  exact z_lret A hd0 hZ hr ⟨_, rfl, h⟩ dX4_bits_50
set_option maxRecDepth 100000 in
set_option maxHeartbeats 4000000 in
theorem c_X4_bits (l : Launch) (G : ZG) (base : Nat) (M : Mem) (x0 : Nat) (x1 : Int32) (x2 : Int32) (Q : Int64 → Mem → Prop) (h : wp_X4_bits x0 x1 x2 M Q) : ZMet l yX4_bits cX4_bits 4 (some .long) 1 28 G true base M [.ref (base + x0), .int x1, .int x2] (qL Q) := by
  refine z_start (by decide) (Nat.le_of_ble_eq_true rfl) k_co_yX4_bits ?_
  intro p e s m below meth c R d0 H locs cells slots ls A hr hn hd0 hZ hl
  have hx := (A d0).1
  have hb := (A d0).2.1
  have hl : lv_has ls 4 [(0, .ref (base + x0)), (1, .int x1), (2, .int x2)] := hl
  unfold wp_X4_bits at h
  obtain ⟨ho_x0, h⟩ := h
  refine lv_aload_n hx hb dX4_bits_0 rfl (lv_at hl 0 rfl) ?_
  refine z_get (A d0) hZ (ci := 4) (j := 3) ho_x0.1 ho_x0.2 (by decide) (by decide) k_fl_RX4_27 (v := vr base (mR M x0 3)) (zv_dyn (zf4 ho_x0 rfl) rfl) dX4_bits_1 ?_
  obtain ⟨r3, er3⟩ : ∃ y : Option Nat, y = mR M x0 3 := ⟨_, rfl⟩
  rw [← er3]
  replace h := h r3 er3
  refine lv_iload_n hx hb dX4_bits_4 rfl (lv_at hl 1 rfl) ?_
  obtain ⟨a4, rfl, ho_a4, h⟩ := h
  refine z_callV A hd0 hZ (ci := 2) (nA := 1) (As := [.int x1]) (by decide) ho_a4 (c_X2_pieceAt l G base M a4 x1 _ h) k_ml_RX4_122 k_im_yX2_pieceAt k_se_yX2_pieceAt k_in_RX2 k_co_yX2_pieceAt (by decide +kernel) ⟨by decide, by decide⟩ rfl rfl (Nat.le_of_ble_eq_true rfl) hl dX4_bits_5 (fun v M5 H locs d0 cells slots hq hd0 hZ hm => ?_)
  clear h
  obtain ⟨r6, rfl, h⟩ := hq
  have ho_x0 := isO_le hm ho_x0
  refine z_astore_n (lv' := [(3, vr base r6), (0, .ref (base + x0)), (1, .int x1), (2, .int x2)]) hx hb dX4_bits_8 rfl hl (by decide) rfl (fun ls hl2 => ?_)
  replace hl := hl2
  refine z_aload_n (base := base) hx hb dX4_bits_9 rfl (lv_at hl 0 rfl) ?_
  refine z_ifnull (base := base) (tgt := 30) hx hb dX4_bits_10 (by decide) (fun hc => ?_) (fun a7 hc => ?_)
  · replace h := h.1 hc
    subst hc
    exact (zb_X4_bits_30 A hr hd0 hZ (lv_sub hl [] rfl) h)
  · replace h := h.2 a7 hc
    subst hc
    refine lv_aload_n hx hb dX4_bits_13 rfl (lv_at hl 0 rfl) ?_
    obtain ⟨ho_8, h⟩ := h
    refine z_getN (A d0) hZ (ci := 0) (j := 0) ho_8.1 ho_8.2 (by decide) (by decide) k_fn_RX4_126 (v := .int (mI M5 a7 0)) rfl dX4_bits_14 ?_
    refine lv_iconst (v := (2 : Int32)) hx hb dX4_bits_17 (by decide) ?_
    refine lv_icmp_ne (tgt := 30) hx hb dX4_bits_18 (by decide) (fun hc => ?_) (fun hc => ?_)
    · replace h := h.1 hc
      exact (zb_X4_bits_30 A hr hd0 hZ (lv_sub hl [] rfl) h)
    · replace h := h.2 hc
      refine lv_iload_n hx hb dX4_bits_21 rfl (lv_at hl 3 rfl) ?_
      refine lv_if_lt (tgt := 30) hx hb dX4_bits_22 (by decide) (fun hc => ?_) (fun hc => ?_)
      · replace h := h.1 hc
        exact (zb_X4_bits_30 A hr hd0 hZ (lv_sub hl [] rfl) h)
      · replace h := h.2 hc
        refine lv_iload_n hx hb dX4_bits_25 rfl (lv_at hl 3 rfl) ?_
        refine lv_iconst (v := (1 : Int32)) hx hb dX4_bits_26 (by decide) ?_
        refine lv_icmp_le (tgt := 32) hx hb dX4_bits_27 (by decide) (fun hc => ?_) (fun hc => ?_)
        · replace h := h.1 hc
          refine lv_iload_n hx hb dX4_bits_32 rfl (lv_at hl 3 rfl) ?_
          refine lv_if_ne (tgt := 43) hx hb dX4_bits_33 (by decide) (fun hc => ?_) (fun hc => ?_)
          · replace h := h.1 hc
            refine lv_aload_n hx hb dX4_bits_43 rfl (lv_at hl 0 rfl) ?_
            refine z_getN (A d0) hZ (ci := 0) (j := 10) ho_8.1 ho_8.2 (by decide) (by decide) k_fn_RX4_241 (v := .double (mD M5 a7 10)) rfl dX4_bits_44 ?_
            exact (zb_X4_bits_47 A hr hd0 hZ (lv_sub hl [] rfl) h)
          · replace h := h.2 hc
            refine lv_aload_n hx hb dX4_bits_36 rfl (lv_at hl 0 rfl) ?_
            refine z_getN (A d0) hZ (ci := 0) (j := 9) ho_8.1 ho_8.2 (by decide) (by decide) k_fn_RX4_237 (v := .double (mD M5 a7 9)) rfl dX4_bits_37 ?_
            refine lv_goto (tgt := 47) hx hb dX4_bits_40 (by decide) ?_
            exact (zb_X4_bits_47 A hr hd0 hZ (lv_sub hl [] rfl) h)
        · replace h := h.2 hc
          exact (zb_X4_bits_30 A hr hd0 hZ (lv_sub hl [] rfl) h)
/-! cX4_key -/
set_option maxRecDepth 100000 in
set_option maxHeartbeats 4000000 in
theorem zb_X4_key_46 {p : Program} {l : Launch} {e : Env} {R : Room} {s : State} {m : MethodId} {args : Array Value} {below : List Frame} {meth : Method} {c : Code} {G : ZG} {base z0 : Nat} {Q : Int64 → Mem → Prop} (A : ∀ d, Amb p R (s.setDrawn d) m args meth c G base z0 cX4_key yX4_key.cls 5 1 23) (hr : meth.sig.returnType = (some .long)) {d0 : Drawn} {H : Heap} {locs : List Loc} {cells slots : Nat} {ls : Array Slot} {t0 : Int64} {M : Mem} (hd0 : s.drawn.sameBut d0 lw_cs) (hZ : ZH G true base s.heap M H locs) (hl : lv_has ls 5 []) (h : wp_X4_key_46 t0 M Q) : W p l e R (s.setDrawn d0) m args below meth c H locs cells slots (ZEnd below G true base z0 (qL Q) args s) (F0 m 46 ls [.long t0]) := by
  have hx := (A d0).1
  have hb := (A d0).2.1
  unfold wp_X4_key_46 at h
  exact z_lret A hd0 hZ hr ⟨_, rfl, h⟩ dX4_key_46
set_option maxRecDepth 100000 in
set_option maxHeartbeats 4000000 in
theorem c_X4_key (l : Launch) (G : ZG) (base : Nat) (M : Mem) (x0 : Nat) (x1 : Int32) (x2 : Int32) (x3 : Int32) (Q : Int64 → Mem → Prop) (h : wp_X4_key x0 x1 x2 x3 M Q) : ZMet l yX4_key cX4_key 5 (some .long) 1 23 G true base M [.ref (base + x0), .int x1, .int x2, .int x3] (qL Q) := by
  refine z_start (by decide) (Nat.le_of_ble_eq_true rfl) k_co_yX4_key ?_
  intro p e s m below meth c R d0 H locs cells slots ls A hr hn hd0 hZ hl
  have hx := (A d0).1
  have hb := (A d0).2.1
  have hl : lv_has ls 5 [(0, .ref (base + x0)), (1, .int x1), (2, .int x2), (3, .int x3)] := hl
  unfold wp_X4_key at h
  obtain ⟨ho_x0, h⟩ := h
  refine lv_aload_n hx hb dX4_key_0 rfl (lv_at hl 0 rfl) ?_
  refine z_get (A d0) hZ (ci := 4) (j := 3) ho_x0.1 ho_x0.2 (by decide) (by decide) k_fl_RX4_27 (v := vr base (mR M x0 3)) (zv_dyn (zf4 ho_x0 rfl) rfl) dX4_key_1 ?_
  obtain ⟨r1, er1⟩ : ∃ y : Option Nat, y = mR M x0 3 := ⟨_, rfl⟩
  rw [← er1]
  replace h := h r1 er1
  refine lv_iload_n hx hb dX4_key_4 rfl (lv_at hl 1 rfl) ?_
  obtain ⟨a2, rfl, ho_a2, h⟩ := h
  refine z_callV A hd0 hZ (ci := 2) (nA := 1) (As := [.int x1]) (by decide) ho_a2 (c_X2_pieceAt l G base M a2 x1 _ h) k_ml_RX4_122 k_im_yX2_pieceAt k_se_yX2_pieceAt k_in_RX2 k_co_yX2_pieceAt (by decide +kernel) ⟨by decide, by decide⟩ rfl rfl (Nat.le_of_ble_eq_true rfl) hl dX4_key_5 (fun v M3 H locs d0 cells slots hq hd0 hZ hm => ?_)
  clear h
  obtain ⟨r4, rfl, h⟩ := hq
  have ho_x0 := isO_le hm ho_x0
  refine z_astore (lv' := [(4, vr base r4), (0, .ref (base + x0)), (1, .int x1), (2, .int x2), (3, .int x3)]) hx hb dX4_key_8 hl (by decide) rfl (fun ls hl2 => ?_)
  replace hl := hl2
  refine z_aload (base := base) hx hb dX4_key_10 (lv_at hl 0 rfl) ?_
  refine z_ifnonnull (base := base) (tgt := 19) hx hb dX4_key_12 (by decide) (fun a5 hc => ?_) (fun hc => ?_)
  · replace h := h.2 a5 hc
    subst hc
    refine lv_iload_n hx hb dX4_key_19 rfl (lv_at hl 4 rfl) ?_
    refine lv_if_eq (tgt := 36) hx hb dX4_key_20 (by decide) (fun hc => ?_) (fun hc => ?_)
    · replace h := h.1 hc
      refine lv_aload_n hx hb dX4_key_36 rfl (lv_at hl 1 rfl) ?_
      refine z_get (A d0) hZ (ci := 4) (j := 3) ho_x0.1 ho_x0.2 (by decide) (by decide) k_fl_RX4_27 (v := vr base (mR M3 x0 3)) (zv_dyn (zf4 ho_x0 rfl) rfl) dX4_key_37 ?_
      obtain ⟨r6, er6⟩ : ∃ y : Option Nat, y = mR M3 x0 3 := ⟨_, rfl⟩
      rw [← er6]
      replace h := h r6 er6
      refine lv_aload hx hb dX4_key_40 (lv_at hl 0 rfl) ?_
      refine lv_iload_n hx hb dX4_key_42 rfl (lv_at hl 3 rfl) ?_
      obtain ⟨a7, rfl, ho_a7, h⟩ := h
      refine z_callV A hd0 hZ (ci := 2) (nA := 2) (As := [vr base (some a5), .int x2]) (by decide) ho_a7 (c_X2_keyOf l G base M3 a7 (some a5) x2 _ h) k_ml_RX4_230 k_im_yX2_keyOf k_se_yX2_keyOf k_in_RX2 k_co_yX2_keyOf (by decide +kernel) ⟨by decide, by decide⟩ rfl rfl (Nat.le_of_ble_eq_true rfl) hl dX4_key_43 (fun v M8 H locs d0 cells slots hq hd0 hZ hm => ?_)
      clear h
      obtain ⟨j9, rfl, h⟩ := hq
      have ho_x0 := isO_le hm ho_x0
      exact (zb_X4_key_46 A hr hd0 hZ (lv_sub hl [] rfl) h)
    · replace h := h.2 hc
      refine lv_aload_n hx hb dX4_key_23 rfl (lv_at hl 1 rfl) ?_
      refine z_get (A d0) hZ (ci := 4) (j := 3) ho_x0.1 ho_x0.2 (by decide) (by decide) k_fl_RX4_27 (v := vr base (mR M3 x0 3)) (zv_dyn (zf4 ho_x0 rfl) rfl) dX4_key_24 ?_
      obtain ⟨r10, er10⟩ : ∃ y : Option Nat, y = mR M3 x0 3 := ⟨_, rfl⟩
      rw [← er10]
      replace h := h r10 er10
      refine lv_aload hx hb dX4_key_27 (lv_at hl 0 rfl) ?_
      refine lv_iload_n hx hb dX4_key_29 rfl (lv_at hl 3 rfl) ?_
      obtain ⟨a11, rfl, ho_a11, h⟩ := h
      refine z_callV A hd0 hZ (ci := 2) (nA := 2) (As := [vr base (some a5), .int x2]) (by decide) ho_a11 (c_X2_lateOf l G base M3 a11 (some a5) x2 _ h) k_ml_RX4_248 k_im_yX2_lateOf k_se_yX2_lateOf k_in_RX2 k_co_yX2_lateOf (by decide +kernel) ⟨by decide, by decide⟩ rfl rfl (Nat.le_of_ble_eq_true rfl) hl dX4_key_30 (fun v M12 H locs d0 cells slots hq hd0 hZ hm => ?_)
      clear h
      obtain ⟨j13, rfl, h⟩ := hq
      have ho_x0 := isO_le hm ho_x0
      refine lv_goto (tgt := 46) hx hb dX4_key_33 (by decide) ?_
      exact (zb_X4_key_46 A hr hd0 hZ (lv_sub hl [] rfl) h)
  · replace h := h.1 hc
    subst hc
    refine lv_ldc2 (v := (-9223372036854775808 : Int64)) hx hb (A d0).2.2.2.1 ((A d0).2.2.2.2.1 _ k_lc_RX4_194) dX4_key_15 ?_
    exact z_lret A hd0 hZ hr ⟨_, rfl, h⟩ dX4_key_18
/-! cX4_looks -/
set_option maxRecDepth 100000 in
set_option maxHeartbeats 4000000 in
theorem c_X4_looks (l : Launch) (G : ZG) (base : Nat) (M : Mem) (x0 : Nat) (Q : Int32 → Mem → Prop) (h : wp_X4_looks x0 M Q) : ZMet l yX4_looks cX4_looks 1 (some .int) 0 0 G true base M [.ref (base + x0)] (qI Q) := by
  refine z_start (by decide) (Nat.le_of_ble_eq_true rfl) k_co_yX4_looks ?_
  intro p e s m below meth c R d0 H locs cells slots ls A hr hn hd0 hZ hl
  have hx := (A d0).1
  have hb := (A d0).2.1
  have hl : lv_has ls 1 [(0, .ref (base + x0))] := hl
  unfold wp_X4_looks at h
  obtain ⟨ho_x0, h⟩ := h
  refine lv_aload_n hx hb dX4_looks_0 rfl (lv_at hl 0 rfl) ?_
  refine z_get (A d0) hZ (ci := 4) (j := 10) ho_x0.1 ho_x0.2 (by decide) (by decide) k_fl_RX4_53 (v := .ref (base + 13)) (zv_fin (zf4 ho_x0 rfl) rfl) dX4_looks_1 ?_
  refine z_getN (A d0) hZ (ci := 3) (j := 2) (isO_c (a := 13) hZ.k0 (by decide) rfl).1 (isO_c (a := 13) hZ.k0 (by decide) rfl).2 (by decide) (by decide) k_fn_RX4_257 (v := .int (mI M 13 2)) rfl dX4_looks_4 ?_
  exact z_iret A hd0 hZ hr ⟨_, rfl, h⟩ dX4_looks_7
/-! cX4_told -/
set_option maxRecDepth 100000 in
set_option maxHeartbeats 4000000 in
theorem zb_X4_told_29 {p : Program} {l : Launch} {e : Env} {R : Room} {s : State} {m : MethodId} {args : Array Value} {below : List Frame} {meth : Method} {c : Code} {G : ZG} {base z0 : Nat} {Q : Int32 → Mem → Prop} (A : ∀ d, Amb p R (s.setDrawn d) m args meth c G base z0 cX4_told yX4_told.cls 2 0 0) (hr : meth.sig.returnType = (some .int)) {d0 : Drawn} {H : Heap} {locs : List Loc} {cells slots : Nat} {ls : Array Slot} {t0 : Int32} {M : Mem} (hd0 : s.drawn.sameBut d0 lw_cs) (hZ : ZH G true base s.heap M H locs) (hl : lv_has ls 2 []) (h : wp_X4_told_29 t0 M Q) : W p l e R (s.setDrawn d0) m args below meth c H locs cells slots (ZEnd below G true base z0 (qI Q) args s) (F0 m 29 ls [.int t0]) := by
  have hx := (A d0).1
  have hb := (A d0).2.1
  unfold wp_X4_told_29 at h
  exact z_iret A hd0 hZ hr ⟨_, rfl, h⟩ dX4_told_29
set_option maxRecDepth 100000 in
set_option maxHeartbeats 4000000 in
theorem zb_X4_told_27 {p : Program} {l : Launch} {e : Env} {R : Room} {s : State} {m : MethodId} {args : Array Value} {below : List Frame} {meth : Method} {c : Code} {G : ZG} {base z0 : Nat} {Q : Int32 → Mem → Prop} (A : ∀ d, Amb p R (s.setDrawn d) m args meth c G base z0 cX4_told yX4_told.cls 2 0 0) (hr : meth.sig.returnType = (some .int)) {d0 : Drawn} {H : Heap} {locs : List Loc} {cells slots : Nat} {ls : Array Slot}  {M : Mem} (hd0 : s.drawn.sameBut d0 lw_cs) (hZ : ZH G true base s.heap M H locs) (hl : lv_has ls 2 []) (h : wp_X4_told_27 M Q) : W p l e R (s.setDrawn d0) m args below meth c H locs cells slots (ZEnd below G true base z0 (qI Q) args s) (F0 m 27 ls []) := by
  have hx := (A d0).1
  have hb := (A d0).2.1
  unfold wp_X4_told_27 at h
  refine lv_bipush (v := (-2 : Int32)) hx hb dX4_told_27 (by decide) ?_
  exact (zb_X4_told_29 A hr hd0 hZ (lv_sub hl [] rfl) h)
set_option maxRecDepth 100000 in
set_option maxHeartbeats 4000000 in
theorem c_X4_told (l : Launch) (G : ZG) (base : Nat) (M : Mem) (x0 : Nat) (x1 : Int32) (Q : Int32 → Mem → Prop) (h : wp_X4_told x0 x1 M Q) : ZMet l yX4_told cX4_told 2 (some .int) 0 0 G true base M [.ref (base + x0), .int x1] (qI Q) := by
  refine z_start (by decide) (Nat.le_of_ble_eq_true rfl) k_co_yX4_told ?_
  intro p e s m below meth c R d0 H locs cells slots ls A hr hn hd0 hZ hl
  have hx := (A d0).1
  have hb := (A d0).2.1
  have hl : lv_has ls 2 [(0, .ref (base + x0)), (1, .int x1)] := hl
  unfold wp_X4_told at h
  obtain ⟨ho_x0, h⟩ := h
  refine lv_iload_n hx hb dX4_told_0 rfl (lv_at hl 1 rfl) ?_
  refine lv_if_lt (tgt := 27) hx hb dX4_told_1 (by decide) (fun hc => ?_) (fun hc => ?_)
  · replace h := h.1 hc
    exact (zb_X4_told_27 A hr hd0 hZ (lv_sub hl [] rfl) h)
  · replace h := h.2 hc
    refine lv_iload_n hx hb dX4_told_4 rfl (lv_at hl 1 rfl) ?_
    refine lv_aload_n hx hb dX4_told_5 rfl (lv_at hl 0 rfl) ?_
    refine z_get (A d0) hZ (ci := 4) (j := 10) ho_x0.1 ho_x0.2 (by decide) (by decide) k_fl_RX4_53 (v := .ref (base + 13)) (zv_fin (zf4 ho_x0 rfl) rfl) dX4_told_6 ?_
    refine z_getN (A d0) hZ (ci := 3) (j := 1) (isO_c (a := 13) hZ.k0 (by decide) rfl).1 (isO_c (a := 13) hZ.k0 (by decide) rfl).2 (by decide) (by decide) k_fn_RX4_260 (v := .int (mI M 13 1)) rfl dX4_told_9 ?_
    refine lv_icmp_ge (tgt := 27) hx hb dX4_told_12 (by decide) (fun hc => ?_) (fun hc => ?_)
    · replace h := h.1 hc
      exact (zb_X4_told_27 A hr hd0 hZ (lv_sub hl [] rfl) h)
    · replace h := h.2 hc
      refine lv_aload_n hx hb dX4_told_15 rfl (lv_at hl 0 rfl) ?_
      refine z_get (A d0) hZ (ci := 4) (j := 10) ho_x0.1 ho_x0.2 (by decide) (by decide) k_fl_RX4_53 (v := .ref (base + 13)) (zv_fin (zf4 ho_x0 rfl) rfl) dX4_told_16 ?_
      refine z_getN (A d0) hZ (ci := 3) (j := 0) (isO_c (a := 13) hZ.k0 (by decide) rfl).1 (isO_c (a := 13) hZ.k0 (by decide) rfl).2 (by decide) (by decide) k_fn_RX4_261 (v := .ref (base + (13 + 1))) (zv_fin (zf3_0 (isO_c (a := 13) hZ.k0 (by decide) rfl)) rfl) dX4_told_19 ?_
      refine lv_iload_n hx hb dX4_told_22 rfl (lv_at hl 1 rfl) ?_
      obtain ⟨hin, h⟩ := h
      refine z_iald (A d0) hZ (isA_W1 hZ.k0 (isO_c (a := 13) hZ.k0 (by decide) rfl)) hin dX4_told_23 ?_
      refine lv_goto (tgt := 29) hx hb dX4_told_24 (by decide) ?_
      exact (zb_X4_told_29 A hr hd0 hZ (lv_sub hl [] rfl) h)
/-! cX4_check -/
set_option maxRecDepth 100000 in
set_option maxHeartbeats 4000000 in
theorem zb_X4_check_26 {p : Program} {l : Launch} {e : Env} {R : Room} {s : State} {m : MethodId} {args : Array Value} {below : List Frame} {meth : Method} {c : Code} {G : ZG} {base z0 : Nat} {Q : Int32 → Mem → Prop} (A : ∀ d, Amb p R (s.setDrawn d) m args meth c G base z0 cX4_check yX4_check.cls 3 4 103) (hr : meth.sig.returnType = (some .int)) {d0 : Drawn} {H : Heap} {locs : List Loc} {cells slots : Nat} {ls : Array Slot}  {M : Mem} (hd0 : s.drawn.sameBut d0 lw_cs) (hZ : ZH G true base s.heap M H locs) (hl : lv_has ls 3 []) (h : wp_X4_check_26 M Q) : W p l e R (s.setDrawn d0) m args below meth c H locs cells slots (ZEnd below G true base z0 (qI Q) args s) (F0 m 26 ls []) := by
  have hx := (A d0).1
  have hb := (A d0).2.1
  unfold wp_X4_check_26 at h
  refine lv_bipush (v := (-2 : Int32)) hx hb dX4_check_26 (by decide) ?_
  exact z_iret A hd0 hZ hr ⟨_, rfl, h⟩ dX4_check_28
set_option maxRecDepth 100000 in
set_option maxHeartbeats 4000000 in
theorem zb_X4_check_77 {p : Program} {l : Launch} {e : Env} {R : Room} {s : State} {m : MethodId} {args : Array Value} {below : List Frame} {meth : Method} {c : Code} {G : ZG} {base z0 : Nat} {Q : Int32 → Mem → Prop} (A : ∀ d, Amb p R (s.setDrawn d) m args meth c G base z0 cX4_check yX4_check.cls 3 4 103) (hr : meth.sig.returnType = (some .int)) {d0 : Drawn} {H : Heap} {locs : List Loc} {cells slots : Nat} {ls : Array Slot} {t0 : Int32} {t1 : Int32} {M : Mem} (hd0 : s.drawn.sameBut d0 lw_cs) (hZ : ZH G true base s.heap M H locs) (hl : lv_has ls 3 []) (h : wp_X4_check_77 t0 t1 M Q) : W p l e R (s.setDrawn d0) m args below meth c H locs cells slots (ZEnd below G true base z0 (qI Q) args s) (F0 m 77 ls [.int t0, .int t1]) := by
  have hx := (A d0).1
  have hb := (A d0).2.1
  unfold wp_X4_check_77 at h
  refine lv_iadd hx hb dX4_check_77 ?_
  exact z_iret A hd0 hZ hr ⟨_, rfl, h⟩ dX4_check_78
set_option maxRecDepth 100000 in
set_option maxHeartbeats 4000000 in
theorem c_X4_check (l : Launch) (G : ZG) (base : Nat) (M : Mem) (x0 : Nat) (x1 : Int64) (Q : Int32 → Mem → Prop) (h : wp_X4_check x0 x1 M Q) : ZMet l yX4_check cX4_check 3 (some .int) 4 103 G true base M [.ref (base + x0), .long x1] (qI Q) := by
  refine z_start (by decide) (Nat.le_of_ble_eq_true rfl) k_co_yX4_check ?_
  intro p e s m below meth c R d0 H locs cells slots ls A hr hn hd0 hZ hl
  have hx := (A d0).1
  have hb := (A d0).2.1
  have hl : lv_has ls 3 [(0, .ref (base + x0)), (1, .long x1)] := hl
  unfold wp_X4_check at h
  obtain ⟨ho_x0, h⟩ := h
  refine lv_aload_n hx hb dX4_check_0 rfl (lv_at hl 0 rfl) ?_
  refine z_callV A hd0 hZ (ci := 4) (nA := 0) (As := []) (by decide) ho_x0 (c_X4_hasIndex l G base M x0 _ h) k_ml_RX4_111 k_im_yX4_hasIndex k_se_yX4_hasIndex k_in_RX4 k_co_yX4_hasIndex (by decide +kernel) ⟨by decide, by decide⟩ rfl rfl (Nat.le_of_ble_eq_true rfl) hl dX4_check_1 (fun v M1 H locs d0 cells slots hq hd0 hZ hm => ?_)
  clear h
  obtain ⟨i2, rfl, h⟩ := hq
  have ho_x0 := isO_le hm ho_x0
  refine lv_if_ne (tgt := 9) hx hb dX4_check_4 (by decide) (fun hc => ?_) (fun hc => ?_)
  · replace h := h.1 hc
    refine lv_lload_n hx hb dX4_check_9 rfl (lv_at hl 1 rfl) ?_
    refine z_callS A hd0 hZ (nA := 1) (As := [.long x1]) (c_X4_isKey l G base M1 x1 _ h) k_ml_RX4_70 k_st_yX4_isKey k_in_RX4 k_co_yX4_isKey (by decide +kernel) ⟨by decide, by decide⟩ rfl rfl (Nat.le_of_ble_eq_true rfl) hl dX4_check_10 (fun v M3 H locs d0 cells slots hq hd0 hZ hm => ?_)
    clear h
    obtain ⟨i4, rfl, h⟩ := hq
    have ho_x0 := isO_le hm ho_x0
    refine lv_if_eq (tgt := 26) hx hb dX4_check_13 (by decide) (fun hc => ?_) (fun hc => ?_)
    · replace h := h.1 hc
      exact (zb_X4_check_26 A hr hd0 hZ (lv_sub hl [] rfl) h)
    · replace h := h.2 hc
      refine lv_aload_n hx hb dX4_check_16 rfl (lv_at hl 0 rfl) ?_
      refine z_get (A d0) hZ (ci := 4) (j := 10) ho_x0.1 ho_x0.2 (by decide) (by decide) k_fl_RX4_53 (v := .ref (base + 13)) (zv_fin (zf4 ho_x0 rfl) rfl) dX4_check_17 ?_
      refine z_getN (A d0) hZ (ci := 3) (j := 1) (isO_c (a := 13) hZ.k0 (by decide) rfl).1 (isO_c (a := 13) hZ.k0 (by decide) rfl).2 (by decide) (by decide) k_fn_RX4_260 (v := .int (mI M3 13 1)) rfl dX4_check_20 ?_
      refine lv_if_ne (tgt := 29) hx hb dX4_check_23 (by decide) (fun hc => ?_) (fun hc => ?_)
      · replace h := h.1 hc
        refine lv_aload_n hx hb dX4_check_29 rfl (lv_at hl 0 rfl) ?_
        refine z_get (A d0) hZ (ci := 4) (j := 11) ho_x0.1 ho_x0.2 (by decide) (by decide) k_fl_RX4_57 (v := .ref (base + 15)) (zv_fin (zf4 ho_x0 rfl) rfl) dX4_check_30 ?_
        refine lv_lload_n hx hb dX4_check_33 rfl (lv_at hl 1 rfl) ?_
        refine lv_aload_n hx hb dX4_check_34 rfl (lv_at hl 0 rfl) ?_
        refine z_get (A d0) hZ (ci := 4) (j := 3) ho_x0.1 ho_x0.2 (by decide) (by decide) k_fl_RX4_27 (v := vr base (mR M3 x0 3)) (zv_dyn (zf4 ho_x0 rfl) rfl) dX4_check_35 ?_
        obtain ⟨r5, er5⟩ : ∃ y : Option Nat, y = mR M3 x0 3 := ⟨_, rfl⟩
        rw [← er5]
        replace h := h r5 er5
        refine lv_aload_n hx hb dX4_check_38 rfl (lv_at hl 0 rfl) ?_
        refine z_get (A d0) hZ (ci := 4) (j := 5) ho_x0.1 ho_x0.2 (by decide) (by decide) k_fl_RX4_34 (v := .ref (base + 12)) (zv_fin (zf4 ho_x0 rfl) rfl) dX4_check_39 ?_
        refine lv_aload_n hx hb dX4_check_42 rfl (lv_at hl 0 rfl) ?_
        refine z_get (A d0) hZ (ci := 4) (j := 6) ho_x0.1 ho_x0.2 (by decide) (by decide) k_fl_RX4_38 (v := .int (mI M3 x0 6)) rfl dX4_check_43 ?_
        refine z_callV A hd0 hZ (ci := 3) (nA := 4) (As := [.long x1, vr base r5, vr base (some 12), .int (mI M3 x0 6)]) (by decide) (isO_c (a := 15) hZ.k0 (by decide) rfl) (c_X3_follow l G base M3 15 x1 r5 (some 12) (mI M3 x0 6) _ h) k_ml_RX4_157 k_im_yX3_follow k_se_yX3_follow k_in_RX3 k_co_yX3_follow (by decide +kernel) ⟨by decide, by decide⟩ rfl rfl (Nat.le_of_ble_eq_true rfl) hl dX4_check_46 (fun v M6 H locs d0 cells slots hq hd0 hZ hm => ?_)
        clear h
        obtain ⟨rfl, h⟩ := hq
        have ho_x0 := isO_le hm ho_x0
        refine lv_iconst (v := (2 : Int32)) hx hb dX4_check_49 (by decide) ?_
        refine lv_aload_n hx hb dX4_check_50 rfl (lv_at hl 0 rfl) ?_
        refine z_get (A d0) hZ (ci := 4) (j := 11) ho_x0.1 ho_x0.2 (by decide) (by decide) k_fl_RX4_57 (v := .ref (base + 15)) (zv_fin (zf4 ho_x0 rfl) rfl) dX4_check_51 ?_
        refine z_getN (A d0) hZ (ci := 3) (j := 3) (isO_c (a := 15) hZ.k0 (by decide) rfl).1 (isO_c (a := 15) hZ.k0 (by decide) rfl).2 (by decide) (by decide) k_fn_RX4_161 (v := .int (mI M6 15 3)) rfl dX4_check_54 ?_
        refine lv_imul hx hb dX4_check_57 ?_
        refine lv_aload_n hx hb dX4_check_58 rfl (lv_at hl 0 rfl) ?_
        refine z_get (A d0) hZ (ci := 4) (j := 11) ho_x0.1 ho_x0.2 (by decide) (by decide) k_fl_RX4_57 (v := .ref (base + 15)) (zv_fin (zf4 ho_x0 rfl) rfl) dX4_check_59 ?_
        refine lv_aload_n hx hb dX4_check_62 rfl (lv_at hl 0 rfl) ?_
        refine z_get (A d0) hZ (ci := 4) (j := 10) ho_x0.1 ho_x0.2 (by decide) (by decide) k_fl_RX4_53 (v := .ref (base + 13)) (zv_fin (zf4 ho_x0 rfl) rfl) dX4_check_63 ?_
        refine z_callV A hd0 hZ (ci := 3) (nA := 1) (As := [vr base (some 13)]) (by decide) (isO_c (a := 15) hZ.k0 (by decide) rfl) (c_X3_tellsTheSame l G base M6 15 (some 13) _ h) k_ml_RX4_265 k_im_yX3_tellsTheSame k_se_yX3_tellsTheSame k_in_RX3 k_co_yX3_tellsTheSame (by decide +kernel) ⟨by decide, by decide⟩ rfl rfl (Nat.le_of_ble_eq_true rfl) hl dX4_check_66 (fun v M7 H locs d0 cells slots hq hd0 hZ hm => ?_)
        clear h
        obtain ⟨i8, rfl, h⟩ := hq
        have ho_x0 := isO_le hm ho_x0
        refine lv_if_eq (tgt := 76) hx hb dX4_check_69 (by decide) (fun hc => ?_) (fun hc => ?_)
        · replace h := h.1 hc
          refine lv_iconst (v := (0 : Int32)) hx hb dX4_check_76 (by decide) ?_
          exact (zb_X4_check_77 A hr hd0 hZ (lv_sub hl [] rfl) h)
        · replace h := h.2 hc
          refine lv_iconst (v := (1 : Int32)) hx hb dX4_check_72 (by decide) ?_
          refine lv_goto (tgt := 77) hx hb dX4_check_73 (by decide) ?_
          exact (zb_X4_check_77 A hr hd0 hZ (lv_sub hl [] rfl) h)
      · replace h := h.2 hc
        exact (zb_X4_check_26 A hr hd0 hZ (lv_sub hl [] rfl) h)
  · replace h := h.2 hc
    refine lv_iconst (v := (-1 : Int32)) hx hb dX4_check_7 (by decide) ?_
    exact z_iret A hd0 hZ hr ⟨_, rfl, h⟩ dX4_check_8
/-! cX4_count -/
set_option maxRecDepth 100000 in
set_option maxHeartbeats 4000000 in
theorem c_X4_count (l : Launch) (G : ZG) (base : Nat) (M : Mem) (x0 : Nat) (x1 : Int32) (Q : Int32 → Mem → Prop) (h : wp_X4_count x0 x1 M Q) : ZMet l yX4_count cX4_count 2 (some .int) 0 0 G true base M [.ref (base + x0), .int x1] (qI Q) := by
  refine z_start (by decide) (Nat.le_of_ble_eq_true rfl) k_co_yX4_count ?_
  intro p e s m below meth c R d0 H locs cells slots ls A hr hn hd0 hZ hl
  have hx := (A d0).1
  have hb := (A d0).2.1
  have hl : lv_has ls 2 [(0, .ref (base + x0)), (1, .int x1)] := hl
  unfold wp_X4_count at h
  obtain ⟨ho_x0, h⟩ := h
  refine lv_iload_n hx hb dX4_count_0 rfl (lv_at hl 1 rfl) ?_
  by_cases hc0 : x1 = 0
  · refine lv_tableIn (off := 35) (tgt := 36) hx hb dX4_count_1 (by rw [hc0]; decide) (by rw [hc0]; decide) (by rw [hc0]; rfl) (by decide) ?_
    replace h := h.1 hc0
    refine lv_aload_n hx hb dX4_count_36 rfl (lv_at hl 0 rfl) ?_
    refine z_get (A d0) hZ (ci := 4) (j := 1) ho_x0.1 ho_x0.2 (by decide) (by decide) k_fl_RX4_15 (v := .int (mI M x0 1)) rfl dX4_count_37 ?_
    exact z_iret A hd0 hZ hr ⟨_, rfl, h⟩ dX4_count_40
  by_cases hc1 : x1 = 1
  · refine lv_tableIn (off := 40) (tgt := 41) hx hb dX4_count_1 (by rw [hc1]; decide) (by rw [hc1]; decide) (by rw [hc1]; rfl) (by decide) ?_
    replace h := h.2.1 hc1
    refine lv_aload_n hx hb dX4_count_41 rfl (lv_at hl 0 rfl) ?_
    refine z_get (A d0) hZ (ci := 4) (j := 2) ho_x0.1 ho_x0.2 (by decide) (by decide) k_fl_RX4_19 (v := .int (mI M x0 2)) rfl dX4_count_42 ?_
    exact z_iret A hd0 hZ hr ⟨_, rfl, h⟩ dX4_count_45
  by_cases hc2 : x1 = 2
  · refine lv_tableIn (off := 45) (tgt := 46) hx hb dX4_count_1 (by rw [hc2]; decide) (by rw [hc2]; decide) (by rw [hc2]; rfl) (by decide) ?_
    replace h := h.2.2.1 hc2
    refine lv_aload_n hx hb dX4_count_46 rfl (lv_at hl 0 rfl) ?_
    refine z_get (A d0) hZ (ci := 4) (j := 7) ho_x0.1 ho_x0.2 (by decide) (by decide) k_fl_RX4_41 (v := .int (mI M x0 7)) rfl dX4_count_47 ?_
    exact z_iret A hd0 hZ hr ⟨_, rfl, h⟩ dX4_count_50
  by_cases hc3 : x1 = 3
  · refine lv_tableIn (off := 50) (tgt := 51) hx hb dX4_count_1 (by rw [hc3]; decide) (by rw [hc3]; decide) (by rw [hc3]; rfl) (by decide) ?_
    replace h := h.2.2.2.1 hc3
    refine lv_aload_n hx hb dX4_count_51 rfl (lv_at hl 0 rfl) ?_
    refine z_get (A d0) hZ (ci := 4) (j := 8) ho_x0.1 ho_x0.2 (by decide) (by decide) k_fl_RX4_44 (v := .int (mI M x0 8)) rfl dX4_count_52 ?_
    exact z_iret A hd0 hZ hr ⟨_, rfl, h⟩ dX4_count_55
  by_cases hc4 : x1 = 4
  · refine lv_tableIn (off := 55) (tgt := 56) hx hb dX4_count_1 (by rw [hc4]; decide) (by rw [hc4]; decide) (by rw [hc4]; rfl) (by decide) ?_
    replace h := h.2.2.2.2.1 hc4
    refine lv_aload_n hx hb dX4_count_56 rfl (lv_at hl 0 rfl) ?_
    refine z_get (A d0) hZ (ci := 4) (j := 9) ho_x0.1 ho_x0.2 (by decide) (by decide) k_fl_RX4_47 (v := .int (mI M x0 9)) rfl dX4_count_57 ?_
    exact z_iret A hd0 hZ hr ⟨_, rfl, h⟩ dX4_count_60
  have hn0 := lv_neT hc0 (show (0 : Int32).toInt = 0 from rfl)
  have hn1 := lv_neT hc1 (show (1 : Int32).toInt = 1 from rfl)
  have hn2 := lv_neT hc2 (show (2 : Int32).toInt = 2 from rfl)
  have hn3 := lv_neT hc3 (show (3 : Int32).toInt = 3 from rfl)
  have hn4 := lv_neT hc4 (show (4 : Int32).toInt = 4 from rfl)
  refine lv_tableOut (tgt := 61) hx hb dX4_count_1 (by omega) (by decide) ?_
  replace h := h.2.2.2.2.2 hc0 hc1 hc2 hc3 hc4
  refine lv_iconst (v := (-1 : Int32)) hx hb dX4_count_61 (by decide) ?_
  exact z_iret A hd0 hZ hr ⟨_, rfl, h⟩ dX4_count_62
/-! cX5_init -/
set_option maxRecDepth 100000 in
set_option maxHeartbeats 4000000 in
theorem c_X5_init (l : Launch) (G : ZG) (base : Nat) (M : Mem) (x0 : Nat) (Q : Mem → Prop) (h : wp_X5_init x0 M Q) : ZMet l yX5_init cX5_init 1 none 1 12 G false base M [.ref (base + x0)] (qV Q) := by
  refine z_start (by decide) (Nat.le_of_ble_eq_true rfl) k_co_yX5_init ?_
  intro p e s m below meth c R d0 H locs cells slots ls A hr hn hd0 hZ hl
  have hx := (A d0).1
  have hb := (A d0).2.1
  have hl : lv_has ls 1 [(0, .ref (base + x0))] := hl
  have hn : meth.name = "<init>" := hn
  unfold wp_X5_init at h
  obtain ⟨ho_x0, h⟩ := h
  refine lv_aload_n hx hb dX5_init_0 rfl (lv_at hl 0 rfl) ?_
  refine z_objInit (A d0) k_ml_RX5_1 hl dX5_init_1 (by decide) (Nat.le_of_ble_eq_true rfl) ?_
  refine lv_aload_n hx hb dX5_init_4 rfl (lv_at hl 0 rfl) ?_
  refine lv_sipush (v := (300 : Int32)) hx hb dX5_init_5 (by decide) ?_
  obtain ⟨hn0, hlt, hs, hby, h⟩ := h
  obtain ⟨M2, eM2⟩ : ∃ y : Mem, y = nw M := ⟨_, rfl⟩
  obtain ⟨a1, ea1⟩ : ∃ y : Nat, y = mz M := ⟨_, rfl⟩
  have ho_a1 : isA M2 a1 .long := ⟨⟨_, by rw [ea1]; exact hs⟩, by rw [eM2, ea1]; exact Nat.lt_succ_self _⟩
  refine z_newa (t := .long) (A d0) hZ ea1 rfl 1 rfl (Or.inr (Or.inl rfl)) hs hlt k_ac_long (fun _ q => by cases q) hn0 rfl (Nat.le_trans (Nat.mul_le_mul_left _ (by decide)) hby) dX5_init_8 (fun H cells slots hZ => ?_)
  rw [← eM2] at hZ
  have hm : mz M ≤ mz M2 := by rw [eM2]; exact Nat.le_succ _
  have ho_x0 := isO_le hm ho_x0
  replace h := h a1 M2 ea1 eM2
  obtain ⟨M3, eM3⟩ : ∃ y : Mem, y = sR M2 x0 0 (some a1) := ⟨_, rfl⟩
  refine z_putF (A d0) hZ (ci := 5) (j := 0) (M' := M3) ho_x0.1 ho_x0.2 (by decide) (by decide) k_fl_RX5_7 rfl rfl hn (by rw [eM3]; exact zUpd_A (fun q => (by cases q))) rfl rfl dX5_init_10 (fun H locs hZ => ?_)
  have hm : mz M3 = mz M2 := by rw [eM3] <;> rfl
  have ho_x0 := isO_le (Nat.le_of_eq hm.symm) ho_x0
  replace h := h M3 eM3
  refine lv_aload_n hx hb dX5_init_13 rfl (lv_at hl 0 rfl) ?_
  refine lv_iconst (v := (0 : Int32)) hx hb dX5_init_14 (by decide) ?_
  obtain ⟨M4, eM4⟩ : ∃ y : Mem, y = sI M3 x0 1 (0 : Int32) := ⟨_, rfl⟩
  refine z_put (A d0) hZ (ci := 5) (j := 1) (M' := M4) ho_x0.1 ho_x0.2 (by decide) (by decide) k_fl_RX5_13 rfl (by rw [eM4]; exact zUpd_I) rfl rfl dX5_init_15 (fun H locs hZ => ?_)
  have hm : mz M4 = mz M3 := by rw [eM4] <;> rfl
  have ho_x0 := isO_le (Nat.le_of_eq hm.symm) ho_x0
  replace h := h M4 eM4
  refine lv_aload_n hx hb dX5_init_18 rfl (lv_at hl 0 rfl) ?_
  refine lv_bipush (v := (8 : Int32)) hx hb dX5_init_19 (by decide) ?_
  obtain ⟨M5, eM5⟩ : ∃ y : Mem, y = sI M4 x0 2 (8 : Int32) := ⟨_, rfl⟩
  refine z_put (A d0) hZ (ci := 5) (j := 2) (M' := M5) ho_x0.1 ho_x0.2 (by decide) (by decide) k_fl_RX5_17 rfl (by rw [eM5]; exact zUpd_I) rfl rfl dX5_init_21 (fun H locs hZ => ?_)
  have hm : mz M5 = mz M4 := by rw [eM5] <;> rfl
  have ho_x0 := isO_le (Nat.le_of_eq hm.symm) ho_x0
  replace h := h M5 eM5
  refine lv_aload_n hx hb dX5_init_24 rfl (lv_at hl 0 rfl) ?_
  refine lv_sipush (v := (5000 : Int32)) hx hb dX5_init_25 (by decide) ?_
  obtain ⟨hn0, hlt, hs, hby, h⟩ := h
  obtain ⟨M7, eM7⟩ : ∃ y : Mem, y = nw M5 := ⟨_, rfl⟩
  obtain ⟨a6, ea6⟩ : ∃ y : Nat, y = mz M5 := ⟨_, rfl⟩
  have ho_a6 : isA M7 a6 .long := ⟨⟨_, by rw [ea6]; exact hs⟩, by rw [eM7, ea6]; exact Nat.lt_succ_self _⟩
  refine z_newa (t := .long) (A d0) hZ ea6 rfl 1 rfl (Or.inr (Or.inl rfl)) hs hlt k_ac_long (fun _ q => by cases q) hn0 rfl (Nat.le_trans (Nat.mul_le_mul_left _ (by decide)) hby) dX5_init_28 (fun H cells slots hZ => ?_)
  rw [← eM7] at hZ
  have hm : mz M5 ≤ mz M7 := by rw [eM7]; exact Nat.le_succ _
  have ho_x0 := isO_le hm ho_x0
  replace h := h a6 M7 ea6 eM7
  obtain ⟨M8, eM8⟩ : ∃ y : Mem, y = sR M7 x0 3 (some a6) := ⟨_, rfl⟩
  refine z_putF (A d0) hZ (ci := 5) (j := 3) (M' := M8) ho_x0.1 ho_x0.2 (by decide) (by decide) k_fl_RX5_20 rfl rfl hn (by rw [eM8]; exact zUpd_A (fun q => (by cases q))) rfl rfl dX5_init_30 (fun H locs hZ => ?_)
  have hm : mz M8 = mz M7 := by rw [eM8] <;> rfl
  have ho_x0 := isO_le (Nat.le_of_eq hm.symm) ho_x0
  replace h := h M8 eM8
  refine lv_aload_n hx hb dX5_init_33 rfl (lv_at hl 0 rfl) ?_
  refine lv_lconst (v := (0 : Int64)) hx hb dX5_init_34 (by decide) ?_
  obtain ⟨M9, eM9⟩ : ∃ y : Mem, y = sL M8 x0 4 (0 : Int64) := ⟨_, rfl⟩
  refine z_put (A d0) hZ (ci := 5) (j := 4) (M' := M9) ho_x0.1 ho_x0.2 (by decide) (by decide) k_fl_RX5_23 rfl (by rw [eM9]; exact zUpd_L) rfl rfl dX5_init_35 (fun H locs hZ => ?_)
  have hm : mz M9 = mz M8 := by rw [eM9] <;> rfl
  have ho_x0 := isO_le (Nat.le_of_eq hm.symm) ho_x0
  replace h := h M9 eM9
  refine lv_aload_n hx hb dX5_init_38 rfl (lv_at hl 0 rfl) ?_
  refine lv_lconst (v := (0 : Int64)) hx hb dX5_init_39 (by decide) ?_
  obtain ⟨M10, eM10⟩ : ∃ y : Mem, y = sL M9 x0 5 (0 : Int64) := ⟨_, rfl⟩
  refine z_put (A d0) hZ (ci := 5) (j := 5) (M' := M10) ho_x0.1 ho_x0.2 (by decide) (by decide) k_fl_RX5_27 rfl (by rw [eM10]; exact zUpd_L) rfl rfl dX5_init_40 (fun H locs hZ => ?_)
  have hm : mz M10 = mz M9 := by rw [eM10] <;> rfl
  have ho_x0 := isO_le (Nat.le_of_eq hm.symm) ho_x0
  replace h := h M10 eM10
  refine lv_aload_n hx hb dX5_init_43 rfl (lv_at hl 0 rfl) ?_
  refine lv_lconst (v := (0 : Int64)) hx hb dX5_init_44 (by decide) ?_
  obtain ⟨M11, eM11⟩ : ∃ y : Mem, y = sL M10 x0 6 (0 : Int64) := ⟨_, rfl⟩
  refine z_put (A d0) hZ (ci := 5) (j := 6) (M' := M11) ho_x0.1 ho_x0.2 (by decide) (by decide) k_fl_RX5_30 rfl (by rw [eM11]; exact zUpd_L) rfl rfl dX5_init_45 (fun H locs hZ => ?_)
  have hm : mz M11 = mz M10 := by rw [eM11] <;> rfl
  have ho_x0 := isO_le (Nat.le_of_eq hm.symm) ho_x0
  replace h := h M11 eM11
  refine lv_aload_n hx hb dX5_init_48 rfl (lv_at hl 0 rfl) ?_
  refine lv_lconst (v := (0 : Int64)) hx hb dX5_init_49 (by decide) ?_
  obtain ⟨M12, eM12⟩ : ∃ y : Mem, y = sL M11 x0 7 (0 : Int64) := ⟨_, rfl⟩
  refine z_put (A d0) hZ (ci := 5) (j := 7) (M' := M12) ho_x0.1 ho_x0.2 (by decide) (by decide) k_fl_RX5_33 rfl (by rw [eM12]; exact zUpd_L) rfl rfl dX5_init_50 (fun H locs hZ => ?_)
  have hm : mz M12 = mz M11 := by rw [eM12] <;> rfl
  have ho_x0 := isO_le (Nat.le_of_eq hm.symm) ho_x0
  replace h := h M12 eM12
  refine lv_aload_n hx hb dX5_init_53 rfl (lv_at hl 0 rfl) ?_
  refine lv_iconst (v := (0 : Int32)) hx hb dX5_init_54 (by decide) ?_
  obtain ⟨M13, eM13⟩ : ∃ y : Mem, y = sI M12 x0 8 (0 : Int32) := ⟨_, rfl⟩
  refine z_put (A d0) hZ (ci := 5) (j := 8) (M' := M13) ho_x0.1 ho_x0.2 (by decide) (by decide) k_fl_RX5_36 rfl (by rw [eM13]; exact zUpd_I) rfl rfl dX5_init_55 (fun H locs hZ => ?_)
  have hm : mz M13 = mz M12 := by rw [eM13] <;> rfl
  have ho_x0 := isO_le (Nat.le_of_eq hm.symm) ho_x0
  replace h := h M13 eM13
  refine lv_aload_n hx hb dX5_init_58 rfl (lv_at hl 0 rfl) ?_
  refine lv_iconst (v := (0 : Int32)) hx hb dX5_init_59 (by decide) ?_
  obtain ⟨M14, eM14⟩ : ∃ y : Mem, y = sI M13 x0 9 (0 : Int32) := ⟨_, rfl⟩
  refine z_put (A d0) hZ (ci := 5) (j := 9) (M' := M14) ho_x0.1 ho_x0.2 (by decide) (by decide) k_fl_RX5_39 rfl (by rw [eM14]; exact zUpd_I) rfl rfl dX5_init_60 (fun H locs hZ => ?_)
  have hm : mz M14 = mz M13 := by rw [eM14] <;> rfl
  have ho_x0 := isO_le (Nat.le_of_eq hm.symm) ho_x0
  replace h := h M14 eM14
  refine lv_aload_n hx hb dX5_init_63 rfl (lv_at hl 0 rfl) ?_
  refine lv_bipush (v := (20 : Int32)) hx hb dX5_init_64 (by decide) ?_
  obtain ⟨hn0, hlt, hs, hby, h⟩ := h
  obtain ⟨M16, eM16⟩ : ∃ y : Mem, y = nw M14 := ⟨_, rfl⟩
  obtain ⟨a15, ea15⟩ : ∃ y : Nat, y = mz M14 := ⟨_, rfl⟩
  have ho_a15 : isA M16 a15 .int := ⟨⟨_, by rw [ea15]; exact hs⟩, by rw [eM16, ea15]; exact Nat.lt_succ_self _⟩
  refine z_newa (t := .int) (A d0) hZ ea15 rfl 0 rfl (Or.inl rfl) hs hlt k_ac_int (fun _ q => by cases q) hn0 rfl (Nat.le_trans (Nat.mul_le_mul_left _ (by decide)) hby) dX5_init_66 (fun H cells slots hZ => ?_)
  rw [← eM16] at hZ
  have hm : mz M14 ≤ mz M16 := by rw [eM16]; exact Nat.le_succ _
  have ho_x0 := isO_le hm ho_x0
  replace h := h a15 M16 ea15 eM16
  obtain ⟨M17, eM17⟩ : ∃ y : Mem, y = sR M16 x0 10 (some a15) := ⟨_, rfl⟩
  refine z_putF (A d0) hZ (ci := 5) (j := 10) (M' := M17) ho_x0.1 ho_x0.2 (by decide) (by decide) k_fl_RX5_42 rfl rfl hn (by rw [eM17]; exact zUpd_A (fun q => (by cases q))) rfl rfl dX5_init_68 (fun H locs hZ => ?_)
  have hm : mz M17 = mz M16 := by rw [eM17] <;> rfl
  have ho_x0 := isO_le (Nat.le_of_eq hm.symm) ho_x0
  replace h := h M17 eM17
  refine lv_aload_n hx hb dX5_init_71 rfl (lv_at hl 0 rfl) ?_
  refine lv_bipush (v := (20 : Int32)) hx hb dX5_init_72 (by decide) ?_
  obtain ⟨hn0, hlt, hs, hby, h⟩ := h
  obtain ⟨M19, eM19⟩ : ∃ y : Mem, y = nw M17 := ⟨_, rfl⟩
  obtain ⟨a18, ea18⟩ : ∃ y : Nat, y = mz M17 := ⟨_, rfl⟩
  have ho_a18 : isA M19 a18 .int := ⟨⟨_, by rw [ea18]; exact hs⟩, by rw [eM19, ea18]; exact Nat.lt_succ_self _⟩
  refine z_newa (t := .int) (A d0) hZ ea18 rfl 0 rfl (Or.inl rfl) hs hlt k_ac_int (fun _ q => by cases q) hn0 rfl (Nat.le_trans (Nat.mul_le_mul_left _ (by decide)) hby) dX5_init_74 (fun H cells slots hZ => ?_)
  rw [← eM19] at hZ
  have hm : mz M17 ≤ mz M19 := by rw [eM19]; exact Nat.le_succ _
  have ho_x0 := isO_le hm ho_x0
  replace h := h a18 M19 ea18 eM19
  obtain ⟨M20, eM20⟩ : ∃ y : Mem, y = sR M19 x0 11 (some a18) := ⟨_, rfl⟩
  refine z_putF (A d0) hZ (ci := 5) (j := 11) (M' := M20) ho_x0.1 ho_x0.2 (by decide) (by decide) k_fl_RX5_46 rfl rfl hn (by rw [eM20]; exact zUpd_A (fun q => (by cases q))) rfl rfl dX5_init_76 (fun H locs hZ => ?_)
  have hm : mz M20 = mz M19 := by rw [eM20] <;> rfl
  have ho_x0 := isO_le (Nat.le_of_eq hm.symm) ho_x0
  replace h := h M20 eM20
  refine lv_aload_n hx hb dX5_init_79 rfl (lv_at hl 0 rfl) ?_
  refine lv_sipush (v := (10000 : Int32)) hx hb dX5_init_80 (by decide) ?_
  obtain ⟨hn0, hlt, hs, hby, h⟩ := h
  obtain ⟨M22, eM22⟩ : ∃ y : Mem, y = nw M20 := ⟨_, rfl⟩
  obtain ⟨a21, ea21⟩ : ∃ y : Nat, y = mz M20 := ⟨_, rfl⟩
  have ho_a21 : isA M22 a21 .int := ⟨⟨_, by rw [ea21]; exact hs⟩, by rw [eM22, ea21]; exact Nat.lt_succ_self _⟩
  refine z_newa (t := .int) (A d0) hZ ea21 rfl 0 rfl (Or.inl rfl) hs hlt k_ac_int (fun _ q => by cases q) hn0 rfl (Nat.le_trans (Nat.mul_le_mul_left _ (by decide)) hby) dX5_init_83 (fun H cells slots hZ => ?_)
  rw [← eM22] at hZ
  have hm : mz M20 ≤ mz M22 := by rw [eM22]; exact Nat.le_succ _
  have ho_x0 := isO_le hm ho_x0
  replace h := h a21 M22 ea21 eM22
  obtain ⟨M23, eM23⟩ : ∃ y : Mem, y = sR M22 x0 12 (some a21) := ⟨_, rfl⟩
  refine z_putF (A d0) hZ (ci := 5) (j := 12) (M' := M23) ho_x0.1 ho_x0.2 (by decide) (by decide) k_fl_RX5_49 rfl rfl hn (by rw [eM23]; exact zUpd_A (fun q => (by cases q))) rfl rfl dX5_init_85 (fun H locs hZ => ?_)
  have hm : mz M23 = mz M22 := by rw [eM23] <;> rfl
  have ho_x0 := isO_le (Nat.le_of_eq hm.symm) ho_x0
  replace h := h M23 eM23
  refine lv_aload_n hx hb dX5_init_88 rfl (lv_at hl 0 rfl) ?_
  refine lv_sipush (v := (10000 : Int32)) hx hb dX5_init_89 (by decide) ?_
  obtain ⟨hn0, hlt, hs, hby, h⟩ := h
  obtain ⟨M25, eM25⟩ : ∃ y : Mem, y = nw M23 := ⟨_, rfl⟩
  obtain ⟨a24, ea24⟩ : ∃ y : Nat, y = mz M23 := ⟨_, rfl⟩
  have ho_a24 : isA M25 a24 .int := ⟨⟨_, by rw [ea24]; exact hs⟩, by rw [eM25, ea24]; exact Nat.lt_succ_self _⟩
  refine z_newa (t := .int) (A d0) hZ ea24 rfl 0 rfl (Or.inl rfl) hs hlt k_ac_int (fun _ q => by cases q) hn0 rfl (Nat.le_trans (Nat.mul_le_mul_left _ (by decide)) hby) dX5_init_92 (fun H cells slots hZ => ?_)
  rw [← eM25] at hZ
  have hm : mz M23 ≤ mz M25 := by rw [eM25]; exact Nat.le_succ _
  have ho_x0 := isO_le hm ho_x0
  replace h := h a24 M25 ea24 eM25
  obtain ⟨M26, eM26⟩ : ∃ y : Mem, y = sR M25 x0 13 (some a24) := ⟨_, rfl⟩
  refine z_putF (A d0) hZ (ci := 5) (j := 13) (M' := M26) ho_x0.1 ho_x0.2 (by decide) (by decide) k_fl_RX5_52 rfl rfl hn (by rw [eM26]; exact zUpd_A (fun q => (by cases q))) rfl rfl dX5_init_94 (fun H locs hZ => ?_)
  have hm : mz M26 = mz M25 := by rw [eM26] <;> rfl
  have ho_x0 := isO_le (Nat.le_of_eq hm.symm) ho_x0
  replace h := h M26 eM26
  refine lv_aload_n hx hb dX5_init_97 rfl (lv_at hl 0 rfl) ?_
  refine lv_sipush (v := (10000 : Int32)) hx hb dX5_init_98 (by decide) ?_
  obtain ⟨hn0, hlt, hs, hby, h⟩ := h
  obtain ⟨M28, eM28⟩ : ∃ y : Mem, y = nw M26 := ⟨_, rfl⟩
  obtain ⟨a27, ea27⟩ : ∃ y : Nat, y = mz M26 := ⟨_, rfl⟩
  have ho_a27 : isA M28 a27 .int := ⟨⟨_, by rw [ea27]; exact hs⟩, by rw [eM28, ea27]; exact Nat.lt_succ_self _⟩
  refine z_newa (t := .int) (A d0) hZ ea27 rfl 0 rfl (Or.inl rfl) hs hlt k_ac_int (fun _ q => by cases q) hn0 rfl (Nat.le_trans (Nat.mul_le_mul_left _ (by decide)) hby) dX5_init_101 (fun H cells slots hZ => ?_)
  rw [← eM28] at hZ
  have hm : mz M26 ≤ mz M28 := by rw [eM28]; exact Nat.le_succ _
  have ho_x0 := isO_le hm ho_x0
  replace h := h a27 M28 ea27 eM28
  obtain ⟨M29, eM29⟩ : ∃ y : Mem, y = sR M28 x0 14 (some a27) := ⟨_, rfl⟩
  refine z_putF (A d0) hZ (ci := 5) (j := 14) (M' := M29) ho_x0.1 ho_x0.2 (by decide) (by decide) k_fl_RX5_55 rfl rfl hn (by rw [eM29]; exact zUpd_A (fun q => (by cases q))) rfl rfl dX5_init_103 (fun H locs hZ => ?_)
  have hm : mz M29 = mz M28 := by rw [eM29] <;> rfl
  have ho_x0 := isO_le (Nat.le_of_eq hm.symm) ho_x0
  replace h := h M29 eM29
  refine lv_aload_n hx hb dX5_init_106 rfl (lv_at hl 0 rfl) ?_
  refine lv_sipush (v := (10000 : Int32)) hx hb dX5_init_107 (by decide) ?_
  obtain ⟨hn0, hlt, hs, hby, h⟩ := h
  obtain ⟨M31, eM31⟩ : ∃ y : Mem, y = nw M29 := ⟨_, rfl⟩
  obtain ⟨a30, ea30⟩ : ∃ y : Nat, y = mz M29 := ⟨_, rfl⟩
  have ho_a30 : isA M31 a30 .int := ⟨⟨_, by rw [ea30]; exact hs⟩, by rw [eM31, ea30]; exact Nat.lt_succ_self _⟩
  refine z_newa (t := .int) (A d0) hZ ea30 rfl 0 rfl (Or.inl rfl) hs hlt k_ac_int (fun _ q => by cases q) hn0 rfl (Nat.le_trans (Nat.mul_le_mul_left _ (by decide)) hby) dX5_init_110 (fun H cells slots hZ => ?_)
  rw [← eM31] at hZ
  have hm : mz M29 ≤ mz M31 := by rw [eM31]; exact Nat.le_succ _
  have ho_x0 := isO_le hm ho_x0
  replace h := h a30 M31 ea30 eM31
  obtain ⟨M32, eM32⟩ : ∃ y : Mem, y = sR M31 x0 15 (some a30) := ⟨_, rfl⟩
  refine z_putF (A d0) hZ (ci := 5) (j := 15) (M' := M32) ho_x0.1 ho_x0.2 (by decide) (by decide) k_fl_RX5_58 rfl rfl hn (by rw [eM32]; exact zUpd_A (fun q => (by cases q))) rfl rfl dX5_init_112 (fun H locs hZ => ?_)
  have hm : mz M32 = mz M31 := by rw [eM32] <;> rfl
  have ho_x0 := isO_le (Nat.le_of_eq hm.symm) ho_x0
  replace h := h M32 eM32
  refine lv_aload_n hx hb dX5_init_115 rfl (lv_at hl 0 rfl) ?_
  refine lv_sipush (v := (10000 : Int32)) hx hb dX5_init_116 (by decide) ?_
  obtain ⟨hn0, hlt, hs, hby, h⟩ := h
  obtain ⟨M34, eM34⟩ : ∃ y : Mem, y = nw M32 := ⟨_, rfl⟩
  obtain ⟨a33, ea33⟩ : ∃ y : Nat, y = mz M32 := ⟨_, rfl⟩
  have ho_a33 : isA M34 a33 .int := ⟨⟨_, by rw [ea33]; exact hs⟩, by rw [eM34, ea33]; exact Nat.lt_succ_self _⟩
  refine z_newa (t := .int) (A d0) hZ ea33 rfl 0 rfl (Or.inl rfl) hs hlt k_ac_int (fun _ q => by cases q) hn0 rfl (Nat.le_trans (Nat.mul_le_mul_left _ (by decide)) hby) dX5_init_119 (fun H cells slots hZ => ?_)
  rw [← eM34] at hZ
  have hm : mz M32 ≤ mz M34 := by rw [eM34]; exact Nat.le_succ _
  have ho_x0 := isO_le hm ho_x0
  replace h := h a33 M34 ea33 eM34
  obtain ⟨M35, eM35⟩ : ∃ y : Mem, y = sR M34 x0 16 (some a33) := ⟨_, rfl⟩
  refine z_putF (A d0) hZ (ci := 5) (j := 16) (M' := M35) ho_x0.1 ho_x0.2 (by decide) (by decide) k_fl_RX5_61 rfl rfl hn (by rw [eM35]; exact zUpd_A (fun q => (by cases q))) rfl rfl dX5_init_121 (fun H locs hZ => ?_)
  have hm : mz M35 = mz M34 := by rw [eM35] <;> rfl
  have ho_x0 := isO_le (Nat.le_of_eq hm.symm) ho_x0
  replace h := h M35 eM35
  refine lv_aload_n hx hb dX5_init_124 rfl (lv_at hl 0 rfl) ?_
  refine lv_sipush (v := (10000 : Int32)) hx hb dX5_init_125 (by decide) ?_
  obtain ⟨hn0, hlt, hs, hby, h⟩ := h
  obtain ⟨M37, eM37⟩ : ∃ y : Mem, y = nw M35 := ⟨_, rfl⟩
  obtain ⟨a36, ea36⟩ : ∃ y : Nat, y = mz M35 := ⟨_, rfl⟩
  have ho_a36 : isA M37 a36 .long := ⟨⟨_, by rw [ea36]; exact hs⟩, by rw [eM37, ea36]; exact Nat.lt_succ_self _⟩
  refine z_newa (t := .long) (A d0) hZ ea36 rfl 1 rfl (Or.inr (Or.inl rfl)) hs hlt k_ac_long (fun _ q => by cases q) hn0 rfl (Nat.le_trans (Nat.mul_le_mul_left _ (by decide)) hby) dX5_init_128 (fun H cells slots hZ => ?_)
  rw [← eM37] at hZ
  have hm : mz M35 ≤ mz M37 := by rw [eM37]; exact Nat.le_succ _
  have ho_x0 := isO_le hm ho_x0
  replace h := h a36 M37 ea36 eM37
  obtain ⟨M38, eM38⟩ : ∃ y : Mem, y = sR M37 x0 17 (some a36) := ⟨_, rfl⟩
  refine z_putF (A d0) hZ (ci := 5) (j := 17) (M' := M38) ho_x0.1 ho_x0.2 (by decide) (by decide) k_fl_RX5_64 rfl rfl hn (by rw [eM38]; exact zUpd_A (fun q => (by cases q))) rfl rfl dX5_init_130 (fun H locs hZ => ?_)
  have hm : mz M38 = mz M37 := by rw [eM38] <;> rfl
  have ho_x0 := isO_le (Nat.le_of_eq hm.symm) ho_x0
  replace h := h M38 eM38
  refine lv_aload_n hx hb dX5_init_133 rfl (lv_at hl 0 rfl) ?_
  refine lv_sipush (v := (10000 : Int32)) hx hb dX5_init_134 (by decide) ?_
  obtain ⟨hn0, hlt, hs, hby, h⟩ := h
  obtain ⟨M40, eM40⟩ : ∃ y : Mem, y = nw M38 := ⟨_, rfl⟩
  obtain ⟨a39, ea39⟩ : ∃ y : Nat, y = mz M38 := ⟨_, rfl⟩
  have ho_a39 : isA M40 a39 .long := ⟨⟨_, by rw [ea39]; exact hs⟩, by rw [eM40, ea39]; exact Nat.lt_succ_self _⟩
  refine z_newa (t := .long) (A d0) hZ ea39 rfl 1 rfl (Or.inr (Or.inl rfl)) hs hlt k_ac_long (fun _ q => by cases q) hn0 rfl (Nat.le_trans (Nat.mul_le_mul_left _ (by decide)) hby) dX5_init_137 (fun H cells slots hZ => ?_)
  rw [← eM40] at hZ
  have hm : mz M38 ≤ mz M40 := by rw [eM40]; exact Nat.le_succ _
  have ho_x0 := isO_le hm ho_x0
  replace h := h a39 M40 ea39 eM40
  obtain ⟨M41, eM41⟩ : ∃ y : Mem, y = sR M40 x0 18 (some a39) := ⟨_, rfl⟩
  refine z_putF (A d0) hZ (ci := 5) (j := 18) (M' := M41) ho_x0.1 ho_x0.2 (by decide) (by decide) k_fl_RX5_67 rfl rfl hn (by rw [eM41]; exact zUpd_A (fun q => (by cases q))) rfl rfl dX5_init_139 (fun H locs hZ => ?_)
  have hm : mz M41 = mz M40 := by rw [eM41] <;> rfl
  have ho_x0 := isO_le (Nat.le_of_eq hm.symm) ho_x0
  replace h := h M41 eM41
  refine lv_aload_n hx hb dX5_init_142 rfl (lv_at hl 0 rfl) ?_
  refine lv_sipush (v := (10000 : Int32)) hx hb dX5_init_143 (by decide) ?_
  obtain ⟨hn0, hlt, hs, hby, h⟩ := h
  obtain ⟨M43, eM43⟩ : ∃ y : Mem, y = nw M41 := ⟨_, rfl⟩
  obtain ⟨a42, ea42⟩ : ∃ y : Nat, y = mz M41 := ⟨_, rfl⟩
  have ho_a42 : isA M43 a42 .long := ⟨⟨_, by rw [ea42]; exact hs⟩, by rw [eM43, ea42]; exact Nat.lt_succ_self _⟩
  refine z_newa (t := .long) (A d0) hZ ea42 rfl 1 rfl (Or.inr (Or.inl rfl)) hs hlt k_ac_long (fun _ q => by cases q) hn0 rfl (Nat.le_trans (Nat.mul_le_mul_left _ (by decide)) hby) dX5_init_146 (fun H cells slots hZ => ?_)
  rw [← eM43] at hZ
  have hm : mz M41 ≤ mz M43 := by rw [eM43]; exact Nat.le_succ _
  have ho_x0 := isO_le hm ho_x0
  replace h := h a42 M43 ea42 eM43
  obtain ⟨M44, eM44⟩ : ∃ y : Mem, y = sR M43 x0 19 (some a42) := ⟨_, rfl⟩
  refine z_putF (A d0) hZ (ci := 5) (j := 19) (M' := M44) ho_x0.1 ho_x0.2 (by decide) (by decide) k_fl_RX5_70 rfl rfl hn (by rw [eM44]; exact zUpd_A (fun q => (by cases q))) rfl rfl dX5_init_148 (fun H locs hZ => ?_)
  have hm : mz M44 = mz M43 := by rw [eM44] <;> rfl
  have ho_x0 := isO_le (Nat.le_of_eq hm.symm) ho_x0
  replace h := h M44 eM44
  refine lv_aload_n hx hb dX5_init_151 rfl (lv_at hl 0 rfl) ?_
  refine lv_sipush (v := (12000 : Int32)) hx hb dX5_init_152 (by decide) ?_
  obtain ⟨hn0, hlt, hs, hby, h⟩ := h
  obtain ⟨M46, eM46⟩ : ∃ y : Mem, y = nw M44 := ⟨_, rfl⟩
  obtain ⟨a45, ea45⟩ : ∃ y : Nat, y = mz M44 := ⟨_, rfl⟩
  have ho_a45 : isA M46 a45 .long := ⟨⟨_, by rw [ea45]; exact hs⟩, by rw [eM46, ea45]; exact Nat.lt_succ_self _⟩
  refine z_newa (t := .long) (A d0) hZ ea45 rfl 1 rfl (Or.inr (Or.inl rfl)) hs hlt k_ac_long (fun _ q => by cases q) hn0 rfl (Nat.le_trans (Nat.mul_le_mul_left _ (by decide)) hby) dX5_init_155 (fun H cells slots hZ => ?_)
  rw [← eM46] at hZ
  have hm : mz M44 ≤ mz M46 := by rw [eM46]; exact Nat.le_succ _
  have ho_x0 := isO_le hm ho_x0
  replace h := h a45 M46 ea45 eM46
  obtain ⟨M47, eM47⟩ : ∃ y : Mem, y = sR M46 x0 20 (some a45) := ⟨_, rfl⟩
  refine z_putF (A d0) hZ (ci := 5) (j := 20) (M' := M47) ho_x0.1 ho_x0.2 (by decide) (by decide) k_fl_RX5_73 rfl rfl hn (by rw [eM47]; exact zUpd_A (fun q => (by cases q))) rfl rfl dX5_init_157 (fun H locs hZ => ?_)
  have hm : mz M47 = mz M46 := by rw [eM47] <;> rfl
  have ho_x0 := isO_le (Nat.le_of_eq hm.symm) ho_x0
  replace h := h M47 eM47
  refine lv_aload_n hx hb dX5_init_160 rfl (lv_at hl 0 rfl) ?_
  refine lv_ldc (v := (160000 : Int32)) hx hb (A d0).2.2.2.1 ((A d0).2.2.2.2.1 _ k_ic_RX5_76) dX5_init_161 ?_
  obtain ⟨hn0, hlt, hs, hby, h⟩ := h
  obtain ⟨M49, eM49⟩ : ∃ y : Mem, y = nw M47 := ⟨_, rfl⟩
  obtain ⟨a48, ea48⟩ : ∃ y : Nat, y = mz M47 := ⟨_, rfl⟩
  have ho_a48 : isA M49 a48 .long := ⟨⟨_, by rw [ea48]; exact hs⟩, by rw [eM49, ea48]; exact Nat.lt_succ_self _⟩
  refine z_newa (t := .long) (A d0) hZ ea48 rfl 1 rfl (Or.inr (Or.inl rfl)) hs hlt k_ac_long (fun _ q => by cases q) hn0 rfl (Nat.le_trans (Nat.mul_le_mul_left _ (by decide)) hby) dX5_init_163 (fun H cells slots hZ => ?_)
  rw [← eM49] at hZ
  have hm : mz M47 ≤ mz M49 := by rw [eM49]; exact Nat.le_succ _
  have ho_x0 := isO_le hm ho_x0
  replace h := h a48 M49 ea48 eM49
  obtain ⟨M50, eM50⟩ : ∃ y : Mem, y = sR M49 x0 21 (some a48) := ⟨_, rfl⟩
  refine z_putF (A d0) hZ (ci := 5) (j := 21) (M' := M50) ho_x0.1 ho_x0.2 (by decide) (by decide) k_fl_RX5_77 rfl rfl hn (by rw [eM50]; exact zUpd_A (fun q => (by cases q))) rfl rfl dX5_init_165 (fun H locs hZ => ?_)
  have hm : mz M50 = mz M49 := by rw [eM50] <;> rfl
  have ho_x0 := isO_le (Nat.le_of_eq hm.symm) ho_x0
  replace h := h M50 eM50
  refine lv_aload_n hx hb dX5_init_168 rfl (lv_at hl 0 rfl) ?_
  refine lv_sipush (v := (12000 : Int32)) hx hb dX5_init_169 (by decide) ?_
  obtain ⟨hn0, hlt, hs, hby, h⟩ := h
  obtain ⟨M52, eM52⟩ : ∃ y : Mem, y = nw M50 := ⟨_, rfl⟩
  obtain ⟨a51, ea51⟩ : ∃ y : Nat, y = mz M50 := ⟨_, rfl⟩
  have ho_a51 : isA M52 a51 .boolean := ⟨⟨_, by rw [ea51]; exact hs⟩, by rw [eM52, ea51]; exact Nat.lt_succ_self _⟩
  refine z_newa (t := .boolean) (A d0) hZ ea51 rfl 2 rfl (Or.inr (Or.inr rfl)) hs hlt k_ac_boolean (fun _ q => by cases q) hn0 rfl (Nat.le_trans (Nat.mul_le_mul_left _ (by decide)) hby) dX5_init_172 (fun H cells slots hZ => ?_)
  rw [← eM52] at hZ
  have hm : mz M50 ≤ mz M52 := by rw [eM52]; exact Nat.le_succ _
  have ho_x0 := isO_le hm ho_x0
  replace h := h a51 M52 ea51 eM52
  obtain ⟨M53, eM53⟩ : ∃ y : Mem, y = sR M52 x0 22 (some a51) := ⟨_, rfl⟩
  refine z_putF (A d0) hZ (ci := 5) (j := 22) (M' := M53) ho_x0.1 ho_x0.2 (by decide) (by decide) k_fl_RX5_80 rfl rfl hn (by rw [eM53]; exact zUpd_A (fun q => (by cases q))) rfl rfl dX5_init_174 (fun H locs hZ => ?_)
  have hm : mz M53 = mz M52 := by rw [eM53] <;> rfl
  have ho_x0 := isO_le (Nat.le_of_eq hm.symm) ho_x0
  replace h := h M53 eM53
  refine lv_aload_n hx hb dX5_init_177 rfl (lv_at hl 0 rfl) ?_
  refine lv_iconst (v := (0 : Int32)) hx hb dX5_init_178 (by decide) ?_
  obtain ⟨M54, eM54⟩ : ∃ y : Mem, y = sI M53 x0 23 (0 : Int32) := ⟨_, rfl⟩
  refine z_put (A d0) hZ (ci := 5) (j := 23) (M' := M54) ho_x0.1 ho_x0.2 (by decide) (by decide) k_fl_RX5_84 rfl (by rw [eM54]; exact zUpd_Z) (nar_b (Or.inl rfl)) rfl dX5_init_179 (fun H locs hZ => ?_)
  have hm : mz M54 = mz M53 := by rw [eM54] <;> rfl
  have ho_x0 := isO_le (Nat.le_of_eq hm.symm) ho_x0
  replace h := h M54 eM54
  refine lv_aload_n hx hb dX5_init_182 rfl (lv_at hl 0 rfl) ?_
  refine lv_iconst (v := (0 : Int32)) hx hb dX5_init_183 (by decide) ?_
  obtain ⟨M55, eM55⟩ : ∃ y : Mem, y = sI M54 x0 24 (0 : Int32) := ⟨_, rfl⟩
  refine z_put (A d0) hZ (ci := 5) (j := 24) (M' := M55) ho_x0.1 ho_x0.2 (by decide) (by decide) k_fl_RX5_88 rfl (by rw [eM55]; exact zUpd_I) rfl rfl dX5_init_184 (fun H locs hZ => ?_)
  have hm : mz M55 = mz M54 := by rw [eM55] <;> rfl
  have ho_x0 := isO_le (Nat.le_of_eq hm.symm) ho_x0
  replace h := h M55 eM55
  refine lv_aload_n hx hb dX5_init_187 rfl (lv_at hl 0 rfl) ?_
  refine lv_iconst (v := (0 : Int32)) hx hb dX5_init_188 (by decide) ?_
  obtain ⟨M56, eM56⟩ : ∃ y : Mem, y = sI M55 x0 25 (0 : Int32) := ⟨_, rfl⟩
  refine z_put (A d0) hZ (ci := 5) (j := 25) (M' := M56) ho_x0.1 ho_x0.2 (by decide) (by decide) k_fl_RX5_91 rfl (by rw [eM56]; exact zUpd_I) rfl rfl dX5_init_189 (fun H locs hZ => ?_)
  have hm : mz M56 = mz M55 := by rw [eM56] <;> rfl
  have ho_x0 := isO_le (Nat.le_of_eq hm.symm) ho_x0
  replace h := h M56 eM56
  refine lv_aload_n hx hb dX5_init_192 rfl (lv_at hl 0 rfl) ?_
  refine lv_iconst (v := (0 : Int32)) hx hb dX5_init_193 (by decide) ?_
  obtain ⟨M57, eM57⟩ : ∃ y : Mem, y = sI M56 x0 26 (0 : Int32) := ⟨_, rfl⟩
  refine z_put (A d0) hZ (ci := 5) (j := 26) (M' := M57) ho_x0.1 ho_x0.2 (by decide) (by decide) k_fl_RX5_94 rfl (by rw [eM57]; exact zUpd_I) rfl rfl dX5_init_194 (fun H locs hZ => ?_)
  have hm : mz M57 = mz M56 := by rw [eM57] <;> rfl
  have ho_x0 := isO_le (Nat.le_of_eq hm.symm) ho_x0
  replace h := h M57 eM57
  refine lv_aload_n hx hb dX5_init_197 rfl (lv_at hl 0 rfl) ?_
  refine lv_sipush (v := (5000 : Int32)) hx hb dX5_init_198 (by decide) ?_
  obtain ⟨hn0, hlt, hs, hby, h⟩ := h
  obtain ⟨M59, eM59⟩ : ∃ y : Mem, y = nw M57 := ⟨_, rfl⟩
  obtain ⟨a58, ea58⟩ : ∃ y : Nat, y = mz M57 := ⟨_, rfl⟩
  have ho_a58 : isA M59 a58 .int := ⟨⟨_, by rw [ea58]; exact hs⟩, by rw [eM59, ea58]; exact Nat.lt_succ_self _⟩
  refine z_newa (t := .int) (A d0) hZ ea58 rfl 0 rfl (Or.inl rfl) hs hlt k_ac_int (fun _ q => by cases q) hn0 rfl (Nat.le_trans (Nat.mul_le_mul_left _ (by decide)) hby) dX5_init_201 (fun H cells slots hZ => ?_)
  rw [← eM59] at hZ
  have hm : mz M57 ≤ mz M59 := by rw [eM59]; exact Nat.le_succ _
  have ho_x0 := isO_le hm ho_x0
  replace h := h a58 M59 ea58 eM59
  obtain ⟨M60, eM60⟩ : ∃ y : Mem, y = sR M59 x0 27 (some a58) := ⟨_, rfl⟩
  refine z_putF (A d0) hZ (ci := 5) (j := 27) (M' := M60) ho_x0.1 ho_x0.2 (by decide) (by decide) k_fl_RX5_97 rfl rfl hn (by rw [eM60]; exact zUpd_A (fun q => (by cases q))) rfl rfl dX5_init_203 (fun H locs hZ => ?_)
  have hm : mz M60 = mz M59 := by rw [eM60] <;> rfl
  have ho_x0 := isO_le (Nat.le_of_eq hm.symm) ho_x0
  replace h := h M60 eM60
  refine lv_aload_n hx hb dX5_init_206 rfl (lv_at hl 0 rfl) ?_
  refine lv_sipush (v := (5000 : Int32)) hx hb dX5_init_207 (by decide) ?_
  obtain ⟨hn0, hlt, hs, hby, h⟩ := h
  obtain ⟨M62, eM62⟩ : ∃ y : Mem, y = nw M60 := ⟨_, rfl⟩
  obtain ⟨a61, ea61⟩ : ∃ y : Nat, y = mz M60 := ⟨_, rfl⟩
  have ho_a61 : isA M62 a61 .int := ⟨⟨_, by rw [ea61]; exact hs⟩, by rw [eM62, ea61]; exact Nat.lt_succ_self _⟩
  refine z_newa (t := .int) (A d0) hZ ea61 rfl 0 rfl (Or.inl rfl) hs hlt k_ac_int (fun _ q => by cases q) hn0 rfl (Nat.le_trans (Nat.mul_le_mul_left _ (by decide)) hby) dX5_init_210 (fun H cells slots hZ => ?_)
  rw [← eM62] at hZ
  have hm : mz M60 ≤ mz M62 := by rw [eM62]; exact Nat.le_succ _
  have ho_x0 := isO_le hm ho_x0
  replace h := h a61 M62 ea61 eM62
  obtain ⟨M63, eM63⟩ : ∃ y : Mem, y = sR M62 x0 28 (some a61) := ⟨_, rfl⟩
  refine z_putF (A d0) hZ (ci := 5) (j := 28) (M' := M63) ho_x0.1 ho_x0.2 (by decide) (by decide) k_fl_RX5_100 rfl rfl hn (by rw [eM63]; exact zUpd_A (fun q => (by cases q))) rfl rfl dX5_init_212 (fun H locs hZ => ?_)
  have hm : mz M63 = mz M62 := by rw [eM63] <;> rfl
  have ho_x0 := isO_le (Nat.le_of_eq hm.symm) ho_x0
  replace h := h M63 eM63
  refine lv_aload_n hx hb dX5_init_215 rfl (lv_at hl 0 rfl) ?_
  refine lv_sipush (v := (5000 : Int32)) hx hb dX5_init_216 (by decide) ?_
  obtain ⟨hn0, hlt, hs, hby, h⟩ := h
  obtain ⟨M65, eM65⟩ : ∃ y : Mem, y = nw M63 := ⟨_, rfl⟩
  obtain ⟨a64, ea64⟩ : ∃ y : Nat, y = mz M63 := ⟨_, rfl⟩
  have ho_a64 : isA M65 a64 .int := ⟨⟨_, by rw [ea64]; exact hs⟩, by rw [eM65, ea64]; exact Nat.lt_succ_self _⟩
  refine z_newa (t := .int) (A d0) hZ ea64 rfl 0 rfl (Or.inl rfl) hs hlt k_ac_int (fun _ q => by cases q) hn0 rfl (Nat.le_trans (Nat.mul_le_mul_left _ (by decide)) hby) dX5_init_219 (fun H cells slots hZ => ?_)
  rw [← eM65] at hZ
  have hm : mz M63 ≤ mz M65 := by rw [eM65]; exact Nat.le_succ _
  have ho_x0 := isO_le hm ho_x0
  replace h := h a64 M65 ea64 eM65
  obtain ⟨M66, eM66⟩ : ∃ y : Mem, y = sR M65 x0 29 (some a64) := ⟨_, rfl⟩
  refine z_putF (A d0) hZ (ci := 5) (j := 29) (M' := M66) ho_x0.1 ho_x0.2 (by decide) (by decide) k_fl_RX5_103 rfl rfl hn (by rw [eM66]; exact zUpd_A (fun q => (by cases q))) rfl rfl dX5_init_221 (fun H locs hZ => ?_)
  have hm : mz M66 = mz M65 := by rw [eM66] <;> rfl
  have ho_x0 := isO_le (Nat.le_of_eq hm.symm) ho_x0
  replace h := h M66 eM66
  refine lv_aload_n hx hb dX5_init_224 rfl (lv_at hl 0 rfl) ?_
  refine lv_sipush (v := (5000 : Int32)) hx hb dX5_init_225 (by decide) ?_
  obtain ⟨hn0, hlt, hs, hby, h⟩ := h
  obtain ⟨M68, eM68⟩ : ∃ y : Mem, y = nw M66 := ⟨_, rfl⟩
  obtain ⟨a67, ea67⟩ : ∃ y : Nat, y = mz M66 := ⟨_, rfl⟩
  have ho_a67 : isA M68 a67 .int := ⟨⟨_, by rw [ea67]; exact hs⟩, by rw [eM68, ea67]; exact Nat.lt_succ_self _⟩
  refine z_newa (t := .int) (A d0) hZ ea67 rfl 0 rfl (Or.inl rfl) hs hlt k_ac_int (fun _ q => by cases q) hn0 rfl (Nat.le_trans (Nat.mul_le_mul_left _ (by decide)) hby) dX5_init_228 (fun H cells slots hZ => ?_)
  rw [← eM68] at hZ
  have hm : mz M66 ≤ mz M68 := by rw [eM68]; exact Nat.le_succ _
  have ho_x0 := isO_le hm ho_x0
  replace h := h a67 M68 ea67 eM68
  obtain ⟨M69, eM69⟩ : ∃ y : Mem, y = sR M68 x0 30 (some a67) := ⟨_, rfl⟩
  refine z_putF (A d0) hZ (ci := 5) (j := 30) (M' := M69) ho_x0.1 ho_x0.2 (by decide) (by decide) k_fl_RX5_106 rfl rfl hn (by rw [eM69]; exact zUpd_A (fun q => (by cases q))) rfl rfl dX5_init_230 (fun H locs hZ => ?_)
  have hm : mz M69 = mz M68 := by rw [eM69] <;> rfl
  have ho_x0 := isO_le (Nat.le_of_eq hm.symm) ho_x0
  replace h := h M69 eM69
  refine lv_aload_n hx hb dX5_init_233 rfl (lv_at hl 0 rfl) ?_
  refine lv_sipush (v := (5000 : Int32)) hx hb dX5_init_234 (by decide) ?_
  obtain ⟨hn0, hlt, hs, hby, h⟩ := h
  obtain ⟨M71, eM71⟩ : ∃ y : Mem, y = nw M69 := ⟨_, rfl⟩
  obtain ⟨a70, ea70⟩ : ∃ y : Nat, y = mz M69 := ⟨_, rfl⟩
  have ho_a70 : isA M71 a70 .long := ⟨⟨_, by rw [ea70]; exact hs⟩, by rw [eM71, ea70]; exact Nat.lt_succ_self _⟩
  refine z_newa (t := .long) (A d0) hZ ea70 rfl 1 rfl (Or.inr (Or.inl rfl)) hs hlt k_ac_long (fun _ q => by cases q) hn0 rfl (Nat.le_trans (Nat.mul_le_mul_left _ (by decide)) hby) dX5_init_237 (fun H cells slots hZ => ?_)
  rw [← eM71] at hZ
  have hm : mz M69 ≤ mz M71 := by rw [eM71]; exact Nat.le_succ _
  have ho_x0 := isO_le hm ho_x0
  replace h := h a70 M71 ea70 eM71
  obtain ⟨M72, eM72⟩ : ∃ y : Mem, y = sR M71 x0 31 (some a70) := ⟨_, rfl⟩
  refine z_putF (A d0) hZ (ci := 5) (j := 31) (M' := M72) ho_x0.1 ho_x0.2 (by decide) (by decide) k_fl_RX5_109 rfl rfl hn (by rw [eM72]; exact zUpd_A (fun q => (by cases q))) rfl rfl dX5_init_239 (fun H locs hZ => ?_)
  have hm : mz M72 = mz M71 := by rw [eM72] <;> rfl
  have ho_x0 := isO_le (Nat.le_of_eq hm.symm) ho_x0
  replace h := h M72 eM72
  refine lv_aload_n hx hb dX5_init_242 rfl (lv_at hl 0 rfl) ?_
  refine lv_sipush (v := (5000 : Int32)) hx hb dX5_init_243 (by decide) ?_
  obtain ⟨hn0, hlt, hs, hby, h⟩ := h
  obtain ⟨M74, eM74⟩ : ∃ y : Mem, y = nw M72 := ⟨_, rfl⟩
  obtain ⟨a73, ea73⟩ : ∃ y : Nat, y = mz M72 := ⟨_, rfl⟩
  have ho_a73 : isA M74 a73 .long := ⟨⟨_, by rw [ea73]; exact hs⟩, by rw [eM74, ea73]; exact Nat.lt_succ_self _⟩
  refine z_newa (t := .long) (A d0) hZ ea73 rfl 1 rfl (Or.inr (Or.inl rfl)) hs hlt k_ac_long (fun _ q => by cases q) hn0 rfl (Nat.le_trans (Nat.mul_le_mul_left _ (by decide)) hby) dX5_init_246 (fun H cells slots hZ => ?_)
  rw [← eM74] at hZ
  have hm : mz M72 ≤ mz M74 := by rw [eM74]; exact Nat.le_succ _
  have ho_x0 := isO_le hm ho_x0
  replace h := h a73 M74 ea73 eM74
  obtain ⟨M75, eM75⟩ : ∃ y : Mem, y = sR M74 x0 32 (some a73) := ⟨_, rfl⟩
  refine z_putF (A d0) hZ (ci := 5) (j := 32) (M' := M75) ho_x0.1 ho_x0.2 (by decide) (by decide) k_fl_RX5_112 rfl rfl hn (by rw [eM75]; exact zUpd_A (fun q => (by cases q))) rfl rfl dX5_init_248 (fun H locs hZ => ?_)
  have hm : mz M75 = mz M74 := by rw [eM75] <;> rfl
  have ho_x0 := isO_le (Nat.le_of_eq hm.symm) ho_x0
  replace h := h M75 eM75
  refine lv_aload_n hx hb dX5_init_251 rfl (lv_at hl 0 rfl) ?_
  refine lv_sipush (v := (5000 : Int32)) hx hb dX5_init_252 (by decide) ?_
  obtain ⟨hn0, hlt, hs, hby, h⟩ := h
  obtain ⟨M77, eM77⟩ : ∃ y : Mem, y = nw M75 := ⟨_, rfl⟩
  obtain ⟨a76, ea76⟩ : ∃ y : Nat, y = mz M75 := ⟨_, rfl⟩
  have ho_a76 : isA M77 a76 .long := ⟨⟨_, by rw [ea76]; exact hs⟩, by rw [eM77, ea76]; exact Nat.lt_succ_self _⟩
  refine z_newa (t := .long) (A d0) hZ ea76 rfl 1 rfl (Or.inr (Or.inl rfl)) hs hlt k_ac_long (fun _ q => by cases q) hn0 rfl (Nat.le_trans (Nat.mul_le_mul_left _ (by decide)) hby) dX5_init_255 (fun H cells slots hZ => ?_)
  rw [← eM77] at hZ
  have hm : mz M75 ≤ mz M77 := by rw [eM77]; exact Nat.le_succ _
  have ho_x0 := isO_le hm ho_x0
  replace h := h a76 M77 ea76 eM77
  obtain ⟨M78, eM78⟩ : ∃ y : Mem, y = sR M77 x0 33 (some a76) := ⟨_, rfl⟩
  refine z_putF (A d0) hZ (ci := 5) (j := 33) (M' := M78) ho_x0.1 ho_x0.2 (by decide) (by decide) k_fl_RX5_115 rfl rfl hn (by rw [eM78]; exact zUpd_A (fun q => (by cases q))) rfl rfl dX5_init_257 (fun H locs hZ => ?_)
  have hm : mz M78 = mz M77 := by rw [eM78] <;> rfl
  have ho_x0 := isO_le (Nat.le_of_eq hm.symm) ho_x0
  replace h := h M78 eM78
  refine lv_aload_n hx hb dX5_init_260 rfl (lv_at hl 0 rfl) ?_
  refine lv_sipush (v := (6000 : Int32)) hx hb dX5_init_261 (by decide) ?_
  obtain ⟨hn0, hlt, hs, hby, h⟩ := h
  obtain ⟨M80, eM80⟩ : ∃ y : Mem, y = nw M78 := ⟨_, rfl⟩
  obtain ⟨a79, ea79⟩ : ∃ y : Nat, y = mz M78 := ⟨_, rfl⟩
  have ho_a79 : isA M80 a79 .long := ⟨⟨_, by rw [ea79]; exact hs⟩, by rw [eM80, ea79]; exact Nat.lt_succ_self _⟩
  refine z_newa (t := .long) (A d0) hZ ea79 rfl 1 rfl (Or.inr (Or.inl rfl)) hs hlt k_ac_long (fun _ q => by cases q) hn0 rfl (Nat.le_trans (Nat.mul_le_mul_left _ (by decide)) hby) dX5_init_264 (fun H cells slots hZ => ?_)
  rw [← eM80] at hZ
  have hm : mz M78 ≤ mz M80 := by rw [eM80]; exact Nat.le_succ _
  have ho_x0 := isO_le hm ho_x0
  replace h := h a79 M80 ea79 eM80
  obtain ⟨M81, eM81⟩ : ∃ y : Mem, y = sR M80 x0 34 (some a79) := ⟨_, rfl⟩
  refine z_putF (A d0) hZ (ci := 5) (j := 34) (M' := M81) ho_x0.1 ho_x0.2 (by decide) (by decide) k_fl_RX5_118 rfl rfl hn (by rw [eM81]; exact zUpd_A (fun q => (by cases q))) rfl rfl dX5_init_266 (fun H locs hZ => ?_)
  have hm : mz M81 = mz M80 := by rw [eM81] <;> rfl
  have ho_x0 := isO_le (Nat.le_of_eq hm.symm) ho_x0
  replace h := h M81 eM81
  refine lv_aload_n hx hb dX5_init_269 rfl (lv_at hl 0 rfl) ?_
  refine lv_ldc (v := (80000 : Int32)) hx hb (A d0).2.2.2.1 ((A d0).2.2.2.2.1 _ k_ic_RX5_121) dX5_init_270 ?_
  obtain ⟨hn0, hlt, hs, hby, h⟩ := h
  obtain ⟨M83, eM83⟩ : ∃ y : Mem, y = nw M81 := ⟨_, rfl⟩
  obtain ⟨a82, ea82⟩ : ∃ y : Nat, y = mz M81 := ⟨_, rfl⟩
  have ho_a82 : isA M83 a82 .long := ⟨⟨_, by rw [ea82]; exact hs⟩, by rw [eM83, ea82]; exact Nat.lt_succ_self _⟩
  refine z_newa (t := .long) (A d0) hZ ea82 rfl 1 rfl (Or.inr (Or.inl rfl)) hs hlt k_ac_long (fun _ q => by cases q) hn0 rfl (Nat.le_trans (Nat.mul_le_mul_left _ (by decide)) hby) dX5_init_272 (fun H cells slots hZ => ?_)
  rw [← eM83] at hZ
  have hm : mz M81 ≤ mz M83 := by rw [eM83]; exact Nat.le_succ _
  have ho_x0 := isO_le hm ho_x0
  replace h := h a82 M83 ea82 eM83
  obtain ⟨M84, eM84⟩ : ∃ y : Mem, y = sR M83 x0 35 (some a82) := ⟨_, rfl⟩
  refine z_putF (A d0) hZ (ci := 5) (j := 35) (M' := M84) ho_x0.1 ho_x0.2 (by decide) (by decide) k_fl_RX5_122 rfl rfl hn (by rw [eM84]; exact zUpd_A (fun q => (by cases q))) rfl rfl dX5_init_274 (fun H locs hZ => ?_)
  have hm : mz M84 = mz M83 := by rw [eM84] <;> rfl
  have ho_x0 := isO_le (Nat.le_of_eq hm.symm) ho_x0
  replace h := h M84 eM84
  refine lv_aload_n hx hb dX5_init_277 rfl (lv_at hl 0 rfl) ?_
  refine lv_sipush (v := (6000 : Int32)) hx hb dX5_init_278 (by decide) ?_
  obtain ⟨hn0, hlt, hs, hby, h⟩ := h
  obtain ⟨M86, eM86⟩ : ∃ y : Mem, y = nw M84 := ⟨_, rfl⟩
  obtain ⟨a85, ea85⟩ : ∃ y : Nat, y = mz M84 := ⟨_, rfl⟩
  have ho_a85 : isA M86 a85 .boolean := ⟨⟨_, by rw [ea85]; exact hs⟩, by rw [eM86, ea85]; exact Nat.lt_succ_self _⟩
  refine z_newa (t := .boolean) (A d0) hZ ea85 rfl 2 rfl (Or.inr (Or.inr rfl)) hs hlt k_ac_boolean (fun _ q => by cases q) hn0 rfl (Nat.le_trans (Nat.mul_le_mul_left _ (by decide)) hby) dX5_init_281 (fun H cells slots hZ => ?_)
  rw [← eM86] at hZ
  have hm : mz M84 ≤ mz M86 := by rw [eM86]; exact Nat.le_succ _
  have ho_x0 := isO_le hm ho_x0
  replace h := h a85 M86 ea85 eM86
  obtain ⟨M87, eM87⟩ : ∃ y : Mem, y = sR M86 x0 36 (some a85) := ⟨_, rfl⟩
  refine z_putF (A d0) hZ (ci := 5) (j := 36) (M' := M87) ho_x0.1 ho_x0.2 (by decide) (by decide) k_fl_RX5_125 rfl rfl hn (by rw [eM87]; exact zUpd_A (fun q => (by cases q))) rfl rfl dX5_init_283 (fun H locs hZ => ?_)
  have hm : mz M87 = mz M86 := by rw [eM87] <;> rfl
  have ho_x0 := isO_le (Nat.le_of_eq hm.symm) ho_x0
  replace h := h M87 eM87
  refine lv_aload_n hx hb dX5_init_286 rfl (lv_at hl 0 rfl) ?_
  refine lv_bipush (v := (64 : Int32)) hx hb dX5_init_287 (by decide) ?_
  obtain ⟨hn0, hlt, hs, hby, h⟩ := h
  obtain ⟨M89, eM89⟩ : ∃ y : Mem, y = nw M87 := ⟨_, rfl⟩
  obtain ⟨a88, ea88⟩ : ∃ y : Nat, y = mz M87 := ⟨_, rfl⟩
  have ho_a88 : isA M89 a88 .int := ⟨⟨_, by rw [ea88]; exact hs⟩, by rw [eM89, ea88]; exact Nat.lt_succ_self _⟩
  refine z_newa (t := .int) (A d0) hZ ea88 rfl 0 rfl (Or.inl rfl) hs hlt k_ac_int (fun _ q => by cases q) hn0 rfl (Nat.le_trans (Nat.mul_le_mul_left _ (by decide)) hby) dX5_init_289 (fun H cells slots hZ => ?_)
  rw [← eM89] at hZ
  have hm : mz M87 ≤ mz M89 := by rw [eM89]; exact Nat.le_succ _
  have ho_x0 := isO_le hm ho_x0
  replace h := h a88 M89 ea88 eM89
  obtain ⟨M90, eM90⟩ : ∃ y : Mem, y = sR M89 x0 37 (some a88) := ⟨_, rfl⟩
  refine z_putF (A d0) hZ (ci := 5) (j := 37) (M' := M90) ho_x0.1 ho_x0.2 (by decide) (by decide) k_fl_RX5_128 rfl rfl hn (by rw [eM90]; exact zUpd_A (fun q => (by cases q))) rfl rfl dX5_init_291 (fun H locs hZ => ?_)
  have hm : mz M90 = mz M89 := by rw [eM90] <;> rfl
  have ho_x0 := isO_le (Nat.le_of_eq hm.symm) ho_x0
  replace h := h M90 eM90
  refine lv_aload_n hx hb dX5_init_294 rfl (lv_at hl 0 rfl) ?_
  refine lv_bipush (v := (64 : Int32)) hx hb dX5_init_295 (by decide) ?_
  obtain ⟨hn0, hlt, hs, hby, h⟩ := h
  obtain ⟨M92, eM92⟩ : ∃ y : Mem, y = nw M90 := ⟨_, rfl⟩
  obtain ⟨a91, ea91⟩ : ∃ y : Nat, y = mz M90 := ⟨_, rfl⟩
  have ho_a91 : isA M92 a91 .int := ⟨⟨_, by rw [ea91]; exact hs⟩, by rw [eM92, ea91]; exact Nat.lt_succ_self _⟩
  refine z_newa (t := .int) (A d0) hZ ea91 rfl 0 rfl (Or.inl rfl) hs hlt k_ac_int (fun _ q => by cases q) hn0 rfl (Nat.le_trans (Nat.mul_le_mul_left _ (by decide)) hby) dX5_init_297 (fun H cells slots hZ => ?_)
  rw [← eM92] at hZ
  have hm : mz M90 ≤ mz M92 := by rw [eM92]; exact Nat.le_succ _
  have ho_x0 := isO_le hm ho_x0
  replace h := h a91 M92 ea91 eM92
  obtain ⟨M93, eM93⟩ : ∃ y : Mem, y = sR M92 x0 38 (some a91) := ⟨_, rfl⟩
  refine z_putF (A d0) hZ (ci := 5) (j := 38) (M' := M93) ho_x0.1 ho_x0.2 (by decide) (by decide) k_fl_RX5_131 rfl rfl hn (by rw [eM93]; exact zUpd_A (fun q => (by cases q))) rfl rfl dX5_init_299 (fun H locs hZ => ?_)
  have hm : mz M93 = mz M92 := by rw [eM93] <;> rfl
  have ho_x0 := isO_le (Nat.le_of_eq hm.symm) ho_x0
  replace h := h M93 eM93
  refine lv_aload_n hx hb dX5_init_302 rfl (lv_at hl 0 rfl) ?_
  refine lv_iconst (v := (0 : Int32)) hx hb dX5_init_303 (by decide) ?_
  obtain ⟨M94, eM94⟩ : ∃ y : Mem, y = sI M93 x0 39 (0 : Int32) := ⟨_, rfl⟩
  refine z_put (A d0) hZ (ci := 5) (j := 39) (M' := M94) ho_x0.1 ho_x0.2 (by decide) (by decide) k_fl_RX5_134 rfl (by rw [eM94]; exact zUpd_I) rfl rfl dX5_init_304 (fun H locs hZ => ?_)
  have hm : mz M94 = mz M93 := by rw [eM94] <;> rfl
  have ho_x0 := isO_le (Nat.le_of_eq hm.symm) ho_x0
  replace h := h M94 eM94
  refine lv_aload_n hx hb dX5_init_307 rfl (lv_at hl 0 rfl) ?_
  refine lv_iconst (v := (0 : Int32)) hx hb dX5_init_308 (by decide) ?_
  obtain ⟨M95, eM95⟩ : ∃ y : Mem, y = sI M94 x0 40 (0 : Int32) := ⟨_, rfl⟩
  refine z_put (A d0) hZ (ci := 5) (j := 40) (M' := M95) ho_x0.1 ho_x0.2 (by decide) (by decide) k_fl_RX5_137 rfl (by rw [eM95]; exact zUpd_I) rfl rfl dX5_init_309 (fun H locs hZ => ?_)
  have hm : mz M95 = mz M94 := by rw [eM95] <;> rfl
  have ho_x0 := isO_le (Nat.le_of_eq hm.symm) ho_x0
  replace h := h M95 eM95
  refine lv_aload_n hx hb dX5_init_312 rfl (lv_at hl 0 rfl) ?_
  refine lv_iconst (v := (0 : Int32)) hx hb dX5_init_313 (by decide) ?_
  obtain ⟨M96, eM96⟩ : ∃ y : Mem, y = sI M95 x0 41 (0 : Int32) := ⟨_, rfl⟩
  refine z_put (A d0) hZ (ci := 5) (j := 41) (M' := M96) ho_x0.1 ho_x0.2 (by decide) (by decide) k_fl_RX5_140 rfl (by rw [eM96]; exact zUpd_I) rfl rfl dX5_init_314 (fun H locs hZ => ?_)
  have hm : mz M96 = mz M95 := by rw [eM96] <;> rfl
  have ho_x0 := isO_le (Nat.le_of_eq hm.symm) ho_x0
  replace h := h M96 eM96
  refine lv_aload_n hx hb dX5_init_317 rfl (lv_at hl 0 rfl) ?_
  refine lv_iconst (v := (0 : Int32)) hx hb dX5_init_318 (by decide) ?_
  obtain ⟨M97, eM97⟩ : ∃ y : Mem, y = sI M96 x0 42 (0 : Int32) := ⟨_, rfl⟩
  refine z_put (A d0) hZ (ci := 5) (j := 42) (M' := M97) ho_x0.1 ho_x0.2 (by decide) (by decide) k_fl_RX5_143 rfl (by rw [eM97]; exact zUpd_I) rfl rfl dX5_init_319 (fun H locs hZ => ?_)
  have hm : mz M97 = mz M96 := by rw [eM97] <;> rfl
  have ho_x0 := isO_le (Nat.le_of_eq hm.symm) ho_x0
  replace h := h M97 eM97
  refine lv_aload_n hx hb dX5_init_322 rfl (lv_at hl 0 rfl) ?_
  refine lv_iconst (v := (0 : Int32)) hx hb dX5_init_323 (by decide) ?_
  obtain ⟨M98, eM98⟩ : ∃ y : Mem, y = sI M97 x0 43 (0 : Int32) := ⟨_, rfl⟩
  refine z_put (A d0) hZ (ci := 5) (j := 43) (M' := M98) ho_x0.1 ho_x0.2 (by decide) (by decide) k_fl_RX5_146 rfl (by rw [eM98]; exact zUpd_I) rfl rfl dX5_init_324 (fun H locs hZ => ?_)
  have hm : mz M98 = mz M97 := by rw [eM98] <;> rfl
  have ho_x0 := isO_le (Nat.le_of_eq hm.symm) ho_x0
  replace h := h M98 eM98
  refine lv_aload_n hx hb dX5_init_327 rfl (lv_at hl 0 rfl) ?_
  refine lv_iconst (v := (0 : Int32)) hx hb dX5_init_328 (by decide) ?_
  obtain ⟨M99, eM99⟩ : ∃ y : Mem, y = sI M98 x0 44 (0 : Int32) := ⟨_, rfl⟩
  refine z_put (A d0) hZ (ci := 5) (j := 44) (M' := M99) ho_x0.1 ho_x0.2 (by decide) (by decide) k_fl_RX5_149 rfl (by rw [eM99]; exact zUpd_I) rfl rfl dX5_init_329 (fun H locs hZ => ?_)
  have hm : mz M99 = mz M98 := by rw [eM99] <;> rfl
  have ho_x0 := isO_le (Nat.le_of_eq hm.symm) ho_x0
  replace h := h M99 eM99
  refine lv_aload_n hx hb dX5_init_332 rfl (lv_at hl 0 rfl) ?_
  refine lv_iconst (v := (0 : Int32)) hx hb dX5_init_333 (by decide) ?_
  obtain ⟨M100, eM100⟩ : ∃ y : Mem, y = sI M99 x0 45 (0 : Int32) := ⟨_, rfl⟩
  refine z_put (A d0) hZ (ci := 5) (j := 45) (M' := M100) ho_x0.1 ho_x0.2 (by decide) (by decide) k_fl_RX5_152 rfl (by rw [eM100]; exact zUpd_I) rfl rfl dX5_init_334 (fun H locs hZ => ?_)
  have hm : mz M100 = mz M99 := by rw [eM100] <;> rfl
  have ho_x0 := isO_le (Nat.le_of_eq hm.symm) ho_x0
  replace h := h M100 eM100
  refine lv_aload_n hx hb dX5_init_337 rfl (lv_at hl 0 rfl) ?_
  refine lv_iconst (v := (0 : Int32)) hx hb dX5_init_338 (by decide) ?_
  obtain ⟨M101, eM101⟩ : ∃ y : Mem, y = sI M100 x0 46 (0 : Int32) := ⟨_, rfl⟩
  refine z_put (A d0) hZ (ci := 5) (j := 46) (M' := M101) ho_x0.1 ho_x0.2 (by decide) (by decide) k_fl_RX5_155 rfl (by rw [eM101]; exact zUpd_Z) (nar_b (Or.inl rfl)) rfl dX5_init_339 (fun H locs hZ => ?_)
  have hm : mz M101 = mz M100 := by rw [eM101] <;> rfl
  have ho_x0 := isO_le (Nat.le_of_eq hm.symm) ho_x0
  replace h := h M101 eM101
  exact z_vret A hd0 hZ hr ⟨rfl, h⟩ dX5_init_342
