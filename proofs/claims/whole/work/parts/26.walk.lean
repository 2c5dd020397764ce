/-! cX4_again -/
set_option maxRecDepth 100000 in
set_option maxHeartbeats 4000000 in
theorem c_X4_again (l : Launch) (G : ZG) (base : Nat) (M : Mem) (x0 : Nat) (x1 : Int32) (Q : Int32 → Mem → Prop) (h : wp_X4_again x0 x1 M Q) : ZMet l yX4_again cX4_again 2 (some .int) 6 164 G true base M [.ref (base + x0), .int x1] (qI Q) := by
  refine z_start (by decide) (Nat.le_of_ble_eq_true rfl) k_co_yX4_again ?_
  intro p e s m below meth c R d0 H locs cells slots ls A hr hn hd0 hZ hl
  have hx := (A d0).1
  have hb := (A d0).2.1
  have hl : lv_has ls 2 [(0, .ref (base + x0)), (1, .int x1)] := hl
  unfold wp_X4_again at h
  obtain ⟨ho_x0, h⟩ := h
  refine lv_aload_n hx hb dX4_again_0 rfl (lv_at hl 0 rfl) ?_
  refine z_callV A hd0 hZ (ci := 4) (nA := 0) (As := []) (by decide) ho_x0 (c_X4_hasIndex l G base M x0 _ h) k_ml_RX4_111 k_im_yX4_hasIndex k_se_yX4_hasIndex k_in_RX4 k_co_yX4_hasIndex (by decide +kernel) ⟨by decide, by decide⟩ rfl rfl (Nat.le_of_ble_eq_true rfl) hl dX4_again_1 (fun v M1 H locs d0 cells slots hq hd0 hZ hm => ?_)
  clear h
  obtain ⟨i2, rfl, h⟩ := hq
  have ho_x0 := isO_le hm ho_x0
  refine lv_if_ne (tgt := 9) hx hb dX4_again_4 (by decide) (fun hc => ?_) (fun hc => ?_)
  · replace h := h.1 hc
    refine lv_aload_n hx hb dX4_again_9 rfl (lv_at hl 0 rfl) ?_
    refine lv_iload_n hx hb dX4_again_10 rfl (lv_at hl 1 rfl) ?_
    refine z_callV A hd0 hZ (ci := 4) (nA := 1) (As := [.int x1]) (by decide) ho_x0 (c_X4_isKindToMake l G base M1 x0 x1 _ h) k_ml_RX4_95 k_im_yX4_isKindToMake k_se_yX4_isKindToMake k_in_RX4 k_co_yX4_isKindToMake (by decide +kernel) ⟨by decide, by decide⟩ rfl rfl (Nat.le_of_ble_eq_true rfl) hl dX4_again_11 (fun v M3 H locs d0 cells slots hq hd0 hZ hm => ?_)
    clear h
    obtain ⟨i4, rfl, h⟩ := hq
    have ho_x0 := isO_le hm ho_x0
    refine lv_if_ne (tgt := 20) hx hb dX4_again_14 (by decide) (fun hc => ?_) (fun hc => ?_)
    · replace h := h.1 hc
      refine lv_aload_n hx hb dX4_again_20 rfl (lv_at hl 0 rfl) ?_
      refine lv_iconst (v := (0 : Int32)) hx hb dX4_again_21 (by decide) ?_
      refine lv_aload_n hx hb dX4_again_22 rfl (lv_at hl 0 rfl) ?_
      refine z_get (A d0) hZ (ci := 4) (j := 3) ho_x0.1 ho_x0.2 (by decide) (by decide) k_fl_RX4_27 (v := vr base (mR M3 x0 3)) (zv_dyn (zf4 ho_x0 rfl) rfl) dX4_again_23 ?_
      obtain ⟨r5, er5⟩ : ∃ y : Option Nat, y = mR M3 x0 3 := ⟨_, rfl⟩
      rw [← er5]
      replace h := h r5 er5
      obtain ⟨a6, rfl, ho_a6, h⟩ := h
      refine z_getN (A d0) hZ (ci := 2) (j := 6) ho_a6.1 ho_a6.2 (by decide) (by decide) k_fn_RX4_104 (v := .int (mI M3 a6 6)) rfl dX4_again_26 ?_
      refine lv_aload_n hx hb dX4_again_29 rfl (lv_at hl 0 rfl) ?_
      refine z_callV A hd0 hZ (ci := 4) (nA := 0) (As := []) (by decide) ho_x0 (c_X4_gatherAll l G base M3 x0 _ h) k_ml_RX4_115 k_im_yX4_gatherAll k_se_yX4_gatherAll k_in_RX4 k_co_yX4_gatherAll (by decide +kernel) ⟨by decide, by decide⟩ rfl rfl (Nat.le_of_ble_eq_true rfl) hl dX4_again_30 (fun v M7 H locs d0 cells slots hq hd0 hZ hm => ?_)
      clear h
      obtain ⟨i8, rfl, h⟩ := hq
      have ho_x0 := isO_le hm ho_x0
      refine lv_iload_n hx hb dX4_again_33 rfl (lv_at hl 1 rfl) ?_
      refine z_callV A hd0 hZ (ci := 4) (nA := 4) (As := [.int (0 : Int32), .int (mI M3 a6 6), .int i8, .int x1]) (by decide) ho_x0 (c_X4_replace l G base M7 x0 (0 : Int32) (mI M3 a6 6) i8 x1 _ h) k_ml_RX4_107 k_im_yX4_replace k_se_yX4_replace k_in_RX4 k_co_yX4_replace (by decide +kernel) ⟨by decide, by decide⟩ rfl rfl (Nat.le_of_ble_eq_true rfl) hl dX4_again_34 (fun v M9 H locs d0 cells slots hq hd0 hZ hm => ?_)
      clear h
      obtain ⟨i10, rfl, h⟩ := hq
      have ho_x0 := isO_le hm ho_x0
      exact z_iret A hd0 hZ hr ⟨_, rfl, h⟩ dX4_again_37
    · replace h := h.2 hc
      refine lv_bipush (v := (-2 : Int32)) hx hb dX4_again_17 (by decide) ?_
      exact z_iret A hd0 hZ hr ⟨_, rfl, h⟩ dX4_again_19
  · replace h := h.2 hc
    refine lv_iconst (v := (-1 : Int32)) hx hb dX4_again_7 (by decide) ?_
    exact z_iret A hd0 hZ hr ⟨_, rfl, h⟩ dX4_again_8
/-! cX4_clear -/
set_option maxRecDepth 100000 in
set_option maxHeartbeats 4000000 in
theorem c_X4_clear (l : Launch) (G : ZG) (base : Nat) (M : Mem) (x0 : Nat) (Q : Int32 → Mem → Prop) (h : wp_X4_clear x0 M Q) : ZMet l yX4_clear cX4_clear 2 (some .int) 1 20 G true base M [.ref (base + x0)] (qI Q) := by
  refine z_start (by decide) (Nat.le_of_ble_eq_true rfl) k_co_yX4_clear ?_
  intro p e s m below meth c R d0 H locs cells slots ls A hr hn hd0 hZ hl
  have hx := (A d0).1
  have hb := (A d0).2.1
  have hl : lv_has ls 2 [(0, .ref (base + x0))] := hl
  unfold wp_X4_clear at h
  obtain ⟨ho_x0, h⟩ := h
  refine lv_aload_n hx hb dX4_clear_0 rfl (lv_at hl 0 rfl) ?_
  refine z_get (A d0) hZ (ci := 4) (j := 7) ho_x0.1 ho_x0.2 (by decide) (by decide) k_fl_RX4_41 (v := .int (mI M x0 7)) rfl dX4_clear_1 ?_
  obtain ⟨i1, ei1⟩ : ∃ y : Int32, y = mI M x0 7 := ⟨_, rfl⟩
  rw [← ei1]
  replace h := h i1 ei1
  refine lv_istore_n (lv' := [(1, .int i1), (0, .ref (base + x0))]) hx hb dX4_clear_4 rfl hl (by decide) rfl (fun ls hl2 => ?_)
  replace hl := hl2
  refine lv_aload_n hx hb dX4_clear_5 rfl (lv_at hl 1 rfl) ?_
  refine z_get (A d0) hZ (ci := 4) (j := 3) ho_x0.1 ho_x0.2 (by decide) (by decide) k_fl_RX4_27 (v := vr base (mR M x0 3)) (zv_dyn (zf4 ho_x0 rfl) rfl) dX4_clear_6 ?_
  obtain ⟨r2, er2⟩ : ∃ y : Option Nat, y = mR M x0 3 := ⟨_, rfl⟩
  rw [← er2]
  replace h := h r2 er2
  obtain ⟨a3, rfl, ho_a3, h⟩ := h
  refine z_callV A hd0 hZ (ci := 2) (nA := 0) (As := []) (by decide) ho_a3 (c_X2_empty l G base M a3 _ h) k_ml_RX4_119 k_im_yX2_empty k_se_yX2_empty k_in_RX2 k_co_yX2_empty (by decide +kernel) ⟨by decide, by decide⟩ rfl rfl (Nat.le_of_ble_eq_true rfl) hl dX4_clear_9 (fun v M4 H locs d0 cells slots hq hd0 hZ hm => ?_)
  clear h
  obtain ⟨rfl, h⟩ := hq
  have ho_x0 := isO_le hm ho_x0
  refine lv_aload_n hx hb dX4_clear_12 rfl (lv_at hl 1 rfl) ?_
  refine lv_iconst (v := (0 : Int32)) hx hb dX4_clear_13 (by decide) ?_
  obtain ⟨M5, eM5⟩ : ∃ y : Mem, y = sI M4 x0 6 (0 : Int32) := ⟨_, rfl⟩
  refine z_put (A d0) hZ (ci := 4) (j := 6) (M' := M5) ho_x0.1 ho_x0.2 (by decide) (by decide) k_fl_RX4_38 rfl (by rw [eM5]; exact zUpd_I) rfl rfl dX4_clear_14 (fun H locs hZ => ?_)
  have hm : mz M5 = mz M4 := by rw [eM5] <;> rfl
  have ho_x0 := isO_le (Nat.le_of_eq hm.symm) ho_x0
  replace h := h M5 eM5
  refine lv_aload_n hx hb dX4_clear_17 rfl (lv_at hl 1 rfl) ?_
  refine lv_iconst (v := (0 : Int32)) hx hb dX4_clear_18 (by decide) ?_
  obtain ⟨M6, eM6⟩ : ∃ y : Mem, y = sI M5 x0 7 (0 : Int32) := ⟨_, rfl⟩
  refine z_put (A d0) hZ (ci := 4) (j := 7) (M' := M6) ho_x0.1 ho_x0.2 (by decide) (by decide) k_fl_RX4_41 rfl (by rw [eM6]; exact zUpd_I) rfl rfl dX4_clear_19 (fun H locs hZ => ?_)
  have hm : mz M6 = mz M5 := by rw [eM6] <;> rfl
  have ho_x0 := isO_le (Nat.le_of_eq hm.symm) ho_x0
  replace h := h M6 eM6
  refine lv_iload_n hx hb dX4_clear_22 rfl (lv_at hl 0 rfl) ?_
  exact z_iret A hd0 hZ hr ⟨_, rfl, h⟩ dX4_clear_23
/-! cX4_round -/
set_option maxRecDepth 100000 in
set_option maxHeartbeats 4000000 in
theorem zb_X4_round_42 {p : Program} {l : Launch} {e : Env} {R : Room} {s : State} {m : MethodId} {args : Array Value} {below : List Frame} {meth : Method} {c : Code} {G : ZG} {base z0 : Nat} {Q : Int32 → Mem → Prop} (A : ∀ d, Amb p R (s.setDrawn d) m args meth c G base z0 cX4_round yX4_round.cls 3 4 96) (hr : meth.sig.returnType = (some .int)) {d0 : Drawn} {H : Heap} {locs : List Loc} {cells slots : Nat} {ls : Array Slot} {t0 : Int32} {M : Mem} (hd0 : s.drawn.sameBut d0 lw_cs) (hZ : ZH G true base s.heap M H locs) (hl : lv_has ls 3 []) (h : wp_X4_round_42 t0 M Q) : W p l e R (s.setDrawn d0) m args below meth c H locs cells slots (ZEnd below G true base z0 (qI Q) args s) (F0 m 42 ls [.int t0]) := by
  have hx := (A d0).1
  have hb := (A d0).2.1
  unfold wp_X4_round_42 at h
  exact z_iret A hd0 hZ hr ⟨_, rfl, h⟩ dX4_round_42
set_option maxRecDepth 100000 in
set_option maxHeartbeats 4000000 in
theorem c_X4_round (l : Launch) (G : ZG) (base : Nat) (M : Mem) (x0 : Nat) (x1 : Int32) (Q : Int32 → Mem → Prop) (h : wp_X4_round x0 x1 M Q) : ZMet l yX4_round cX4_round 3 (some .int) 4 96 G true base M [.ref (base + x0), .int x1] (qI Q) := by
  refine z_start (by decide) (Nat.le_of_ble_eq_true rfl) k_co_yX4_round ?_
  intro p e s m below meth c R d0 H locs cells slots ls A hr hn hd0 hZ hl
  have hx := (A d0).1
  have hb := (A d0).2.1
  have hl : lv_has ls 3 [(0, .ref (base + x0)), (1, .int x1)] := hl
  unfold wp_X4_round at h
  obtain ⟨ho_x0, h⟩ := h
  refine lv_aload_n hx hb dX4_round_0 rfl (lv_at hl 0 rfl) ?_
  refine z_get (A d0) hZ (ci := 4) (j := 3) ho_x0.1 ho_x0.2 (by decide) (by decide) k_fl_RX4_27 (v := vr base (mR M x0 3)) (zv_dyn (zf4 ho_x0 rfl) rfl) dX4_round_1 ?_
  obtain ⟨r1, er1⟩ : ∃ y : Option Nat, y = mR M x0 3 := ⟨_, rfl⟩
  rw [← er1]
  replace h := h r1 er1
  refine lv_iload_n hx hb dX4_round_4 rfl (lv_at hl 1 rfl) ?_
  obtain ⟨a2, rfl, ho_a2, h⟩ := h
  refine z_callV A hd0 hZ (ci := 2) (nA := 1) (As := [.int x1]) (by decide) ho_a2 (c_X2_pieceAt l G base M a2 x1 _ h) k_ml_RX4_122 k_im_yX2_pieceAt k_se_yX2_pieceAt k_in_RX2 k_co_yX2_pieceAt (by decide +kernel) ⟨by decide, by decide⟩ rfl rfl (Nat.le_of_ble_eq_true rfl) hl dX4_round_5 (fun v M3 H locs d0 cells slots hq hd0 hZ hm => ?_)
  clear h
  obtain ⟨r4, rfl, h⟩ := hq
  have ho_x0 := isO_le hm ho_x0
  refine z_astore_n (lv' := [(2, vr base r4), (0, .ref (base + x0)), (1, .int x1)]) hx hb dX4_round_8 rfl hl (by decide) rfl (fun ls hl2 => ?_)
  replace hl := hl2
  refine z_aload_n (base := base) hx hb dX4_round_9 rfl (lv_at hl 0 rfl) ?_
  refine z_ifnonnull (base := base) (tgt := 15) hx hb dX4_round_10 (by decide) (fun a5 hc => ?_) (fun hc => ?_)
  · replace h := h.2 a5 hc
    subst hc
    refine lv_aload_n hx hb dX4_round_15 rfl (lv_at hl 0 rfl) ?_
    obtain ⟨ho_6, h⟩ := h
    refine z_getN (A d0) hZ (ci := 0) (j := 0) ho_6.1 ho_6.2 (by decide) (by decide) k_fn_RX4_126 (v := .int (mI M3 a5 0)) rfl dX4_round_16 ?_
    refine lv_iconst (v := (1 : Int32)) hx hb dX4_round_19 (by decide) ?_
    refine lv_icmp_eq (tgt := 26) hx hb dX4_round_20 (by decide) (fun hc => ?_) (fun hc => ?_)
    · replace h := h.1 hc
      refine lv_aload_n hx hb dX4_round_26 rfl (lv_at hl 1 rfl) ?_
      refine z_get (A d0) hZ (ci := 4) (j := 3) ho_x0.1 ho_x0.2 (by decide) (by decide) k_fl_RX4_27 (v := vr base (mR M3 x0 3)) (zv_dyn (zf4 ho_x0 rfl) rfl) dX4_round_27 ?_
      obtain ⟨r7, er7⟩ : ∃ y : Option Nat, y = mR M3 x0 3 := ⟨_, rfl⟩
      rw [← er7]
      replace h := h r7 er7
      refine lv_aload_n hx hb dX4_round_30 rfl (lv_at hl 0 rfl) ?_
      obtain ⟨a8, rfl, ho_a8, h⟩ := h
      refine z_callV A hd0 hZ (ci := 2) (nA := 1) (As := [vr base (some a5)]) (by decide) ho_a8 (c_X2_turnRounded l G base M3 a8 (some a5) _ h) k_ml_RX4_131 k_im_yX2_turnRounded k_se_yX2_turnRounded k_in_RX2 k_co_yX2_turnRounded (by decide +kernel) ⟨by decide, by decide⟩ rfl rfl (Nat.le_of_ble_eq_true rfl) hl dX4_round_31 (fun v M9 H locs d0 cells slots hq hd0 hZ hm => ?_)
      clear h
      obtain ⟨i10, rfl, h⟩ := hq
      have ho_x0 := isO_le hm ho_x0
      have ho_6 := isO_le hm ho_6
      refine lv_if_eq (tgt := 41) hx hb dX4_round_34 (by decide) (fun hc => ?_) (fun hc => ?_)
      · replace h := h.1 hc
        refine lv_iconst (v := (0 : Int32)) hx hb dX4_round_41 (by decide) ?_
        exact (zb_X4_round_42 A hr hd0 hZ (lv_sub hl [] rfl) h)
      · replace h := h.2 hc
        refine lv_iconst (v := (1 : Int32)) hx hb dX4_round_37 (by decide) ?_
        refine lv_goto (tgt := 42) hx hb dX4_round_38 (by decide) ?_
        exact (zb_X4_round_42 A hr hd0 hZ (lv_sub hl [] rfl) h)
    · replace h := h.2 hc
      refine lv_bipush (v := (-2 : Int32)) hx hb dX4_round_23 (by decide) ?_
      exact z_iret A hd0 hZ hr ⟨_, rfl, h⟩ dX4_round_25
  · replace h := h.1 hc
    subst hc
    refine lv_iconst (v := (-1 : Int32)) hx hb dX4_round_13 (by decide) ?_
    exact z_iret A hd0 hZ hr ⟨_, rfl, h⟩ dX4_round_14
/-! cX4_merge -/
set_option maxRecDepth 100000 in
set_option maxHeartbeats 4000000 in
theorem zb_X4_merge_17 {p : Program} {l : Launch} {e : Env} {R : Room} {s : State} {m : MethodId} {args : Array Value} {below : List Frame} {meth : Method} {c : Code} {G : ZG} {base z0 : Nat} {Q : Int32 → Mem → Prop} (A : ∀ d, Amb p R (s.setDrawn d) m args meth c G base z0 cX4_merge yX4_merge.cls 2 6 164) (hr : meth.sig.returnType = (some .int)) {d0 : Drawn} {H : Heap} {locs : List Loc} {cells slots : Nat} {ls : Array Slot}  {M : Mem} (hd0 : s.drawn.sameBut d0 lw_cs) (hZ : ZH G true base s.heap M H locs) (hl : lv_has ls 2 []) (h : wp_X4_merge_17 M Q) : W p l e R (s.setDrawn d0) m args below meth c H locs cells slots (ZEnd below G true base z0 (qI Q) args s) (F0 m 17 ls []) := by
  have hx := (A d0).1
  have hb := (A d0).2.1
  unfold wp_X4_merge_17 at h
  refine lv_iconst (v := (-1 : Int32)) hx hb dX4_merge_17 (by decide) ?_
  exact z_iret A hd0 hZ hr ⟨_, rfl, h⟩ dX4_merge_18
set_option maxRecDepth 100000 in
set_option maxHeartbeats 4000000 in
theorem c_X4_merge (l : Launch) (G : ZG) (base : Nat) (M : Mem) (x0 : Nat) (x1 : Int32) (Q : Int32 → Mem → Prop) (h : wp_X4_merge x0 x1 M Q) : ZMet l yX4_merge cX4_merge 2 (some .int) 6 164 G true base M [.ref (base + x0), .int x1] (qI Q) := by
  refine z_start (by decide) (Nat.le_of_ble_eq_true rfl) k_co_yX4_merge ?_
  intro p e s m below meth c R d0 H locs cells slots ls A hr hn hd0 hZ hl
  have hx := (A d0).1
  have hb := (A d0).2.1
  have hl : lv_has ls 2 [(0, .ref (base + x0)), (1, .int x1)] := hl
  unfold wp_X4_merge at h
  obtain ⟨ho_x0, h⟩ := h
  refine lv_iload_n hx hb dX4_merge_0 rfl (lv_at hl 1 rfl) ?_
  refine lv_if_lt (tgt := 17) hx hb dX4_merge_1 (by decide) (fun hc => ?_) (fun hc => ?_)
  · replace h := h.1 hc
    exact (zb_X4_merge_17 A hr hd0 hZ (lv_sub hl [] rfl) h)
  · replace h := h.2 hc
    refine lv_iload_n hx hb dX4_merge_4 rfl (lv_at hl 1 rfl) ?_
    refine lv_aload_n hx hb dX4_merge_5 rfl (lv_at hl 0 rfl) ?_
    refine z_get (A d0) hZ (ci := 4) (j := 3) ho_x0.1 ho_x0.2 (by decide) (by decide) k_fl_RX4_27 (v := vr base (mR M x0 3)) (zv_dyn (zf4 ho_x0 rfl) rfl) dX4_merge_6 ?_
    obtain ⟨r1, er1⟩ : ∃ y : Option Nat, y = mR M x0 3 := ⟨_, rfl⟩
    rw [← er1]
    replace h := h r1 er1
    obtain ⟨a2, rfl, ho_a2, h⟩ := h
    refine z_getN (A d0) hZ (ci := 2) (j := 6) ho_a2.1 ho_a2.2 (by decide) (by decide) k_fn_RX4_104 (v := .int (mI M a2 6)) rfl dX4_merge_9 ?_
    refine lv_iconst (v := (1 : Int32)) hx hb dX4_merge_12 (by decide) ?_
    refine lv_isub hx hb dX4_merge_13 ?_
    refine lv_icmp_lt (tgt := 19) hx hb dX4_merge_14 (by decide) (fun hc => ?_) (fun hc => ?_)
    · replace h := h.1 hc
      refine lv_aload_n hx hb dX4_merge_19 rfl (lv_at hl 0 rfl) ?_
      refine lv_iload_n hx hb dX4_merge_20 rfl (lv_at hl 1 rfl) ?_
      refine lv_iload_n hx hb dX4_merge_21 rfl (lv_at hl 1 rfl) ?_
      refine lv_iconst (v := (2 : Int32)) hx hb dX4_merge_22 (by decide) ?_
      refine lv_iadd hx hb dX4_merge_23 ?_
      refine lv_aload_n hx hb dX4_merge_24 rfl (lv_at hl 0 rfl) ?_
      refine z_get (A d0) hZ (ci := 4) (j := 3) ho_x0.1 ho_x0.2 (by decide) (by decide) k_fl_RX4_27 (v := vr base (mR M x0 3)) (zv_dyn (zf4 ho_x0 rfl) rfl) dX4_merge_25 ?_
      obtain ⟨r3, er3⟩ : ∃ y : Option Nat, y = mR M x0 3 := ⟨_, rfl⟩
      rw [← er3]
      replace h := h r3 er3
      refine lv_iload_n hx hb dX4_merge_28 rfl (lv_at hl 1 rfl) ?_
      refine lv_iload_n hx hb dX4_merge_29 rfl (lv_at hl 1 rfl) ?_
      refine lv_iconst (v := (2 : Int32)) hx hb dX4_merge_30 (by decide) ?_
      refine lv_iadd hx hb dX4_merge_31 ?_
      refine lv_aload_n hx hb dX4_merge_32 rfl (lv_at hl 0 rfl) ?_
      refine z_get (A d0) hZ (ci := 4) (j := 13) ho_x0.1 ho_x0.2 (by decide) (by decide) k_fl_RX4_67 (v := .ref (base + 18)) (zv_fin (zf4 ho_x0 rfl) rfl) dX4_merge_33 ?_
      obtain ⟨a4, rfl, ho_a4, h⟩ := h
      refine z_callV A hd0 hZ (ci := 2) (nA := 3) (As := [.int x1, .int (x1 + (2 : Int32)), vr base (some 18)]) (by decide) ho_a4 (c_X2_gather l G base M a4 x1 (x1 + (2 : Int32)) (some 18) _ h) k_ml_RX4_135 k_im_yX2_gather k_se_yX2_gather k_in_RX2 k_co_yX2_gather (by decide +kernel) ⟨by decide, by decide⟩ rfl rfl (Nat.le_of_ble_eq_true rfl) hl dX4_merge_36 (fun v M5 H locs d0 cells slots hq hd0 hZ hm => ?_)
      clear h
      obtain ⟨i6, rfl, h⟩ := hq
      have ho_x0 := isO_le hm ho_x0
      refine lv_iconst (v := (1 : Int32)) hx hb dX4_merge_39 (by decide) ?_
      refine z_callV A hd0 hZ (ci := 4) (nA := 4) (As := [.int x1, .int (x1 + (2 : Int32)), .int i6, .int (1 : Int32)]) (by decide) ho_x0 (c_X4_replace l G base M5 x0 x1 (x1 + (2 : Int32)) i6 (1 : Int32) _ h) k_ml_RX4_107 k_im_yX4_replace k_se_yX4_replace k_in_RX4 k_co_yX4_replace (by decide +kernel) ⟨by decide, by decide⟩ rfl rfl (Nat.le_of_ble_eq_true rfl) hl dX4_merge_40 (fun v M7 H locs d0 cells slots hq hd0 hZ hm => ?_)
      clear h
      obtain ⟨i8, rfl, h⟩ := hq
      have ho_x0 := isO_le hm ho_x0
      exact z_iret A hd0 hZ hr ⟨_, rfl, h⟩ dX4_merge_43
    · replace h := h.2 hc
      exact (zb_X4_merge_17 A hr hd0 hZ (lv_sub hl [] rfl) h)
/-! cX4_find -/
set_option maxRecDepth 100000 in
set_option maxHeartbeats 4000000 in
theorem c_X4_find (l : Launch) (G : ZG) (base : Nat) (M : Mem) (x0 : Nat) (x1 : Int64) (Q : Int32 → Mem → Prop) (h : wp_X4_find x0 x1 M Q) : ZMet l yX4_find cX4_find 3 (some .int) 4 103 G true base M [.ref (base + x0), .long x1] (qI Q) := by
  refine z_start (by decide) (Nat.le_of_ble_eq_true rfl) k_co_yX4_find ?_
  intro p e s m below meth c R d0 H locs cells slots ls A hr hn hd0 hZ hl
  have hx := (A d0).1
  have hb := (A d0).2.1
  have hl : lv_has ls 3 [(0, .ref (base + x0)), (1, .long x1)] := hl
  unfold wp_X4_find at h
  obtain ⟨ho_x0, h⟩ := h
  refine lv_aload_n hx hb dX4_find_0 rfl (lv_at hl 0 rfl) ?_
  refine z_callV A hd0 hZ (ci := 4) (nA := 0) (As := []) (by decide) ho_x0 (c_X4_hasIndex l G base M x0 _ h) k_ml_RX4_111 k_im_yX4_hasIndex k_se_yX4_hasIndex k_in_RX4 k_co_yX4_hasIndex (by decide +kernel) ⟨by decide, by decide⟩ rfl rfl (Nat.le_of_ble_eq_true rfl) hl dX4_find_1 (fun v M1 H locs d0 cells slots hq hd0 hZ hm => ?_)
  clear h
  obtain ⟨i2, rfl, h⟩ := hq
  have ho_x0 := isO_le hm ho_x0
  refine lv_if_ne (tgt := 9) hx hb dX4_find_4 (by decide) (fun hc => ?_) (fun hc => ?_)
  · replace h := h.1 hc
    refine lv_lload_n hx hb dX4_find_9 rfl (lv_at hl 1 rfl) ?_
    refine z_callS A hd0 hZ (nA := 1) (As := [.long x1]) (c_X4_isKey l G base M1 x1 _ h) k_ml_RX4_70 k_st_yX4_isKey k_in_RX4 k_co_yX4_isKey (by decide +kernel) ⟨by decide, by decide⟩ rfl rfl (Nat.le_of_ble_eq_true rfl) hl dX4_find_10 (fun v M3 H locs d0 cells slots hq hd0 hZ hm => ?_)
    clear h
    obtain ⟨i4, rfl, h⟩ := hq
    have ho_x0 := isO_le hm ho_x0
    refine lv_if_ne (tgt := 19) hx hb dX4_find_13 (by decide) (fun hc => ?_) (fun hc => ?_)
    · replace h := h.1 hc
      refine lv_aload_n hx hb dX4_find_19 rfl (lv_at hl 0 rfl) ?_
      refine z_get (A d0) hZ (ci := 4) (j := 10) ho_x0.1 ho_x0.2 (by decide) (by decide) k_fl_RX4_53 (v := .ref (base + 13)) (zv_fin (zf4 ho_x0 rfl) rfl) dX4_find_20 ?_
      refine lv_lload_n hx hb dX4_find_23 rfl (lv_at hl 1 rfl) ?_
      refine lv_aload_n hx hb dX4_find_24 rfl (lv_at hl 0 rfl) ?_
      refine z_get (A d0) hZ (ci := 4) (j := 3) ho_x0.1 ho_x0.2 (by decide) (by decide) k_fl_RX4_27 (v := vr base (mR M3 x0 3)) (zv_dyn (zf4 ho_x0 rfl) rfl) dX4_find_25 ?_
      obtain ⟨r5, er5⟩ : ∃ y : Option Nat, y = mR M3 x0 3 := ⟨_, rfl⟩
      rw [← er5]
      replace h := h r5 er5
      refine lv_aload_n hx hb dX4_find_28 rfl (lv_at hl 0 rfl) ?_
      refine z_get (A d0) hZ (ci := 4) (j := 5) ho_x0.1 ho_x0.2 (by decide) (by decide) k_fl_RX4_34 (v := .ref (base + 12)) (zv_fin (zf4 ho_x0 rfl) rfl) dX4_find_29 ?_
      refine lv_aload_n hx hb dX4_find_32 rfl (lv_at hl 0 rfl) ?_
      refine z_get (A d0) hZ (ci := 4) (j := 6) ho_x0.1 ho_x0.2 (by decide) (by decide) k_fl_RX4_38 (v := .int (mI M3 x0 6)) rfl dX4_find_33 ?_
      refine z_callV A hd0 hZ (ci := 3) (nA := 4) (As := [.long x1, vr base r5, vr base (some 12), .int (mI M3 x0 6)]) (by decide) (isO_c (a := 13) hZ.k0 (by decide) rfl) (c_X3_follow l G base M3 13 x1 r5 (some 12) (mI M3 x0 6) _ h) k_ml_RX4_157 k_im_yX3_follow k_se_yX3_follow k_in_RX3 k_co_yX3_follow (by decide +kernel) ⟨by decide, by decide⟩ rfl rfl (Nat.le_of_ble_eq_true rfl) hl dX4_find_36 (fun v M6 H locs d0 cells slots hq hd0 hZ hm => ?_)
      clear h
      obtain ⟨rfl, h⟩ := hq
      have ho_x0 := isO_le hm ho_x0
      refine lv_aload_n hx hb dX4_find_39 rfl (lv_at hl 0 rfl) ?_
      refine z_get (A d0) hZ (ci := 4) (j := 10) ho_x0.1 ho_x0.2 (by decide) (by decide) k_fl_RX4_53 (v := .ref (base + 13)) (zv_fin (zf4 ho_x0 rfl) rfl) dX4_find_40 ?_
      refine z_getN (A d0) hZ (ci := 3) (j := 3) (isO_c (a := 13) hZ.k0 (by decide) rfl).1 (isO_c (a := 13) hZ.k0 (by decide) rfl).2 (by decide) (by decide) k_fn_RX4_161 (v := .int (mI M6 13 3)) rfl dX4_find_43 ?_
      exact z_iret A hd0 hZ hr ⟨_, rfl, h⟩ dX4_find_46
    · replace h := h.2 hc
      refine lv_bipush (v := (-2 : Int32)) hx hb dX4_find_16 (by decide) ?_
      exact z_iret A hd0 hZ hr ⟨_, rfl, h⟩ dX4_find_18
  · replace h := h.2 hc
    refine lv_iconst (v := (-1 : Int32)) hx hb dX4_find_7 (by decide) ?_
    exact z_iret A hd0 hZ hr ⟨_, rfl, h⟩ dX4_find_8
/-! cX4_insert -/
set_option maxRecDepth 100000 in
set_option maxHeartbeats 4000000 in
theorem zb_X4_insert_72 {p : Program} {l : Launch} {e : Env} {R : Room} {s : State} {m : MethodId} {args : Array Value} {below : List Frame} {meth : Method} {c : Code} {G : ZG} {base z0 : Nat} {Q : Int32 → Mem → Prop} (A : ∀ d, Amb p R (s.setDrawn d) m args meth c G base z0 cX4_insert yX4_insert.cls 4 6 164) (hr : meth.sig.returnType = (some .int)) {d0 : Drawn} {H : Heap} {locs : List Loc} {cells slots : Nat} {ls : Array Slot}  {M : Mem} (hd0 : s.drawn.sameBut d0 lw_cs) (hZ : ZH G true base s.heap M H locs) (hl : lv_has ls 4 []) (h : wp_X4_insert_72 M Q) : W p l e R (s.setDrawn d0) m args below meth c H locs cells slots (ZEnd below G true base z0 (qI Q) args s) (F0 m 72 ls []) := by
  have hx := (A d0).1
  have hb := (A d0).2.1
  unfold wp_X4_insert_72 at h
  refine lv_bipush (v := (-3 : Int32)) hx hb dX4_insert_72 (by decide) ?_
  exact z_iret A hd0 hZ hr ⟨_, rfl, h⟩ dX4_insert_74
set_option maxRecDepth 100000 in
set_option maxHeartbeats 4000000 in
theorem zb_X4_insert_169 {p : Program} {l : Launch} {e : Env} {R : Room} {s : State} {m : MethodId} {args : Array Value} {below : List Frame} {meth : Method} {c : Code} {G : ZG} {base z0 : Nat} {Q : Int32 → Mem → Prop} (A : ∀ d, Amb p R (s.setDrawn d) m args meth c G base z0 cX4_insert yX4_insert.cls 4 6 164) (hr : meth.sig.returnType = (some .int)) {d0 : Drawn} {H : Heap} {locs : List Loc} {cells slots : Nat} {ls : Array Slot}  {M : Mem} (hd0 : s.drawn.sameBut d0 lw_cs) (hZ : ZH G true base s.heap M H locs) (hl : lv_has ls 4 []) (h : wp_X4_insert_169 M Q) : W p l e R (s.setDrawn d0) m args below meth c H locs cells slots (ZEnd below G true base z0 (qI Q) args s) (F0 m 169 ls []) := by
  have hx := (A d0).1
  have hb := (A d0).2.1
  unfold wp_X4_insert_169 at h
  refine lv_iconst (v := (1 : Int32)) hx hb dX4_insert_169 (by decide) ?_
  exact z_iret A hd0 hZ hr ⟨_, rfl, h⟩ dX4_insert_170
set_option maxRecDepth 100000 in
set_option maxHeartbeats 4000000 in
theorem c_X4_insert (l : Launch) (G : ZG) (base : Nat) (M : Mem) (x0 : Nat) (x1 : Int64) (Q : Int32 → Mem → Prop) (h : wp_X4_insert x0 x1 M Q) : ZMet l yX4_insert cX4_insert 4 (some .int) 6 164 G true base M [.ref (base + x0), .long x1] (qI Q) := by
  refine z_start (by decide) (Nat.le_of_ble_eq_true rfl) k_co_yX4_insert ?_
  intro p e s m below meth c R d0 H locs cells slots ls A hr hn hd0 hZ hl
  have hx := (A d0).1
  have hb := (A d0).2.1
  have hl : lv_has ls 4 [(0, .ref (base + x0)), (1, .long x1)] := hl
  unfold wp_X4_insert at h
  obtain ⟨ho_x0, h⟩ := h
  refine lv_aload_n hx hb dX4_insert_0 rfl (lv_at hl 0 rfl) ?_
  refine z_callV A hd0 hZ (ci := 4) (nA := 0) (As := []) (by decide) ho_x0 (c_X4_hasIndex l G base M x0 _ h) k_ml_RX4_111 k_im_yX4_hasIndex k_se_yX4_hasIndex k_in_RX4 k_co_yX4_hasIndex (by decide +kernel) ⟨by decide, by decide⟩ rfl rfl (Nat.le_of_ble_eq_true rfl) hl dX4_insert_1 (fun v M1 H locs d0 cells slots hq hd0 hZ hm => ?_)
  clear h
  obtain ⟨i2, rfl, h⟩ := hq
  have ho_x0 := isO_le hm ho_x0
  refine lv_if_ne (tgt := 9) hx hb dX4_insert_4 (by decide) (fun hc => ?_) (fun hc => ?_)
  · replace h := h.1 hc
    refine lv_lload_n hx hb dX4_insert_9 rfl (lv_at hl 1 rfl) ?_
    refine z_callS A hd0 hZ (nA := 1) (As := [.long x1]) (c_X4_isKey l G base M1 x1 _ h) k_ml_RX4_70 k_st_yX4_isKey k_in_RX4 k_co_yX4_isKey (by decide +kernel) ⟨by decide, by decide⟩ rfl rfl (Nat.le_of_ble_eq_true rfl) hl dX4_insert_10 (fun v M3 H locs d0 cells slots hq hd0 hZ hm => ?_)
    clear h
    obtain ⟨i4, rfl, h⟩ := hq
    have ho_x0 := isO_le hm ho_x0
    refine lv_if_ne (tgt := 19) hx hb dX4_insert_13 (by decide) (fun hc => ?_) (fun hc => ?_)
    · replace h := h.1 hc
      refine lv_aload_n hx hb dX4_insert_19 rfl (lv_at hl 0 rfl) ?_
      refine z_get (A d0) hZ (ci := 4) (j := 11) ho_x0.1 ho_x0.2 (by decide) (by decide) k_fl_RX4_57 (v := .ref (base + 15)) (zv_fin (zf4 ho_x0 rfl) rfl) dX4_insert_20 ?_
      refine lv_lload_n hx hb dX4_insert_23 rfl (lv_at hl 1 rfl) ?_
      refine lv_aload_n hx hb dX4_insert_24 rfl (lv_at hl 0 rfl) ?_
      refine z_get (A d0) hZ (ci := 4) (j := 3) ho_x0.1 ho_x0.2 (by decide) (by decide) k_fl_RX4_27 (v := vr base (mR M3 x0 3)) (zv_dyn (zf4 ho_x0 rfl) rfl) dX4_insert_25 ?_
      obtain ⟨r5, er5⟩ : ∃ y : Option Nat, y = mR M3 x0 3 := ⟨_, rfl⟩
      rw [← er5]
      replace h := h r5 er5
      refine lv_aload_n hx hb dX4_insert_28 rfl (lv_at hl 0 rfl) ?_
      refine z_get (A d0) hZ (ci := 4) (j := 5) ho_x0.1 ho_x0.2 (by decide) (by decide) k_fl_RX4_34 (v := .ref (base + 12)) (zv_fin (zf4 ho_x0 rfl) rfl) dX4_insert_29 ?_
      refine lv_aload_n hx hb dX4_insert_32 rfl (lv_at hl 0 rfl) ?_
      refine z_get (A d0) hZ (ci := 4) (j := 6) ho_x0.1 ho_x0.2 (by decide) (by decide) k_fl_RX4_38 (v := .int (mI M3 x0 6)) rfl dX4_insert_33 ?_
      refine z_callV A hd0 hZ (ci := 3) (nA := 4) (As := [.long x1, vr base r5, vr base (some 12), .int (mI M3 x0 6)]) (by decide) (isO_c (a := 15) hZ.k0 (by decide) rfl) (c_X3_follow l G base M3 15 x1 r5 (some 12) (mI M3 x0 6) _ h) k_ml_RX4_157 k_im_yX3_follow k_se_yX3_follow k_in_RX3 k_co_yX3_follow (by decide +kernel) ⟨by decide, by decide⟩ rfl rfl (Nat.le_of_ble_eq_true rfl) hl dX4_insert_36 (fun v M6 H locs d0 cells slots hq hd0 hZ hm => ?_)
      clear h
      obtain ⟨rfl, h⟩ := hq
      have ho_x0 := isO_le hm ho_x0
      refine lv_aload_n hx hb dX4_insert_39 rfl (lv_at hl 0 rfl) ?_
      refine z_get (A d0) hZ (ci := 4) (j := 11) ho_x0.1 ho_x0.2 (by decide) (by decide) k_fl_RX4_57 (v := .ref (base + 15)) (zv_fin (zf4 ho_x0 rfl) rfl) dX4_insert_40 ?_
      refine z_getN (A d0) hZ (ci := 3) (j := 3) (isO_c (a := 15) hZ.k0 (by decide) rfl).1 (isO_c (a := 15) hZ.k0 (by decide) rfl).2 (by decide) (by decide) k_fn_RX4_161 (v := .int (mI M6 15 3)) rfl dX4_insert_43 ?_
      refine lv_iconst (v := (1 : Int32)) hx hb dX4_insert_46 (by decide) ?_
      refine lv_icmp_ne (tgt := 52) hx hb dX4_insert_47 (by decide) (fun hc => ?_) (fun hc => ?_)
      · replace h := h.1 hc
        refine lv_aload_n hx hb dX4_insert_52 rfl (lv_at hl 0 rfl) ?_
        refine z_get (A d0) hZ (ci := 4) (j := 7) ho_x0.1 ho_x0.2 (by decide) (by decide) k_fl_RX4_41 (v := .int (mI M6 x0 7)) rfl dX4_insert_53 ?_
        refine lv_sipush (v := (300 : Int32)) hx hb dX4_insert_56 (by decide) ?_
        refine lv_icmp_ge (tgt := 72) hx hb dX4_insert_59 (by decide) (fun hc => ?_) (fun hc => ?_)
        · replace h := h.1 hc
          exact (zb_X4_insert_72 A hr hd0 hZ (lv_sub hl [] rfl) h)
        · replace h := h.2 hc
          refine lv_aload_n hx hb dX4_insert_62 rfl (lv_at hl 0 rfl) ?_
          refine z_get (A d0) hZ (ci := 4) (j := 3) ho_x0.1 ho_x0.2 (by decide) (by decide) k_fl_RX4_27 (v := vr base (mR M6 x0 3)) (zv_dyn (zf4 ho_x0 rfl) rfl) dX4_insert_63 ?_
          obtain ⟨r7, er7⟩ : ∃ y : Option Nat, y = mR M6 x0 3 := ⟨_, rfl⟩
          rw [← er7]
          replace h := h r7 er7
          obtain ⟨a8, rfl, ho_a8, h⟩ := h
          refine z_callV A hd0 hZ (ci := 2) (nA := 0) (As := []) (by decide) ho_a8 (c_X2_isFull l G base M6 a8 _ h) k_ml_RX4_164 k_im_yX2_isFull k_se_yX2_isFull k_in_RX2 k_co_yX2_isFull (by decide +kernel) ⟨by decide, by decide⟩ rfl rfl (Nat.le_of_ble_eq_true rfl) hl dX4_insert_66 (fun v M9 H locs d0 cells slots hq hd0 hZ hm => ?_)
          clear h
          obtain ⟨i10, rfl, h⟩ := hq
          have ho_x0 := isO_le hm ho_x0
          refine lv_if_eq (tgt := 75) hx hb dX4_insert_69 (by decide) (fun hc => ?_) (fun hc => ?_)
          · replace h := h.1 hc
            refine lv_aload_n hx hb dX4_insert_75 rfl (lv_at hl 0 rfl) ?_
            refine lv_dup hx hb dX4_insert_76 rfl ?_
            refine z_get (A d0) hZ (ci := 4) (j := 7) ho_x0.1 ho_x0.2 (by decide) (by decide) k_fl_RX4_41 (v := .int (mI M9 x0 7)) rfl dX4_insert_77 ?_
            refine lv_iconst (v := (1 : Int32)) hx hb dX4_insert_80 (by decide) ?_
            refine lv_iadd hx hb dX4_insert_81 ?_
            obtain ⟨M11, eM11⟩ : ∃ y : Mem, y = sI M9 x0 7 ((mI M9 x0 7) + (1 : Int32)) := ⟨_, rfl⟩
            refine z_put (A d0) hZ (ci := 4) (j := 7) (M' := M11) ho_x0.1 ho_x0.2 (by decide) (by decide) k_fl_RX4_41 rfl (by rw [eM11]; exact zUpd_I) rfl rfl dX4_insert_82 (fun H locs hZ => ?_)
            have hm : mz M11 = mz M9 := by rw [eM11] <;> rfl
            have ho_x0 := isO_le (Nat.le_of_eq hm.symm) ho_x0
            replace h := h M11 eM11
            refine lv_aload_n hx hb dX4_insert_85 rfl (lv_at hl 0 rfl) ?_
            refine z_get (A d0) hZ (ci := 4) (j := 3) ho_x0.1 ho_x0.2 (by decide) (by decide) k_fl_RX4_27 (v := vr base (mR M11 x0 3)) (zv_dyn (zf4 ho_x0 rfl) rfl) dX4_insert_86 ?_
            obtain ⟨r12, er12⟩ : ∃ y : Option Nat, y = mR M11 x0 3 := ⟨_, rfl⟩
            rw [← er12]
            replace h := h r12 er12
            refine lv_aload_n hx hb dX4_insert_89 rfl (lv_at hl 0 rfl) ?_
            refine z_get (A d0) hZ (ci := 4) (j := 11) ho_x0.1 ho_x0.2 (by decide) (by decide) k_fl_RX4_57 (v := .ref (base + 15)) (zv_fin (zf4 ho_x0 rfl) rfl) dX4_insert_90 ?_
            refine z_getN (A d0) hZ (ci := 3) (j := 5) (isO_c (a := 15) hZ.k0 (by decide) rfl).1 (isO_c (a := 15) hZ.k0 (by decide) rfl).2 (by decide) (by decide) k_fn_RX4_167 (v := .int (mI M11 15 5)) rfl dX4_insert_93 ?_
            refine lv_lload_n hx hb dX4_insert_96 rfl (lv_at hl 1 rfl) ?_
            obtain ⟨a13, rfl, ho_a13, h⟩ := h
            refine z_callV A hd0 hZ (ci := 2) (nA := 2) (As := [.int (mI M11 15 5), .long x1]) (by decide) ho_a13 (c_X2_restore l G base M11 a13 (mI M11 15 5) x1 _ h) k_ml_RX4_170 k_im_yX2_restore k_se_yX2_restore k_in_RX2 k_co_yX2_restore (by decide +kernel) ⟨by decide, by decide⟩ rfl rfl (Nat.le_of_ble_eq_true rfl) hl dX4_insert_97 (fun v M14 H locs d0 cells slots hq hd0 hZ hm => ?_)
            clear h
            obtain ⟨i15, rfl, h⟩ := hq
            have ho_x0 := isO_le hm ho_x0
            refine lv_if_eq (tgt := 105) hx hb dX4_insert_100 (by decide) (fun hc => ?_) (fun hc => ?_)
            · replace h := h.1 hc
              refine lv_aload_n hx hb dX4_insert_105 rfl (lv_at hl 0 rfl) ?_
              refine z_get (A d0) hZ (ci := 4) (j := 11) ho_x0.1 ho_x0.2 (by decide) (by decide) k_fl_RX4_57 (v := .ref (base + 15)) (zv_fin (zf4 ho_x0 rfl) rfl) dX4_insert_106 ?_
              refine z_getN (A d0) hZ (ci := 3) (j := 4) (isO_c (a := 15) hZ.k0 (by decide) rfl).1 (isO_c (a := 15) hZ.k0 (by decide) rfl).2 (by decide) (by decide) k_fn_RX4_174 (v := .int (mI M14 15 4)) rfl dX4_insert_109 ?_
              obtain ⟨i16, ei16⟩ : ∃ y : Int32, y = mI M14 15 4 := ⟨_, rfl⟩
              rw [← ei16]
              replace h := h i16 ei16
              refine lv_istore_n (lv' := [(3, .int i16), (0, .ref (base + x0)), (1, .long x1)]) hx hb dX4_insert_112 rfl hl (by decide) rfl (fun ls hl2 => ?_)
              replace hl := hl2
              refine lv_aload_n hx hb dX4_insert_113 rfl (lv_at hl 1 rfl) ?_
              refine z_get (A d0) hZ (ci := 4) (j := 3) ho_x0.1 ho_x0.2 (by decide) (by decide) k_fl_RX4_27 (v := vr base (mR M14 x0 3)) (zv_dyn (zf4 ho_x0 rfl) rfl) dX4_insert_114 ?_
              obtain ⟨r17, er17⟩ : ∃ y : Option Nat, y = mR M14 x0 3 := ⟨_, rfl⟩
              rw [← er17]
              replace h := h r17 er17
              refine lv_iload_n hx hb dX4_insert_117 rfl (lv_at hl 0 rfl) ?_
              refine lv_aload_n hx hb dX4_insert_118 rfl (lv_at hl 1 rfl) ?_
              refine z_get (A d0) hZ (ci := 4) (j := 11) ho_x0.1 ho_x0.2 (by decide) (by decide) k_fl_RX4_57 (v := .ref (base + 15)) (zv_fin (zf4 ho_x0 rfl) rfl) dX4_insert_119 ?_
              refine z_getN (A d0) hZ (ci := 3) (j := 6) (isO_c (a := 15) hZ.k0 (by decide) rfl).1 (isO_c (a := 15) hZ.k0 (by decide) rfl).2 (by decide) (by decide) k_fn_RX4_177 (v := .int (mI M14 15 6)) rfl dX4_insert_122 ?_
              refine lv_lload_n hx hb dX4_insert_125 rfl (lv_at hl 2 rfl) ?_
              obtain ⟨a18, rfl, ho_a18, h⟩ := h
              refine z_callV A hd0 hZ (ci := 2) (nA := 3) (As := [.int i16, .int (mI M14 15 6), .long x1]) (by decide) ho_a18 (c_X2_putLate l G base M14 a18 i16 (mI M14 15 6) x1 _ h) k_ml_RX4_180 k_im_yX2_putLate k_se_yX2_putLate k_in_RX2 k_co_yX2_putLate (by decide +kernel) ⟨by decide, by decide⟩ rfl rfl (Nat.le_of_ble_eq_true rfl) hl dX4_insert_126 (fun v M19 H locs d0 cells slots hq hd0 hZ hm => ?_)
              clear h
              obtain ⟨i20, rfl, h⟩ := hq
              have ho_x0 := isO_le hm ho_x0
              refine lv_bipush (v := (15 : Int32)) hx hb dX4_insert_129 (by decide) ?_
              refine lv_icmp_le (tgt := 169) hx hb dX4_insert_131 (by decide) (fun hc => ?_) (fun hc => ?_)
              · replace h := h.1 hc
                exact (zb_X4_insert_169 A hr hd0 hZ (lv_sub hl [] rfl) h)
              · replace h := h.2 hc
                refine lv_aload_n hx hb dX4_insert_134 rfl (lv_at hl 1 rfl) ?_
                refine lv_dup hx hb dX4_insert_135 rfl ?_
                refine z_get (A d0) hZ (ci := 4) (j := 9) ho_x0.1 ho_x0.2 (by decide) (by decide) k_fl_RX4_47 (v := .int (mI M19 x0 9)) rfl dX4_insert_136 ?_
                refine lv_iconst (v := (1 : Int32)) hx hb dX4_insert_139 (by decide) ?_
                refine lv_iadd hx hb dX4_insert_140 ?_
                obtain ⟨M21, eM21⟩ : ∃ y : Mem, y = sI M19 x0 9 ((mI M19 x0 9) + (1 : Int32)) := ⟨_, rfl⟩
                refine z_put (A d0) hZ (ci := 4) (j := 9) (M' := M21) ho_x0.1 ho_x0.2 (by decide) (by decide) k_fl_RX4_47 rfl (by rw [eM21]; exact zUpd_I) rfl rfl dX4_insert_141 (fun H locs hZ => ?_)
                have hm : mz M21 = mz M19 := by rw [eM21] <;> rfl
                have ho_x0 := isO_le (Nat.le_of_eq hm.symm) ho_x0
                replace h := h M21 eM21
                refine lv_aload_n hx hb dX4_insert_144 rfl (lv_at hl 1 rfl) ?_
                refine lv_iload_n hx hb dX4_insert_145 rfl (lv_at hl 0 rfl) ?_
                refine lv_iload_n hx hb dX4_insert_146 rfl (lv_at hl 0 rfl) ?_
                refine lv_iconst (v := (1 : Int32)) hx hb dX4_insert_147 (by decide) ?_
                refine lv_iadd hx hb dX4_insert_148 ?_
                refine lv_aload_n hx hb dX4_insert_149 rfl (lv_at hl 1 rfl) ?_
                refine z_get (A d0) hZ (ci := 4) (j := 3) ho_x0.1 ho_x0.2 (by decide) (by decide) k_fl_RX4_27 (v := vr base (mR M21 x0 3)) (zv_dyn (zf4 ho_x0 rfl) rfl) dX4_insert_150 ?_
                obtain ⟨r22, er22⟩ : ∃ y : Option Nat, y = mR M21 x0 3 := ⟨_, rfl⟩
                rw [← er22]
                replace h := h r22 er22
                refine lv_iload_n hx hb dX4_insert_153 rfl (lv_at hl 0 rfl) ?_
                refine lv_iload_n hx hb dX4_insert_154 rfl (lv_at hl 0 rfl) ?_
                refine lv_iconst (v := (1 : Int32)) hx hb dX4_insert_155 (by decide) ?_
                refine lv_iadd hx hb dX4_insert_156 ?_
                refine lv_aload_n hx hb dX4_insert_157 rfl (lv_at hl 1 rfl) ?_
                refine z_get (A d0) hZ (ci := 4) (j := 13) ho_x0.1 ho_x0.2 (by decide) (by decide) k_fl_RX4_67 (v := .ref (base + 18)) (zv_fin (zf4 ho_x0 rfl) rfl) dX4_insert_158 ?_
                obtain ⟨a23, rfl, ho_a23, h⟩ := h
                refine z_callV A hd0 hZ (ci := 2) (nA := 3) (As := [.int i16, .int (i16 + (1 : Int32)), vr base (some 18)]) (by decide) ho_a23 (c_X2_gather l G base M21 a23 i16 (i16 + (1 : Int32)) (some 18) _ h) k_ml_RX4_135 k_im_yX2_gather k_se_yX2_gather k_in_RX2 k_co_yX2_gather (by decide +kernel) ⟨by decide, by decide⟩ rfl rfl (Nat.le_of_ble_eq_true rfl) hl dX4_insert_161 (fun v M24 H locs d0 cells slots hq hd0 hZ hm => ?_)
                clear h
                obtain ⟨i25, rfl, h⟩ := hq
                have ho_x0 := isO_le hm ho_x0
                refine lv_iconst (v := (1 : Int32)) hx hb dX4_insert_164 (by decide) ?_
                refine z_callV A hd0 hZ (ci := 4) (nA := 4) (As := [.int i16, .int (i16 + (1 : Int32)), .int i25, .int (1 : Int32)]) (by decide) ho_x0 (c_X4_replace l G base M24 x0 i16 (i16 + (1 : Int32)) i25 (1 : Int32) _ h) k_ml_RX4_107 k_im_yX4_replace k_se_yX4_replace k_in_RX4 k_co_yX4_replace (by decide +kernel) ⟨by decide, by decide⟩ rfl rfl (Nat.le_of_ble_eq_true rfl) hl dX4_insert_165 (fun v M26 H locs d0 cells slots hq hd0 hZ hm => ?_)
                clear h
                obtain ⟨i27, rfl, h⟩ := hq
                have ho_x0 := isO_le hm ho_x0
                refine lv_pop hx hb dX4_insert_168 rfl ?_
                exact (zb_X4_insert_169 A hr hd0 hZ (lv_sub hl [] rfl) h)
            · replace h := h.2 hc
              refine lv_iconst (v := (1 : Int32)) hx hb dX4_insert_103 (by decide) ?_
              exact z_iret A hd0 hZ hr ⟨_, rfl, h⟩ dX4_insert_104
          · replace h := h.2 hc
            exact (zb_X4_insert_72 A hr hd0 hZ (lv_sub hl [] rfl) h)
      · replace h := h.2 hc
        refine lv_iconst (v := (0 : Int32)) hx hb dX4_insert_50 (by decide) ?_
        exact z_iret A hd0 hZ hr ⟨_, rfl, h⟩ dX4_insert_51
    · replace h := h.2 hc
      refine lv_bipush (v := (-2 : Int32)) hx hb dX4_insert_16 (by decide) ?_
      exact z_iret A hd0 hZ hr ⟨_, rfl, h⟩ dX4_insert_18
  · replace h := h.2 hc
    refine lv_iconst (v := (-1 : Int32)) hx hb dX4_insert_7 (by decide) ?_
    exact z_iret A hd0 hZ hr ⟨_, rfl, h⟩ dX4_insert_8
/-! cX4_drop -/
set_option maxRecDepth 100000 in
set_option maxHeartbeats 4000000 in
theorem zb_X4_drop_109 {p : Program} {l : Launch} {e : Env} {R : Room} {s : State} {m : MethodId} {args : Array Value} {below : List Frame} {meth : Method} {c : Code} {G : ZG} {base z0 : Nat} {Q : Int32 → Mem → Prop} (A : ∀ d, Amb p R (s.setDrawn d) m args meth c G base z0 cX4_drop yX4_drop.cls 3 4 103) (hr : meth.sig.returnType = (some .int)) {d0 : Drawn} {H : Heap} {locs : List Loc} {cells slots : Nat} {ls : Array Slot} {x0 : Nat} {M : Mem} (ho_x0 : isO M x0 4) (hd0 : s.drawn.sameBut d0 lw_cs) (hZ : ZH G true base s.heap M H locs) (hl : lv_has ls 3 [(0, .ref (base + x0))]) (h : wp_X4_drop_109 x0 M Q) : W p l e R (s.setDrawn d0) m args below meth c H locs cells slots (ZEnd below G true base z0 (qI Q) args s) (F0 m 109 ls []) := by
  have hx := (A d0).1
  have hb := (A d0).2.1
  unfold wp_X4_drop_109 at h
  refine lv_aload_n hx hb dX4_drop_109 rfl (lv_at hl 0 rfl) ?_
  refine lv_dup hx hb dX4_drop_110 rfl ?_
  refine z_get (A d0) hZ (ci := 4) (j := 7) ho_x0.1 ho_x0.2 (by decide) (by decide) k_fl_RX4_41 (v := .int (mI M x0 7)) rfl dX4_drop_111 ?_
  refine lv_iconst (v := (1 : Int32)) hx hb dX4_drop_114 (by decide) ?_
  refine lv_isub hx hb dX4_drop_115 ?_
  obtain ⟨M1, eM1⟩ : ∃ y : Mem, y = sI M x0 7 ((mI M x0 7) - (1 : Int32)) := ⟨_, rfl⟩
  refine z_put (A d0) hZ (ci := 4) (j := 7) (M' := M1) ho_x0.1 ho_x0.2 (by decide) (by decide) k_fl_RX4_41 rfl (by rw [eM1]; exact zUpd_I) rfl rfl dX4_drop_116 (fun H locs hZ => ?_)
  have hm : mz M1 = mz M := by rw [eM1] <;> rfl
  have ho_x0 := isO_le (Nat.le_of_eq hm.symm) ho_x0
  replace h := h M1 eM1
  refine lv_iconst (v := (1 : Int32)) hx hb dX4_drop_119 (by decide) ?_
  exact z_iret A hd0 hZ hr ⟨_, rfl, h⟩ dX4_drop_120
set_option maxRecDepth 100000 in
set_option maxHeartbeats 4000000 in
theorem c_X4_drop (l : Launch) (G : ZG) (base : Nat) (M : Mem) (x0 : Nat) (x1 : Int64) (Q : Int32 → Mem → Prop) (h : wp_X4_drop x0 x1 M Q) : ZMet l yX4_drop cX4_drop 3 (some .int) 4 103 G true base M [.ref (base + x0), .long x1] (qI Q) := by
  refine z_start (by decide) (Nat.le_of_ble_eq_true rfl) k_co_yX4_drop ?_
  intro p e s m below meth c R d0 H locs cells slots ls A hr hn hd0 hZ hl
  have hx := (A d0).1
  have hb := (A d0).2.1
  have hl : lv_has ls 3 [(0, .ref (base + x0)), (1, .long x1)] := hl
  unfold wp_X4_drop at h
  obtain ⟨ho_x0, h⟩ := h
  refine lv_aload_n hx hb dX4_drop_0 rfl (lv_at hl 0 rfl) ?_
  refine z_callV A hd0 hZ (ci := 4) (nA := 0) (As := []) (by decide) ho_x0 (c_X4_hasIndex l G base M x0 _ h) k_ml_RX4_111 k_im_yX4_hasIndex k_se_yX4_hasIndex k_in_RX4 k_co_yX4_hasIndex (by decide +kernel) ⟨by decide, by decide⟩ rfl rfl (Nat.le_of_ble_eq_true rfl) hl dX4_drop_1 (fun v M2 H locs d0 cells slots hq hd0 hZ hm => ?_)
  clear h
  obtain ⟨i3, rfl, h⟩ := hq
  have ho_x0 := isO_le hm ho_x0
  refine lv_if_ne (tgt := 9) hx hb dX4_drop_4 (by decide) (fun hc => ?_) (fun hc => ?_)
  · replace h := h.1 hc
    refine lv_lload_n hx hb dX4_drop_9 rfl (lv_at hl 1 rfl) ?_
    refine z_callS A hd0 hZ (nA := 1) (As := [.long x1]) (c_X4_isKey l G base M2 x1 _ h) k_ml_RX4_70 k_st_yX4_isKey k_in_RX4 k_co_yX4_isKey (by decide +kernel) ⟨by decide, by decide⟩ rfl rfl (Nat.le_of_ble_eq_true rfl) hl dX4_drop_10 (fun v M4 H locs d0 cells slots hq hd0 hZ hm => ?_)
    clear h
    obtain ⟨i5, rfl, h⟩ := hq
    have ho_x0 := isO_le hm ho_x0
    refine lv_if_ne (tgt := 19) hx hb dX4_drop_13 (by decide) (fun hc => ?_) (fun hc => ?_)
    · replace h := h.1 hc
      refine lv_aload_n hx hb dX4_drop_19 rfl (lv_at hl 0 rfl) ?_
      refine z_get (A d0) hZ (ci := 4) (j := 11) ho_x0.1 ho_x0.2 (by decide) (by decide) k_fl_RX4_57 (v := .ref (base + 15)) (zv_fin (zf4 ho_x0 rfl) rfl) dX4_drop_20 ?_
      refine lv_lload_n hx hb dX4_drop_23 rfl (lv_at hl 1 rfl) ?_
      refine lv_aload_n hx hb dX4_drop_24 rfl (lv_at hl 0 rfl) ?_
      refine z_get (A d0) hZ (ci := 4) (j := 3) ho_x0.1 ho_x0.2 (by decide) (by decide) k_fl_RX4_27 (v := vr base (mR M4 x0 3)) (zv_dyn (zf4 ho_x0 rfl) rfl) dX4_drop_25 ?_
      obtain ⟨r6, er6⟩ : ∃ y : Option Nat, y = mR M4 x0 3 := ⟨_, rfl⟩
      rw [← er6]
      replace h := h r6 er6
      refine lv_aload_n hx hb dX4_drop_28 rfl (lv_at hl 0 rfl) ?_
      refine z_get (A d0) hZ (ci := 4) (j := 5) ho_x0.1 ho_x0.2 (by decide) (by decide) k_fl_RX4_34 (v := .ref (base + 12)) (zv_fin (zf4 ho_x0 rfl) rfl) dX4_drop_29 ?_
      refine lv_aload_n hx hb dX4_drop_32 rfl (lv_at hl 0 rfl) ?_
      refine z_get (A d0) hZ (ci := 4) (j := 6) ho_x0.1 ho_x0.2 (by decide) (by decide) k_fl_RX4_38 (v := .int (mI M4 x0 6)) rfl dX4_drop_33 ?_
      refine z_callV A hd0 hZ (ci := 3) (nA := 4) (As := [.long x1, vr base r6, vr base (some 12), .int (mI M4 x0 6)]) (by decide) (isO_c (a := 15) hZ.k0 (by decide) rfl) (c_X3_follow l G base M4 15 x1 r6 (some 12) (mI M4 x0 6) _ h) k_ml_RX4_157 k_im_yX3_follow k_se_yX3_follow k_in_RX3 k_co_yX3_follow (by decide +kernel) ⟨by decide, by decide⟩ rfl rfl (Nat.le_of_ble_eq_true rfl) hl dX4_drop_36 (fun v M7 H locs d0 cells slots hq hd0 hZ hm => ?_)
      clear h
      obtain ⟨rfl, h⟩ := hq
      have ho_x0 := isO_le hm ho_x0
      refine lv_aload_n hx hb dX4_drop_39 rfl (lv_at hl 0 rfl) ?_
      refine z_get (A d0) hZ (ci := 4) (j := 11) ho_x0.1 ho_x0.2 (by decide) (by decide) k_fl_RX4_57 (v := .ref (base + 15)) (zv_fin (zf4 ho_x0 rfl) rfl) dX4_drop_40 ?_
      refine z_getN (A d0) hZ (ci := 3) (j := 3) (isO_c (a := 15) hZ.k0 (by decide) rfl).1 (isO_c (a := 15) hZ.k0 (by decide) rfl).2 (by decide) (by decide) k_fn_RX4_161 (v := .int (mI M7 15 3)) rfl dX4_drop_43 ?_
      refine lv_if_ne (tgt := 51) hx hb dX4_drop_46 (by decide) (fun hc => ?_) (fun hc => ?_)
      · replace h := h.1 hc
        refine lv_aload_n hx hb dX4_drop_51 rfl (lv_at hl 0 rfl) ?_
        refine z_get (A d0) hZ (ci := 4) (j := 3) ho_x0.1 ho_x0.2 (by decide) (by decide) k_fl_RX4_27 (v := vr base (mR M7 x0 3)) (zv_dyn (zf4 ho_x0 rfl) rfl) dX4_drop_52 ?_
        obtain ⟨r8, er8⟩ : ∃ y : Option Nat, y = mR M7 x0 3 := ⟨_, rfl⟩
        rw [← er8]
        replace h := h r8 er8
        refine lv_aload_n hx hb dX4_drop_55 rfl (lv_at hl 0 rfl) ?_
        refine z_get (A d0) hZ (ci := 4) (j := 11) ho_x0.1 ho_x0.2 (by decide) (by decide) k_fl_RX4_57 (v := .ref (base + 15)) (zv_fin (zf4 ho_x0 rfl) rfl) dX4_drop_56 ?_
        refine z_getN (A d0) hZ (ci := 3) (j := 5) (isO_c (a := 15) hZ.k0 (by decide) rfl).1 (isO_c (a := 15) hZ.k0 (by decide) rfl).2 (by decide) (by decide) k_fn_RX4_167 (v := .int (mI M7 15 5)) rfl dX4_drop_59 ?_
        refine lv_lload_n hx hb dX4_drop_62 rfl (lv_at hl 1 rfl) ?_
        obtain ⟨a9, rfl, ho_a9, h⟩ := h
        refine z_callV A hd0 hZ (ci := 2) (nA := 2) (As := [.int (mI M7 15 5), .long x1]) (by decide) ho_a9 (c_X2_holds l G base M7 a9 (mI M7 15 5) x1 _ h) k_ml_RX4_184 k_im_yX2_holds k_se_yX2_holds k_in_RX2 k_co_yX2_holds (by decide +kernel) ⟨by decide, by decide⟩ rfl rfl (Nat.le_of_ble_eq_true rfl) hl dX4_drop_63 (fun v M10 H locs d0 cells slots hq hd0 hZ hm => ?_)
        clear h
        obtain ⟨i11, rfl, h⟩ := hq
        have ho_x0 := isO_le hm ho_x0
        refine lv_if_eq (tgt := 86) hx hb dX4_drop_66 (by decide) (fun hc => ?_) (fun hc => ?_)
        · replace h := h.1 hc
          refine lv_aload_n hx hb dX4_drop_86 rfl (lv_at hl 0 rfl) ?_
          refine z_get (A d0) hZ (ci := 4) (j := 3) ho_x0.1 ho_x0.2 (by decide) (by decide) k_fl_RX4_27 (v := vr base (mR M10 x0 3)) (zv_dyn (zf4 ho_x0 rfl) rfl) dX4_drop_87 ?_
          obtain ⟨r12, er12⟩ : ∃ y : Option Nat, y = mR M10 x0 3 := ⟨_, rfl⟩
          rw [← er12]
          replace h := h r12 er12
          refine lv_aload_n hx hb dX4_drop_90 rfl (lv_at hl 0 rfl) ?_
          refine z_get (A d0) hZ (ci := 4) (j := 11) ho_x0.1 ho_x0.2 (by decide) (by decide) k_fl_RX4_57 (v := .ref (base + 15)) (zv_fin (zf4 ho_x0 rfl) rfl) dX4_drop_91 ?_
          refine z_getN (A d0) hZ (ci := 3) (j := 4) (isO_c (a := 15) hZ.k0 (by decide) rfl).1 (isO_c (a := 15) hZ.k0 (by decide) rfl).2 (by decide) (by decide) k_fn_RX4_174 (v := .int (mI M10 15 4)) rfl dX4_drop_94 ?_
          refine lv_aload_n hx hb dX4_drop_97 rfl (lv_at hl 0 rfl) ?_
          refine z_get (A d0) hZ (ci := 4) (j := 11) ho_x0.1 ho_x0.2 (by decide) (by decide) k_fl_RX4_57 (v := .ref (base + 15)) (zv_fin (zf4 ho_x0 rfl) rfl) dX4_drop_98 ?_
          refine z_getN (A d0) hZ (ci := 3) (j := 6) (isO_c (a := 15) hZ.k0 (by decide) rfl).1 (isO_c (a := 15) hZ.k0 (by decide) rfl).2 (by decide) (by decide) k_fn_RX4_177 (v := .int (mI M10 15 6)) rfl dX4_drop_101 ?_
          refine lv_iconst (v := (1 : Int32)) hx hb dX4_drop_104 (by decide) ?_
          refine lv_isub hx hb dX4_drop_105 ?_
          obtain ⟨a13, rfl, ho_a13, h⟩ := h
          refine z_callV A hd0 hZ (ci := 2) (nA := 2) (As := [.int (mI M10 15 4), .int ((mI M10 15 6) - (1 : Int32))]) (by decide) ho_a13 (c_X2_takeLate l G base M10 a13 (mI M10 15 4) ((mI M10 15 6) - (1 : Int32)) _ h) k_ml_RX4_191 k_im_yX2_takeLate k_se_yX2_takeLate k_in_RX2 k_co_yX2_takeLate (by decide +kernel) ⟨by decide, by decide⟩ rfl rfl (Nat.le_of_ble_eq_true rfl) hl dX4_drop_106 (fun v M14 H locs d0 cells slots hq hd0 hZ hm => ?_)
          clear h
          obtain ⟨rfl, h⟩ := hq
          have ho_x0 := isO_le hm ho_x0
          exact (zb_X4_drop_109 A hr ho_x0 hd0 hZ (lv_sub hl [0] rfl) h)
        · replace h := h.2 hc
          refine lv_aload_n hx hb dX4_drop_69 rfl (lv_at hl 0 rfl) ?_
          refine z_get (A d0) hZ (ci := 4) (j := 3) ho_x0.1 ho_x0.2 (by decide) (by decide) k_fl_RX4_27 (v := vr base (mR M10 x0 3)) (zv_dyn (zf4 ho_x0 rfl) rfl) dX4_drop_70 ?_
          obtain ⟨r15, er15⟩ : ∃ y : Option Nat, y = mR M10 x0 3 := ⟨_, rfl⟩
          rw [← er15]
          replace h := h r15 er15
          refine lv_aload_n hx hb dX4_drop_73 rfl (lv_at hl 0 rfl) ?_
          refine z_get (A d0) hZ (ci := 4) (j := 11) ho_x0.1 ho_x0.2 (by decide) (by decide) k_fl_RX4_57 (v := .ref (base + 15)) (zv_fin (zf4 ho_x0 rfl) rfl) dX4_drop_74 ?_
          refine z_getN (A d0) hZ (ci := 3) (j := 5) (isO_c (a := 15) hZ.k0 (by decide) rfl).1 (isO_c (a := 15) hZ.k0 (by decide) rfl).2 (by decide) (by decide) k_fn_RX4_167 (v := .int (mI M10 15 5)) rfl dX4_drop_77 ?_
          obtain ⟨a16, rfl, ho_a16, h⟩ := h
          refine z_callV A hd0 hZ (ci := 2) (nA := 1) (As := [.int (mI M10 15 5)]) (by decide) ho_a16 (c_X2_markDropped l G base M10 a16 (mI M10 15 5) _ h) k_ml_RX4_187 k_im_yX2_markDropped k_se_yX2_markDropped k_in_RX2 k_co_yX2_markDropped (by decide +kernel) ⟨by decide, by decide⟩ rfl rfl (Nat.le_of_ble_eq_true rfl) hl dX4_drop_80 (fun v M17 H locs d0 cells slots hq hd0 hZ hm => ?_)
          clear h
          obtain ⟨rfl, h⟩ := hq
          have ho_x0 := isO_le hm ho_x0
          refine lv_goto (tgt := 109) hx hb dX4_drop_83 (by decide) ?_
          exact (zb_X4_drop_109 A hr ho_x0 hd0 hZ (lv_sub hl [0] rfl) h)
      · replace h := h.2 hc
        refine lv_iconst (v := (0 : Int32)) hx hb dX4_drop_49 (by decide) ?_
        exact z_iret A hd0 hZ hr ⟨_, rfl, h⟩ dX4_drop_50
    · replace h := h.2 hc
      refine lv_bipush (v := (-2 : Int32)) hx hb dX4_drop_16 (by decide) ?_
      exact z_iret A hd0 hZ hr ⟨_, rfl, h⟩ dX4_drop_18
  · replace h := h.2 hc
    refine lv_iconst (v := (-1 : Int32)) hx hb dX4_drop_7 (by decide) ?_
    exact z_iret A hd0 hZ hr ⟨_, rfl, h⟩ dX4_drop_8
/-! cX4_at -/
set_option maxRecDepth 100000 in
set_option maxHeartbeats 4000000 in
theorem zb_X4_at_26 {p : Program} {l : Launch} {e : Env} {R : Room} {s : State} {m : MethodId} {args : Array Value} {below : List Frame} {meth : Method} {c : Code} {G : ZG} {base z0 : Nat} {Q : Int64 → Mem → Prop} (A : ∀ d, Amb p R (s.setDrawn d) m args meth c G base z0 cX4_at yX4_at.cls 3 3 71) (hr : meth.sig.returnType = (some .long)) {d0 : Drawn} {H : Heap} {locs : List Loc} {cells slots : Nat} {ls : Array Slot} {t0 : Int64} {M : Mem} (hd0 : s.drawn.sameBut d0 lw_cs) (hZ : ZH G true base s.heap M H locs) (hl : lv_has ls 3 []) (h : wp_X4_at_26 t0 M Q) : W p l e R (s.setDrawn d0) m args below meth c H locs cells slots (ZEnd below G true base z0 (qL Q) args s) (F0 m 26 ls [.long t0]) := by
  have hx := (A d0).1
  have hb := (A d0).2.1
  unfold wp_X4_at_26 at h
  exact z_lret A hd0 hZ hr ⟨_, rfl, h⟩ dX4_at_26
set_option maxRecDepth 100000 in
set_option maxHeartbeats 4000000 in
theorem zb_X4_at_23 {p : Program} {l : Launch} {e : Env} {R : Room} {s : State} {m : MethodId} {args : Array Value} {below : List Frame} {meth : Method} {c : Code} {G : ZG} {base z0 : Nat} {Q : Int64 → Mem → Prop} (A : ∀ d, Amb p R (s.setDrawn d) m args meth c G base z0 cX4_at yX4_at.cls 3 3 71) (hr : meth.sig.returnType = (some .long)) {d0 : Drawn} {H : Heap} {locs : List Loc} {cells slots : Nat} {ls : Array Slot}  {M : Mem} (hd0 : s.drawn.sameBut d0 lw_cs) (hZ : ZH G true base s.heap M H locs) (hl : lv_has ls 3 []) (h : wp_X4_at_23 M Q) : W p l e R (s.setDrawn d0) m args below meth c H locs cells slots (ZEnd below G true base z0 (qL Q) args s) (F0 m 23 ls []) := by
  have hx := (A d0).1
  have hb := (A d0).2.1
  unfold wp_X4_at_23 at h
  refine lv_ldc2 (v := (-9223372036854775808 : Int64)) hx hb (A d0).2.2.2.1 ((A d0).2.2.2.2.1 _ k_lc_RX4_194) dX4_at_23 ?_
  exact (zb_X4_at_26 A hr hd0 hZ (lv_sub hl [] rfl) h)
set_option maxRecDepth 100000 in
set_option maxHeartbeats 4000000 in
theorem c_X4_at (l : Launch) (G : ZG) (base : Nat) (M : Mem) (x0 : Nat) (x1 : Int32) (Q : Int64 → Mem → Prop) (h : wp_X4_at x0 x1 M Q) : ZMet l yX4_at cX4_at 3 (some .long) 3 71 G true base M [.ref (base + x0), .int x1] (qL Q) := by
  refine z_start (by decide) (Nat.le_of_ble_eq_true rfl) k_co_yX4_at ?_
  intro p e s m below meth c R d0 H locs cells slots ls A hr hn hd0 hZ hl
  have hx := (A d0).1
  have hb := (A d0).2.1
  have hl : lv_has ls 3 [(0, .ref (base + x0)), (1, .int x1)] := hl
  unfold wp_X4_at at h
  obtain ⟨ho_x0, h⟩ := h
  refine lv_aload_n hx hb dX4_at_0 rfl (lv_at hl 0 rfl) ?_
  refine z_callV A hd0 hZ (ci := 4) (nA := 0) (As := []) (by decide) ho_x0 (c_X4_gatherAll l G base M x0 _ h) k_ml_RX4_115 k_im_yX4_gatherAll k_se_yX4_gatherAll k_in_RX4 k_co_yX4_gatherAll (by decide +kernel) ⟨by decide, by decide⟩ rfl rfl (Nat.le_of_ble_eq_true rfl) hl dX4_at_1 (fun v M1 H locs d0 cells slots hq hd0 hZ hm => ?_)
  clear h
  obtain ⟨i2, rfl, h⟩ := hq
  have ho_x0 := isO_le hm ho_x0
  refine lv_istore_n (lv' := [(2, .int i2), (0, .ref (base + x0)), (1, .int x1)]) hx hb dX4_at_4 rfl hl (by decide) rfl (fun ls hl2 => ?_)
  replace hl := hl2
  refine lv_iload_n hx hb dX4_at_5 rfl (lv_at hl 2 rfl) ?_
  refine lv_if_lt (tgt := 23) hx hb dX4_at_6 (by decide) (fun hc => ?_) (fun hc => ?_)
  · replace h := h.1 hc
    exact (zb_X4_at_23 A hr hd0 hZ (lv_sub hl [] rfl) h)
  · replace h := h.2 hc
    refine lv_iload_n hx hb dX4_at_9 rfl (lv_at hl 2 rfl) ?_
    refine lv_iload_n hx hb dX4_at_10 rfl (lv_at hl 0 rfl) ?_
    refine lv_icmp_ge (tgt := 23) hx hb dX4_at_11 (by decide) (fun hc => ?_) (fun hc => ?_)
    · replace h := h.1 hc
      exact (zb_X4_at_23 A hr hd0 hZ (lv_sub hl [] rfl) h)
    · replace h := h.2 hc
      refine lv_aload_n hx hb dX4_at_14 rfl (lv_at hl 1 rfl) ?_
      refine z_get (A d0) hZ (ci := 4) (j := 13) ho_x0.1 ho_x0.2 (by decide) (by decide) k_fl_RX4_67 (v := .ref (base + 18)) (zv_fin (zf4 ho_x0 rfl) rfl) dX4_at_15 ?_
      refine lv_iload_n hx hb dX4_at_18 rfl (lv_at hl 2 rfl) ?_
      obtain ⟨hin, h⟩ := h
      refine z_lald (A d0) hZ (isA_c (a := 18) hZ.k0 (by decide) rfl) hin dX4_at_19 ?_
      refine lv_goto (tgt := 26) hx hb dX4_at_20 (by decide) ?_
      exact (zb_X4_at_26 A hr hd0 hZ (lv_sub hl [] rfl) h)
/-! cX4_countBelow -/
set_option maxRecDepth 100000 in
set_option maxHeartbeats 4000000 in
theorem zb_X4_countBelow_8 {p : Program} {l : Launch} {e : Env} {R : Room} {s : State} {m : MethodId} {args : Array Value} {below : List Frame} {meth : Method} {c : Code} {G : ZG} {base z0 : Nat} {Q : Int32 → Mem → Prop} (A : ∀ d, Amb p R (s.setDrawn d) m args meth c G base z0 cX4_countBelow yX4_countBelow.cls 5 3 71) (hr : meth.sig.returnType = (some .int)) {K32 : Int32 → Mem → Prop} :
  ∀ (n : Nat) {d0 : Drawn} {H : Heap} {locs : List Loc} {cells slots : Nat} {ls : Array Slot} {x0 : Nat} {x1 : Int64} {x3 : Int32} {x4 : Int32} {M : Mem} (ho_x0 : isO M x0 4) (hd0 : s.drawn.sameBut d0 lw_cs) (hZ : ZH G true base s.heap M H locs) (hl : lv_has ls 5 [(0, .ref (base + x0)), (1, .long x1), (3, .int x3), (4, .int x4)]) (h : wp_X4_countBelow_8 n x0 x1 x3 x4 M Q K32) (hK32 : ∀ {d0 : Drawn} {H : Heap} {locs : List Loc} {cells slots : Nat} {ls : Array Slot} {x4 : Int32} {M : Mem}, s.drawn.sameBut d0 lw_cs → ZH G true base s.heap M H locs → lv_has ls 5 [(4, .int x4)] → K32 x4 M → W p l e R (s.setDrawn d0) m args below meth c H locs cells slots (ZEnd below G true base z0 (qI Q) args s) (F0 m 32 ls [])), W p l e R (s.setDrawn d0) m args below meth c H locs cells slots (ZEnd below G true base z0 (qI Q) args s) (F0 m 8 ls []) := by
  have hx := (A default).1
  have hb := (A default).2.1
  intro n
  induction n with
  | zero => intro d0 H locs cells slots ls x0 x1 x3 x4 M ho_x0 hd0 hZ hl h hK32; exact h.elim
  | succ n ih =>
    intro d0 H locs cells slots ls x0 x1 x3 x4 M ho_x0 hd0 hZ hl h hK32
    unfold wp_X4_countBelow_8 at h
    refine lv_iload hx hb dX4_countBelow_8 (lv_at hl 3 rfl) ?_
    refine lv_iload_n hx hb dX4_countBelow_10 rfl (lv_at hl 2 rfl) ?_
    refine lv_icmp_ge (tgt := 32) hx hb dX4_countBelow_11 (by decide) (fun hc => ?_) (fun hc => ?_)
    · replace h := h.1 hc
      exact hK32 hd0 hZ (lv_sub hl [3] rfl) h
    · replace h := h.2 hc
      refine lv_aload_n hx hb dX4_countBelow_14 rfl (lv_at hl 0 rfl) ?_
      refine z_get (A d0) hZ (ci := 4) (j := 13) ho_x0.1 ho_x0.2 (by decide) (by decide) k_fl_RX4_67 (v := .ref (base + 18)) (zv_fin (zf4 ho_x0 rfl) rfl) dX4_countBelow_15 ?_
      refine lv_iload hx hb dX4_countBelow_18 (lv_at hl 3 rfl) ?_
      obtain ⟨hin, h⟩ := h
      refine z_lald (A d0) hZ (isA_c (a := 18) hZ.k0 (by decide) rfl) hin dX4_countBelow_20 ?_
      refine lv_lload_n hx hb dX4_countBelow_21 rfl (lv_at hl 1 rfl) ?_
      refine z_lc_ge (tgt := 32) hx hb dX4_countBelow_22 dX4_countBelow_23 (by decide) (fun hc => ?_) (fun hc => ?_)
      · replace h := h.1 hc
        exact hK32 hd0 hZ (lv_sub hl [3] rfl) h
      · replace h := h.2 hc
        obtain ⟨i1, ei1⟩ : ∃ y : Int32, y = x4 + (1 : Int32) := ⟨_, rfl⟩
        replace h := h i1 ei1
        refine lv_iinc (v := i1) (lv' := [(4, .int i1), (0, .ref (base + x0)), (1, .long x1), (3, .int x3)]) hx hb dX4_countBelow_26 hl (k := 3) rfl (by rw [ei1]; rfl) (by decide) rfl (fun ls hl2 => ?_)
        replace hl := hl2
        refine lv_goto (tgt := 8) hx hb dX4_countBelow_29 (by decide) ?_
        exact ih ho_x0 hd0 hZ (lv_sub hl [1, 2, 3, 0] rfl) h hK32
set_option maxRecDepth 100000 in
set_option maxHeartbeats 4000000 in
theorem zb_X4_countBelow_32 {p : Program} {l : Launch} {e : Env} {R : Room} {s : State} {m : MethodId} {args : Array Value} {below : List Frame} {meth : Method} {c : Code} {G : ZG} {base z0 : Nat} {Q : Int32 → Mem → Prop} (A : ∀ d, Amb p R (s.setDrawn d) m args meth c G base z0 cX4_countBelow yX4_countBelow.cls 5 3 71) (hr : meth.sig.returnType = (some .int)) {d0 : Drawn} {H : Heap} {locs : List Loc} {cells slots : Nat} {ls : Array Slot} {x4 : Int32} {M : Mem} (hd0 : s.drawn.sameBut d0 lw_cs) (hZ : ZH G true base s.heap M H locs) (hl : lv_has ls 5 [(4, .int x4)]) (h : wp_X4_countBelow_32 x4 M Q) : W p l e R (s.setDrawn d0) m args below meth c H locs cells slots (ZEnd below G true base z0 (qI Q) args s) (F0 m 32 ls []) := by
  have hx := (A d0).1
  have hb := (A d0).2.1
  unfold wp_X4_countBelow_32 at h
  refine lv_iload hx hb dX4_countBelow_32 (lv_at hl 0 rfl) ?_
  exact z_iret A hd0 hZ hr ⟨_, rfl, h⟩ dX4_countBelow_34
set_option maxRecDepth 100000 in
set_option maxHeartbeats 4000000 in
theorem c_X4_countBelow (l : Launch) (G : ZG) (base : Nat) (M : Mem) (x0 : Nat) (x1 : Int64) (Q : Int32 → Mem → Prop) (h : wp_X4_countBelow x0 x1 M Q) : ZMet l yX4_countBelow cX4_countBelow 5 (some .int) 3 71 G true base M [.ref (base + x0), .long x1] (qI Q) := by
  refine z_start (by decide) (Nat.le_of_ble_eq_true rfl) k_co_yX4_countBelow ?_
  intro p e s m below meth c R d0 H locs cells slots ls A hr hn hd0 hZ hl
  have hx := (A d0).1
  have hb := (A d0).2.1
  have hl : lv_has ls 5 [(0, .ref (base + x0)), (1, .long x1)] := hl
  unfold wp_X4_countBelow at h
  obtain ⟨ho_x0, h⟩ := h
  refine lv_aload_n hx hb dX4_countBelow_0 rfl (lv_at hl 0 rfl) ?_
  refine z_callV A hd0 hZ (ci := 4) (nA := 0) (As := []) (by decide) ho_x0 (c_X4_gatherAll l G base M x0 _ h) k_ml_RX4_115 k_im_yX4_gatherAll k_se_yX4_gatherAll k_in_RX4 k_co_yX4_gatherAll (by decide +kernel) ⟨by decide, by decide⟩ rfl rfl (Nat.le_of_ble_eq_true rfl) hl dX4_countBelow_1 (fun v M2 H locs d0 cells slots hq hd0 hZ hm => ?_)
  clear h
  obtain ⟨i3, rfl, h⟩ := hq
  have ho_x0 := isO_le hm ho_x0
  refine lv_istore_n (lv' := [(3, .int i3), (0, .ref (base + x0)), (1, .long x1)]) hx hb dX4_countBelow_4 rfl hl (by decide) rfl (fun ls hl2 => ?_)
  replace hl := hl2
  refine lv_iconst (v := (0 : Int32)) hx hb dX4_countBelow_5 (by decide) ?_
  refine lv_istore (lv' := [(4, .int (0 : Int32)), (3, .int i3), (0, .ref (base + x0)), (1, .long x1)]) hx hb dX4_countBelow_6 hl (by decide) rfl (fun ls hl2 => ?_)
  replace hl := hl2
  exact (Exists.elim h fun kk h => zb_X4_countBelow_8 A hr kk ho_x0 hd0 hZ (lv_sub hl [2, 3, 1, 0] rfl) h (fun hd0 hZ hl h => (zb_X4_countBelow_32 A hr hd0 hZ hl h)))
/-! cX4_below -/
set_option maxRecDepth 100000 in
set_option maxHeartbeats 4000000 in
theorem c_X4_below (l : Launch) (G : ZG) (base : Nat) (M : Mem) (x0 : Nat) (x1 : Int64) (Q : Int32 → Mem → Prop) (h : wp_X4_below x0 x1 M Q) : ZMet l yX4_below cX4_below 3 (some .int) 4 95 G true base M [.ref (base + x0), .long x1] (qI Q) := by
  refine z_start (by decide) (Nat.le_of_ble_eq_true rfl) k_co_yX4_below ?_
  intro p e s m below meth c R d0 H locs cells slots ls A hr hn hd0 hZ hl
  have hx := (A d0).1
  have hb := (A d0).2.1
  have hl : lv_has ls 3 [(0, .ref (base + x0)), (1, .long x1)] := hl
  unfold wp_X4_below at h
  obtain ⟨ho_x0, h⟩ := h
  refine lv_aload_n hx hb dX4_below_0 rfl (lv_at hl 0 rfl) ?_
  refine z_callV A hd0 hZ (ci := 4) (nA := 0) (As := []) (by decide) ho_x0 (c_X4_hasIndex l G base M x0 _ h) k_ml_RX4_111 k_im_yX4_hasIndex k_se_yX4_hasIndex k_in_RX4 k_co_yX4_hasIndex (by decide +kernel) ⟨by decide, by decide⟩ rfl rfl (Nat.le_of_ble_eq_true rfl) hl dX4_below_1 (fun v M1 H locs d0 cells slots hq hd0 hZ hm => ?_)
  clear h
  obtain ⟨i2, rfl, h⟩ := hq
  have ho_x0 := isO_le hm ho_x0
  refine lv_if_ne (tgt := 9) hx hb dX4_below_4 (by decide) (fun hc => ?_) (fun hc => ?_)
  · replace h := h.1 hc
    refine lv_lload_n hx hb dX4_below_9 rfl (lv_at hl 1 rfl) ?_
    refine z_callS A hd0 hZ (nA := 1) (As := [.long x1]) (c_X4_isKey l G base M1 x1 _ h) k_ml_RX4_70 k_st_yX4_isKey k_in_RX4 k_co_yX4_isKey (by decide +kernel) ⟨by decide, by decide⟩ rfl rfl (Nat.le_of_ble_eq_true rfl) hl dX4_below_10 (fun v M3 H locs d0 cells slots hq hd0 hZ hm => ?_)
    clear h
    obtain ⟨i4, rfl, h⟩ := hq
    have ho_x0 := isO_le hm ho_x0
    refine lv_if_ne (tgt := 19) hx hb dX4_below_13 (by decide) (fun hc => ?_) (fun hc => ?_)
    · replace h := h.1 hc
      refine lv_aload_n hx hb dX4_below_19 rfl (lv_at hl 0 rfl) ?_
      refine lv_lload_n hx hb dX4_below_20 rfl (lv_at hl 1 rfl) ?_
      refine z_callV A hd0 hZ (ci := 4) (nA := 1) (As := [.long x1]) (by decide) ho_x0 (c_X4_countBelow l G base M3 x0 x1 _ h) k_ml_RX4_196 k_im_yX4_countBelow k_se_yX4_countBelow k_in_RX4 k_co_yX4_countBelow (by decide +kernel) ⟨by decide, by decide⟩ rfl rfl (Nat.le_of_ble_eq_true rfl) hl dX4_below_21 (fun v M5 H locs d0 cells slots hq hd0 hZ hm => ?_)
      clear h
      obtain ⟨i6, rfl, h⟩ := hq
      have ho_x0 := isO_le hm ho_x0
      exact z_iret A hd0 hZ hr ⟨_, rfl, h⟩ dX4_below_24
    · replace h := h.2 hc
      refine lv_bipush (v := (-2 : Int32)) hx hb dX4_below_16 (by decide) ?_
      exact z_iret A hd0 hZ hr ⟨_, rfl, h⟩ dX4_below_18
  · replace h := h.2 hc
    refine lv_iconst (v := (-1 : Int32)) hx hb dX4_below_7 (by decide) ?_
    exact z_iret A hd0 hZ hr ⟨_, rfl, h⟩ dX4_below_8
/-! cX4_above -/
set_option maxRecDepth 100000 in
set_option maxHeartbeats 4000000 in
theorem zb_X4_above_8 {p : Program} {l : Launch} {e : Env} {R : Room} {s : State} {m : MethodId} {args : Array Value} {below : List Frame} {meth : Method} {c : Code} {G : ZG} {base z0 : Nat} {Q : Int64 → Mem → Prop} (A : ∀ d, Amb p R (s.setDrawn d) m args meth c G base z0 cX4_above yX4_above.cls 5 3 71) (hr : meth.sig.returnType = (some .long)) {K26 : Nat → Int32 → Mem → Prop} {K40 : Mem → Prop} :
  ∀ (n : Nat) {d0 : Drawn} {H : Heap} {locs : List Loc} {cells slots : Nat} {ls : Array Slot} {x0 : Nat} {x1 : Int64} {x3 : Int32} {x4 : Int32} {M : Mem} (ho_x0 : isO M x0 4) (hd0 : s.drawn.sameBut d0 lw_cs) (hZ : ZH G true base s.heap M H locs) (hl : lv_has ls 5 [(0, .ref (base + x0)), (1, .long x1), (3, .int x3), (4, .int x4)]) (h : wp_X4_above_8 n x0 x1 x3 x4 M Q K26 K40) (hK26 : ∀ {d0 : Drawn} {H : Heap} {locs : List Loc} {cells slots : Nat} {ls : Array Slot} {x0 : Nat} {x4 : Int32} {M : Mem} (ho_x0 : isO M x0 4), s.drawn.sameBut d0 lw_cs → ZH G true base s.heap M H locs → lv_has ls 5 [(0, .ref (base + x0)), (4, .int x4)] → K26 x0 x4 M → W p l e R (s.setDrawn d0) m args below meth c H locs cells slots (ZEnd below G true base z0 (qL Q) args s) (F0 m 26 ls [])) (hK40 : ∀ {d0 : Drawn} {H : Heap} {locs : List Loc} {cells slots : Nat} {ls : Array Slot} {M : Mem}, s.drawn.sameBut d0 lw_cs → ZH G true base s.heap M H locs → lv_has ls 5 [] → K40 M → W p l e R (s.setDrawn d0) m args below meth c H locs cells slots (ZEnd below G true base z0 (qL Q) args s) (F0 m 40 ls [])), W p l e R (s.setDrawn d0) m args below meth c H locs cells slots (ZEnd below G true base z0 (qL Q) args s) (F0 m 8 ls []) := by
  have hx := (A default).1
  have hb := (A default).2.1
  intro n
  induction n with
  | zero => intro d0 H locs cells slots ls x0 x1 x3 x4 M ho_x0 hd0 hZ hl h hK26 hK40; exact h.elim
  | succ n ih =>
    intro d0 H locs cells slots ls x0 x1 x3 x4 M ho_x0 hd0 hZ hl h hK26 hK40
    unfold wp_X4_above_8 at h
    refine lv_iload hx hb dX4_above_8 (lv_at hl 3 rfl) ?_
    refine lv_iload_n hx hb dX4_above_10 rfl (lv_at hl 2 rfl) ?_
    refine lv_icmp_ge (tgt := 40) hx hb dX4_above_11 (by decide) (fun hc => ?_) (fun hc => ?_)
    · replace h := h.1 hc
      exact hK40 hd0 hZ (lv_sub hl [] rfl) h
    · replace h := h.2 hc
      refine lv_aload_n hx hb dX4_above_14 rfl (lv_at hl 0 rfl) ?_
      refine z_get (A d0) hZ (ci := 4) (j := 13) ho_x0.1 ho_x0.2 (by decide) (by decide) k_fl_RX4_67 (v := .ref (base + 18)) (zv_fin (zf4 ho_x0 rfl) rfl) dX4_above_15 ?_
      refine lv_iload hx hb dX4_above_18 (lv_at hl 3 rfl) ?_
      obtain ⟨hin, h⟩ := h
      refine z_lald (A d0) hZ (isA_c (a := 18) hZ.k0 (by decide) rfl) hin dX4_above_20 ?_
      refine lv_lload_n hx hb dX4_above_21 rfl (lv_at hl 1 rfl) ?_
      refine z_lc_le (tgt := 34) hx hb dX4_above_22 dX4_above_23 (by decide) (fun hc => ?_) (fun hc => ?_)
      · replace h := h.1 hc
        obtain ⟨i1, ei1⟩ : ∃ y : Int32, y = x4 + (1 : Int32) := ⟨_, rfl⟩
        replace h := h i1 ei1
        refine lv_iinc (v := i1) (lv' := [(4, .int i1), (0, .ref (base + x0)), (1, .long x1), (3, .int x3)]) hx hb dX4_above_34 hl (k := 3) rfl (by rw [ei1]; rfl) (by decide) rfl (fun ls hl2 => ?_)
        replace hl := hl2
        refine lv_goto (tgt := 8) hx hb dX4_above_37 (by decide) ?_
        exact ih ho_x0 hd0 hZ (lv_sub hl [1, 2, 3, 0] rfl) h hK26 hK40
      · replace h := h.2 hc
        exact hK26 ho_x0 hd0 hZ (lv_sub hl [0, 3] rfl) h
set_option maxRecDepth 100000 in
set_option maxHeartbeats 4000000 in
theorem zb_X4_above_26 {p : Program} {l : Launch} {e : Env} {R : Room} {s : State} {m : MethodId} {args : Array Value} {below : List Frame} {meth : Method} {c : Code} {G : ZG} {base z0 : Nat} {Q : Int64 → Mem → Prop} (A : ∀ d, Amb p R (s.setDrawn d) m args meth c G base z0 cX4_above yX4_above.cls 5 3 71) (hr : meth.sig.returnType = (some .long)) {d0 : Drawn} {H : Heap} {locs : List Loc} {cells slots : Nat} {ls : Array Slot} {x0 : Nat} {x4 : Int32} {M : Mem} (ho_x0 : isO M x0 4) (hd0 : s.drawn.sameBut d0 lw_cs) (hZ : ZH G true base s.heap M H locs) (hl : lv_has ls 5 [(0, .ref (base + x0)), (4, .int x4)]) (h : wp_X4_above_26 x0 x4 M Q) : W p l e R (s.setDrawn d0) m args below meth c H locs cells slots (ZEnd below G true base z0 (qL Q) args s) (F0 m 26 ls []) := by
  have hx := (A d0).1
  have hb := (A d0).2.1
  unfold wp_X4_above_26 at h
  refine lv_aload_n hx hb dX4_above_26 rfl (lv_at hl 0 rfl) ?_
  refine z_get (A d0) hZ (ci := 4) (j := 13) ho_x0.1 ho_x0.2 (by decide) (by decide) k_fl_RX4_67 (v := .ref (base + 18)) (zv_fin (zf4 ho_x0 rfl) rfl) dX4_above_27 ?_
  refine lv_iload hx hb dX4_above_30 (lv_at hl 1 rfl) ?_
  obtain ⟨hin, h⟩ := h
  refine z_lald (A d0) hZ (isA_c (a := 18) hZ.k0 (by decide) rfl) hin dX4_above_32 ?_
  exact z_lret A hd0 hZ hr ⟨_, rfl, h⟩ dX4_above_33
set_option maxRecDepth 100000 in
set_option maxHeartbeats 4000000 in
theorem zb_X4_above_40 {p : Program} {l : Launch} {e : Env} {R : Room} {s : State} {m : MethodId} {args : Array Value} {below : List Frame} {meth : Method} {c : Code} {G : ZG} {base z0 : Nat} {Q : Int64 → Mem → Prop} (A : ∀ d, Amb p R (s.setDrawn d) m args meth c G base z0 cX4_above yX4_above.cls 5 3 71) (hr : meth.sig.returnType = (some .long)) {d0 : Drawn} {H : Heap} {locs : List Loc} {cells slots : Nat} {ls : Array Slot}  {M : Mem} (hd0 : s.drawn.sameBut d0 lw_cs) (hZ : ZH G true base s.heap M H locs) (hl : lv_has ls 5 []) (h : wp_X4_above_40 M Q) : W p l e R (s.setDrawn d0) m args below meth c H locs cells slots (ZEnd below G true base z0 (qL Q) args s) (F0 m 40 ls []) := by
  have hx := (A d0).1
  have hb := (A d0).2.1
  unfold wp_X4_above_40 at h
  refine lv_ldc2 (v := (-9223372036854775808 : Int64)) hx hb (A d0).2.2.2.1 ((A d0).2.2.2.2.1 _ k_lc_RX4_194) dX4_above_40 ?_
  exact z_lret A hd0 hZ hr ⟨_, rfl, h⟩ dX4_above_43
set_option maxRecDepth 100000 in
set_option maxHeartbeats 4000000 in
theorem c_X4_above (l : Launch) (G : ZG) (base : Nat) (M : Mem) (x0 : Nat) (x1 : Int64) (Q : Int64 → Mem → Prop) (h : wp_X4_above x0 x1 M Q) : ZMet l yX4_above cX4_above 5 (some .long) 3 71 G true base M [.ref (base + x0), .long x1] (qL Q) := by
  refine z_start (by decide) (Nat.le_of_ble_eq_true rfl) k_co_yX4_above ?_
  intro p e s m below meth c R d0 H locs cells slots ls A hr hn hd0 hZ hl
  have hx := (A d0).1
  have hb := (A d0).2.1
  have hl : lv_has ls 5 [(0, .ref (base + x0)), (1, .long x1)] := hl
  unfold wp_X4_above at h
  obtain ⟨ho_x0, h⟩ := h
  refine lv_aload_n hx hb dX4_above_0 rfl (lv_at hl 0 rfl) ?_
  refine z_callV A hd0 hZ (ci := 4) (nA := 0) (As := []) (by decide) ho_x0 (c_X4_gatherAll l G base M x0 _ h) k_ml_RX4_115 k_im_yX4_gatherAll k_se_yX4_gatherAll k_in_RX4 k_co_yX4_gatherAll (by decide +kernel) ⟨by decide, by decide⟩ rfl rfl (Nat.le_of_ble_eq_true rfl) hl dX4_above_1 (fun v M2 H locs d0 cells slots hq hd0 hZ hm => ?_)
  clear h
  obtain ⟨i3, rfl, h⟩ := hq
  have ho_x0 := isO_le hm ho_x0
  refine lv_istore_n (lv' := [(3, .int i3), (0, .ref (base + x0)), (1, .long x1)]) hx hb dX4_above_4 rfl hl (by decide) rfl (fun ls hl2 => ?_)
  replace hl := hl2
  refine lv_iconst (v := (0 : Int32)) hx hb dX4_above_5 (by decide) ?_
  refine lv_istore (lv' := [(4, .int (0 : Int32)), (3, .int i3), (0, .ref (base + x0)), (1, .long x1)]) hx hb dX4_above_6 hl (by decide) rfl (fun ls hl2 => ?_)
  replace hl := hl2
  exact (Exists.elim h fun kk h => zb_X4_above_8 A hr kk ho_x0 hd0 hZ (lv_sub hl [2, 3, 1, 0] rfl) h (fun ho_x0 hd0 hZ hl h => (zb_X4_above_26 A hr ho_x0 hd0 hZ hl h)) (fun hd0 hZ hl h => (zb_X4_above_40 A hr hd0 hZ hl h)))
/-! cX4_between -/
set_option maxRecDepth 100000 in
set_option maxHeartbeats 4000000 in
theorem zb_X4_between_23 {p : Program} {l : Launch} {e : Env} {R : Room} {s : State} {m : MethodId} {args : Array Value} {below : List Frame} {meth : Method} {c : Code} {G : ZG} {base z0 : Nat} {Q : Int32 → Mem → Prop} (A : ∀ d, Amb p R (s.setDrawn d) m args meth c G base z0 cX4_between yX4_between.cls 5 4 95) (hr : meth.sig.returnType = (some .int)) {d0 : Drawn} {H : Heap} {locs : List Loc} {cells slots : Nat} {ls : Array Slot}  {M : Mem} (hd0 : s.drawn.sameBut d0 lw_cs) (hZ : ZH G true base s.heap M H locs) (hl : lv_has ls 5 []) (h : wp_X4_between_23 M Q) : W p l e R (s.setDrawn d0) m args below meth c H locs cells slots (ZEnd below G true base z0 (qI Q) args s) (F0 m 23 ls []) := by
  have hx := (A d0).1
  have hb := (A d0).2.1
  unfold wp_X4_between_23 at h
  refine lv_bipush (v := (-2 : Int32)) hx hb dX4_between_23 (by decide) ?_
  exact z_iret A hd0 hZ hr ⟨_, rfl, h⟩ dX4_between_25
set_option maxRecDepth 100000 in
set_option maxHeartbeats 4000000 in
theorem zb_X4_between_47 {p : Program} {l : Launch} {e : Env} {R : Room} {s : State} {m : MethodId} {args : Array Value} {below : List Frame} {meth : Method} {c : Code} {G : ZG} {base z0 : Nat} {Q : Int32 → Mem → Prop} (A : ∀ d, Amb p R (s.setDrawn d) m args meth c G base z0 cX4_between yX4_between.cls 5 4 95) (hr : meth.sig.returnType = (some .int)) {d0 : Drawn} {H : Heap} {locs : List Loc} {cells slots : Nat} {ls : Array Slot} {t0 : Int32} {M : Mem} (hd0 : s.drawn.sameBut d0 lw_cs) (hZ : ZH G true base s.heap M H locs) (hl : lv_has ls 5 []) (h : wp_X4_between_47 t0 M Q) : W p l e R (s.setDrawn d0) m args below meth c H locs cells slots (ZEnd below G true base z0 (qI Q) args s) (F0 m 47 ls [.int t0]) := by
  have hx := (A d0).1
  have hb := (A d0).2.1
  unfold wp_X4_between_47 at h
  exact z_iret A hd0 hZ hr ⟨_, rfl, h⟩ dX4_between_47
set_option maxRecDepth 100000 in
set_option maxHeartbeats 4000000 in
theorem c_X4_between (l : Launch) (G : ZG) (base : Nat) (M : Mem) (x0 : Nat) (x1 : Int64) (x3 : Int64) (Q : Int32 → Mem → Prop) (h : wp_X4_between x0 x1 x3 M Q) : ZMet l yX4_between cX4_between 5 (some .int) 4 95 G true base M [.ref (base + x0), .long x1, .long x3] (qI Q) := by
  refine z_start (by decide) (Nat.le_of_ble_eq_true rfl) k_co_yX4_between ?_
  intro p e s m below meth c R d0 H locs cells slots ls A hr hn hd0 hZ hl
  have hx := (A d0).1
  have hb := (A d0).2.1
  have hl : lv_has ls 5 [(0, .ref (base + x0)), (1, .long x1), (3, .long x3)] := hl
  unfold wp_X4_between at h
  obtain ⟨ho_x0, h⟩ := h
  refine lv_aload_n hx hb dX4_between_0 rfl (lv_at hl 0 rfl) ?_
  refine z_callV A hd0 hZ (ci := 4) (nA := 0) (As := []) (by decide) ho_x0 (c_X4_hasIndex l G base M x0 _ h) k_ml_RX4_111 k_im_yX4_hasIndex k_se_yX4_hasIndex k_in_RX4 k_co_yX4_hasIndex (by decide +kernel) ⟨by decide, by decide⟩ rfl rfl (Nat.le_of_ble_eq_true rfl) hl dX4_between_1 (fun v M1 H locs d0 cells slots hq hd0 hZ hm => ?_)
  clear h
  obtain ⟨i2, rfl, h⟩ := hq
  have ho_x0 := isO_le hm ho_x0
  refine lv_if_ne (tgt := 9) hx hb dX4_between_4 (by decide) (fun hc => ?_) (fun hc => ?_)
  · replace h := h.1 hc
    refine lv_lload_n hx hb dX4_between_9 rfl (lv_at hl 1 rfl) ?_
    refine z_callS A hd0 hZ (nA := 1) (As := [.long x1]) (c_X4_isKey l G base M1 x1 _ h) k_ml_RX4_70 k_st_yX4_isKey k_in_RX4 k_co_yX4_isKey (by decide +kernel) ⟨by decide, by decide⟩ rfl rfl (Nat.le_of_ble_eq_true rfl) hl dX4_between_10 (fun v M3 H locs d0 cells slots hq hd0 hZ hm => ?_)
    clear h
    obtain ⟨i4, rfl, h⟩ := hq
    have ho_x0 := isO_le hm ho_x0
    refine lv_if_eq (tgt := 23) hx hb dX4_between_13 (by decide) (fun hc => ?_) (fun hc => ?_)
    · replace h := h.1 hc
      exact (zb_X4_between_23 A hr hd0 hZ (lv_sub hl [] rfl) h)
    · replace h := h.2 hc
      refine lv_lload_n hx hb dX4_between_16 rfl (lv_at hl 2 rfl) ?_
      refine z_callS A hd0 hZ (nA := 1) (As := [.long x3]) (c_X4_isKey l G base M3 x3 _ h) k_ml_RX4_70 k_st_yX4_isKey k_in_RX4 k_co_yX4_isKey (by decide +kernel) ⟨by decide, by decide⟩ rfl rfl (Nat.le_of_ble_eq_true rfl) hl dX4_between_17 (fun v M5 H locs d0 cells slots hq hd0 hZ hm => ?_)
      clear h
      obtain ⟨i6, rfl, h⟩ := hq
      have ho_x0 := isO_le hm ho_x0
      refine lv_if_ne (tgt := 26) hx hb dX4_between_20 (by decide) (fun hc => ?_) (fun hc => ?_)
      · replace h := h.1 hc
        refine lv_lload_n hx hb dX4_between_26 rfl (lv_at hl 2 rfl) ?_
        refine lv_lload_n hx hb dX4_between_27 rfl (lv_at hl 1 rfl) ?_
        refine z_lc_le (tgt := 46) hx hb dX4_between_28 dX4_between_29 (by decide) (fun hc => ?_) (fun hc => ?_)
        · replace h := h.1 hc
          refine lv_iconst (v := (0 : Int32)) hx hb dX4_between_46 (by decide) ?_
          exact (zb_X4_between_47 A hr hd0 hZ (lv_sub hl [] rfl) h)
        · replace h := h.2 hc
          refine lv_aload_n hx hb dX4_between_32 rfl (lv_at hl 0 rfl) ?_
          refine lv_lload_n hx hb dX4_between_33 rfl (lv_at hl 2 rfl) ?_
          refine z_callV A hd0 hZ (ci := 4) (nA := 1) (As := [.long x3]) (by decide) ho_x0 (c_X4_countBelow l G base M5 x0 x3 _ h) k_ml_RX4_196 k_im_yX4_countBelow k_se_yX4_countBelow k_in_RX4 k_co_yX4_countBelow (by decide +kernel) ⟨by decide, by decide⟩ rfl rfl (Nat.le_of_ble_eq_true rfl) hl dX4_between_34 (fun v M7 H locs d0 cells slots hq hd0 hZ hm => ?_)
          clear h
          obtain ⟨i8, rfl, h⟩ := hq
          have ho_x0 := isO_le hm ho_x0
          refine lv_aload_n hx hb dX4_between_37 rfl (lv_at hl 0 rfl) ?_
          refine lv_lload_n hx hb dX4_between_38 rfl (lv_at hl 1 rfl) ?_
          refine z_callV A hd0 hZ (ci := 4) (nA := 1) (As := [.long x1]) (by decide) ho_x0 (c_X4_countBelow l G base M7 x0 x1 _ h) k_ml_RX4_196 k_im_yX4_countBelow k_se_yX4_countBelow k_in_RX4 k_co_yX4_countBelow (by decide +kernel) ⟨by decide, by decide⟩ rfl rfl (Nat.le_of_ble_eq_true rfl) hl dX4_between_39 (fun v M9 H locs d0 cells slots hq hd0 hZ hm => ?_)
          clear h
          obtain ⟨i10, rfl, h⟩ := hq
          have ho_x0 := isO_le hm ho_x0
          refine lv_isub hx hb dX4_between_42 ?_
          refine lv_goto (tgt := 47) hx hb dX4_between_43 (by decide) ?_
          exact (zb_X4_between_47 A hr hd0 hZ (lv_sub hl [] rfl) h)
      · replace h := h.2 hc
        exact (zb_X4_between_23 A hr hd0 hZ (lv_sub hl [] rfl) h)
  · replace h := h.2 hc
    refine lv_iconst (v := (-1 : Int32)) hx hb dX4_between_7 (by decide) ?_
    exact z_iret A hd0 hZ hr ⟨_, rfl, h⟩ dX4_between_8
/-! cX4_layers -/
set_option maxRecDepth 100000 in
set_option maxHeartbeats 4000000 in
theorem zb_X4_layers_15 {p : Program} {l : Launch} {e : Env} {R : Room} {s : State} {m : MethodId} {args : Array Value} {below : List Frame} {meth : Method} {c : Code} {G : ZG} {base z0 : Nat} {Q : Int32 → Mem → Prop} (A : ∀ d, Amb p R (s.setDrawn d) m args meth c G base z0 cX4_layers yX4_layers.cls 1 1 20) (hr : meth.sig.returnType = (some .int)) {d0 : Drawn} {H : Heap} {locs : List Loc} {cells slots : Nat} {ls : Array Slot} {t0 : Int32} {M : Mem} (hd0 : s.drawn.sameBut d0 lw_cs) (hZ : ZH G true base s.heap M H locs) (hl : lv_has ls 1 []) (h : wp_X4_layers_15 t0 M Q) : W p l e R (s.setDrawn d0) m args below meth c H locs cells slots (ZEnd below G true base z0 (qI Q) args s) (F0 m 15 ls [.int t0]) := by
  have hx := (A d0).1
  have hb := (A d0).2.1
  unfold wp_X4_layers_15 at h
  exact z_iret A hd0 hZ hr ⟨_, rfl, h⟩ dX4_layers_15
set_option maxRecDepth 100000 in
set_option maxHeartbeats 4000000 in
theorem c_X4_layers (l : Launch) (G : ZG) (base : Nat) (M : Mem) (x0 : Nat) (Q : Int32 → Mem → Prop) (h : wp_X4_layers x0 M Q) : ZMet l yX4_layers cX4_layers 1 (some .int) 1 20 G true base M [.ref (base + x0)] (qI Q) := by
  refine z_start (by decide) (Nat.le_of_ble_eq_true rfl) k_co_yX4_layers ?_
  intro p e s m below meth c R d0 H locs cells slots ls A hr hn hd0 hZ hl
  have hx := (A d0).1
  have hb := (A d0).2.1
  have hl : lv_has ls 1 [(0, .ref (base + x0))] := hl
  unfold wp_X4_layers at h
  obtain ⟨ho_x0, h⟩ := h
  refine lv_aload_n hx hb dX4_layers_0 rfl (lv_at hl 0 rfl) ?_
  refine z_callV A hd0 hZ (ci := 4) (nA := 0) (As := []) (by decide) ho_x0 (c_X4_hasIndex l G base M x0 _ h) k_ml_RX4_111 k_im_yX4_hasIndex k_se_yX4_hasIndex k_in_RX4 k_co_yX4_hasIndex (by decide +kernel) ⟨by decide, by decide⟩ rfl rfl (Nat.le_of_ble_eq_true rfl) hl dX4_layers_1 (fun v M1 H locs d0 cells slots hq hd0 hZ hm => ?_)
  clear h
  obtain ⟨i2, rfl, h⟩ := hq
  have ho_x0 := isO_le hm ho_x0
  refine lv_if_eq (tgt := 14) hx hb dX4_layers_4 (by decide) (fun hc => ?_) (fun hc => ?_)
  · replace h := h.1 hc
    refine lv_iconst (v := (-1 : Int32)) hx hb dX4_layers_14 (by decide) ?_
    exact (zb_X4_layers_15 A hr hd0 hZ (lv_sub hl [] rfl) h)
  · replace h := h.2 hc
    refine lv_aload_n hx hb dX4_layers_7 rfl (lv_at hl 0 rfl) ?_
    refine z_get (A d0) hZ (ci := 4) (j := 6) ho_x0.1 ho_x0.2 (by decide) (by decide) k_fl_RX4_38 (v := .int (mI M1 x0 6)) rfl dX4_layers_8 ?_
    refine lv_goto (tgt := 15) hx hb dX4_layers_11 (by decide) ?_
    exact (zb_X4_layers_15 A hr hd0 hZ (lv_sub hl [] rfl) h)
/-! cX4_tierOf -/
set_option maxRecDepth 100000 in
set_option maxHeartbeats 4000000 in
theorem zb_X4_tierOf_20 {p : Program} {l : Launch} {e : Env} {R : Room} {s : State} {m : MethodId} {args : Array Value} {below : List Frame} {meth : Method} {c : Code} {G : ZG} {base z0 : Nat} {Q : Option Nat → Mem → Prop} (A : ∀ d, Amb p R (s.setDrawn d) m args meth c G base z0 cX4_tierOf yX4_tierOf.cls 2 1 20) (hr : meth.sig.returnType = (some (.object "LeaningIndex$Tier"))) {d0 : Drawn} {H : Heap} {locs : List Loc} {cells slots : Nat} {ls : Array Slot}  {M : Mem} (hd0 : s.drawn.sameBut d0 lw_cs) (hZ : ZH G true base s.heap M H locs) (hl : lv_has ls 2 []) (h : wp_X4_tierOf_20 M Q) : W p l e R (s.setDrawn d0) m args below meth c H locs cells slots (ZEnd below G true base z0 (qR base Q) args s) (F0 m 20 ls []) := by
  have hx := (A d0).1
  have hb := (A d0).2.1
  unfold wp_X4_tierOf_20 at h
  refine z_null (base := base) hx hb dX4_tierOf_20 ?_
  exact z_aret (r := none) A hd0 hZ hr ⟨_, rfl, h⟩ dX4_tierOf_21
set_option maxRecDepth 100000 in
set_option maxHeartbeats 4000000 in
theorem zb_X4_tierOf_40 {p : Program} {l : Launch} {e : Env} {R : Room} {s : State} {m : MethodId} {args : Array Value} {below : List Frame} {meth : Method} {c : Code} {G : ZG} {base z0 : Nat} {Q : Option Nat → Mem → Prop} (A : ∀ d, Amb p R (s.setDrawn d) m args meth c G base z0 cX4_tierOf yX4_tierOf.cls 2 1 20) (hr : meth.sig.returnType = (some (.object "LeaningIndex$Tier"))) {d0 : Drawn} {H : Heap} {locs : List Loc} {cells slots : Nat} {ls : Array Slot} {t0 : Option Nat} {M : Mem} (hd0 : s.drawn.sameBut d0 lw_cs) (hZ : ZH G true base s.heap M H locs) (hl : lv_has ls 2 []) (h : wp_X4_tierOf_40 t0 M Q) : W p l e R (s.setDrawn d0) m args below meth c H locs cells slots (ZEnd below G true base z0 (qR base Q) args s) (F0 m 40 ls [vr base t0]) := by
  have hx := (A d0).1
  have hb := (A d0).2.1
  unfold wp_X4_tierOf_40 at h
  exact z_aret (r := t0) A hd0 hZ hr ⟨_, rfl, h⟩ dX4_tierOf_40
set_option maxRecDepth 100000 in
set_option maxHeartbeats 4000000 in
theorem c_X4_tierOf (l : Launch) (G : ZG) (base : Nat) (M : Mem) (x0 : Nat) (x1 : Int32) (Q : Option Nat → Mem → Prop) (h : wp_X4_tierOf x0 x1 M Q) : ZMet l yX4_tierOf cX4_tierOf 2 (some (.object "LeaningIndex$Tier")) 1 20 G true base M [.ref (base + x0), .int x1] (qR base Q) := by
  refine z_start (by decide) (Nat.le_of_ble_eq_true rfl) k_co_yX4_tierOf ?_
  intro p e s m below meth c R d0 H locs cells slots ls A hr hn hd0 hZ hl
  have hx := (A d0).1
  have hb := (A d0).2.1
  have hl : lv_has ls 2 [(0, .ref (base + x0)), (1, .int x1)] := hl
  unfold wp_X4_tierOf at h
  obtain ⟨ho_x0, h⟩ := h
  refine lv_aload_n hx hb dX4_tierOf_0 rfl (lv_at hl 0 rfl) ?_
  refine z_callV A hd0 hZ (ci := 4) (nA := 0) (As := []) (by decide) ho_x0 (c_X4_hasIndex l G base M x0 _ h) k_ml_RX4_111 k_im_yX4_hasIndex k_se_yX4_hasIndex k_in_RX4 k_co_yX4_hasIndex (by decide +kernel) ⟨by decide, by decide⟩ rfl rfl (Nat.le_of_ble_eq_true rfl) hl dX4_tierOf_1 (fun v M1 H locs d0 cells slots hq hd0 hZ hm => ?_)
  clear h
  obtain ⟨i2, rfl, h⟩ := hq
  have ho_x0 := isO_le hm ho_x0
  refine lv_if_eq (tgt := 20) hx hb dX4_tierOf_4 (by decide) (fun hc => ?_) (fun hc => ?_)
  · replace h := h.1 hc
    exact (zb_X4_tierOf_20 A hr hd0 hZ (lv_sub hl [] rfl) h)
  · replace h := h.2 hc
    refine lv_iload_n hx hb dX4_tierOf_7 rfl (lv_at hl 1 rfl) ?_
    refine lv_iconst (v := (-1 : Int32)) hx hb dX4_tierOf_8 (by decide) ?_
    refine lv_icmp_lt (tgt := 20) hx hb dX4_tierOf_9 (by decide) (fun hc => ?_) (fun hc => ?_)
    · replace h := h.1 hc
      exact (zb_X4_tierOf_20 A hr hd0 hZ (lv_sub hl [] rfl) h)
    · replace h := h.2 hc
      refine lv_iload_n hx hb dX4_tierOf_12 rfl (lv_at hl 1 rfl) ?_
      refine lv_aload_n hx hb dX4_tierOf_13 rfl (lv_at hl 0 rfl) ?_
      refine z_get (A d0) hZ (ci := 4) (j := 6) ho_x0.1 ho_x0.2 (by decide) (by decide) k_fl_RX4_38 (v := .int (mI M1 x0 6)) rfl dX4_tierOf_14 ?_
      refine lv_icmp_lt (tgt := 22) hx hb dX4_tierOf_17 (by decide) (fun hc => ?_) (fun hc => ?_)
      · replace h := h.1 hc
        refine lv_iload_n hx hb dX4_tierOf_22 rfl (lv_at hl 1 rfl) ?_
        refine lv_iconst (v := (-1 : Int32)) hx hb dX4_tierOf_23 (by decide) ?_
        refine lv_icmp_ne (tgt := 34) hx hb dX4_tierOf_24 (by decide) (fun hc => ?_) (fun hc => ?_)
        · replace h := h.1 hc
          refine lv_aload_n hx hb dX4_tierOf_34 rfl (lv_at hl 0 rfl) ?_
          refine z_get (A d0) hZ (ci := 4) (j := 5) ho_x0.1 ho_x0.2 (by decide) (by decide) k_fl_RX4_34 (v := .ref (base + 12)) (zv_fin (zf4 ho_x0 rfl) rfl) dX4_tierOf_35 ?_
          refine lv_iload_n hx hb dX4_tierOf_38 rfl (lv_at hl 1 rfl) ?_
          obtain ⟨hin, h⟩ := h
          refine z_aaldT (A d0) hZ (isA_c (a := 12) hZ.k0 (by decide) rfl) hin dX4_tierOf_39 ?_
          obtain ⟨r3, er3⟩ : ∃ y : Option Nat, y = zref true M1 12 x1.toNatClampNeg := ⟨_, rfl⟩
          rw [← er3]
          replace h := h r3 er3
          exact (zb_X4_tierOf_40 A hr hd0 hZ (lv_sub hl [] rfl) h)
        · replace h := h.2 hc
          refine lv_aload_n hx hb dX4_tierOf_27 rfl (lv_at hl 0 rfl) ?_
          refine z_get (A d0) hZ (ci := 4) (j := 3) ho_x0.1 ho_x0.2 (by decide) (by decide) k_fl_RX4_27 (v := vr base (mR M1 x0 3)) (zv_dyn (zf4 ho_x0 rfl) rfl) dX4_tierOf_28 ?_
          obtain ⟨r4, er4⟩ : ∃ y : Option Nat, y = mR M1 x0 3 := ⟨_, rfl⟩
          rw [← er4]
          replace h := h r4 er4
          refine lv_goto (tgt := 40) hx hb dX4_tierOf_31 (by decide) ?_
          exact (zb_X4_tierOf_40 A hr hd0 hZ (lv_sub hl [] rfl) h)
      · replace h := h.2 hc
        exact (zb_X4_tierOf_20 A hr hd0 hZ (lv_sub hl [] rfl) h)
