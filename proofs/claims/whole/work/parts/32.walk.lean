/-! cX5_find -/
set_option maxRecDepth 100000 in
set_option maxHeartbeats 4000000 in
theorem zb_X5_find_45 {p : Program} {l : Launch} {e : Env} {R : Room} {s : State} {m : MethodId} {args : Array Value} {below : List Frame} {meth : Method} {c : Code} {G : ZG} {base z0 : Nat} {Q : Int32 → Mem → Prop} (A : ∀ d, Amb p R (s.setDrawn d) m args meth c G base z0 cX5_find yX5_find.cls 5 3 83) (hr : meth.sig.returnType = (some .int)) {K74 : Nat → Int32 → Mem → Prop} :
  ∀ (n : Nat) {d0 : Drawn} {H : Heap} {locs : List Loc} {cells slots : Nat} {ls : Array Slot} {x0 : Nat} {x3 : Int32} {x4 : Int32} {M : Mem} (ho_x0 : isO M x0 5) (hd0 : s.drawn.sameBut d0 lw_cs) (hZ : ZH G true base s.heap M H locs) (hl : lv_has ls 5 [(0, .ref (base + x0)), (3, .int x3), (4, .int x4)]) (h : wp_X5_find_45 n x0 x3 x4 M Q K74) (hK74 : ∀ {d0 : Drawn} {H : Heap} {locs : List Loc} {cells slots : Nat} {ls : Array Slot} {x0 : Nat} {x3 : Int32} {M : Mem} (ho_x0 : isO M x0 5), s.drawn.sameBut d0 lw_cs → ZH G true base s.heap M H locs → lv_has ls 5 [(0, .ref (base + x0)), (3, .int x3)] → K74 x0 x3 M → W p l e R (s.setDrawn d0) m args below meth c H locs cells slots (ZEnd below G true base z0 (qI Q) args s) (F0 m 74 ls [])), W p l e R (s.setDrawn d0) m args below meth c H locs cells slots (ZEnd below G true base z0 (qI Q) args s) (F0 m 45 ls []) := by
  have hx := (A default).1
  have hb := (A default).2.1
  intro n
  induction n with
  | zero => intro d0 H locs cells slots ls x0 x3 x4 M ho_x0 hd0 hZ hl h hK74; exact h.elim
  | succ n ih =>
    intro d0 H locs cells slots ls x0 x3 x4 M ho_x0 hd0 hZ hl h hK74
    unfold wp_X5_find_45 at h
    refine lv_iload hx hb dX5_find_45 (lv_at hl 2 rfl) ?_
    refine lv_aload_n hx hb dX5_find_47 rfl (lv_at hl 0 rfl) ?_
    refine z_get (A d0) hZ (ci := 5) (j := 39) ho_x0.1 ho_x0.2 (by decide) (by decide) k_fl_RX5_134 (v := .int (mI M x0 39)) rfl dX5_find_48 ?_
    refine lv_icmp_ge (tgt := 74) hx hb dX5_find_51 (by decide) (fun hc => ?_) (fun hc => ?_)
    · replace h := h.1 hc
      exact hK74 ho_x0 hd0 hZ (lv_sub hl [0, 1] rfl) h
    · replace h := h.2 hc
      refine lv_aload_n hx hb dX5_find_54 rfl (lv_at hl 0 rfl) ?_
      refine z_get (A d0) hZ (ci := 5) (j := 38) ho_x0.1 ho_x0.2 (by decide) (by decide) k_fl_RX5_131 (v := .ref (base + 96)) (zv_fin (zf5 ho_x0 rfl) rfl) dX5_find_55 ?_
      refine lv_iload hx hb dX5_find_58 (lv_at hl 2 rfl) ?_
      refine lv_aload_n hx hb dX5_find_60 rfl (lv_at hl 0 rfl) ?_
      refine z_get (A d0) hZ (ci := 5) (j := 37) ho_x0.1 ho_x0.2 (by decide) (by decide) k_fl_RX5_128 (v := .ref (base + 95)) (zv_fin (zf5 ho_x0 rfl) rfl) dX5_find_61 ?_
      refine lv_iload hx hb dX5_find_64 (lv_at hl 2 rfl) ?_
      obtain ⟨hin, h⟩ := h
      refine z_iald (A d0) hZ (isA_c (a := 95) hZ.k0 (by decide) rfl) hin dX5_find_66 ?_
      obtain ⟨hin, h⟩ := h
      obtain ⟨M1, eM1⟩ : ∃ y : Mem, y = sI M 96 x4.toNatClampNeg (mI M 95 x4.toNatClampNeg) := ⟨_, rfl⟩
      refine z_iast (A d0) hZ (isA_c (a := 96) hZ.k0 (by decide) rfl) hin dX5_find_67 (fun H locs hZ => ?_)
      rw [← eM1] at hZ
      have hm : mz M1 = mz M := by rw [eM1] <;> rfl
      have ho_x0 := isO_le (Nat.le_of_eq hm.symm) ho_x0
      replace h := h M1 eM1
      obtain ⟨i2, ei2⟩ : ∃ y : Int32, y = x4 + (1 : Int32) := ⟨_, rfl⟩
      replace h := h i2 ei2
      refine lv_iinc (v := i2) (lv' := [(4, .int i2), (0, .ref (base + x0)), (3, .int x3)]) hx hb dX5_find_68 hl (k := 2) rfl (by rw [ei2]; rfl) (by decide) rfl (fun ls hl2 => ?_)
      replace hl := hl2
      refine lv_goto (tgt := 45) hx hb dX5_find_71 (by decide) ?_
      exact ih ho_x0 hd0 hZ (lv_sub hl [1, 2, 0] rfl) h hK74
set_option maxRecDepth 100000 in
set_option maxHeartbeats 4000000 in
theorem zb_X5_find_88 {p : Program} {l : Launch} {e : Env} {R : Room} {s : State} {m : MethodId} {args : Array Value} {below : List Frame} {meth : Method} {c : Code} {G : ZG} {base z0 : Nat} {Q : Int32 → Mem → Prop} (A : ∀ d, Amb p R (s.setDrawn d) m args meth c G base z0 cX5_find yX5_find.cls 5 3 83) (hr : meth.sig.returnType = (some .int)) {d0 : Drawn} {H : Heap} {locs : List Loc} {cells slots : Nat} {ls : Array Slot} {t0 : Int32} {M : Mem} (hd0 : s.drawn.sameBut d0 lw_cs) (hZ : ZH G true base s.heap M H locs) (hl : lv_has ls 5 []) (h : wp_X5_find_88 t0 M Q) : W p l e R (s.setDrawn d0) m args below meth c H locs cells slots (ZEnd below G true base z0 (qI Q) args s) (F0 m 88 ls [.int t0]) := by
  have hx := (A d0).1
  have hb := (A d0).2.1
  unfold wp_X5_find_88 at h
  exact z_iret A hd0 hZ hr ⟨_, rfl, h⟩ dX5_find_88
set_option maxRecDepth 100000 in
set_option maxHeartbeats 4000000 in
theorem zb_X5_find_74 {p : Program} {l : Launch} {e : Env} {R : Room} {s : State} {m : MethodId} {args : Array Value} {below : List Frame} {meth : Method} {c : Code} {G : ZG} {base z0 : Nat} {Q : Int32 → Mem → Prop} (A : ∀ d, Amb p R (s.setDrawn d) m args meth c G base z0 cX5_find yX5_find.cls 5 3 83) (hr : meth.sig.returnType = (some .int)) {d0 : Drawn} {H : Heap} {locs : List Loc} {cells slots : Nat} {ls : Array Slot} {x0 : Nat} {x3 : Int32} {M : Mem} (ho_x0 : isO M x0 5) (hd0 : s.drawn.sameBut d0 lw_cs) (hZ : ZH G true base s.heap M H locs) (hl : lv_has ls 5 [(0, .ref (base + x0)), (3, .int x3)]) (h : wp_X5_find_74 x0 x3 M Q) : W p l e R (s.setDrawn d0) m args below meth c H locs cells slots (ZEnd below G true base z0 (qI Q) args s) (F0 m 74 ls []) := by
  have hx := (A d0).1
  have hb := (A d0).2.1
  unfold wp_X5_find_74 at h
  refine lv_aload_n hx hb dX5_find_74 rfl (lv_at hl 0 rfl) ?_
  refine lv_iconst (v := (1 : Int32)) hx hb dX5_find_75 (by decide) ?_
  obtain ⟨M3, eM3⟩ : ∃ y : Mem, y = sI M x0 46 (1 : Int32) := ⟨_, rfl⟩
  refine z_put (A d0) hZ (ci := 5) (j := 46) (M' := M3) ho_x0.1 ho_x0.2 (by decide) (by decide) k_fl_RX5_155 rfl (by rw [eM3]; exact zUpd_Z) (nar_b (Or.inr rfl)) rfl dX5_find_76 (fun H locs hZ => ?_)
  have hm : mz M3 = mz M := by rw [eM3] <;> rfl
  have ho_x0 := isO_le (Nat.le_of_eq hm.symm) ho_x0
  replace h := h M3 eM3
  refine lv_iload_n hx hb dX5_find_79 rfl (lv_at hl 1 rfl) ?_
  refine lv_if_eq (tgt := 87) hx hb dX5_find_80 (by decide) (fun hc => ?_) (fun hc => ?_)
  · replace h := h.1 hc
    refine lv_iconst (v := (0 : Int32)) hx hb dX5_find_87 (by decide) ?_
    exact (zb_X5_find_88 A hr hd0 hZ (lv_sub hl [] rfl) h)
  · replace h := h.2 hc
    refine lv_iconst (v := (1 : Int32)) hx hb dX5_find_83 (by decide) ?_
    refine lv_goto (tgt := 88) hx hb dX5_find_84 (by decide) ?_
    exact (zb_X5_find_88 A hr hd0 hZ (lv_sub hl [] rfl) h)
set_option maxRecDepth 100000 in
set_option maxHeartbeats 4000000 in
theorem c_X5_find (l : Launch) (G : ZG) (base : Nat) (M : Mem) (x0 : Nat) (x1 : Int64) (Q : Int32 → Mem → Prop) (h : wp_X5_find x0 x1 M Q) : ZMet l yX5_find cX5_find 5 (some .int) 3 83 G true base M [.ref (base + x0), .long x1] (qI Q) := by
  refine z_start (by decide) (Nat.le_of_ble_eq_true rfl) k_co_yX5_find ?_
  intro p e s m below meth c R d0 H locs cells slots ls A hr hn hd0 hZ hl
  have hx := (A d0).1
  have hb := (A d0).2.1
  have hl : lv_has ls 5 [(0, .ref (base + x0)), (1, .long x1)] := hl
  unfold wp_X5_find at h
  obtain ⟨ho_x0, h⟩ := h
  refine lv_aload_n hx hb dX5_find_0 rfl (lv_at hl 0 rfl) ?_
  refine z_get (A d0) hZ (ci := 5) (j := 23) ho_x0.1 ho_x0.2 (by decide) (by decide) k_fl_RX5_84 (v := .int (mI M x0 23)) rfl dX5_find_1 ?_
  refine lv_if_ne (tgt := 9) hx hb dX5_find_4 (by decide) (fun hc => ?_) (fun hc => ?_)
  · replace h := h.1 hc
    refine lv_aload_n hx hb dX5_find_9 rfl (lv_at hl 0 rfl) ?_
    refine lv_lload_n hx hb dX5_find_10 rfl (lv_at hl 1 rfl) ?_
    refine z_callV A hd0 hZ (ci := 5) (nA := 1) (As := [.long x1]) (by decide) ho_x0 (c_X5_isKey l G base M x0 x1 _ h) k_ml_RX5_162 k_im_yX5_isKey k_se_yX5_isKey k_in_RX5 k_co_yX5_isKey (by decide +kernel) ⟨by decide, by decide⟩ rfl rfl (Nat.le_of_ble_eq_true rfl) hl dX5_find_11 (fun v M4 H locs d0 cells slots hq hd0 hZ hm => ?_)
    clear h
    obtain ⟨i5, rfl, h⟩ := hq
    have ho_x0 := isO_le hm ho_x0
    refine lv_if_ne (tgt := 20) hx hb dX5_find_14 (by decide) (fun hc => ?_) (fun hc => ?_)
    · replace h := h.1 hc
      refine lv_aload_n hx hb dX5_find_20 rfl (lv_at hl 0 rfl) ?_
      refine lv_lload_n hx hb dX5_find_21 rfl (lv_at hl 1 rfl) ?_
      refine z_callV A hd0 hZ (ci := 5) (nA := 1) (As := [.long x1]) (by decide) ho_x0 (c_X5_found l G base M4 x0 x1 _ h) k_ml_RX5_246 k_im_yX5_found k_se_yX5_found k_in_RX5 k_co_yX5_found (by decide +kernel) ⟨by decide, by decide⟩ rfl rfl (Nat.le_of_ble_eq_true rfl) hl dX5_find_22 (fun v M6 H locs d0 cells slots hq hd0 hZ hm => ?_)
      clear h
      obtain ⟨i7, rfl, h⟩ := hq
      have ho_x0 := isO_le hm ho_x0
      refine lv_istore_n (lv' := [(3, .int i7), (0, .ref (base + x0)), (1, .long x1)]) hx hb dX5_find_25 rfl hl (by decide) rfl (fun ls hl2 => ?_)
      replace hl := hl2
      refine lv_aload_n hx hb dX5_find_26 rfl (lv_at hl 1 rfl) ?_
      refine lv_aload_n hx hb dX5_find_27 rfl (lv_at hl 1 rfl) ?_
      refine z_get (A d0) hZ (ci := 5) (j := 41) ho_x0.1 ho_x0.2 (by decide) (by decide) k_fl_RX5_140 (v := .int (mI M6 x0 41)) rfl dX5_find_28 ?_
      obtain ⟨M8, eM8⟩ : ∃ y : Mem, y = sI M6 x0 42 (mI M6 x0 41) := ⟨_, rfl⟩
      refine z_put (A d0) hZ (ci := 5) (j := 42) (M' := M8) ho_x0.1 ho_x0.2 (by decide) (by decide) k_fl_RX5_143 rfl (by rw [eM8]; exact zUpd_I) rfl rfl dX5_find_31 (fun H locs hZ => ?_)
      have hm : mz M8 = mz M6 := by rw [eM8] <;> rfl
      have ho_x0 := isO_le (Nat.le_of_eq hm.symm) ho_x0
      replace h := h M8 eM8
      refine lv_aload_n hx hb dX5_find_34 rfl (lv_at hl 1 rfl) ?_
      refine lv_aload_n hx hb dX5_find_35 rfl (lv_at hl 1 rfl) ?_
      refine z_get (A d0) hZ (ci := 5) (j := 39) ho_x0.1 ho_x0.2 (by decide) (by decide) k_fl_RX5_134 (v := .int (mI M8 x0 39)) rfl dX5_find_36 ?_
      obtain ⟨M9, eM9⟩ : ∃ y : Mem, y = sI M8 x0 40 (mI M8 x0 39) := ⟨_, rfl⟩
      refine z_put (A d0) hZ (ci := 5) (j := 40) (M' := M9) ho_x0.1 ho_x0.2 (by decide) (by decide) k_fl_RX5_137 rfl (by rw [eM9]; exact zUpd_I) rfl rfl dX5_find_39 (fun H locs hZ => ?_)
      have hm : mz M9 = mz M8 := by rw [eM9] <;> rfl
      have ho_x0 := isO_le (Nat.le_of_eq hm.symm) ho_x0
      replace h := h M9 eM9
      refine lv_iconst (v := (0 : Int32)) hx hb dX5_find_42 (by decide) ?_
      refine lv_istore (lv' := [(4, .int (0 : Int32)), (3, .int i7), (0, .ref (base + x0)), (1, .long x1)]) hx hb dX5_find_43 hl (by decide) rfl (fun ls hl2 => ?_)
      replace hl := hl2
      exact (Exists.elim h fun kk h => zb_X5_find_45 A hr kk ho_x0 hd0 hZ (lv_sub hl [2, 1, 0] rfl) h (fun ho_x0 hd0 hZ hl h => (zb_X5_find_74 A hr ho_x0 hd0 hZ hl h)))
    · replace h := h.2 hc
      refine lv_bipush (v := (-2 : Int32)) hx hb dX5_find_17 (by decide) ?_
      exact z_iret A hd0 hZ hr ⟨_, rfl, h⟩ dX5_find_19
  · replace h := h.2 hc
    refine lv_iconst (v := (-1 : Int32)) hx hb dX5_find_7 (by decide) ?_
    exact z_iret A hd0 hZ hr ⟨_, rfl, h⟩ dX5_find_8
/-! cX5_check -/
set_option maxRecDepth 100000 in
set_option maxHeartbeats 4000000 in
theorem zb_X5_check_24 {p : Program} {l : Launch} {e : Env} {R : Room} {s : State} {m : MethodId} {args : Array Value} {below : List Frame} {meth : Method} {c : Code} {G : ZG} {base z0 : Nat} {Q : Int32 → Mem → Prop} (A : ∀ d, Amb p R (s.setDrawn d) m args meth c G base z0 cX5_check yX5_check.cls 6 3 83) (hr : meth.sig.returnType = (some .int)) {d0 : Drawn} {H : Heap} {locs : List Loc} {cells slots : Nat} {ls : Array Slot}  {M : Mem} (hd0 : s.drawn.sameBut d0 lw_cs) (hZ : ZH G true base s.heap M H locs) (hl : lv_has ls 6 []) (h : wp_X5_check_24 M Q) : W p l e R (s.setDrawn d0) m args below meth c H locs cells slots (ZEnd below G true base z0 (qI Q) args s) (F0 m 24 ls []) := by
  have hx := (A d0).1
  have hb := (A d0).2.1
  unfold wp_X5_check_24 at h
  refine lv_bipush (v := (-2 : Int32)) hx hb dX5_check_24 (by decide) ?_
  exact z_iret A hd0 hZ hr ⟨_, rfl, h⟩ dX5_check_26
set_option maxRecDepth 100000 in
set_option maxHeartbeats 4000000 in
theorem zb_X5_check_90 {p : Program} {l : Launch} {e : Env} {R : Room} {s : State} {m : MethodId} {args : Array Value} {below : List Frame} {meth : Method} {c : Code} {G : ZG} {base z0 : Nat} {Q : Int32 → Mem → Prop} (A : ∀ d, Amb p R (s.setDrawn d) m args meth c G base z0 cX5_check yX5_check.cls 6 3 83) (hr : meth.sig.returnType = (some .int)) {K54 : Nat → Int32 → Int32 → Int32 → Mem → Prop} {K98 : Int32 → Int32 → Mem → Prop} {d0 : Drawn} {H : Heap} {locs : List Loc} {cells slots : Nat} {ls : Array Slot} {x0 : Nat} {x3 : Int32} {x5 : Int32} {t0 : Int32} {M : Mem} (ho_x0 : isO M x0 5) (hd0 : s.drawn.sameBut d0 lw_cs) (hZ : ZH G true base s.heap M H locs) (hl : lv_has ls 6 [(0, .ref (base + x0)), (3, .int x3), (5, .int x5)]) (h : wp_X5_check_90 x0 x3 x5 t0 M Q K54 K98) (hK54 : ∀ {d0 : Drawn} {H : Heap} {locs : List Loc} {cells slots : Nat} {ls : Array Slot} {x0 : Nat} {x3 : Int32} {x4 : Int32} {x5 : Int32} {M : Mem} (ho_x0 : isO M x0 5), s.drawn.sameBut d0 lw_cs → ZH G true base s.heap M H locs → lv_has ls 6 [(0, .ref (base + x0)), (3, .int x3), (4, .int x4), (5, .int x5)] → K54 x0 x3 x4 x5 M → W p l e R (s.setDrawn d0) m args below meth c H locs cells slots (ZEnd below G true base z0 (qI Q) args s) (F0 m 54 ls [])) (hK98 : ∀ {d0 : Drawn} {H : Heap} {locs : List Loc} {cells slots : Nat} {ls : Array Slot} {x3 : Int32} {x4 : Int32} {M : Mem}, s.drawn.sameBut d0 lw_cs → ZH G true base s.heap M H locs → lv_has ls 6 [(3, .int x3), (4, .int x4)] → K98 x3 x4 M → W p l e R (s.setDrawn d0) m args below meth c H locs cells slots (ZEnd below G true base z0 (qI Q) args s) (F0 m 98 ls [])) : W p l e R (s.setDrawn d0) m args below meth c H locs cells slots (ZEnd below G true base z0 (qI Q) args s) (F0 m 90 ls [.int t0]) := by
  have hx := (A d0).1
  have hb := (A d0).2.1
  unfold wp_X5_check_90 at h
  refine lv_istore (lv' := [(4, .int t0), (0, .ref (base + x0)), (3, .int x3), (5, .int x5)]) hx hb dX5_check_90 hl (by decide) rfl (fun ls hl2 => ?_)
  replace hl := hl2
  obtain ⟨i1, ei1⟩ : ∃ y : Int32, y = x5 + (1 : Int32) := ⟨_, rfl⟩
  replace h := h i1 ei1
  refine lv_iinc (v := i1) (lv' := [(5, .int i1), (4, .int t0), (0, .ref (base + x0)), (3, .int x3)]) hx hb dX5_check_92 hl (k := 3) rfl (by rw [ei1]; rfl) (by decide) rfl (fun ls hl2 => ?_)
  replace hl := hl2
  refine lv_goto (tgt := 54) hx hb dX5_check_95 (by decide) ?_
  exact hK54 ho_x0 hd0 hZ (lv_sub hl [2, 3, 1, 0] rfl) h
set_option maxRecDepth 100000 in
set_option maxHeartbeats 4000000 in
theorem zb_X5_check_117 {p : Program} {l : Launch} {e : Env} {R : Room} {s : State} {m : MethodId} {args : Array Value} {below : List Frame} {meth : Method} {c : Code} {G : ZG} {base z0 : Nat} {Q : Int32 → Mem → Prop} (A : ∀ d, Amb p R (s.setDrawn d) m args meth c G base z0 cX5_check yX5_check.cls 6 3 83) (hr : meth.sig.returnType = (some .int)) {d0 : Drawn} {H : Heap} {locs : List Loc} {cells slots : Nat} {ls : Array Slot} {t0 : Int32} {t1 : Int32} {M : Mem} (hd0 : s.drawn.sameBut d0 lw_cs) (hZ : ZH G true base s.heap M H locs) (hl : lv_has ls 6 []) (h : wp_X5_check_117 t0 t1 M Q) : W p l e R (s.setDrawn d0) m args below meth c H locs cells slots (ZEnd below G true base z0 (qI Q) args s) (F0 m 117 ls [.int t0, .int t1]) := by
  have hx := (A d0).1
  have hb := (A d0).2.1
  unfold wp_X5_check_117 at h
  refine lv_iadd hx hb dX5_check_117 ?_
  exact z_iret A hd0 hZ hr ⟨_, rfl, h⟩ dX5_check_118
set_option maxRecDepth 100000 in
set_option maxHeartbeats 4000000 in
theorem zb_X5_check_54 {p : Program} {l : Launch} {e : Env} {R : Room} {s : State} {m : MethodId} {args : Array Value} {below : List Frame} {meth : Method} {c : Code} {G : ZG} {base z0 : Nat} {Q : Int32 → Mem → Prop} (A : ∀ d, Amb p R (s.setDrawn d) m args meth c G base z0 cX5_check yX5_check.cls 6 3 83) (hr : meth.sig.returnType = (some .int)) {K98 : Int32 → Int32 → Mem → Prop} :
  ∀ (n : Nat) {d0 : Drawn} {H : Heap} {locs : List Loc} {cells slots : Nat} {ls : Array Slot} {x0 : Nat} {x3 : Int32} {x4 : Int32} {x5 : Int32} {M : Mem} (ho_x0 : isO M x0 5) (hd0 : s.drawn.sameBut d0 lw_cs) (hZ : ZH G true base s.heap M H locs) (hl : lv_has ls 6 [(0, .ref (base + x0)), (3, .int x3), (4, .int x4), (5, .int x5)]) (h : wp_X5_check_54 n x0 x3 x4 x5 M Q K98) (hK98 : ∀ {d0 : Drawn} {H : Heap} {locs : List Loc} {cells slots : Nat} {ls : Array Slot} {x3 : Int32} {x4 : Int32} {M : Mem}, s.drawn.sameBut d0 lw_cs → ZH G true base s.heap M H locs → lv_has ls 6 [(3, .int x3), (4, .int x4)] → K98 x3 x4 M → W p l e R (s.setDrawn d0) m args below meth c H locs cells slots (ZEnd below G true base z0 (qI Q) args s) (F0 m 98 ls [])), W p l e R (s.setDrawn d0) m args below meth c H locs cells slots (ZEnd below G true base z0 (qI Q) args s) (F0 m 54 ls []) := by
  have hx := (A default).1
  have hb := (A default).2.1
  intro n
  induction n with
  | zero => intro d0 H locs cells slots ls x0 x3 x4 x5 M ho_x0 hd0 hZ hl h hK98; exact h.elim
  | succ n ih =>
    intro d0 H locs cells slots ls x0 x3 x4 x5 M ho_x0 hd0 hZ hl h hK98
    unfold wp_X5_check_54 at h
    refine lv_iload hx hb dX5_check_54 (lv_at hl 3 rfl) ?_
    refine lv_aload_n hx hb dX5_check_56 rfl (lv_at hl 0 rfl) ?_
    refine z_get (A d0) hZ (ci := 5) (j := 39) ho_x0.1 ho_x0.2 (by decide) (by decide) k_fl_RX5_134 (v := .int (mI M x0 39)) rfl dX5_check_57 ?_
    refine lv_icmp_ge (tgt := 98) hx hb dX5_check_60 (by decide) (fun hc => ?_) (fun hc => ?_)
    · replace h := h.1 hc
      exact hK98 hd0 hZ (lv_sub hl [1, 2] rfl) h
    · replace h := h.2 hc
      refine lv_iload hx hb dX5_check_63 (lv_at hl 2 rfl) ?_
      refine lv_if_eq (tgt := 98) hx hb dX5_check_65 (by decide) (fun hc => ?_) (fun hc => ?_)
      · replace h := h.1 hc
        exact hK98 hd0 hZ (lv_sub hl [1, 2] rfl) h
      · replace h := h.2 hc
        refine lv_aload_n hx hb dX5_check_68 rfl (lv_at hl 0 rfl) ?_
        refine z_get (A d0) hZ (ci := 5) (j := 37) ho_x0.1 ho_x0.2 (by decide) (by decide) k_fl_RX5_128 (v := .ref (base + 95)) (zv_fin (zf5 ho_x0 rfl) rfl) dX5_check_69 ?_
        refine lv_iload hx hb dX5_check_72 (lv_at hl 3 rfl) ?_
        obtain ⟨hin, h⟩ := h
        refine z_iald (A d0) hZ (isA_c (a := 95) hZ.k0 (by decide) rfl) hin dX5_check_74 ?_
        refine lv_aload_n hx hb dX5_check_75 rfl (lv_at hl 0 rfl) ?_
        refine z_get (A d0) hZ (ci := 5) (j := 38) ho_x0.1 ho_x0.2 (by decide) (by decide) k_fl_RX5_131 (v := .ref (base + 96)) (zv_fin (zf5 ho_x0 rfl) rfl) dX5_check_76 ?_
        refine lv_iload hx hb dX5_check_79 (lv_at hl 3 rfl) ?_
        obtain ⟨hin, h⟩ := h
        refine z_iald (A d0) hZ (isA_c (a := 96) hZ.k0 (by decide) rfl) hin dX5_check_81 ?_
        refine lv_icmp_ne (tgt := 89) hx hb dX5_check_82 (by decide) (fun hc => ?_) (fun hc => ?_)
        · replace h := h.1 hc
          refine lv_iconst (v := (0 : Int32)) hx hb dX5_check_89 (by decide) ?_
          exact (zb_X5_check_90 A hr ho_x0 hd0 hZ (lv_sub hl [0, 1, 3] rfl) h (fun ho_x0 hd0 hZ hl h => ih ho_x0 hd0 hZ hl h hK98) hK98)
        · replace h := h.2 hc
          refine lv_iconst (v := (1 : Int32)) hx hb dX5_check_85 (by decide) ?_
          refine lv_goto (tgt := 90) hx hb dX5_check_86 (by decide) ?_
          exact (zb_X5_check_90 A hr ho_x0 hd0 hZ (lv_sub hl [0, 1, 3] rfl) h (fun ho_x0 hd0 hZ hl h => ih ho_x0 hd0 hZ hl h hK98) hK98)
set_option maxRecDepth 100000 in
set_option maxHeartbeats 4000000 in
theorem zb_X5_check_107 {p : Program} {l : Launch} {e : Env} {R : Room} {s : State} {m : MethodId} {args : Array Value} {below : List Frame} {meth : Method} {c : Code} {G : ZG} {base z0 : Nat} {Q : Int32 → Mem → Prop} (A : ∀ d, Amb p R (s.setDrawn d) m args meth c G base z0 cX5_check yX5_check.cls 6 3 83) (hr : meth.sig.returnType = (some .int)) {d0 : Drawn} {H : Heap} {locs : List Loc} {cells slots : Nat} {ls : Array Slot} {x4 : Int32} {t0 : Int32} {M : Mem} (hd0 : s.drawn.sameBut d0 lw_cs) (hZ : ZH G true base s.heap M H locs) (hl : lv_has ls 6 [(4, .int x4)]) (h : wp_X5_check_107 x4 t0 M Q) : W p l e R (s.setDrawn d0) m args below meth c H locs cells slots (ZEnd below G true base z0 (qI Q) args s) (F0 m 107 ls [.int t0]) := by
  have hx := (A d0).1
  have hb := (A d0).2.1
  unfold wp_X5_check_107 at h
  refine lv_iload hx hb dX5_check_107 (lv_at hl 0 rfl) ?_
  refine lv_if_eq (tgt := 116) hx hb dX5_check_109 (by decide) (fun hc => ?_) (fun hc => ?_)
  · replace h := h.1 hc
    refine lv_iconst (v := (0 : Int32)) hx hb dX5_check_116 (by decide) ?_
    exact (zb_X5_check_117 A hr hd0 hZ (lv_sub hl [] rfl) h)
  · replace h := h.2 hc
    refine lv_iconst (v := (1 : Int32)) hx hb dX5_check_112 (by decide) ?_
    refine lv_goto (tgt := 117) hx hb dX5_check_113 (by decide) ?_
    exact (zb_X5_check_117 A hr hd0 hZ (lv_sub hl [] rfl) h)
set_option maxRecDepth 100000 in
set_option maxHeartbeats 4000000 in
theorem zb_X5_check_98 {p : Program} {l : Launch} {e : Env} {R : Room} {s : State} {m : MethodId} {args : Array Value} {below : List Frame} {meth : Method} {c : Code} {G : ZG} {base z0 : Nat} {Q : Int32 → Mem → Prop} (A : ∀ d, Amb p R (s.setDrawn d) m args meth c G base z0 cX5_check yX5_check.cls 6 3 83) (hr : meth.sig.returnType = (some .int)) {d0 : Drawn} {H : Heap} {locs : List Loc} {cells slots : Nat} {ls : Array Slot} {x3 : Int32} {x4 : Int32} {M : Mem} (hd0 : s.drawn.sameBut d0 lw_cs) (hZ : ZH G true base s.heap M H locs) (hl : lv_has ls 6 [(3, .int x3), (4, .int x4)]) (h : wp_X5_check_98 x3 x4 M Q) : W p l e R (s.setDrawn d0) m args below meth c H locs cells slots (ZEnd below G true base z0 (qI Q) args s) (F0 m 98 ls []) := by
  have hx := (A d0).1
  have hb := (A d0).2.1
  unfold wp_X5_check_98 at h
  refine lv_iload_n hx hb dX5_check_98 rfl (lv_at hl 0 rfl) ?_
  refine lv_if_eq (tgt := 106) hx hb dX5_check_99 (by decide) (fun hc => ?_) (fun hc => ?_)
  · replace h := h.1 hc
    refine lv_iconst (v := (0 : Int32)) hx hb dX5_check_106 (by decide) ?_
    exact (zb_X5_check_107 A hr hd0 hZ (lv_sub hl [1] rfl) h)
  · replace h := h.2 hc
    refine lv_iconst (v := (2 : Int32)) hx hb dX5_check_102 (by decide) ?_
    refine lv_goto (tgt := 107) hx hb dX5_check_103 (by decide) ?_
    exact (zb_X5_check_107 A hr hd0 hZ (lv_sub hl [1] rfl) h)
set_option maxRecDepth 100000 in
set_option maxHeartbeats 4000000 in
theorem zb_X5_check_49 {p : Program} {l : Launch} {e : Env} {R : Room} {s : State} {m : MethodId} {args : Array Value} {below : List Frame} {meth : Method} {c : Code} {G : ZG} {base z0 : Nat} {Q : Int32 → Mem → Prop} (A : ∀ d, Amb p R (s.setDrawn d) m args meth c G base z0 cX5_check yX5_check.cls 6 3 83) (hr : meth.sig.returnType = (some .int)) {d0 : Drawn} {H : Heap} {locs : List Loc} {cells slots : Nat} {ls : Array Slot} {x0 : Nat} {x3 : Int32} {t0 : Int32} {M : Mem} (ho_x0 : isO M x0 5) (hd0 : s.drawn.sameBut d0 lw_cs) (hZ : ZH G true base s.heap M H locs) (hl : lv_has ls 6 [(0, .ref (base + x0)), (3, .int x3)]) (h : wp_X5_check_49 x0 x3 t0 M Q) : W p l e R (s.setDrawn d0) m args below meth c H locs cells slots (ZEnd below G true base z0 (qI Q) args s) (F0 m 49 ls [.int t0]) := by
  have hx := (A d0).1
  have hb := (A d0).2.1
  unfold wp_X5_check_49 at h
  refine lv_istore (lv' := [(4, .int t0), (0, .ref (base + x0)), (3, .int x3)]) hx hb dX5_check_49 hl (by decide) rfl (fun ls hl2 => ?_)
  replace hl := hl2
  refine lv_iconst (v := (0 : Int32)) hx hb dX5_check_51 (by decide) ?_
  refine lv_istore (lv' := [(5, .int (0 : Int32)), (4, .int t0), (0, .ref (base + x0)), (3, .int x3)]) hx hb dX5_check_52 hl (by decide) rfl (fun ls hl2 => ?_)
  replace hl := hl2
  exact (Exists.elim h fun kk h => zb_X5_check_54 A hr kk ho_x0 hd0 hZ (lv_sub hl [2, 3, 1, 0] rfl) h (fun hd0 hZ hl h => (zb_X5_check_98 A hr hd0 hZ hl h)))
set_option maxRecDepth 100000 in
set_option maxHeartbeats 4000000 in
theorem c_X5_check (l : Launch) (G : ZG) (base : Nat) (M : Mem) (x0 : Nat) (x1 : Int64) (Q : Int32 → Mem → Prop) (h : wp_X5_check x0 x1 M Q) : ZMet l yX5_check cX5_check 6 (some .int) 3 83 G true base M [.ref (base + x0), .long x1] (qI Q) := by
  refine z_start (by decide) (Nat.le_of_ble_eq_true rfl) k_co_yX5_check ?_
  intro p e s m below meth c R d0 H locs cells slots ls A hr hn hd0 hZ hl
  have hx := (A d0).1
  have hb := (A d0).2.1
  have hl : lv_has ls 6 [(0, .ref (base + x0)), (1, .long x1)] := hl
  unfold wp_X5_check at h
  obtain ⟨ho_x0, h⟩ := h
  refine lv_aload_n hx hb dX5_check_0 rfl (lv_at hl 0 rfl) ?_
  refine z_get (A d0) hZ (ci := 5) (j := 23) ho_x0.1 ho_x0.2 (by decide) (by decide) k_fl_RX5_84 (v := .int (mI M x0 23)) rfl dX5_check_1 ?_
  refine lv_if_ne (tgt := 9) hx hb dX5_check_4 (by decide) (fun hc => ?_) (fun hc => ?_)
  · replace h := h.1 hc
    refine lv_aload_n hx hb dX5_check_9 rfl (lv_at hl 0 rfl) ?_
    refine lv_lload_n hx hb dX5_check_10 rfl (lv_at hl 1 rfl) ?_
    refine z_callV A hd0 hZ (ci := 5) (nA := 1) (As := [.long x1]) (by decide) ho_x0 (c_X5_isKey l G base M x0 x1 _ h) k_ml_RX5_162 k_im_yX5_isKey k_se_yX5_isKey k_in_RX5 k_co_yX5_isKey (by decide +kernel) ⟨by decide, by decide⟩ rfl rfl (Nat.le_of_ble_eq_true rfl) hl dX5_check_11 (fun v M2 H locs d0 cells slots hq hd0 hZ hm => ?_)
    clear h
    obtain ⟨i3, rfl, h⟩ := hq
    have ho_x0 := isO_le hm ho_x0
    refine lv_if_eq (tgt := 24) hx hb dX5_check_14 (by decide) (fun hc => ?_) (fun hc => ?_)
    · replace h := h.1 hc
      exact (zb_X5_check_24 A hr hd0 hZ (lv_sub hl [] rfl) h)
    · replace h := h.2 hc
      refine lv_aload_n hx hb dX5_check_17 rfl (lv_at hl 0 rfl) ?_
      refine z_get (A d0) hZ (ci := 5) (j := 46) ho_x0.1 ho_x0.2 (by decide) (by decide) k_fl_RX5_155 (v := .int (mI M2 x0 46)) rfl dX5_check_18 ?_
      refine lv_if_ne (tgt := 27) hx hb dX5_check_21 (by decide) (fun hc => ?_) (fun hc => ?_)
      · replace h := h.1 hc
        refine lv_aload_n hx hb dX5_check_27 rfl (lv_at hl 0 rfl) ?_
        refine lv_lload_n hx hb dX5_check_28 rfl (lv_at hl 1 rfl) ?_
        refine z_callV A hd0 hZ (ci := 5) (nA := 1) (As := [.long x1]) (by decide) ho_x0 (c_X5_found l G base M2 x0 x1 _ h) k_ml_RX5_246 k_im_yX5_found k_se_yX5_found k_in_RX5 k_co_yX5_found (by decide +kernel) ⟨by decide, by decide⟩ rfl rfl (Nat.le_of_ble_eq_true rfl) hl dX5_check_29 (fun v M4 H locs d0 cells slots hq hd0 hZ hm => ?_)
        clear h
        obtain ⟨i5, rfl, h⟩ := hq
        have ho_x0 := isO_le hm ho_x0
        refine lv_istore_n (lv' := [(3, .int i5), (0, .ref (base + x0)), (1, .long x1)]) hx hb dX5_check_32 rfl hl (by decide) rfl (fun ls hl2 => ?_)
        replace hl := hl2
        refine lv_aload_n hx hb dX5_check_33 rfl (lv_at hl 1 rfl) ?_
        refine z_get (A d0) hZ (ci := 5) (j := 39) ho_x0.1 ho_x0.2 (by decide) (by decide) k_fl_RX5_134 (v := .int (mI M4 x0 39)) rfl dX5_check_34 ?_
        refine lv_aload_n hx hb dX5_check_37 rfl (lv_at hl 1 rfl) ?_
        refine z_get (A d0) hZ (ci := 5) (j := 40) ho_x0.1 ho_x0.2 (by decide) (by decide) k_fl_RX5_137 (v := .int (mI M4 x0 40)) rfl dX5_check_38 ?_
        refine lv_icmp_ne (tgt := 48) hx hb dX5_check_41 (by decide) (fun hc => ?_) (fun hc => ?_)
        · replace h := h.1 hc
          refine lv_iconst (v := (0 : Int32)) hx hb dX5_check_48 (by decide) ?_
          exact (zb_X5_check_49 A hr ho_x0 hd0 hZ (lv_sub hl [1, 0] rfl) h)
        · replace h := h.2 hc
          refine lv_iconst (v := (1 : Int32)) hx hb dX5_check_44 (by decide) ?_
          refine lv_goto (tgt := 49) hx hb dX5_check_45 (by decide) ?_
          exact (zb_X5_check_49 A hr ho_x0 hd0 hZ (lv_sub hl [1, 0] rfl) h)
      · replace h := h.2 hc
        exact (zb_X5_check_24 A hr hd0 hZ (lv_sub hl [] rfl) h)
  · replace h := h.2 hc
    refine lv_iconst (v := (-1 : Int32)) hx hb dX5_check_7 (by decide) ?_
    exact z_iret A hd0 hZ hr ⟨_, rfl, h⟩ dX5_check_8
/-! cX5_looks -/
set_option maxRecDepth 100000 in
set_option maxHeartbeats 4000000 in
theorem c_X5_looks (l : Launch) (G : ZG) (base : Nat) (M : Mem) (x0 : Nat) (Q : Int32 → Mem → Prop) (h : wp_X5_looks x0 M Q) : ZMet l yX5_looks cX5_looks 1 (some .int) 0 0 G true base M [.ref (base + x0)] (qI Q) := by
  refine z_start (by decide) (Nat.le_of_ble_eq_true rfl) k_co_yX5_looks ?_
  intro p e s m below meth c R d0 H locs cells slots ls A hr hn hd0 hZ hl
  have hx := (A d0).1
  have hb := (A d0).2.1
  have hl : lv_has ls 1 [(0, .ref (base + x0))] := hl
  unfold wp_X5_looks at h
  obtain ⟨ho_x0, h⟩ := h
  refine lv_aload_n hx hb dX5_looks_0 rfl (lv_at hl 0 rfl) ?_
  refine z_get (A d0) hZ (ci := 5) (j := 42) ho_x0.1 ho_x0.2 (by decide) (by decide) k_fl_RX5_143 (v := .int (mI M x0 42)) rfl dX5_looks_1 ?_
  exact z_iret A hd0 hZ hr ⟨_, rfl, h⟩ dX5_looks_4
/-! cX5_told -/
set_option maxRecDepth 100000 in
set_option maxHeartbeats 4000000 in
theorem zb_X5_told_23 {p : Program} {l : Launch} {e : Env} {R : Room} {s : State} {m : MethodId} {args : Array Value} {below : List Frame} {meth : Method} {c : Code} {G : ZG} {base z0 : Nat} {Q : Int32 → Mem → Prop} (A : ∀ d, Amb p R (s.setDrawn d) m args meth c G base z0 cX5_told yX5_told.cls 2 0 0) (hr : meth.sig.returnType = (some .int)) {d0 : Drawn} {H : Heap} {locs : List Loc} {cells slots : Nat} {ls : Array Slot} {t0 : Int32} {M : Mem} (hd0 : s.drawn.sameBut d0 lw_cs) (hZ : ZH G true base s.heap M H locs) (hl : lv_has ls 2 []) (h : wp_X5_told_23 t0 M Q) : W p l e R (s.setDrawn d0) m args below meth c H locs cells slots (ZEnd below G true base z0 (qI Q) args s) (F0 m 23 ls [.int t0]) := by
  have hx := (A d0).1
  have hb := (A d0).2.1
  unfold wp_X5_told_23 at h
  exact z_iret A hd0 hZ hr ⟨_, rfl, h⟩ dX5_told_23
set_option maxRecDepth 100000 in
set_option maxHeartbeats 4000000 in
theorem zb_X5_told_12 {p : Program} {l : Launch} {e : Env} {R : Room} {s : State} {m : MethodId} {args : Array Value} {below : List Frame} {meth : Method} {c : Code} {G : ZG} {base z0 : Nat} {Q : Int32 → Mem → Prop} (A : ∀ d, Amb p R (s.setDrawn d) m args meth c G base z0 cX5_told yX5_told.cls 2 0 0) (hr : meth.sig.returnType = (some .int)) {d0 : Drawn} {H : Heap} {locs : List Loc} {cells slots : Nat} {ls : Array Slot}  {M : Mem} (hd0 : s.drawn.sameBut d0 lw_cs) (hZ : ZH G true base s.heap M H locs) (hl : lv_has ls 2 []) (h : wp_X5_told_12 M Q) : W p l e R (s.setDrawn d0) m args below meth c H locs cells slots (ZEnd below G true base z0 (qI Q) args s) (F0 m 12 ls []) := by
  have hx := (A d0).1
  have hb := (A d0).2.1
  unfold wp_X5_told_12 at h
  refine lv_bipush (v := (-2 : Int32)) hx hb dX5_told_12 (by decide) ?_
  refine lv_goto (tgt := 23) hx hb dX5_told_14 (by decide) ?_
  exact (zb_X5_told_23 A hr hd0 hZ (lv_sub hl [] rfl) h)
set_option maxRecDepth 100000 in
set_option maxHeartbeats 4000000 in
theorem c_X5_told (l : Launch) (G : ZG) (base : Nat) (M : Mem) (x0 : Nat) (x1 : Int32) (Q : Int32 → Mem → Prop) (h : wp_X5_told x0 x1 M Q) : ZMet l yX5_told cX5_told 2 (some .int) 0 0 G true base M [.ref (base + x0), .int x1] (qI Q) := by
  refine z_start (by decide) (Nat.le_of_ble_eq_true rfl) k_co_yX5_told ?_
  intro p e s m below meth c R d0 H locs cells slots ls A hr hn hd0 hZ hl
  have hx := (A d0).1
  have hb := (A d0).2.1
  have hl : lv_has ls 2 [(0, .ref (base + x0)), (1, .int x1)] := hl
  unfold wp_X5_told at h
  obtain ⟨ho_x0, h⟩ := h
  refine lv_iload_n hx hb dX5_told_0 rfl (lv_at hl 1 rfl) ?_
  refine lv_if_lt (tgt := 12) hx hb dX5_told_1 (by decide) (fun hc => ?_) (fun hc => ?_)
  · replace h := h.1 hc
    exact (zb_X5_told_12 A hr hd0 hZ (lv_sub hl [] rfl) h)
  · replace h := h.2 hc
    refine lv_iload_n hx hb dX5_told_4 rfl (lv_at hl 1 rfl) ?_
    refine lv_aload_n hx hb dX5_told_5 rfl (lv_at hl 0 rfl) ?_
    refine z_get (A d0) hZ (ci := 5) (j := 40) ho_x0.1 ho_x0.2 (by decide) (by decide) k_fl_RX5_137 (v := .int (mI M x0 40)) rfl dX5_told_6 ?_
    refine lv_icmp_lt (tgt := 17) hx hb dX5_told_9 (by decide) (fun hc => ?_) (fun hc => ?_)
    · replace h := h.1 hc
      refine lv_aload_n hx hb dX5_told_17 rfl (lv_at hl 0 rfl) ?_
      refine z_get (A d0) hZ (ci := 5) (j := 38) ho_x0.1 ho_x0.2 (by decide) (by decide) k_fl_RX5_131 (v := .ref (base + 96)) (zv_fin (zf5 ho_x0 rfl) rfl) dX5_told_18 ?_
      refine lv_iload_n hx hb dX5_told_21 rfl (lv_at hl 1 rfl) ?_
      obtain ⟨hin, h⟩ := h
      refine z_iald (A d0) hZ (isA_c (a := 96) hZ.k0 (by decide) rfl) hin dX5_told_22 ?_
      exact (zb_X5_told_23 A hr hd0 hZ (lv_sub hl [] rfl) h)
    · replace h := h.2 hc
      exact (zb_X5_told_12 A hr hd0 hZ (lv_sub hl [] rfl) h)
/-! cX5_insert -/
set_option maxRecDepth 100000 in
set_option maxHeartbeats 4000000 in
theorem zb_X5_insert_96 {p : Program} {l : Launch} {e : Env} {R : Room} {s : State} {m : MethodId} {args : Array Value} {below : List Frame} {meth : Method} {c : Code} {G : ZG} {base z0 : Nat} {Q : Int32 → Mem → Prop} (A : ∀ d, Amb p R (s.setDrawn d) m args meth c G base z0 cX5_insert yX5_insert.cls 5 6 166) (hr : meth.sig.returnType = (some .int)) {K152 : Nat → Int64 → Int32 → Int32 → Mem → Prop} :
  ∀ (n : Nat) {d0 : Drawn} {H : Heap} {locs : List Loc} {cells slots : Nat} {ls : Array Slot} {x0 : Nat} {x1 : Int64} {x3 : Int32} {x4 : Int32} {M : Mem} (ho_x0 : isO M x0 5) (hd0 : s.drawn.sameBut d0 lw_cs) (hZ : ZH G true base s.heap M H locs) (hl : lv_has ls 5 [(0, .ref (base + x0)), (1, .long x1), (3, .int x3), (4, .int x4)]) (h : wp_X5_insert_96 n x0 x1 x3 x4 M Q K152) (hK152 : ∀ {d0 : Drawn} {H : Heap} {locs : List Loc} {cells slots : Nat} {ls : Array Slot} {x0 : Nat} {x1 : Int64} {x3 : Int32} {x4 : Int32} {M : Mem} (ho_x0 : isO M x0 5), s.drawn.sameBut d0 lw_cs → ZH G true base s.heap M H locs → lv_has ls 5 [(0, .ref (base + x0)), (1, .long x1), (3, .int x3), (4, .int x4)] → K152 x0 x1 x3 x4 M → W p l e R (s.setDrawn d0) m args below meth c H locs cells slots (ZEnd below G true base z0 (qI Q) args s) (F0 m 152 ls [])), W p l e R (s.setDrawn d0) m args below meth c H locs cells slots (ZEnd below G true base z0 (qI Q) args s) (F0 m 96 ls []) := by
  have hx := (A default).1
  have hb := (A default).2.1
  intro n
  induction n with
  | zero => intro d0 H locs cells slots ls x0 x1 x3 x4 M ho_x0 hd0 hZ hl h hK152; exact h.elim
  | succ n ih =>
    intro d0 H locs cells slots ls x0 x1 x3 x4 M ho_x0 hd0 hZ hl h hK152
    unfold wp_X5_insert_96 at h
    refine lv_iload hx hb dX5_insert_96 (lv_at hl 3 rfl) ?_
    refine lv_if_le (tgt := 152) hx hb dX5_insert_98 (by decide) (fun hc => ?_) (fun hc => ?_)
    · replace h := h.1 hc
      exact hK152 ho_x0 hd0 hZ (lv_sub hl [0, 1, 2, 3] rfl) h
    · replace h := h.2 hc
      refine lv_aload_n hx hb dX5_insert_101 rfl (lv_at hl 0 rfl) ?_
      refine z_get (A d0) hZ (ci := 5) (j := 21) ho_x0.1 ho_x0.2 (by decide) (by decide) k_fl_RX5_77 (v := .ref (base + 83)) (zv_fin (zf5 ho_x0 rfl) rfl) dX5_insert_102 ?_
      refine lv_bipush (v := (16 : Int32)) hx hb dX5_insert_105 (by decide) ?_
      refine lv_iload_n hx hb dX5_insert_107 rfl (lv_at hl 2 rfl) ?_
      refine lv_imul hx hb dX5_insert_108 ?_
      refine lv_iload hx hb dX5_insert_109 (lv_at hl 3 rfl) ?_
      refine lv_iadd hx hb dX5_insert_111 ?_
      refine lv_iconst (v := (1 : Int32)) hx hb dX5_insert_112 (by decide) ?_
      refine lv_isub hx hb dX5_insert_113 ?_
      obtain ⟨hin, h⟩ := h
      refine z_lald (A d0) hZ (isA_c (a := 83) hZ.k0 (by decide) rfl) hin dX5_insert_114 ?_
      refine lv_lload_n hx hb dX5_insert_115 rfl (lv_at hl 1 rfl) ?_
      refine z_lc_le (tgt := 152) hx hb dX5_insert_116 dX5_insert_117 (by decide) (fun hc => ?_) (fun hc => ?_)
      · replace h := h.1 hc
        exact hK152 ho_x0 hd0 hZ (lv_sub hl [0, 1, 2, 3] rfl) h
      · replace h := h.2 hc
        refine lv_aload_n hx hb dX5_insert_120 rfl (lv_at hl 0 rfl) ?_
        refine z_get (A d0) hZ (ci := 5) (j := 21) ho_x0.1 ho_x0.2 (by decide) (by decide) k_fl_RX5_77 (v := .ref (base + 83)) (zv_fin (zf5 ho_x0 rfl) rfl) dX5_insert_121 ?_
        refine lv_bipush (v := (16 : Int32)) hx hb dX5_insert_124 (by decide) ?_
        refine lv_iload_n hx hb dX5_insert_126 rfl (lv_at hl 2 rfl) ?_
        refine lv_imul hx hb dX5_insert_127 ?_
        refine lv_iload hx hb dX5_insert_128 (lv_at hl 3 rfl) ?_
        refine lv_iadd hx hb dX5_insert_130 ?_
        refine lv_aload_n hx hb dX5_insert_131 rfl (lv_at hl 0 rfl) ?_
        refine z_get (A d0) hZ (ci := 5) (j := 21) ho_x0.1 ho_x0.2 (by decide) (by decide) k_fl_RX5_77 (v := .ref (base + 83)) (zv_fin (zf5 ho_x0 rfl) rfl) dX5_insert_132 ?_
        refine lv_bipush (v := (16 : Int32)) hx hb dX5_insert_135 (by decide) ?_
        refine lv_iload_n hx hb dX5_insert_137 rfl (lv_at hl 2 rfl) ?_
        refine lv_imul hx hb dX5_insert_138 ?_
        refine lv_iload hx hb dX5_insert_139 (lv_at hl 3 rfl) ?_
        refine lv_iadd hx hb dX5_insert_141 ?_
        refine lv_iconst (v := (1 : Int32)) hx hb dX5_insert_142 (by decide) ?_
        refine lv_isub hx hb dX5_insert_143 ?_
        obtain ⟨hin, h⟩ := h
        refine z_lald (A d0) hZ (isA_c (a := 83) hZ.k0 (by decide) rfl) hin dX5_insert_144 ?_
        obtain ⟨hin, h⟩ := h
        obtain ⟨M1, eM1⟩ : ∃ y : Mem, y = sL M 83 (((16 : Int32) * x3) + x4).toNatClampNeg (mL M 83 ((((16 : Int32) * x3) + x4) - (1 : Int32)).toNatClampNeg) := ⟨_, rfl⟩
        refine z_last (A d0) hZ (isA_c (a := 83) hZ.k0 (by decide) rfl) hin dX5_insert_145 (fun H locs hZ => ?_)
        rw [← eM1] at hZ
        have hm : mz M1 = mz M := by rw [eM1] <;> rfl
        have ho_x0 := isO_le (Nat.le_of_eq hm.symm) ho_x0
        replace h := h M1 eM1
        obtain ⟨i2, ei2⟩ : ∃ y : Int32, y = x4 + (-1 : Int32) := ⟨_, rfl⟩
        replace h := h i2 ei2
        refine lv_iinc (v := i2) (lv' := [(4, .int i2), (0, .ref (base + x0)), (1, .long x1), (3, .int x3)]) hx hb dX5_insert_146 hl (k := 3) rfl (by rw [ei2]; rfl) (by decide) rfl (fun ls hl2 => ?_)
        replace hl := hl2
        refine lv_goto (tgt := 96) hx hb dX5_insert_149 (by decide) ?_
        exact ih ho_x0 hd0 hZ (lv_sub hl [1, 2, 3, 0] rfl) h hK152
set_option maxRecDepth 100000 in
set_option maxHeartbeats 4000000 in
theorem zb_X5_insert_152 {p : Program} {l : Launch} {e : Env} {R : Room} {s : State} {m : MethodId} {args : Array Value} {below : List Frame} {meth : Method} {c : Code} {G : ZG} {base z0 : Nat} {Q : Int32 → Mem → Prop} (A : ∀ d, Amb p R (s.setDrawn d) m args meth c G base z0 cX5_insert yX5_insert.cls 5 6 166) (hr : meth.sig.returnType = (some .int)) {d0 : Drawn} {H : Heap} {locs : List Loc} {cells slots : Nat} {ls : Array Slot} {x0 : Nat} {x1 : Int64} {x3 : Int32} {x4 : Int32} {M : Mem} (ho_x0 : isO M x0 5) (hd0 : s.drawn.sameBut d0 lw_cs) (hZ : ZH G true base s.heap M H locs) (hl : lv_has ls 5 [(0, .ref (base + x0)), (1, .long x1), (3, .int x3), (4, .int x4)]) (h : wp_X5_insert_152 x0 x1 x3 x4 M Q) : W p l e R (s.setDrawn d0) m args below meth c H locs cells slots (ZEnd below G true base z0 (qI Q) args s) (F0 m 152 ls []) := by
  have hx := (A d0).1
  have hb := (A d0).2.1
  unfold wp_X5_insert_152 at h
  refine lv_aload_n hx hb dX5_insert_152 rfl (lv_at hl 0 rfl) ?_
  refine z_get (A d0) hZ (ci := 5) (j := 21) ho_x0.1 ho_x0.2 (by decide) (by decide) k_fl_RX5_77 (v := .ref (base + 83)) (zv_fin (zf5 ho_x0 rfl) rfl) dX5_insert_153 ?_
  refine lv_bipush (v := (16 : Int32)) hx hb dX5_insert_156 (by decide) ?_
  refine lv_iload_n hx hb dX5_insert_158 rfl (lv_at hl 2 rfl) ?_
  refine lv_imul hx hb dX5_insert_159 ?_
  refine lv_iload hx hb dX5_insert_160 (lv_at hl 3 rfl) ?_
  refine lv_iadd hx hb dX5_insert_162 ?_
  refine lv_lload_n hx hb dX5_insert_163 rfl (lv_at hl 1 rfl) ?_
  obtain ⟨hin, h⟩ := h
  obtain ⟨M3, eM3⟩ : ∃ y : Mem, y = sL M 83 (((16 : Int32) * x3) + x4).toNatClampNeg x1 := ⟨_, rfl⟩
  refine z_last (A d0) hZ (isA_c (a := 83) hZ.k0 (by decide) rfl) hin dX5_insert_164 (fun H locs hZ => ?_)
  rw [← eM3] at hZ
  have hm : mz M3 = mz M := by rw [eM3] <;> rfl
  have ho_x0 := isO_le (Nat.le_of_eq hm.symm) ho_x0
  replace h := h M3 eM3
  refine lv_aload_n hx hb dX5_insert_165 rfl (lv_at hl 0 rfl) ?_
  refine z_get (A d0) hZ (ci := 5) (j := 16) ho_x0.1 ho_x0.2 (by decide) (by decide) k_fl_RX5_61 (v := .ref (base + 78)) (zv_fin (zf5 ho_x0 rfl) rfl) dX5_insert_166 ?_
  refine lv_iload_n hx hb dX5_insert_169 rfl (lv_at hl 2 rfl) ?_
  refine lv_dup2_11 hx hb dX5_insert_170 rfl rfl ?_
  obtain ⟨hin, h⟩ := h
  refine z_iald (A d0) hZ (isA_c (a := 78) hZ.k0 (by decide) rfl) hin dX5_insert_171 ?_
  refine lv_iconst (v := (1 : Int32)) hx hb dX5_insert_172 (by decide) ?_
  refine lv_iadd hx hb dX5_insert_173 ?_
  obtain ⟨hin, h⟩ := h
  obtain ⟨M4, eM4⟩ : ∃ y : Mem, y = sI M3 78 x3.toNatClampNeg ((mI M3 78 x3.toNatClampNeg) + (1 : Int32)) := ⟨_, rfl⟩
  refine z_iast (A d0) hZ (isA_c (a := 78) hZ.k0 (by decide) rfl) hin dX5_insert_174 (fun H locs hZ => ?_)
  rw [← eM4] at hZ
  have hm : mz M4 = mz M3 := by rw [eM4] <;> rfl
  have ho_x0 := isO_le (Nat.le_of_eq hm.symm) ho_x0
  replace h := h M4 eM4
  refine lv_aload_n hx hb dX5_insert_175 rfl (lv_at hl 0 rfl) ?_
  refine z_get (A d0) hZ (ci := 5) (j := 16) ho_x0.1 ho_x0.2 (by decide) (by decide) k_fl_RX5_61 (v := .ref (base + 78)) (zv_fin (zf5 ho_x0 rfl) rfl) dX5_insert_176 ?_
  refine lv_iload_n hx hb dX5_insert_179 rfl (lv_at hl 2 rfl) ?_
  obtain ⟨hin, h⟩ := h
  refine z_iald (A d0) hZ (isA_c (a := 78) hZ.k0 (by decide) rfl) hin dX5_insert_180 ?_
  refine lv_bipush (v := (16 : Int32)) hx hb dX5_insert_181 (by decide) ?_
  refine lv_icmp_ge (tgt := 188) hx hb dX5_insert_183 (by decide) (fun hc => ?_) (fun hc => ?_)
  · replace h := h.1 hc
    refine lv_aload_n hx hb dX5_insert_188 rfl (lv_at hl 0 rfl) ?_
    refine lv_iconst (v := (0 : Int32)) hx hb dX5_insert_189 (by decide) ?_
    obtain ⟨M5, eM5⟩ : ∃ y : Mem, y = sI M4 x0 26 (0 : Int32) := ⟨_, rfl⟩
    refine z_put (A d0) hZ (ci := 5) (j := 26) (M' := M5) ho_x0.1 ho_x0.2 (by decide) (by decide) k_fl_RX5_94 rfl (by rw [eM5]; exact zUpd_I) rfl rfl dX5_insert_190 (fun H locs hZ => ?_)
    have hm : mz M5 = mz M4 := by rw [eM5] <;> rfl
    have ho_x0 := isO_le (Nat.le_of_eq hm.symm) ho_x0
    replace h := h M5 eM5
    refine lv_aload_n hx hb dX5_insert_193 rfl (lv_at hl 0 rfl) ?_
    refine lv_iload_n hx hb dX5_insert_194 rfl (lv_at hl 2 rfl) ?_
    refine z_callV A hd0 hZ (ci := 5) (nA := 1) (As := [.int x3]) (by decide) ho_x0 (c_X5_gather l G base M5 x0 x3 _ h) k_ml_RX5_228 k_im_yX5_gather k_se_yX5_gather k_in_RX5 k_co_yX5_gather (by decide +kernel) ⟨by decide, by decide⟩ rfl rfl (Nat.le_of_ble_eq_true rfl) hl dX5_insert_195 (fun v M6 H locs d0 cells slots hq hd0 hZ hm => ?_)
    clear h
    obtain ⟨rfl, h⟩ := hq
    have ho_x0 := isO_le hm ho_x0
    refine lv_aload_n hx hb dX5_insert_198 rfl (lv_at hl 0 rfl) ?_
    refine lv_iload_n hx hb dX5_insert_199 rfl (lv_at hl 2 rfl) ?_
    refine lv_iload_n hx hb dX5_insert_200 rfl (lv_at hl 2 rfl) ?_
    refine lv_iconst (v := (1 : Int32)) hx hb dX5_insert_201 (by decide) ?_
    refine lv_iadd hx hb dX5_insert_202 ?_
    refine lv_iconst (v := (1 : Int32)) hx hb dX5_insert_203 (by decide) ?_
    refine z_callV A hd0 hZ (ci := 5) (nA := 3) (As := [.int x3, .int (x3 + (1 : Int32)), .int (1 : Int32)]) (by decide) ho_x0 (c_X5_replace l G base M6 x0 x3 (x3 + (1 : Int32)) (1 : Int32) _ h) k_ml_RX5_224 k_im_yX5_replace k_se_yX5_replace k_in_RX5 k_co_yX5_replace (by decide +kernel) ⟨by decide, by decide⟩ rfl rfl (Nat.le_of_ble_eq_true rfl) hl dX5_insert_204 (fun v M7 H locs d0 cells slots hq hd0 hZ hm => ?_)
    clear h
    obtain ⟨rfl, h⟩ := hq
    have ho_x0 := isO_le hm ho_x0
    refine lv_aload_n hx hb dX5_insert_207 rfl (lv_at hl 0 rfl) ?_
    refine lv_dup hx hb dX5_insert_208 rfl ?_
    refine z_get (A d0) hZ (ci := 5) (j := 25) ho_x0.1 ho_x0.2 (by decide) (by decide) k_fl_RX5_91 (v := .int (mI M7 x0 25)) rfl dX5_insert_209 ?_
    refine lv_iconst (v := (1 : Int32)) hx hb dX5_insert_212 (by decide) ?_
    refine lv_iadd hx hb dX5_insert_213 ?_
    obtain ⟨M8, eM8⟩ : ∃ y : Mem, y = sI M7 x0 25 ((mI M7 x0 25) + (1 : Int32)) := ⟨_, rfl⟩
    refine z_put (A d0) hZ (ci := 5) (j := 25) (M' := M8) ho_x0.1 ho_x0.2 (by decide) (by decide) k_fl_RX5_91 rfl (by rw [eM8]; exact zUpd_I) rfl rfl dX5_insert_214 (fun H locs hZ => ?_)
    have hm : mz M8 = mz M7 := by rw [eM8] <;> rfl
    have ho_x0 := isO_le (Nat.le_of_eq hm.symm) ho_x0
    replace h := h M8 eM8
    refine lv_iconst (v := (1 : Int32)) hx hb dX5_insert_217 (by decide) ?_
    exact z_iret A hd0 hZ hr ⟨_, rfl, h⟩ dX5_insert_218
  · replace h := h.2 hc
    refine lv_iconst (v := (1 : Int32)) hx hb dX5_insert_186 (by decide) ?_
    exact z_iret A hd0 hZ hr ⟨_, rfl, h⟩ dX5_insert_187
set_option maxRecDepth 100000 in
set_option maxHeartbeats 4000000 in
theorem c_X5_insert (l : Launch) (G : ZG) (base : Nat) (M : Mem) (x0 : Nat) (x1 : Int64) (Q : Int32 → Mem → Prop) (h : wp_X5_insert x0 x1 M Q) : ZMet l yX5_insert cX5_insert 5 (some .int) 6 166 G true base M [.ref (base + x0), .long x1] (qI Q) := by
  refine z_start (by decide) (Nat.le_of_ble_eq_true rfl) k_co_yX5_insert ?_
  intro p e s m below meth c R d0 H locs cells slots ls A hr hn hd0 hZ hl
  have hx := (A d0).1
  have hb := (A d0).2.1
  have hl : lv_has ls 5 [(0, .ref (base + x0)), (1, .long x1)] := hl
  unfold wp_X5_insert at h
  obtain ⟨ho_x0, h⟩ := h
  refine lv_aload_n hx hb dX5_insert_0 rfl (lv_at hl 0 rfl) ?_
  refine z_get (A d0) hZ (ci := 5) (j := 23) ho_x0.1 ho_x0.2 (by decide) (by decide) k_fl_RX5_84 (v := .int (mI M x0 23)) rfl dX5_insert_1 ?_
  refine lv_if_ne (tgt := 9) hx hb dX5_insert_4 (by decide) (fun hc => ?_) (fun hc => ?_)
  · replace h := h.1 hc
    refine lv_aload_n hx hb dX5_insert_9 rfl (lv_at hl 0 rfl) ?_
    refine lv_lload_n hx hb dX5_insert_10 rfl (lv_at hl 1 rfl) ?_
    refine z_callV A hd0 hZ (ci := 5) (nA := 1) (As := [.long x1]) (by decide) ho_x0 (c_X5_isKey l G base M x0 x1 _ h) k_ml_RX5_162 k_im_yX5_isKey k_se_yX5_isKey k_in_RX5 k_co_yX5_isKey (by decide +kernel) ⟨by decide, by decide⟩ rfl rfl (Nat.le_of_ble_eq_true rfl) hl dX5_insert_11 (fun v M9 H locs d0 cells slots hq hd0 hZ hm => ?_)
    clear h
    obtain ⟨i10, rfl, h⟩ := hq
    have ho_x0 := isO_le hm ho_x0
    refine lv_if_ne (tgt := 20) hx hb dX5_insert_14 (by decide) (fun hc => ?_) (fun hc => ?_)
    · replace h := h.1 hc
      refine lv_aload_n hx hb dX5_insert_20 rfl (lv_at hl 0 rfl) ?_
      refine lv_lload_n hx hb dX5_insert_21 rfl (lv_at hl 1 rfl) ?_
      refine z_callV A hd0 hZ (ci := 5) (nA := 1) (As := [.long x1]) (by decide) ho_x0 (c_X5_found l G base M9 x0 x1 _ h) k_ml_RX5_246 k_im_yX5_found k_se_yX5_found k_in_RX5 k_co_yX5_found (by decide +kernel) ⟨by decide, by decide⟩ rfl rfl (Nat.le_of_ble_eq_true rfl) hl dX5_insert_22 (fun v M11 H locs d0 cells slots hq hd0 hZ hm => ?_)
      clear h
      obtain ⟨i12, rfl, h⟩ := hq
      have ho_x0 := isO_le hm ho_x0
      refine lv_if_eq (tgt := 30) hx hb dX5_insert_25 (by decide) (fun hc => ?_) (fun hc => ?_)
      · replace h := h.1 hc
        refine lv_aload_n hx hb dX5_insert_30 rfl (lv_at hl 0 rfl) ?_
        refine z_callV A hd0 hZ (ci := 5) (nA := 0) (As := []) (by decide) ho_x0 (c_X5_there l G base M11 x0 _ h) k_ml_RX5_232 k_im_yX5_there k_se_yX5_there k_in_RX5 k_co_yX5_there (by decide +kernel) ⟨by decide, by decide⟩ rfl rfl (Nat.le_of_ble_eq_true rfl) hl dX5_insert_31 (fun v M13 H locs d0 cells slots hq hd0 hZ hm => ?_)
        clear h
        obtain ⟨i14, rfl, h⟩ := hq
        have ho_x0 := isO_le hm ho_x0
        refine lv_sipush (v := (300 : Int32)) hx hb dX5_insert_34 (by decide) ?_
        refine lv_icmp_ne (tgt := 43) hx hb dX5_insert_37 (by decide) (fun hc => ?_) (fun hc => ?_)
        · replace h := h.1 hc
          refine lv_aload_n hx hb dX5_insert_43 rfl (lv_at hl 0 rfl) ?_
          refine z_get (A d0) hZ (ci := 5) (j := 43) ho_x0.1 ho_x0.2 (by decide) (by decide) k_fl_RX5_146 (v := .int (mI M13 x0 43)) rfl dX5_insert_44 ?_
          obtain ⟨i15, ei15⟩ : ∃ y : Int32, y = mI M13 x0 43 := ⟨_, rfl⟩
          rw [← ei15]
          replace h := h i15 ei15
          refine lv_istore_n (lv' := [(3, .int i15), (0, .ref (base + x0)), (1, .long x1)]) hx hb dX5_insert_47 rfl hl (by decide) rfl (fun ls hl2 => ?_)
          replace hl := hl2
          refine lv_aload_n hx hb dX5_insert_48 rfl (lv_at hl 1 rfl) ?_
          refine z_get (A d0) hZ (ci := 5) (j := 20) ho_x0.1 ho_x0.2 (by decide) (by decide) k_fl_RX5_73 (v := .ref (base + 82)) (zv_fin (zf5 ho_x0 rfl) rfl) dX5_insert_49 ?_
          refine lv_aload_n hx hb dX5_insert_52 rfl (lv_at hl 1 rfl) ?_
          refine z_get (A d0) hZ (ci := 5) (j := 13) ho_x0.1 ho_x0.2 (by decide) (by decide) k_fl_RX5_52 (v := .ref (base + 75)) (zv_fin (zf5 ho_x0 rfl) rfl) dX5_insert_53 ?_
          refine lv_iload_n hx hb dX5_insert_56 rfl (lv_at hl 0 rfl) ?_
          obtain ⟨hin, h⟩ := h
          refine z_iald (A d0) hZ (isA_c (a := 75) hZ.k0 (by decide) rfl) hin dX5_insert_57 ?_
          refine lv_aload_n hx hb dX5_insert_58 rfl (lv_at hl 1 rfl) ?_
          refine z_get (A d0) hZ (ci := 5) (j := 44) ho_x0.1 ho_x0.2 (by decide) (by decide) k_fl_RX5_149 (v := .int (mI M13 x0 44)) rfl dX5_insert_59 ?_
          refine lv_iadd hx hb dX5_insert_62 ?_
          obtain ⟨hin, h⟩ := h
          refine z_lald (A d0) hZ (isA_c (a := 82) hZ.k0 (by decide) rfl) hin dX5_insert_63 ?_
          refine lv_lload_n hx hb dX5_insert_64 rfl (lv_at hl 2 rfl) ?_
          refine z_lc_ne (tgt := 88) hx hb dX5_insert_65 dX5_insert_66 (by decide) (fun hc => ?_) (fun hc => ?_)
          · replace h := h.1 hc
            refine lv_aload_n hx hb dX5_insert_88 rfl (lv_at hl 1 rfl) ?_
            refine z_get (A d0) hZ (ci := 5) (j := 16) ho_x0.1 ho_x0.2 (by decide) (by decide) k_fl_RX5_61 (v := .ref (base + 78)) (zv_fin (zf5 ho_x0 rfl) rfl) dX5_insert_89 ?_
            refine lv_iload_n hx hb dX5_insert_92 rfl (lv_at hl 0 rfl) ?_
            obtain ⟨hin, h⟩ := h
            refine z_iald (A d0) hZ (isA_c (a := 78) hZ.k0 (by decide) rfl) hin dX5_insert_93 ?_
            obtain ⟨i16, ei16⟩ : ∃ y : Int32, y = mI M13 78 i15.toNatClampNeg := ⟨_, rfl⟩
            rw [← ei16]
            replace h := h i16 ei16
            refine lv_istore (lv' := [(4, .int i16), (3, .int i15), (0, .ref (base + x0)), (1, .long x1)]) hx hb dX5_insert_94 hl (by decide) rfl (fun ls hl2 => ?_)
            replace hl := hl2
            exact (Exists.elim h fun kk h => zb_X5_insert_96 A hr kk ho_x0 hd0 hZ (lv_sub hl [2, 3, 1, 0] rfl) h (fun ho_x0 hd0 hZ hl h => (zb_X5_insert_152 A hr ho_x0 hd0 hZ hl h)))
          · replace h := h.2 hc
            refine lv_aload_n hx hb dX5_insert_69 rfl (lv_at hl 1 rfl) ?_
            refine z_get (A d0) hZ (ci := 5) (j := 22) ho_x0.1 ho_x0.2 (by decide) (by decide) k_fl_RX5_80 (v := .ref (base + 84)) (zv_fin (zf5 ho_x0 rfl) rfl) dX5_insert_70 ?_
            refine lv_aload_n hx hb dX5_insert_73 rfl (lv_at hl 1 rfl) ?_
            refine z_get (A d0) hZ (ci := 5) (j := 13) ho_x0.1 ho_x0.2 (by decide) (by decide) k_fl_RX5_52 (v := .ref (base + 75)) (zv_fin (zf5 ho_x0 rfl) rfl) dX5_insert_74 ?_
            refine lv_iload_n hx hb dX5_insert_77 rfl (lv_at hl 0 rfl) ?_
            obtain ⟨hin, h⟩ := h
            refine z_iald (A d0) hZ (isA_c (a := 75) hZ.k0 (by decide) rfl) hin dX5_insert_78 ?_
            refine lv_aload_n hx hb dX5_insert_79 rfl (lv_at hl 1 rfl) ?_
            refine z_get (A d0) hZ (ci := 5) (j := 44) ho_x0.1 ho_x0.2 (by decide) (by decide) k_fl_RX5_149 (v := .int (mI M13 x0 44)) rfl dX5_insert_80 ?_
            refine lv_iadd hx hb dX5_insert_83 ?_
            refine lv_iconst (v := (0 : Int32)) hx hb dX5_insert_84 (by decide) ?_
            obtain ⟨hin, h⟩ := h
            obtain ⟨M17, eM17⟩ : ∃ y : Mem, y = sI M13 84 ((mI M13 75 i15.toNatClampNeg) + (mI M13 x0 44)).toNatClampNeg (0 : Int32) := ⟨_, rfl⟩
            refine z_zast (A d0) hZ (isA_c (a := 84) hZ.k0 (by decide) rfl) hin (Or.inl rfl) dX5_insert_85 (fun H locs hZ => ?_)
            rw [← eM17] at hZ
            have hm : mz M17 = mz M13 := by rw [eM17] <;> rfl
            have ho_x0 := isO_le (Nat.le_of_eq hm.symm) ho_x0
            replace h := h M17 eM17
            refine lv_iconst (v := (1 : Int32)) hx hb dX5_insert_86 (by decide) ?_
            exact z_iret A hd0 hZ hr ⟨_, rfl, h⟩ dX5_insert_87
        · replace h := h.2 hc
          refine lv_bipush (v := (-3 : Int32)) hx hb dX5_insert_40 (by decide) ?_
          exact z_iret A hd0 hZ hr ⟨_, rfl, h⟩ dX5_insert_42
      · replace h := h.2 hc
        refine lv_iconst (v := (0 : Int32)) hx hb dX5_insert_28 (by decide) ?_
        exact z_iret A hd0 hZ hr ⟨_, rfl, h⟩ dX5_insert_29
    · replace h := h.2 hc
      refine lv_bipush (v := (-2 : Int32)) hx hb dX5_insert_17 (by decide) ?_
      exact z_iret A hd0 hZ hr ⟨_, rfl, h⟩ dX5_insert_19
  · replace h := h.2 hc
    refine lv_iconst (v := (-1 : Int32)) hx hb dX5_insert_7 (by decide) ?_
    exact z_iret A hd0 hZ hr ⟨_, rfl, h⟩ dX5_insert_8
/-! cX5_drop -/
set_option maxRecDepth 100000 in
set_option maxHeartbeats 4000000 in
theorem zb_X5_drop_77 {p : Program} {l : Launch} {e : Env} {R : Room} {s : State} {m : MethodId} {args : Array Value} {below : List Frame} {meth : Method} {c : Code} {G : ZG} {base z0 : Nat} {Q : Int32 → Mem → Prop} (A : ∀ d, Amb p R (s.setDrawn d) m args meth c G base z0 cX5_drop yX5_drop.cls 5 3 83) (hr : meth.sig.returnType = (some .int)) {K120 : Mem → Prop} :
  ∀ (n : Nat) {d0 : Drawn} {H : Heap} {locs : List Loc} {cells slots : Nat} {ls : Array Slot} {x0 : Nat} {x3 : Int32} {x4 : Int32} {M : Mem} (ho_x0 : isO M x0 5) (hd0 : s.drawn.sameBut d0 lw_cs) (hZ : ZH G true base s.heap M H locs) (hl : lv_has ls 5 [(0, .ref (base + x0)), (3, .int x3), (4, .int x4)]) (h : wp_X5_drop_77 n x0 x3 x4 M Q K120) (hK120 : ∀ {d0 : Drawn} {H : Heap} {locs : List Loc} {cells slots : Nat} {ls : Array Slot} {M : Mem}, s.drawn.sameBut d0 lw_cs → ZH G true base s.heap M H locs → lv_has ls 5 [] → K120 M → W p l e R (s.setDrawn d0) m args below meth c H locs cells slots (ZEnd below G true base z0 (qI Q) args s) (F0 m 120 ls [])), W p l e R (s.setDrawn d0) m args below meth c H locs cells slots (ZEnd below G true base z0 (qI Q) args s) (F0 m 77 ls []) := by
  have hx := (A default).1
  have hb := (A default).2.1
  intro n
  induction n with
  | zero => intro d0 H locs cells slots ls x0 x3 x4 M ho_x0 hd0 hZ hl h hK120; exact h.elim
  | succ n ih =>
    intro d0 H locs cells slots ls x0 x3 x4 M ho_x0 hd0 hZ hl h hK120
    unfold wp_X5_drop_77 at h
    refine lv_iload hx hb dX5_drop_77 (lv_at hl 2 rfl) ?_
    refine lv_aload_n hx hb dX5_drop_79 rfl (lv_at hl 0 rfl) ?_
    refine z_get (A d0) hZ (ci := 5) (j := 16) ho_x0.1 ho_x0.2 (by decide) (by decide) k_fl_RX5_61 (v := .ref (base + 78)) (zv_fin (zf5 ho_x0 rfl) rfl) dX5_drop_80 ?_
    refine lv_iload_n hx hb dX5_drop_83 rfl (lv_at hl 1 rfl) ?_
    obtain ⟨hin, h⟩ := h
    refine z_iald (A d0) hZ (isA_c (a := 78) hZ.k0 (by decide) rfl) hin dX5_drop_84 ?_
    refine lv_icmp_ge (tgt := 120) hx hb dX5_drop_85 (by decide) (fun hc => ?_) (fun hc => ?_)
    · replace h := h.1 hc
      exact hK120 hd0 hZ (lv_sub hl [] rfl) h
    · replace h := h.2 hc
      refine lv_aload_n hx hb dX5_drop_88 rfl (lv_at hl 0 rfl) ?_
      refine z_get (A d0) hZ (ci := 5) (j := 21) ho_x0.1 ho_x0.2 (by decide) (by decide) k_fl_RX5_77 (v := .ref (base + 83)) (zv_fin (zf5 ho_x0 rfl) rfl) dX5_drop_89 ?_
      refine lv_bipush (v := (16 : Int32)) hx hb dX5_drop_92 (by decide) ?_
      refine lv_iload_n hx hb dX5_drop_94 rfl (lv_at hl 1 rfl) ?_
      refine lv_imul hx hb dX5_drop_95 ?_
      refine lv_iload hx hb dX5_drop_96 (lv_at hl 2 rfl) ?_
      refine lv_iadd hx hb dX5_drop_98 ?_
      refine lv_aload_n hx hb dX5_drop_99 rfl (lv_at hl 0 rfl) ?_
      refine z_get (A d0) hZ (ci := 5) (j := 21) ho_x0.1 ho_x0.2 (by decide) (by decide) k_fl_RX5_77 (v := .ref (base + 83)) (zv_fin (zf5 ho_x0 rfl) rfl) dX5_drop_100 ?_
      refine lv_bipush (v := (16 : Int32)) hx hb dX5_drop_103 (by decide) ?_
      refine lv_iload_n hx hb dX5_drop_105 rfl (lv_at hl 1 rfl) ?_
      refine lv_imul hx hb dX5_drop_106 ?_
      refine lv_iload hx hb dX5_drop_107 (lv_at hl 2 rfl) ?_
      refine lv_iadd hx hb dX5_drop_109 ?_
      refine lv_iconst (v := (1 : Int32)) hx hb dX5_drop_110 (by decide) ?_
      refine lv_iadd hx hb dX5_drop_111 ?_
      obtain ⟨hin, h⟩ := h
      refine z_lald (A d0) hZ (isA_c (a := 83) hZ.k0 (by decide) rfl) hin dX5_drop_112 ?_
      obtain ⟨hin, h⟩ := h
      obtain ⟨M1, eM1⟩ : ∃ y : Mem, y = sL M 83 (((16 : Int32) * x3) + x4).toNatClampNeg (mL M 83 ((((16 : Int32) * x3) + x4) + (1 : Int32)).toNatClampNeg) := ⟨_, rfl⟩
      refine z_last (A d0) hZ (isA_c (a := 83) hZ.k0 (by decide) rfl) hin dX5_drop_113 (fun H locs hZ => ?_)
      rw [← eM1] at hZ
      have hm : mz M1 = mz M := by rw [eM1] <;> rfl
      have ho_x0 := isO_le (Nat.le_of_eq hm.symm) ho_x0
      replace h := h M1 eM1
      obtain ⟨i2, ei2⟩ : ∃ y : Int32, y = x4 + (1 : Int32) := ⟨_, rfl⟩
      replace h := h i2 ei2
      refine lv_iinc (v := i2) (lv' := [(4, .int i2), (0, .ref (base + x0)), (3, .int x3)]) hx hb dX5_drop_114 hl (k := 2) rfl (by rw [ei2]; rfl) (by decide) rfl (fun ls hl2 => ?_)
      replace hl := hl2
      refine lv_goto (tgt := 77) hx hb dX5_drop_117 (by decide) ?_
      exact ih ho_x0 hd0 hZ (lv_sub hl [1, 2, 0] rfl) h hK120
set_option maxRecDepth 100000 in
set_option maxHeartbeats 4000000 in
theorem zb_X5_drop_120 {p : Program} {l : Launch} {e : Env} {R : Room} {s : State} {m : MethodId} {args : Array Value} {below : List Frame} {meth : Method} {c : Code} {G : ZG} {base z0 : Nat} {Q : Int32 → Mem → Prop} (A : ∀ d, Amb p R (s.setDrawn d) m args meth c G base z0 cX5_drop yX5_drop.cls 5 3 83) (hr : meth.sig.returnType = (some .int)) {d0 : Drawn} {H : Heap} {locs : List Loc} {cells slots : Nat} {ls : Array Slot}  {M : Mem} (hd0 : s.drawn.sameBut d0 lw_cs) (hZ : ZH G true base s.heap M H locs) (hl : lv_has ls 5 []) (h : wp_X5_drop_120 M Q) : W p l e R (s.setDrawn d0) m args below meth c H locs cells slots (ZEnd below G true base z0 (qI Q) args s) (F0 m 120 ls []) := by
  have hx := (A d0).1
  have hb := (A d0).2.1
  unfold wp_X5_drop_120 at h
  refine lv_iconst (v := (1 : Int32)) hx hb dX5_drop_120 (by decide) ?_
  exact z_iret A hd0 hZ hr ⟨_, rfl, h⟩ dX5_drop_121
set_option maxRecDepth 100000 in
set_option maxHeartbeats 4000000 in
theorem c_X5_drop (l : Launch) (G : ZG) (base : Nat) (M : Mem) (x0 : Nat) (x1 : Int64) (Q : Int32 → Mem → Prop) (h : wp_X5_drop x0 x1 M Q) : ZMet l yX5_drop cX5_drop 5 (some .int) 3 83 G true base M [.ref (base + x0), .long x1] (qI Q) := by
  refine z_start (by decide) (Nat.le_of_ble_eq_true rfl) k_co_yX5_drop ?_
  intro p e s m below meth c R d0 H locs cells slots ls A hr hn hd0 hZ hl
  have hx := (A d0).1
  have hb := (A d0).2.1
  have hl : lv_has ls 5 [(0, .ref (base + x0)), (1, .long x1)] := hl
  unfold wp_X5_drop at h
  obtain ⟨ho_x0, h⟩ := h
  refine lv_aload_n hx hb dX5_drop_0 rfl (lv_at hl 0 rfl) ?_
  refine z_get (A d0) hZ (ci := 5) (j := 23) ho_x0.1 ho_x0.2 (by decide) (by decide) k_fl_RX5_84 (v := .int (mI M x0 23)) rfl dX5_drop_1 ?_
  refine lv_if_ne (tgt := 9) hx hb dX5_drop_4 (by decide) (fun hc => ?_) (fun hc => ?_)
  · replace h := h.1 hc
    refine lv_aload_n hx hb dX5_drop_9 rfl (lv_at hl 0 rfl) ?_
    refine lv_lload_n hx hb dX5_drop_10 rfl (lv_at hl 1 rfl) ?_
    refine z_callV A hd0 hZ (ci := 5) (nA := 1) (As := [.long x1]) (by decide) ho_x0 (c_X5_isKey l G base M x0 x1 _ h) k_ml_RX5_162 k_im_yX5_isKey k_se_yX5_isKey k_in_RX5 k_co_yX5_isKey (by decide +kernel) ⟨by decide, by decide⟩ rfl rfl (Nat.le_of_ble_eq_true rfl) hl dX5_drop_11 (fun v M3 H locs d0 cells slots hq hd0 hZ hm => ?_)
    clear h
    obtain ⟨i4, rfl, h⟩ := hq
    have ho_x0 := isO_le hm ho_x0
    refine lv_if_ne (tgt := 20) hx hb dX5_drop_14 (by decide) (fun hc => ?_) (fun hc => ?_)
    · replace h := h.1 hc
      refine lv_aload_n hx hb dX5_drop_20 rfl (lv_at hl 0 rfl) ?_
      refine lv_lload_n hx hb dX5_drop_21 rfl (lv_at hl 1 rfl) ?_
      refine z_callV A hd0 hZ (ci := 5) (nA := 1) (As := [.long x1]) (by decide) ho_x0 (c_X5_found l G base M3 x0 x1 _ h) k_ml_RX5_246 k_im_yX5_found k_se_yX5_found k_in_RX5 k_co_yX5_found (by decide +kernel) ⟨by decide, by decide⟩ rfl rfl (Nat.le_of_ble_eq_true rfl) hl dX5_drop_22 (fun v M5 H locs d0 cells slots hq hd0 hZ hm => ?_)
      clear h
      obtain ⟨i6, rfl, h⟩ := hq
      have ho_x0 := isO_le hm ho_x0
      refine lv_if_ne (tgt := 30) hx hb dX5_drop_25 (by decide) (fun hc => ?_) (fun hc => ?_)
      · replace h := h.1 hc
        refine lv_aload_n hx hb dX5_drop_30 rfl (lv_at hl 0 rfl) ?_
        refine z_get (A d0) hZ (ci := 5) (j := 43) ho_x0.1 ho_x0.2 (by decide) (by decide) k_fl_RX5_146 (v := .int (mI M5 x0 43)) rfl dX5_drop_31 ?_
        obtain ⟨i7, ei7⟩ : ∃ y : Int32, y = mI M5 x0 43 := ⟨_, rfl⟩
        rw [← ei7]
        replace h := h i7 ei7
        refine lv_istore_n (lv' := [(3, .int i7), (0, .ref (base + x0)), (1, .long x1)]) hx hb dX5_drop_34 rfl hl (by decide) rfl (fun ls hl2 => ?_)
        replace hl := hl2
        refine lv_aload_n hx hb dX5_drop_35 rfl (lv_at hl 1 rfl) ?_
        refine z_get (A d0) hZ (ci := 5) (j := 45) ho_x0.1 ho_x0.2 (by decide) (by decide) k_fl_RX5_152 (v := .int (mI M5 x0 45)) rfl dX5_drop_36 ?_
        refine lv_if_ge (tgt := 61) hx hb dX5_drop_39 (by decide) (fun hc => ?_) (fun hc => ?_)
        · replace h := h.1 hc
          refine lv_aload_n hx hb dX5_drop_61 rfl (lv_at hl 1 rfl) ?_
          refine z_get (A d0) hZ (ci := 5) (j := 16) ho_x0.1 ho_x0.2 (by decide) (by decide) k_fl_RX5_61 (v := .ref (base + 78)) (zv_fin (zf5 ho_x0 rfl) rfl) dX5_drop_62 ?_
          refine lv_iload_n hx hb dX5_drop_65 rfl (lv_at hl 0 rfl) ?_
          refine lv_dup2_11 hx hb dX5_drop_66 rfl rfl ?_
          obtain ⟨hin, h⟩ := h
          refine z_iald (A d0) hZ (isA_c (a := 78) hZ.k0 (by decide) rfl) hin dX5_drop_67 ?_
          refine lv_iconst (v := (1 : Int32)) hx hb dX5_drop_68 (by decide) ?_
          refine lv_isub hx hb dX5_drop_69 ?_
          obtain ⟨hin, h⟩ := h
          obtain ⟨M8, eM8⟩ : ∃ y : Mem, y = sI M5 78 i7.toNatClampNeg ((mI M5 78 i7.toNatClampNeg) - (1 : Int32)) := ⟨_, rfl⟩
          refine z_iast (A d0) hZ (isA_c (a := 78) hZ.k0 (by decide) rfl) hin dX5_drop_70 (fun H locs hZ => ?_)
          rw [← eM8] at hZ
          have hm : mz M8 = mz M5 := by rw [eM8] <;> rfl
          have ho_x0 := isO_le (Nat.le_of_eq hm.symm) ho_x0
          replace h := h M8 eM8
          refine lv_aload_n hx hb dX5_drop_71 rfl (lv_at hl 1 rfl) ?_
          refine z_get (A d0) hZ (ci := 5) (j := 45) ho_x0.1 ho_x0.2 (by decide) (by decide) k_fl_RX5_152 (v := .int (mI M8 x0 45)) rfl dX5_drop_72 ?_
          obtain ⟨i9, ei9⟩ : ∃ y : Int32, y = mI M8 x0 45 := ⟨_, rfl⟩
          rw [← ei9]
          replace h := h i9 ei9
          refine lv_istore (lv' := [(4, .int i9), (3, .int i7), (0, .ref (base + x0)), (1, .long x1)]) hx hb dX5_drop_75 hl (by decide) rfl (fun ls hl2 => ?_)
          replace hl := hl2
          exact (Exists.elim h fun kk h => zb_X5_drop_77 A hr kk ho_x0 hd0 hZ (lv_sub hl [2, 1, 0] rfl) h (fun hd0 hZ hl h => (zb_X5_drop_120 A hr hd0 hZ hl h)))
        · replace h := h.2 hc
          refine lv_aload_n hx hb dX5_drop_42 rfl (lv_at hl 1 rfl) ?_
          refine z_get (A d0) hZ (ci := 5) (j := 22) ho_x0.1 ho_x0.2 (by decide) (by decide) k_fl_RX5_80 (v := .ref (base + 84)) (zv_fin (zf5 ho_x0 rfl) rfl) dX5_drop_43 ?_
          refine lv_aload_n hx hb dX5_drop_46 rfl (lv_at hl 1 rfl) ?_
          refine z_get (A d0) hZ (ci := 5) (j := 13) ho_x0.1 ho_x0.2 (by decide) (by decide) k_fl_RX5_52 (v := .ref (base + 75)) (zv_fin (zf5 ho_x0 rfl) rfl) dX5_drop_47 ?_
          refine lv_iload_n hx hb dX5_drop_50 rfl (lv_at hl 0 rfl) ?_
          obtain ⟨hin, h⟩ := h
          refine z_iald (A d0) hZ (isA_c (a := 75) hZ.k0 (by decide) rfl) hin dX5_drop_51 ?_
          refine lv_aload_n hx hb dX5_drop_52 rfl (lv_at hl 1 rfl) ?_
          refine z_get (A d0) hZ (ci := 5) (j := 44) ho_x0.1 ho_x0.2 (by decide) (by decide) k_fl_RX5_149 (v := .int (mI M5 x0 44)) rfl dX5_drop_53 ?_
          refine lv_iadd hx hb dX5_drop_56 ?_
          refine lv_iconst (v := (1 : Int32)) hx hb dX5_drop_57 (by decide) ?_
          obtain ⟨hin, h⟩ := h
          obtain ⟨M10, eM10⟩ : ∃ y : Mem, y = sI M5 84 ((mI M5 75 i7.toNatClampNeg) + (mI M5 x0 44)).toNatClampNeg (1 : Int32) := ⟨_, rfl⟩
          refine z_zast (A d0) hZ (isA_c (a := 84) hZ.k0 (by decide) rfl) hin (Or.inr rfl) dX5_drop_58 (fun H locs hZ => ?_)
          rw [← eM10] at hZ
          have hm : mz M10 = mz M5 := by rw [eM10] <;> rfl
          have ho_x0 := isO_le (Nat.le_of_eq hm.symm) ho_x0
          replace h := h M10 eM10
          refine lv_iconst (v := (1 : Int32)) hx hb dX5_drop_59 (by decide) ?_
          exact z_iret A hd0 hZ hr ⟨_, rfl, h⟩ dX5_drop_60
      · replace h := h.2 hc
        refine lv_iconst (v := (0 : Int32)) hx hb dX5_drop_28 (by decide) ?_
        exact z_iret A hd0 hZ hr ⟨_, rfl, h⟩ dX5_drop_29
    · replace h := h.2 hc
      refine lv_bipush (v := (-2 : Int32)) hx hb dX5_drop_17 (by decide) ?_
      exact z_iret A hd0 hZ hr ⟨_, rfl, h⟩ dX5_drop_19
  · replace h := h.2 hc
    refine lv_iconst (v := (-1 : Int32)) hx hb dX5_drop_7 (by decide) ?_
    exact z_iret A hd0 hZ hr ⟨_, rfl, h⟩ dX5_drop_8
/-! cX5_all -/
set_option maxRecDepth 100000 in
set_option maxHeartbeats 4000000 in
theorem zb_X5_all_23 {p : Program} {l : Launch} {e : Env} {R : Room} {s : State} {m : MethodId} {args : Array Value} {below : List Frame} {meth : Method} {c : Code} {G : ZG} {base z0 : Nat} {Q : Mem → Prop} (A : ∀ d, Amb p R (s.setDrawn d) m args meth c G base z0 cX5_all yX5_all.cls 2 2 46) (hr : meth.sig.returnType = none) {K7 : Nat → Int32 → Mem → Prop} {K37 : Mem → Prop} {d0 : Drawn} {H : Heap} {locs : List Loc} {cells slots : Nat} {ls : Array Slot} {x0 : Nat} {x1 : Int32} {t0 : Int32} {t1 : Int32} {M : Mem} (ho_x0 : isO M x0 5) (hd0 : s.drawn.sameBut d0 lw_cs) (hZ : ZH G true base s.heap M H locs) (hl : lv_has ls 2 [(0, .ref (base + x0)), (1, .int x1)]) (h : wp_X5_all_23 x0 x1 t0 t1 M Q K7 K37) (hK7 : ∀ {d0 : Drawn} {H : Heap} {locs : List Loc} {cells slots : Nat} {ls : Array Slot} {x0 : Nat} {x1 : Int32} {M : Mem} (ho_x0 : isO M x0 5), s.drawn.sameBut d0 lw_cs → ZH G true base s.heap M H locs → lv_has ls 2 [(0, .ref (base + x0)), (1, .int x1)] → K7 x0 x1 M → W p l e R (s.setDrawn d0) m args below meth c H locs cells slots (ZEnd below G true base z0 (qV Q) args s) (F0 m 7 ls [])) (hK37 : ∀ {d0 : Drawn} {H : Heap} {locs : List Loc} {cells slots : Nat} {ls : Array Slot} {M : Mem}, s.drawn.sameBut d0 lw_cs → ZH G true base s.heap M H locs → lv_has ls 2 [] → K37 M → W p l e R (s.setDrawn d0) m args below meth c H locs cells slots (ZEnd below G true base z0 (qV Q) args s) (F0 m 37 ls [])) : W p l e R (s.setDrawn d0) m args below meth c H locs cells slots (ZEnd below G true base z0 (qV Q) args s) (F0 m 23 ls [.int t0, .int t1]) := by
  have hx := (A d0).1
  have hb := (A d0).2.1
  unfold wp_X5_all_23 at h
  refine lv_icmp_ge (tgt := 37) hx hb dX5_all_23 (by decide) (fun hc => ?_) (fun hc => ?_)
  · replace h := h.1 hc
    exact hK37 hd0 hZ (lv_sub hl [] rfl) h
  · replace h := h.2 hc
    refine lv_aload_n hx hb dX5_all_26 rfl (lv_at hl 0 rfl) ?_
    refine lv_iload_n hx hb dX5_all_27 rfl (lv_at hl 1 rfl) ?_
    refine z_callV A hd0 hZ (ci := 5) (nA := 1) (As := [.int x1]) (by decide) ho_x0 (c_X5_gather l G base M x0 x1 _ h) k_ml_RX5_228 k_im_yX5_gather k_se_yX5_gather k_in_RX5 k_co_yX5_gather (by decide +kernel) ⟨by decide, by decide⟩ rfl rfl (Nat.le_of_ble_eq_true rfl) hl dX5_all_28 (fun v M3 H locs d0 cells slots hq hd0 hZ hm => ?_)
    clear h
    obtain ⟨rfl, h⟩ := hq
    have ho_x0 := isO_le hm ho_x0
    obtain ⟨i4, ei4⟩ : ∃ y : Int32, y = x1 + (1 : Int32) := ⟨_, rfl⟩
    replace h := h i4 ei4
    refine lv_iinc (v := i4) (lv' := [(1, .int i4), (0, .ref (base + x0))]) hx hb dX5_all_31 hl (k := 1) rfl (by rw [ei4]; rfl) (by decide) rfl (fun ls hl2 => ?_)
    replace hl := hl2
    refine lv_goto (tgt := 7) hx hb dX5_all_34 (by decide) ?_
    exact hK7 ho_x0 hd0 hZ (lv_sub hl [1, 0] rfl) h
set_option maxRecDepth 100000 in
set_option maxHeartbeats 4000000 in
theorem zb_X5_all_37 {p : Program} {l : Launch} {e : Env} {R : Room} {s : State} {m : MethodId} {args : Array Value} {below : List Frame} {meth : Method} {c : Code} {G : ZG} {base z0 : Nat} {Q : Mem → Prop} (A : ∀ d, Amb p R (s.setDrawn d) m args meth c G base z0 cX5_all yX5_all.cls 2 2 46) (hr : meth.sig.returnType = none) {d0 : Drawn} {H : Heap} {locs : List Loc} {cells slots : Nat} {ls : Array Slot}  {M : Mem} (hd0 : s.drawn.sameBut d0 lw_cs) (hZ : ZH G true base s.heap M H locs) (hl : lv_has ls 2 []) (h : wp_X5_all_37 M Q) : W p l e R (s.setDrawn d0) m args below meth c H locs cells slots (ZEnd below G true base z0 (qV Q) args s) (F0 m 37 ls []) := by
  have hx := (A d0).1
  have hb := (A d0).2.1
  unfold wp_X5_all_37 at h
  exact z_vret A hd0 hZ hr ⟨rfl, h⟩ dX5_all_37
set_option maxRecDepth 100000 in
set_option maxHeartbeats 4000000 in
theorem zb_X5_all_7 {p : Program} {l : Launch} {e : Env} {R : Room} {s : State} {m : MethodId} {args : Array Value} {below : List Frame} {meth : Method} {c : Code} {G : ZG} {base z0 : Nat} {Q : Mem → Prop} (A : ∀ d, Amb p R (s.setDrawn d) m args meth c G base z0 cX5_all yX5_all.cls 2 2 46) (hr : meth.sig.returnType = none) {K37 : Mem → Prop} :
  ∀ (n : Nat) {d0 : Drawn} {H : Heap} {locs : List Loc} {cells slots : Nat} {ls : Array Slot} {x0 : Nat} {x1 : Int32} {M : Mem} (ho_x0 : isO M x0 5) (hd0 : s.drawn.sameBut d0 lw_cs) (hZ : ZH G true base s.heap M H locs) (hl : lv_has ls 2 [(0, .ref (base + x0)), (1, .int x1)]) (h : wp_X5_all_7 n x0 x1 M Q K37) (hK37 : ∀ {d0 : Drawn} {H : Heap} {locs : List Loc} {cells slots : Nat} {ls : Array Slot} {M : Mem}, s.drawn.sameBut d0 lw_cs → ZH G true base s.heap M H locs → lv_has ls 2 [] → K37 M → W p l e R (s.setDrawn d0) m args below meth c H locs cells slots (ZEnd below G true base z0 (qV Q) args s) (F0 m 37 ls [])), W p l e R (s.setDrawn d0) m args below meth c H locs cells slots (ZEnd below G true base z0 (qV Q) args s) (F0 m 7 ls []) := by
  have hx := (A default).1
  have hb := (A default).2.1
  intro n
  induction n with
  | zero => intro d0 H locs cells slots ls x0 x1 M ho_x0 hd0 hZ hl h hK37; exact h.elim
  | succ n ih =>
    intro d0 H locs cells slots ls x0 x1 M ho_x0 hd0 hZ hl h hK37
    unfold wp_X5_all_7 at h
    refine lv_iload_n hx hb dX5_all_7 rfl (lv_at hl 1 rfl) ?_
    refine lv_aload_n hx hb dX5_all_8 rfl (lv_at hl 0 rfl) ?_
    refine z_get (A d0) hZ (ci := 5) (j := 23) ho_x0.1 ho_x0.2 (by decide) (by decide) k_fl_RX5_84 (v := .int (mI M x0 23)) rfl dX5_all_9 ?_
    refine lv_if_eq (tgt := 22) hx hb dX5_all_12 (by decide) (fun hc => ?_) (fun hc => ?_)
    · replace h := h.1 hc
      refine lv_iconst (v := (0 : Int32)) hx hb dX5_all_22 (by decide) ?_
      exact (zb_X5_all_23 A hr ho_x0 hd0 hZ (lv_sub hl [0, 1] rfl) h (fun ho_x0 hd0 hZ hl h => ih ho_x0 hd0 hZ hl h hK37) hK37)
    · replace h := h.2 hc
      refine lv_aload_n hx hb dX5_all_15 rfl (lv_at hl 0 rfl) ?_
      refine z_callV A hd0 hZ (ci := 5) (nA := 0) (As := []) (by decide) ho_x0 (c_X5_pieces l G base M x0 _ h) k_ml_RX5_213 k_im_yX5_pieces k_se_yX5_pieces k_in_RX5 k_co_yX5_pieces (by decide +kernel) ⟨by decide, by decide⟩ rfl rfl (Nat.le_of_ble_eq_true rfl) hl dX5_all_16 (fun v M1 H locs d0 cells slots hq hd0 hZ hm => ?_)
      clear h
      obtain ⟨i2, rfl, h⟩ := hq
      have ho_x0 := isO_le hm ho_x0
      refine lv_goto (tgt := 23) hx hb dX5_all_19 (by decide) ?_
      exact (zb_X5_all_23 A hr ho_x0 hd0 hZ (lv_sub hl [0, 1] rfl) h (fun ho_x0 hd0 hZ hl h => ih ho_x0 hd0 hZ hl h hK37) hK37)
set_option maxRecDepth 100000 in
set_option maxHeartbeats 4000000 in
theorem c_X5_all (l : Launch) (G : ZG) (base : Nat) (M : Mem) (x0 : Nat) (Q : Mem → Prop) (h : wp_X5_all x0 M Q) : ZMet l yX5_all cX5_all 2 none 2 46 G true base M [.ref (base + x0)] (qV Q) := by
  refine z_start (by decide) (Nat.le_of_ble_eq_true rfl) k_co_yX5_all ?_
  intro p e s m below meth c R d0 H locs cells slots ls A hr hn hd0 hZ hl
  have hx := (A d0).1
  have hb := (A d0).2.1
  have hl : lv_has ls 2 [(0, .ref (base + x0))] := hl
  unfold wp_X5_all at h
  obtain ⟨ho_x0, h⟩ := h
  refine lv_aload_n hx hb dX5_all_0 rfl (lv_at hl 0 rfl) ?_
  refine lv_iconst (v := (0 : Int32)) hx hb dX5_all_1 (by decide) ?_
  obtain ⟨M5, eM5⟩ : ∃ y : Mem, y = sI M x0 26 (0 : Int32) := ⟨_, rfl⟩
  refine z_put (A d0) hZ (ci := 5) (j := 26) (M' := M5) ho_x0.1 ho_x0.2 (by decide) (by decide) k_fl_RX5_94 rfl (by rw [eM5]; exact zUpd_I) rfl rfl dX5_all_2 (fun H locs hZ => ?_)
  have hm : mz M5 = mz M := by rw [eM5] <;> rfl
  have ho_x0 := isO_le (Nat.le_of_eq hm.symm) ho_x0
  replace h := h M5 eM5
  refine lv_iconst (v := (0 : Int32)) hx hb dX5_all_5 (by decide) ?_
  refine lv_istore_n (lv' := [(1, .int (0 : Int32)), (0, .ref (base + x0))]) hx hb dX5_all_6 rfl hl (by decide) rfl (fun ls hl2 => ?_)
  replace hl := hl2
  exact (Exists.elim h fun kk h => zb_X5_all_7 A hr kk ho_x0 hd0 hZ (lv_sub hl [1, 0] rfl) h (fun hd0 hZ hl h => (zb_X5_all_37 A hr hd0 hZ hl h)))
/-! cX5_at -/
set_option maxRecDepth 100000 in
set_option maxHeartbeats 4000000 in
theorem zb_X5_at_28 {p : Program} {l : Launch} {e : Env} {R : Room} {s : State} {m : MethodId} {args : Array Value} {below : List Frame} {meth : Method} {c : Code} {G : ZG} {base z0 : Nat} {Q : Int64 → Mem → Prop} (A : ∀ d, Amb p R (s.setDrawn d) m args meth c G base z0 cX5_at yX5_at.cls 2 3 67) (hr : meth.sig.returnType = (some .long)) {d0 : Drawn} {H : Heap} {locs : List Loc} {cells slots : Nat} {ls : Array Slot} {t0 : Int64} {M : Mem} (hd0 : s.drawn.sameBut d0 lw_cs) (hZ : ZH G true base s.heap M H locs) (hl : lv_has ls 2 []) (h : wp_X5_at_28 t0 M Q) : W p l e R (s.setDrawn d0) m args below meth c H locs cells slots (ZEnd below G true base z0 (qL Q) args s) (F0 m 28 ls [.long t0]) := by
  have hx := (A d0).1
  have hb := (A d0).2.1
  unfold wp_X5_at_28 at h
  exact z_lret A hd0 hZ hr ⟨_, rfl, h⟩ dX5_at_28
set_option maxRecDepth 100000 in
set_option maxHeartbeats 4000000 in
theorem zb_X5_at_16 {p : Program} {l : Launch} {e : Env} {R : Room} {s : State} {m : MethodId} {args : Array Value} {below : List Frame} {meth : Method} {c : Code} {G : ZG} {base z0 : Nat} {Q : Int64 → Mem → Prop} (A : ∀ d, Amb p R (s.setDrawn d) m args meth c G base z0 cX5_at yX5_at.cls 2 3 67) (hr : meth.sig.returnType = (some .long)) {d0 : Drawn} {H : Heap} {locs : List Loc} {cells slots : Nat} {ls : Array Slot}  {M : Mem} (hd0 : s.drawn.sameBut d0 lw_cs) (hZ : ZH G true base s.heap M H locs) (hl : lv_has ls 2 []) (h : wp_X5_at_16 M Q) : W p l e R (s.setDrawn d0) m args below meth c H locs cells slots (ZEnd below G true base z0 (qL Q) args s) (F0 m 16 ls []) := by
  have hx := (A d0).1
  have hb := (A d0).2.1
  unfold wp_X5_at_16 at h
  refine lv_ldc2 (v := (-9223372036854775808 : Int64)) hx hb (A d0).2.2.2.1 ((A d0).2.2.2.2.1 _ k_lc_RX5_252) dX5_at_16 ?_
  refine lv_goto (tgt := 28) hx hb dX5_at_19 (by decide) ?_
  exact (zb_X5_at_28 A hr hd0 hZ (lv_sub hl [] rfl) h)
set_option maxRecDepth 100000 in
set_option maxHeartbeats 4000000 in
theorem c_X5_at (l : Launch) (G : ZG) (base : Nat) (M : Mem) (x0 : Nat) (x1 : Int32) (Q : Int64 → Mem → Prop) (h : wp_X5_at x0 x1 M Q) : ZMet l yX5_at cX5_at 2 (some .long) 3 67 G true base M [.ref (base + x0), .int x1] (qL Q) := by
  refine z_start (by decide) (Nat.le_of_ble_eq_true rfl) k_co_yX5_at ?_
  intro p e s m below meth c R d0 H locs cells slots ls A hr hn hd0 hZ hl
  have hx := (A d0).1
  have hb := (A d0).2.1
  have hl : lv_has ls 2 [(0, .ref (base + x0)), (1, .int x1)] := hl
  unfold wp_X5_at at h
  obtain ⟨ho_x0, h⟩ := h
  refine lv_aload_n hx hb dX5_at_0 rfl (lv_at hl 0 rfl) ?_
  refine z_callV A hd0 hZ (ci := 5) (nA := 0) (As := []) (by decide) ho_x0 (c_X5_all l G base M x0 _ h) k_ml_RX5_249 k_im_yX5_all k_se_yX5_all k_in_RX5 k_co_yX5_all (by decide +kernel) ⟨by decide, by decide⟩ rfl rfl (Nat.le_of_ble_eq_true rfl) hl dX5_at_1 (fun v M1 H locs d0 cells slots hq hd0 hZ hm => ?_)
  clear h
  obtain ⟨rfl, h⟩ := hq
  have ho_x0 := isO_le hm ho_x0
  refine lv_iload_n hx hb dX5_at_4 rfl (lv_at hl 1 rfl) ?_
  refine lv_if_lt (tgt := 16) hx hb dX5_at_5 (by decide) (fun hc => ?_) (fun hc => ?_)
  · replace h := h.1 hc
    exact (zb_X5_at_16 A hr hd0 hZ (lv_sub hl [] rfl) h)
  · replace h := h.2 hc
    refine lv_iload_n hx hb dX5_at_8 rfl (lv_at hl 1 rfl) ?_
    refine lv_aload_n hx hb dX5_at_9 rfl (lv_at hl 0 rfl) ?_
    refine z_get (A d0) hZ (ci := 5) (j := 26) ho_x0.1 ho_x0.2 (by decide) (by decide) k_fl_RX5_94 (v := .int (mI M1 x0 26)) rfl dX5_at_10 ?_
    refine lv_icmp_lt (tgt := 22) hx hb dX5_at_13 (by decide) (fun hc => ?_) (fun hc => ?_)
    · replace h := h.1 hc
      refine lv_aload_n hx hb dX5_at_22 rfl (lv_at hl 0 rfl) ?_
      refine z_get (A d0) hZ (ci := 5) (j := 3) ho_x0.1 ho_x0.2 (by decide) (by decide) k_fl_RX5_20 (v := .ref (base + 71)) (zv_fin (zf5 ho_x0 rfl) rfl) dX5_at_23 ?_
      refine lv_iload_n hx hb dX5_at_26 rfl (lv_at hl 1 rfl) ?_
      obtain ⟨hin, h⟩ := h
      refine z_lald (A d0) hZ (isA_c (a := 71) hZ.k0 (by decide) rfl) hin dX5_at_27 ?_
      exact (zb_X5_at_28 A hr hd0 hZ (lv_sub hl [] rfl) h)
    · replace h := h.2 hc
      exact (zb_X5_at_16 A hr hd0 hZ (lv_sub hl [] rfl) h)
/-! cX5_ahead -/
set_option maxRecDepth 100000 in
set_option maxHeartbeats 4000000 in
theorem zb_X5_ahead_6 {p : Program} {l : Launch} {e : Env} {R : Room} {s : State} {m : MethodId} {args : Array Value} {below : List Frame} {meth : Method} {c : Code} {G : ZG} {base z0 : Nat} {Q : Int32 → Mem → Prop} (A : ∀ d, Amb p R (s.setDrawn d) m args meth c G base z0 cX5_ahead yX5_ahead.cls 4 3 67) (hr : meth.sig.returnType = (some .int)) {K31 : Int32 → Mem → Prop} :
  ∀ (n : Nat) {d0 : Drawn} {H : Heap} {locs : List Loc} {cells slots : Nat} {ls : Array Slot} {x0 : Nat} {x1 : Int64} {x3 : Int32} {M : Mem} (ho_x0 : isO M x0 5) (hd0 : s.drawn.sameBut d0 lw_cs) (hZ : ZH G true base s.heap M H locs) (hl : lv_has ls 4 [(0, .ref (base + x0)), (1, .long x1), (3, .int x3)]) (h : wp_X5_ahead_6 n x0 x1 x3 M Q K31) (hK31 : ∀ {d0 : Drawn} {H : Heap} {locs : List Loc} {cells slots : Nat} {ls : Array Slot} {x3 : Int32} {M : Mem}, s.drawn.sameBut d0 lw_cs → ZH G true base s.heap M H locs → lv_has ls 4 [(3, .int x3)] → K31 x3 M → W p l e R (s.setDrawn d0) m args below meth c H locs cells slots (ZEnd below G true base z0 (qI Q) args s) (F0 m 31 ls [])), W p l e R (s.setDrawn d0) m args below meth c H locs cells slots (ZEnd below G true base z0 (qI Q) args s) (F0 m 6 ls []) := by
  have hx := (A default).1
  have hb := (A default).2.1
  intro n
  induction n with
  | zero => intro d0 H locs cells slots ls x0 x1 x3 M ho_x0 hd0 hZ hl h hK31; exact h.elim
  | succ n ih =>
    intro d0 H locs cells slots ls x0 x1 x3 M ho_x0 hd0 hZ hl h hK31
    unfold wp_X5_ahead_6 at h
    refine lv_iload_n hx hb dX5_ahead_6 rfl (lv_at hl 2 rfl) ?_
    refine lv_aload_n hx hb dX5_ahead_7 rfl (lv_at hl 0 rfl) ?_
    refine z_get (A d0) hZ (ci := 5) (j := 26) ho_x0.1 ho_x0.2 (by decide) (by decide) k_fl_RX5_94 (v := .int (mI M x0 26)) rfl dX5_ahead_8 ?_
    refine lv_icmp_ge (tgt := 31) hx hb dX5_ahead_11 (by decide) (fun hc => ?_) (fun hc => ?_)
    · replace h := h.1 hc
      exact hK31 hd0 hZ (lv_sub hl [2] rfl) h
    · replace h := h.2 hc
      refine lv_aload_n hx hb dX5_ahead_14 rfl (lv_at hl 0 rfl) ?_
      refine z_get (A d0) hZ (ci := 5) (j := 3) ho_x0.1 ho_x0.2 (by decide) (by decide) k_fl_RX5_20 (v := .ref (base + 71)) (zv_fin (zf5 ho_x0 rfl) rfl) dX5_ahead_15 ?_
      refine lv_iload_n hx hb dX5_ahead_18 rfl (lv_at hl 2 rfl) ?_
      obtain ⟨hin, h⟩ := h
      refine z_lald (A d0) hZ (isA_c (a := 71) hZ.k0 (by decide) rfl) hin dX5_ahead_19 ?_
      refine lv_lload_n hx hb dX5_ahead_20 rfl (lv_at hl 1 rfl) ?_
      refine z_lc_ge (tgt := 31) hx hb dX5_ahead_21 dX5_ahead_22 (by decide) (fun hc => ?_) (fun hc => ?_)
      · replace h := h.1 hc
        exact hK31 hd0 hZ (lv_sub hl [2] rfl) h
      · replace h := h.2 hc
        obtain ⟨i1, ei1⟩ : ∃ y : Int32, y = x3 + (1 : Int32) := ⟨_, rfl⟩
        replace h := h i1 ei1
        refine lv_iinc (v := i1) (lv' := [(3, .int i1), (0, .ref (base + x0)), (1, .long x1)]) hx hb dX5_ahead_25 hl (k := 2) rfl (by rw [ei1]; rfl) (by decide) rfl (fun ls hl2 => ?_)
        replace hl := hl2
        refine lv_goto (tgt := 6) hx hb dX5_ahead_28 (by decide) ?_
        exact ih ho_x0 hd0 hZ (lv_sub hl [1, 2, 0] rfl) h hK31
set_option maxRecDepth 100000 in
set_option maxHeartbeats 4000000 in
theorem zb_X5_ahead_31 {p : Program} {l : Launch} {e : Env} {R : Room} {s : State} {m : MethodId} {args : Array Value} {below : List Frame} {meth : Method} {c : Code} {G : ZG} {base z0 : Nat} {Q : Int32 → Mem → Prop} (A : ∀ d, Amb p R (s.setDrawn d) m args meth c G base z0 cX5_ahead yX5_ahead.cls 4 3 67) (hr : meth.sig.returnType = (some .int)) {d0 : Drawn} {H : Heap} {locs : List Loc} {cells slots : Nat} {ls : Array Slot} {x3 : Int32} {M : Mem} (hd0 : s.drawn.sameBut d0 lw_cs) (hZ : ZH G true base s.heap M H locs) (hl : lv_has ls 4 [(3, .int x3)]) (h : wp_X5_ahead_31 x3 M Q) : W p l e R (s.setDrawn d0) m args below meth c H locs cells slots (ZEnd below G true base z0 (qI Q) args s) (F0 m 31 ls []) := by
  have hx := (A d0).1
  have hb := (A d0).2.1
  unfold wp_X5_ahead_31 at h
  refine lv_iload_n hx hb dX5_ahead_31 rfl (lv_at hl 0 rfl) ?_
  exact z_iret A hd0 hZ hr ⟨_, rfl, h⟩ dX5_ahead_32
set_option maxRecDepth 100000 in
set_option maxHeartbeats 4000000 in
theorem c_X5_ahead (l : Launch) (G : ZG) (base : Nat) (M : Mem) (x0 : Nat) (x1 : Int64) (Q : Int32 → Mem → Prop) (h : wp_X5_ahead x0 x1 M Q) : ZMet l yX5_ahead cX5_ahead 4 (some .int) 3 67 G true base M [.ref (base + x0), .long x1] (qI Q) := by
  refine z_start (by decide) (Nat.le_of_ble_eq_true rfl) k_co_yX5_ahead ?_
  intro p e s m below meth c R d0 H locs cells slots ls A hr hn hd0 hZ hl
  have hx := (A d0).1
  have hb := (A d0).2.1
  have hl : lv_has ls 4 [(0, .ref (base + x0)), (1, .long x1)] := hl
  unfold wp_X5_ahead at h
  obtain ⟨ho_x0, h⟩ := h
  refine lv_aload_n hx hb dX5_ahead_0 rfl (lv_at hl 0 rfl) ?_
  refine z_callV A hd0 hZ (ci := 5) (nA := 0) (As := []) (by decide) ho_x0 (c_X5_all l G base M x0 _ h) k_ml_RX5_249 k_im_yX5_all k_se_yX5_all k_in_RX5 k_co_yX5_all (by decide +kernel) ⟨by decide, by decide⟩ rfl rfl (Nat.le_of_ble_eq_true rfl) hl dX5_ahead_1 (fun v M2 H locs d0 cells slots hq hd0 hZ hm => ?_)
  clear h
  obtain ⟨rfl, h⟩ := hq
  have ho_x0 := isO_le hm ho_x0
  refine lv_iconst (v := (0 : Int32)) hx hb dX5_ahead_4 (by decide) ?_
  refine lv_istore_n (lv' := [(3, .int (0 : Int32)), (0, .ref (base + x0)), (1, .long x1)]) hx hb dX5_ahead_5 rfl hl (by decide) rfl (fun ls hl2 => ?_)
  replace hl := hl2
  exact (Exists.elim h fun kk h => zb_X5_ahead_6 A hr kk ho_x0 hd0 hZ (lv_sub hl [1, 2, 0] rfl) h (fun hd0 hZ hl h => (zb_X5_ahead_31 A hr hd0 hZ hl h)))
