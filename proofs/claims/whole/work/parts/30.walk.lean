/-! cX5_make -/
set_option maxRecDepth 100000 in
set_option maxHeartbeats 4000000 in
theorem zb_X5_make_27 {p : Program} {l : Launch} {e : Env} {R : Room} {s : State} {m : MethodId} {args : Array Value} {below : List Frame} {meth : Method} {c : Code} {G : ZG} {base z0 : Nat} {Q : Int32 → Mem → Prop} (A : ∀ d, Amb p R (s.setDrawn d) m args meth c G base z0 cX5_make yX5_make.cls 9 3 84) (hr : meth.sig.returnType = (some .int)) {K74 : Int32 → Mem → Prop} :
  ∀ (n : Nat) {d0 : Drawn} {H : Heap} {locs : List Loc} {cells slots : Nat} {ls : Array Slot} {x0 : Nat} {x1 : Int32} {x2 : Int32} {x3 : Int32} {x4 : Int32} {x5 : Int32} {x6 : Int32} {x7 : Int32} {M : Mem} (ho_x0 : isO M x0 5) (hd0 : s.drawn.sameBut d0 lw_cs) (hZ : ZH G true base s.heap M H locs) (hl : lv_has ls 9 [(0, .ref (base + x0)), (1, .int x1), (2, .int x2), (3, .int x3), (4, .int x4), (5, .int x5), (6, .int x6), (7, .int x7)]) (h : wp_X5_make_27 n x0 x1 x2 x3 x4 x5 x6 x7 M Q K74) (hK74 : ∀ {d0 : Drawn} {H : Heap} {locs : List Loc} {cells slots : Nat} {ls : Array Slot} {x7 : Int32} {M : Mem}, s.drawn.sameBut d0 lw_cs → ZH G true base s.heap M H locs → lv_has ls 9 [(7, .int x7)] → K74 x7 M → W p l e R (s.setDrawn d0) m args below meth c H locs cells slots (ZEnd below G true base z0 (qI Q) args s) (F0 m 74 ls [])), W p l e R (s.setDrawn d0) m args below meth c H locs cells slots (ZEnd below G true base z0 (qI Q) args s) (F0 m 27 ls []) := by
  have hx := (A default).1
  have hb := (A default).2.1
  intro n
  induction n with
  | zero => intro d0 H locs cells slots ls x0 x1 x2 x3 x4 x5 x6 x7 M ho_x0 hd0 hZ hl h hK74; exact h.elim
  | succ n ih =>
    intro d0 H locs cells slots ls x0 x1 x2 x3 x4 x5 x6 x7 M ho_x0 hd0 hZ hl h hK74
    unfold wp_X5_make_27 at h
    refine lv_iload hx hb dX5_make_27 (lv_at hl 6 rfl) ?_
    refine lv_iload_n hx hb dX5_make_29 rfl (lv_at hl 1 rfl) ?_
    refine lv_icmp_ge (tgt := 74) hx hb dX5_make_30 (by decide) (fun hc => ?_) (fun hc => ?_)
    · replace h := h.1 hc
      exact hK74 hd0 hZ (lv_sub hl [7] rfl) h
    · replace h := h.2 hc
      refine lv_aload_n hx hb dX5_make_33 rfl (lv_at hl 0 rfl) ?_
      refine lv_iload hx hb dX5_make_34 (lv_at hl 6 rfl) ?_
      refine lv_iload_n hx hb dX5_make_36 rfl (lv_at hl 1 rfl) ?_
      refine lv_iload hx hb dX5_make_37 (lv_at hl 5 rfl) ?_
      refine z_callV A hd0 hZ (ci := 5) (nA := 3) (As := [.int x6, .int x1, .int x5]) (by decide) ho_x0 (c_X5_spanEnd l G base M x0 x6 x1 x5 _ h) k_ml_RX5_181 k_im_yX5_spanEnd k_se_yX5_spanEnd k_in_RX5 k_co_yX5_spanEnd (by decide +kernel) ⟨by decide, by decide⟩ rfl rfl (Nat.le_of_ble_eq_true rfl) hl dX5_make_39 (fun v M1 H locs d0 cells slots hq hd0 hZ hm => ?_)
      clear h
      obtain ⟨i2, rfl, h⟩ := hq
      have ho_x0 := isO_le hm ho_x0
      refine lv_istore (lv' := [(8, .int i2), (0, .ref (base + x0)), (1, .int x1), (2, .int x2), (3, .int x3), (4, .int x4), (5, .int x5), (6, .int x6), (7, .int x7)]) hx hb dX5_make_42 hl (by decide) rfl (fun ls hl2 => ?_)
      replace hl := hl2
      refine lv_aload_n hx hb dX5_make_44 rfl (lv_at hl 1 rfl) ?_
      refine lv_iload_n hx hb dX5_make_45 rfl (lv_at hl 3 rfl) ?_
      refine lv_iload hx hb dX5_make_46 (lv_at hl 8 rfl) ?_
      refine lv_iadd hx hb dX5_make_48 ?_
      refine lv_iload hx hb dX5_make_49 (lv_at hl 7 rfl) ?_
      refine lv_iload hx hb dX5_make_51 (lv_at hl 0 rfl) ?_
      refine lv_iload hx hb dX5_make_53 (lv_at hl 6 rfl) ?_
      refine lv_iload hx hb dX5_make_55 (lv_at hl 5 rfl) ?_
      refine lv_iload_n hx hb dX5_make_57 rfl (lv_at hl 4 rfl) ?_
      refine lv_iload hx hb dX5_make_58 (lv_at hl 7 rfl) ?_
      refine lv_iadd hx hb dX5_make_60 ?_
      refine z_callV A hd0 hZ (ci := 5) (nA := 6) (As := [.int (x2 + x7), .int x6, .int i2, .int x5, .int x4, .int (x3 + x6)]) (by decide) ho_x0 (c_X5_lean l G base M1 x0 (x2 + x7) x6 i2 x5 x4 (x3 + x6) _ h) k_ml_RX5_201 k_im_yX5_lean k_se_yX5_lean k_in_RX5 k_co_yX5_lean (by decide +kernel) ⟨by decide, by decide⟩ rfl rfl (Nat.le_of_ble_eq_true rfl) hl dX5_make_61 (fun v M3 H locs d0 cells slots hq hd0 hZ hm => ?_)
      clear h
      obtain ⟨rfl, h⟩ := hq
      have ho_x0 := isO_le hm ho_x0
      refine lv_iload hx hb dX5_make_64 (lv_at hl 0 rfl) ?_
      refine lv_istore (lv' := [(6, .int i2), (8, .int i2), (0, .ref (base + x0)), (1, .int x1), (2, .int x2), (3, .int x3), (4, .int x4), (5, .int x5), (7, .int x7)]) hx hb dX5_make_66 hl (by decide) rfl (fun ls hl2 => ?_)
      replace hl := hl2
      obtain ⟨i4, ei4⟩ : ∃ y : Int32, y = x7 + (1 : Int32) := ⟨_, rfl⟩
      replace h := h i4 ei4
      refine lv_iinc (v := i4) (lv' := [(7, .int i4), (6, .int i2), (8, .int i2), (0, .ref (base + x0)), (1, .int x1), (2, .int x2), (3, .int x3), (4, .int x4), (5, .int x5)]) hx hb dX5_make_68 hl (k := 8) rfl (by rw [ei4]; rfl) (by decide) rfl (fun ls hl2 => ?_)
      replace hl := hl2
      refine lv_goto (tgt := 27) hx hb dX5_make_71 (by decide) ?_
      exact ih ho_x0 hd0 hZ (lv_sub hl [3, 4, 5, 6, 7, 8, 1, 0] rfl) h hK74
set_option maxRecDepth 100000 in
set_option maxHeartbeats 4000000 in
theorem zb_X5_make_74 {p : Program} {l : Launch} {e : Env} {R : Room} {s : State} {m : MethodId} {args : Array Value} {below : List Frame} {meth : Method} {c : Code} {G : ZG} {base z0 : Nat} {Q : Int32 → Mem → Prop} (A : ∀ d, Amb p R (s.setDrawn d) m args meth c G base z0 cX5_make yX5_make.cls 9 3 84) (hr : meth.sig.returnType = (some .int)) {d0 : Drawn} {H : Heap} {locs : List Loc} {cells slots : Nat} {ls : Array Slot} {x7 : Int32} {M : Mem} (hd0 : s.drawn.sameBut d0 lw_cs) (hZ : ZH G true base s.heap M H locs) (hl : lv_has ls 9 [(7, .int x7)]) (h : wp_X5_make_74 x7 M Q) : W p l e R (s.setDrawn d0) m args below meth c H locs cells slots (ZEnd below G true base z0 (qI Q) args s) (F0 m 74 ls []) := by
  have hx := (A d0).1
  have hb := (A d0).2.1
  unfold wp_X5_make_74 at h
  refine lv_iload hx hb dX5_make_74 (lv_at hl 0 rfl) ?_
  exact z_iret A hd0 hZ hr ⟨_, rfl, h⟩ dX5_make_76
set_option maxRecDepth 100000 in
set_option maxHeartbeats 4000000 in
theorem zb_X5_make_19 {p : Program} {l : Launch} {e : Env} {R : Room} {s : State} {m : MethodId} {args : Array Value} {below : List Frame} {meth : Method} {c : Code} {G : ZG} {base z0 : Nat} {Q : Int32 → Mem → Prop} (A : ∀ d, Amb p R (s.setDrawn d) m args meth c G base z0 cX5_make yX5_make.cls 9 3 84) (hr : meth.sig.returnType = (some .int)) {d0 : Drawn} {H : Heap} {locs : List Loc} {cells slots : Nat} {ls : Array Slot} {x0 : Nat} {x1 : Int32} {x2 : Int32} {x3 : Int32} {x4 : Int32} {t0 : Int32} {M : Mem} (ho_x0 : isO M x0 5) (hd0 : s.drawn.sameBut d0 lw_cs) (hZ : ZH G true base s.heap M H locs) (hl : lv_has ls 9 [(0, .ref (base + x0)), (1, .int x1), (2, .int x2), (3, .int x3), (4, .int x4)]) (h : wp_X5_make_19 x0 x1 x2 x3 x4 t0 M Q) : W p l e R (s.setDrawn d0) m args below meth c H locs cells slots (ZEnd below G true base z0 (qI Q) args s) (F0 m 19 ls [.int t0]) := by
  have hx := (A d0).1
  have hb := (A d0).2.1
  unfold wp_X5_make_19 at h
  refine lv_istore (lv' := [(5, .int t0), (0, .ref (base + x0)), (1, .int x1), (2, .int x2), (3, .int x3), (4, .int x4)]) hx hb dX5_make_19 hl (by decide) rfl (fun ls hl2 => ?_)
  replace hl := hl2
  refine lv_iconst (v := (0 : Int32)) hx hb dX5_make_21 (by decide) ?_
  refine lv_istore (lv' := [(6, .int (0 : Int32)), (5, .int t0), (0, .ref (base + x0)), (1, .int x1), (2, .int x2), (3, .int x3), (4, .int x4)]) hx hb dX5_make_22 hl (by decide) rfl (fun ls hl2 => ?_)
  replace hl := hl2
  refine lv_iconst (v := (0 : Int32)) hx hb dX5_make_24 (by decide) ?_
  refine lv_istore (lv' := [(7, .int (0 : Int32)), (6, .int (0 : Int32)), (5, .int t0), (0, .ref (base + x0)), (1, .int x1), (2, .int x2), (3, .int x3), (4, .int x4)]) hx hb dX5_make_25 hl (by decide) rfl (fun ls hl2 => ?_)
  replace hl := hl2
  exact (Exists.elim h fun kk h => zb_X5_make_27 A hr kk ho_x0 hd0 hZ (lv_sub hl [3, 4, 5, 6, 7, 2, 1, 0] rfl) h (fun hd0 hZ hl h => (zb_X5_make_74 A hr hd0 hZ hl h)))
set_option maxRecDepth 100000 in
set_option maxHeartbeats 4000000 in
theorem c_X5_make (l : Launch) (G : ZG) (base : Nat) (M : Mem) (x0 : Nat) (x1 : Int32) (x2 : Int32) (x3 : Int32) (x4 : Int32) (Q : Int32 → Mem → Prop) (h : wp_X5_make x0 x1 x2 x3 x4 M Q) : ZMet l yX5_make cX5_make 9 (some .int) 3 84 G true base M [.ref (base + x0), .int x1, .int x2, .int x3, .int x4] (qI Q) := by
  refine z_start (by decide) (Nat.le_of_ble_eq_true rfl) k_co_yX5_make ?_
  intro p e s m below meth c R d0 H locs cells slots ls A hr hn hd0 hZ hl
  have hx := (A d0).1
  have hb := (A d0).2.1
  have hl : lv_has ls 9 [(0, .ref (base + x0)), (1, .int x1), (2, .int x2), (3, .int x3), (4, .int x4)] := hl
  unfold wp_X5_make at h
  obtain ⟨ho_x0, h⟩ := h
  refine lv_iload hx hb dX5_make_0 (lv_at hl 4 rfl) ?_
  refine lv_iconst (v := (2 : Int32)) hx hb dX5_make_2 (by decide) ?_
  refine lv_icmp_ne (tgt := 15) hx hb dX5_make_3 (by decide) (fun hc => ?_) (fun hc => ?_)
  · replace h := h.1 hc
    refine lv_aload_n hx hb dX5_make_15 rfl (lv_at hl 0 rfl) ?_
    refine z_get (A d0) hZ (ci := 5) (j := 2) ho_x0.1 ho_x0.2 (by decide) (by decide) k_fl_RX5_17 (v := .int (mI M x0 2)) rfl dX5_make_16 ?_
    exact (zb_X5_make_19 A hr ho_x0 hd0 hZ (lv_sub hl [0, 1, 2, 3, 4] rfl) h)
  · replace h := h.2 hc
    refine lv_aload_n hx hb dX5_make_6 rfl (lv_at hl 0 rfl) ?_
    refine z_get (A d0) hZ (ci := 5) (j := 2) ho_x0.1 ho_x0.2 (by decide) (by decide) k_fl_RX5_17 (v := .int (mI M x0 2)) rfl dX5_make_7 ?_
    refine lv_iconst (v := (1 : Int32)) hx hb dX5_make_10 (by decide) ?_
    refine lv_isub hx hb dX5_make_11 ?_
    refine lv_goto (tgt := 19) hx hb dX5_make_12 (by decide) ?_
    exact (zb_X5_make_19 A hr ho_x0 hd0 hZ (lv_sub hl [0, 1, 2, 3, 4] rfl) h)
/-! cX5_layersAnew -/
set_option maxRecDepth 100000 in
set_option maxHeartbeats 4000000 in
theorem zb_X5_layersAnew_50 {p : Program} {l : Launch} {e : Env} {R : Room} {s : State} {m : MethodId} {args : Array Value} {below : List Frame} {meth : Method} {c : Code} {G : ZG} {base z0 : Nat} {Q : Mem → Prop} (A : ∀ d, Amb p R (s.setDrawn d) m args meth c G base z0 cX5_layersAnew yX5_layersAnew.cls 5 4 112) (hr : meth.sig.returnType = none) {K88 : Nat → Int32 → Mem → Prop} :
  ∀ (n : Nat) {d0 : Drawn} {H : Heap} {locs : List Loc} {cells slots : Nat} {ls : Array Slot} {x0 : Nat} {x1 : Int32} {x2 : Int32} {M : Mem} (ho_x0 : isO M x0 5) (hd0 : s.drawn.sameBut d0 lw_cs) (hZ : ZH G true base s.heap M H locs) (hl : lv_has ls 5 [(0, .ref (base + x0)), (1, .int x1), (2, .int x2)]) (h : wp_X5_layersAnew_50 n x0 x1 x2 M Q K88) (hK88 : ∀ {d0 : Drawn} {H : Heap} {locs : List Loc} {cells slots : Nat} {ls : Array Slot} {x0 : Nat} {x1 : Int32} {M : Mem} (ho_x0 : isO M x0 5), s.drawn.sameBut d0 lw_cs → ZH G true base s.heap M H locs → lv_has ls 5 [(0, .ref (base + x0)), (1, .int x1)] → K88 x0 x1 M → W p l e R (s.setDrawn d0) m args below meth c H locs cells slots (ZEnd below G true base z0 (qV Q) args s) (F0 m 88 ls [])), W p l e R (s.setDrawn d0) m args below meth c H locs cells slots (ZEnd below G true base z0 (qV Q) args s) (F0 m 50 ls []) := by
  have hx := (A default).1
  have hb := (A default).2.1
  intro n
  induction n with
  | zero => intro d0 H locs cells slots ls x0 x1 x2 M ho_x0 hd0 hZ hl h hK88; exact h.elim
  | succ n ih =>
    intro d0 H locs cells slots ls x0 x1 x2 M ho_x0 hd0 hZ hl h hK88
    unfold wp_X5_layersAnew_50 at h
    refine lv_iload_n hx hb dX5_layersAnew_50 rfl (lv_at hl 2 rfl) ?_
    refine lv_iload_n hx hb dX5_layersAnew_51 rfl (lv_at hl 1 rfl) ?_
    refine lv_icmp_ge (tgt := 88) hx hb dX5_layersAnew_52 (by decide) (fun hc => ?_) (fun hc => ?_)
    · replace h := h.1 hc
      exact hK88 ho_x0 hd0 hZ (lv_sub hl [0, 1] rfl) h
    · replace h := h.2 hc
      refine lv_aload_n hx hb dX5_layersAnew_55 rfl (lv_at hl 0 rfl) ?_
      refine z_get (A d0) hZ (ci := 5) (j := 3) ho_x0.1 ho_x0.2 (by decide) (by decide) k_fl_RX5_20 (v := .ref (base + 71)) (zv_fin (zf5 ho_x0 rfl) rfl) dX5_layersAnew_56 ?_
      refine lv_iload_n hx hb dX5_layersAnew_59 rfl (lv_at hl 2 rfl) ?_
      refine lv_aload_n hx hb dX5_layersAnew_60 rfl (lv_at hl 0 rfl) ?_
      refine z_get (A d0) hZ (ci := 5) (j := 20) ho_x0.1 ho_x0.2 (by decide) (by decide) k_fl_RX5_73 (v := .ref (base + 82)) (zv_fin (zf5 ho_x0 rfl) rfl) dX5_layersAnew_61 ?_
      refine lv_aload_n hx hb dX5_layersAnew_64 rfl (lv_at hl 0 rfl) ?_
      refine z_get (A d0) hZ (ci := 5) (j := 13) ho_x0.1 ho_x0.2 (by decide) (by decide) k_fl_RX5_52 (v := .ref (base + 75)) (zv_fin (zf5 ho_x0 rfl) rfl) dX5_layersAnew_65 ?_
      refine lv_aload_n hx hb dX5_layersAnew_68 rfl (lv_at hl 0 rfl) ?_
      refine z_get (A d0) hZ (ci := 5) (j := 10) ho_x0.1 ho_x0.2 (by decide) (by decide) k_fl_RX5_42 (v := .ref (base + 72)) (zv_fin (zf5 ho_x0 rfl) rfl) dX5_layersAnew_69 ?_
      refine lv_aload_n hx hb dX5_layersAnew_72 rfl (lv_at hl 0 rfl) ?_
      refine z_get (A d0) hZ (ci := 5) (j := 9) ho_x0.1 ho_x0.2 (by decide) (by decide) k_fl_RX5_39 (v := .int (mI M x0 9)) rfl dX5_layersAnew_73 ?_
      obtain ⟨hin, h⟩ := h
      refine z_iald (A d0) hZ (isA_c (a := 72) hZ.k0 (by decide) rfl) hin dX5_layersAnew_76 ?_
      refine lv_iload_n hx hb dX5_layersAnew_77 rfl (lv_at hl 2 rfl) ?_
      refine lv_iadd hx hb dX5_layersAnew_78 ?_
      obtain ⟨hin, h⟩ := h
      refine z_iald (A d0) hZ (isA_c (a := 75) hZ.k0 (by decide) rfl) hin dX5_layersAnew_79 ?_
      obtain ⟨hin, h⟩ := h
      refine z_lald (A d0) hZ (isA_c (a := 82) hZ.k0 (by decide) rfl) hin dX5_layersAnew_80 ?_
      obtain ⟨hin, h⟩ := h
      obtain ⟨M2, eM2⟩ : ∃ y : Mem, y = sL M 71 x2.toNatClampNeg (mL M 82 (mI M 75 ((mI M 72 (mI M x0 9).toNatClampNeg) + x2).toNatClampNeg).toNatClampNeg) := ⟨_, rfl⟩
      refine z_last (A d0) hZ (isA_c (a := 71) hZ.k0 (by decide) rfl) hin dX5_layersAnew_81 (fun H locs hZ => ?_)
      rw [← eM2] at hZ
      have hm : mz M2 = mz M := by rw [eM2] <;> rfl
      have ho_x0 := isO_le (Nat.le_of_eq hm.symm) ho_x0
      replace h := h M2 eM2
      obtain ⟨i3, ei3⟩ : ∃ y : Int32, y = x2 + (1 : Int32) := ⟨_, rfl⟩
      replace h := h i3 ei3
      refine lv_iinc (v := i3) (lv' := [(2, .int i3), (0, .ref (base + x0)), (1, .int x1)]) hx hb dX5_layersAnew_82 hl (k := 2) rfl (by rw [ei3]; rfl) (by decide) rfl (fun ls hl2 => ?_)
      replace hl := hl2
      refine lv_goto (tgt := 50) hx hb dX5_layersAnew_85 (by decide) ?_
      exact ih ho_x0 hd0 hZ (lv_sub hl [1, 2, 0] rfl) h hK88
set_option maxRecDepth 100000 in
set_option maxHeartbeats 4000000 in
theorem zb_X5_layersAnew_88 {p : Program} {l : Launch} {e : Env} {R : Room} {s : State} {m : MethodId} {args : Array Value} {below : List Frame} {meth : Method} {c : Code} {G : ZG} {base z0 : Nat} {Q : Mem → Prop} (A : ∀ d, Amb p R (s.setDrawn d) m args meth c G base z0 cX5_layersAnew yX5_layersAnew.cls 5 4 112) (hr : meth.sig.returnType = none) {K5 : Nat → Mem → Prop} {K168 : Mem → Prop} {d0 : Drawn} {H : Heap} {locs : List Loc} {cells slots : Nat} {ls : Array Slot} {x0 : Nat} {x1 : Int32} {M : Mem} (ho_x0 : isO M x0 5) (hd0 : s.drawn.sameBut d0 lw_cs) (hZ : ZH G true base s.heap M H locs) (hl : lv_has ls 5 [(0, .ref (base + x0)), (1, .int x1)]) (h : wp_X5_layersAnew_88 x0 x1 M Q K5 K168) (hK5 : ∀ {d0 : Drawn} {H : Heap} {locs : List Loc} {cells slots : Nat} {ls : Array Slot} {x0 : Nat} {M : Mem} (ho_x0 : isO M x0 5), s.drawn.sameBut d0 lw_cs → ZH G true base s.heap M H locs → lv_has ls 5 [(0, .ref (base + x0))] → K5 x0 M → W p l e R (s.setDrawn d0) m args below meth c H locs cells slots (ZEnd below G true base z0 (qV Q) args s) (F0 m 5 ls [])) (hK168 : ∀ {d0 : Drawn} {H : Heap} {locs : List Loc} {cells slots : Nat} {ls : Array Slot} {M : Mem}, s.drawn.sameBut d0 lw_cs → ZH G true base s.heap M H locs → lv_has ls 5 [] → K168 M → W p l e R (s.setDrawn d0) m args below meth c H locs cells slots (ZEnd below G true base z0 (qV Q) args s) (F0 m 168 ls [])) : W p l e R (s.setDrawn d0) m args below meth c H locs cells slots (ZEnd below G true base z0 (qV Q) args s) (F0 m 88 ls []) := by
  have hx := (A d0).1
  have hb := (A d0).2.1
  unfold wp_X5_layersAnew_88 at h
  refine lv_aload_n hx hb dX5_layersAnew_88 rfl (lv_at hl 0 rfl) ?_
  refine z_get (A d0) hZ (ci := 5) (j := 11) ho_x0.1 ho_x0.2 (by decide) (by decide) k_fl_RX5_46 (v := .ref (base + 73)) (zv_fin (zf5 ho_x0 rfl) rfl) dX5_layersAnew_89 ?_
  refine lv_aload_n hx hb dX5_layersAnew_92 rfl (lv_at hl 0 rfl) ?_
  refine z_get (A d0) hZ (ci := 5) (j := 9) ho_x0.1 ho_x0.2 (by decide) (by decide) k_fl_RX5_39 (v := .int (mI M x0 9)) rfl dX5_layersAnew_93 ?_
  obtain ⟨hin, h⟩ := h
  refine z_iald (A d0) hZ (isA_c (a := 73) hZ.k0 (by decide) rfl) hin dX5_layersAnew_96 ?_
  refine lv_iconst (v := (1 : Int32)) hx hb dX5_layersAnew_97 (by decide) ?_
  refine lv_isub hx hb dX5_layersAnew_98 ?_
  obtain ⟨i4, ei4⟩ : ∃ y : Int32, y = (mI M 73 (mI M x0 9).toNatClampNeg) - (1 : Int32) := ⟨_, rfl⟩
  rw [← ei4]
  replace h := h i4 ei4
  refine lv_istore_n (lv' := [(2, .int i4), (0, .ref (base + x0)), (1, .int x1)]) hx hb dX5_layersAnew_99 rfl hl (by decide) rfl (fun ls hl2 => ?_)
  replace hl := hl2
  refine lv_aload_n hx hb dX5_layersAnew_100 rfl (lv_at hl 1 rfl) ?_
  refine z_get (A d0) hZ (ci := 5) (j := 11) ho_x0.1 ho_x0.2 (by decide) (by decide) k_fl_RX5_46 (v := .ref (base + 73)) (zv_fin (zf5 ho_x0 rfl) rfl) dX5_layersAnew_101 ?_
  refine lv_aload_n hx hb dX5_layersAnew_104 rfl (lv_at hl 1 rfl) ?_
  refine z_get (A d0) hZ (ci := 5) (j := 9) ho_x0.1 ho_x0.2 (by decide) (by decide) k_fl_RX5_39 (v := .int (mI M x0 9)) rfl dX5_layersAnew_105 ?_
  obtain ⟨hin, h⟩ := h
  refine z_iald (A d0) hZ (isA_c (a := 73) hZ.k0 (by decide) rfl) hin dX5_layersAnew_108 ?_
  obtain ⟨i5, ei5⟩ : ∃ y : Int32, y = mI M 73 (mI M x0 9).toNatClampNeg := ⟨_, rfl⟩
  rw [← ei5]
  replace h := h i5 ei5
  refine lv_istore_n (lv' := [(3, .int i5), (2, .int i4), (0, .ref (base + x0)), (1, .int x1)]) hx hb dX5_layersAnew_109 rfl hl (by decide) rfl (fun ls hl2 => ?_)
  replace hl := hl2
  refine lv_aload_n hx hb dX5_layersAnew_110 rfl (lv_at hl 2 rfl) ?_
  refine lv_iload_n hx hb dX5_layersAnew_111 rfl (lv_at hl 3 rfl) ?_
  refine lv_iload_n hx hb dX5_layersAnew_112 rfl (lv_at hl 0 rfl) ?_
  refine lv_aload_n hx hb dX5_layersAnew_113 rfl (lv_at hl 2 rfl) ?_
  refine z_get (A d0) hZ (ci := 5) (j := 13) ho_x0.1 ho_x0.2 (by decide) (by decide) k_fl_RX5_52 (v := .ref (base + 75)) (zv_fin (zf5 ho_x0 rfl) rfl) dX5_layersAnew_114 ?_
  refine lv_iload_n hx hb dX5_layersAnew_117 rfl (lv_at hl 1 rfl) ?_
  obtain ⟨hin, h⟩ := h
  refine z_iald (A d0) hZ (isA_c (a := 75) hZ.k0 (by decide) rfl) hin dX5_layersAnew_118 ?_
  refine lv_aload_n hx hb dX5_layersAnew_119 rfl (lv_at hl 2 rfl) ?_
  refine z_get (A d0) hZ (ci := 5) (j := 14) ho_x0.1 ho_x0.2 (by decide) (by decide) k_fl_RX5_55 (v := .ref (base + 76)) (zv_fin (zf5 ho_x0 rfl) rfl) dX5_layersAnew_120 ?_
  refine lv_iload_n hx hb dX5_layersAnew_123 rfl (lv_at hl 1 rfl) ?_
  obtain ⟨hin, h⟩ := h
  refine z_iald (A d0) hZ (isA_c (a := 76) hZ.k0 (by decide) rfl) hin dX5_layersAnew_124 ?_
  refine lv_iadd hx hb dX5_layersAnew_125 ?_
  refine lv_iconst (v := (1 : Int32)) hx hb dX5_layersAnew_126 (by decide) ?_
  refine z_callV A hd0 hZ (ci := 5) (nA := 4) (As := [.int x1, .int i5, .int ((mI M 75 i4.toNatClampNeg) + (mI M 76 i4.toNatClampNeg)), .int (1 : Int32)]) (by decide) ho_x0 (c_X5_make l G base M x0 x1 i5 ((mI M 75 i4.toNatClampNeg) + (mI M 76 i4.toNatClampNeg)) (1 : Int32) _ h) k_ml_RX5_205 k_im_yX5_make k_se_yX5_make k_in_RX5 k_co_yX5_make (by decide +kernel) ⟨by decide, by decide⟩ rfl rfl (Nat.le_of_ble_eq_true rfl) hl dX5_layersAnew_127 (fun v M6 H locs d0 cells slots hq hd0 hZ hm => ?_)
  clear h
  obtain ⟨i7, rfl, h⟩ := hq
  have ho_x0 := isO_le hm ho_x0
  refine lv_istore (lv' := [(4, .int i7), (3, .int i5), (2, .int i4), (0, .ref (base + x0)), (1, .int x1)]) hx hb dX5_layersAnew_130 hl (by decide) rfl (fun ls hl2 => ?_)
  replace hl := hl2
  refine lv_aload_n hx hb dX5_layersAnew_132 rfl (lv_at hl 3 rfl) ?_
  refine lv_dup hx hb dX5_layersAnew_133 rfl ?_
  refine z_get (A d0) hZ (ci := 5) (j := 9) ho_x0.1 ho_x0.2 (by decide) (by decide) k_fl_RX5_39 (v := .int (mI M6 x0 9)) rfl dX5_layersAnew_134 ?_
  refine lv_iconst (v := (1 : Int32)) hx hb dX5_layersAnew_137 (by decide) ?_
  refine lv_iadd hx hb dX5_layersAnew_138 ?_
  obtain ⟨M8, eM8⟩ : ∃ y : Mem, y = sI M6 x0 9 ((mI M6 x0 9) + (1 : Int32)) := ⟨_, rfl⟩
  refine z_put (A d0) hZ (ci := 5) (j := 9) (M' := M8) ho_x0.1 ho_x0.2 (by decide) (by decide) k_fl_RX5_39 rfl (by rw [eM8]; exact zUpd_I) rfl rfl dX5_layersAnew_139 (fun H locs hZ => ?_)
  have hm : mz M8 = mz M6 := by rw [eM8] <;> rfl
  have ho_x0 := isO_le (Nat.le_of_eq hm.symm) ho_x0
  replace h := h M8 eM8
  refine lv_aload_n hx hb dX5_layersAnew_142 rfl (lv_at hl 3 rfl) ?_
  refine z_get (A d0) hZ (ci := 5) (j := 10) ho_x0.1 ho_x0.2 (by decide) (by decide) k_fl_RX5_42 (v := .ref (base + 72)) (zv_fin (zf5 ho_x0 rfl) rfl) dX5_layersAnew_143 ?_
  refine lv_aload_n hx hb dX5_layersAnew_146 rfl (lv_at hl 3 rfl) ?_
  refine z_get (A d0) hZ (ci := 5) (j := 9) ho_x0.1 ho_x0.2 (by decide) (by decide) k_fl_RX5_39 (v := .int (mI M8 x0 9)) rfl dX5_layersAnew_147 ?_
  refine lv_iload_n hx hb dX5_layersAnew_150 rfl (lv_at hl 1 rfl) ?_
  obtain ⟨hin, h⟩ := h
  obtain ⟨M9, eM9⟩ : ∃ y : Mem, y = sI M8 72 (mI M8 x0 9).toNatClampNeg i5 := ⟨_, rfl⟩
  refine z_iast (A d0) hZ (isA_c (a := 72) hZ.k0 (by decide) rfl) hin dX5_layersAnew_151 (fun H locs hZ => ?_)
  rw [← eM9] at hZ
  have hm : mz M9 = mz M8 := by rw [eM9] <;> rfl
  have ho_x0 := isO_le (Nat.le_of_eq hm.symm) ho_x0
  replace h := h M9 eM9
  refine lv_aload_n hx hb dX5_layersAnew_152 rfl (lv_at hl 3 rfl) ?_
  refine z_get (A d0) hZ (ci := 5) (j := 11) ho_x0.1 ho_x0.2 (by decide) (by decide) k_fl_RX5_46 (v := .ref (base + 73)) (zv_fin (zf5 ho_x0 rfl) rfl) dX5_layersAnew_153 ?_
  refine lv_aload_n hx hb dX5_layersAnew_156 rfl (lv_at hl 3 rfl) ?_
  refine z_get (A d0) hZ (ci := 5) (j := 9) ho_x0.1 ho_x0.2 (by decide) (by decide) k_fl_RX5_39 (v := .int (mI M9 x0 9)) rfl dX5_layersAnew_157 ?_
  refine lv_iload_n hx hb dX5_layersAnew_160 rfl (lv_at hl 1 rfl) ?_
  refine lv_iload hx hb dX5_layersAnew_161 (lv_at hl 0 rfl) ?_
  refine lv_iadd hx hb dX5_layersAnew_163 ?_
  obtain ⟨hin, h⟩ := h
  obtain ⟨M10, eM10⟩ : ∃ y : Mem, y = sI M9 73 (mI M9 x0 9).toNatClampNeg (i5 + i7) := ⟨_, rfl⟩
  refine z_iast (A d0) hZ (isA_c (a := 73) hZ.k0 (by decide) rfl) hin dX5_layersAnew_164 (fun H locs hZ => ?_)
  rw [← eM10] at hZ
  have hm : mz M10 = mz M9 := by rw [eM10] <;> rfl
  have ho_x0 := isO_le (Nat.le_of_eq hm.symm) ho_x0
  replace h := h M10 eM10
  refine lv_goto (tgt := 5) hx hb dX5_layersAnew_165 (by decide) ?_
  exact hK5 ho_x0 hd0 hZ (lv_sub hl [3] rfl) h
set_option maxRecDepth 100000 in
set_option maxHeartbeats 4000000 in
theorem zb_X5_layersAnew_168 {p : Program} {l : Launch} {e : Env} {R : Room} {s : State} {m : MethodId} {args : Array Value} {below : List Frame} {meth : Method} {c : Code} {G : ZG} {base z0 : Nat} {Q : Mem → Prop} (A : ∀ d, Amb p R (s.setDrawn d) m args meth c G base z0 cX5_layersAnew yX5_layersAnew.cls 5 4 112) (hr : meth.sig.returnType = none) {d0 : Drawn} {H : Heap} {locs : List Loc} {cells slots : Nat} {ls : Array Slot}  {M : Mem} (hd0 : s.drawn.sameBut d0 lw_cs) (hZ : ZH G true base s.heap M H locs) (hl : lv_has ls 5 []) (h : wp_X5_layersAnew_168 M Q) : W p l e R (s.setDrawn d0) m args below meth c H locs cells slots (ZEnd below G true base z0 (qV Q) args s) (F0 m 168 ls []) := by
  have hx := (A d0).1
  have hb := (A d0).2.1
  unfold wp_X5_layersAnew_168 at h
  exact z_vret A hd0 hZ hr ⟨rfl, h⟩ dX5_layersAnew_168
set_option maxRecDepth 100000 in
set_option maxHeartbeats 4000000 in
theorem zb_X5_layersAnew_5 {p : Program} {l : Launch} {e : Env} {R : Room} {s : State} {m : MethodId} {args : Array Value} {below : List Frame} {meth : Method} {c : Code} {G : ZG} {base z0 : Nat} {Q : Mem → Prop} (A : ∀ d, Amb p R (s.setDrawn d) m args meth c G base z0 cX5_layersAnew yX5_layersAnew.cls 5 4 112) (hr : meth.sig.returnType = none) {K168 : Mem → Prop} :
  ∀ (n : Nat) {d0 : Drawn} {H : Heap} {locs : List Loc} {cells slots : Nat} {ls : Array Slot} {x0 : Nat} {M : Mem} (ho_x0 : isO M x0 5) (hd0 : s.drawn.sameBut d0 lw_cs) (hZ : ZH G true base s.heap M H locs) (hl : lv_has ls 5 [(0, .ref (base + x0))]) (h : wp_X5_layersAnew_5 n x0 M Q K168) (hK168 : ∀ {d0 : Drawn} {H : Heap} {locs : List Loc} {cells slots : Nat} {ls : Array Slot} {M : Mem}, s.drawn.sameBut d0 lw_cs → ZH G true base s.heap M H locs → lv_has ls 5 [] → K168 M → W p l e R (s.setDrawn d0) m args below meth c H locs cells slots (ZEnd below G true base z0 (qV Q) args s) (F0 m 168 ls [])), W p l e R (s.setDrawn d0) m args below meth c H locs cells slots (ZEnd below G true base z0 (qV Q) args s) (F0 m 5 ls []) := by
  have hx := (A default).1
  have hb := (A default).2.1
  intro n
  induction n with
  | zero => intro d0 H locs cells slots ls x0 M ho_x0 hd0 hZ hl h hK168; exact h.elim
  | succ n ih =>
    intro d0 H locs cells slots ls x0 M ho_x0 hd0 hZ hl h hK168
    unfold wp_X5_layersAnew_5 at h
    refine lv_aload_n hx hb dX5_layersAnew_5 rfl (lv_at hl 0 rfl) ?_
    refine z_get (A d0) hZ (ci := 5) (j := 11) ho_x0.1 ho_x0.2 (by decide) (by decide) k_fl_RX5_46 (v := .ref (base + 73)) (zv_fin (zf5 ho_x0 rfl) rfl) dX5_layersAnew_6 ?_
    refine lv_aload_n hx hb dX5_layersAnew_9 rfl (lv_at hl 0 rfl) ?_
    refine z_get (A d0) hZ (ci := 5) (j := 9) ho_x0.1 ho_x0.2 (by decide) (by decide) k_fl_RX5_39 (v := .int (mI M x0 9)) rfl dX5_layersAnew_10 ?_
    obtain ⟨hin, h⟩ := h
    refine z_iald (A d0) hZ (isA_c (a := 73) hZ.k0 (by decide) rfl) hin dX5_layersAnew_13 ?_
    refine lv_aload_n hx hb dX5_layersAnew_14 rfl (lv_at hl 0 rfl) ?_
    refine z_get (A d0) hZ (ci := 5) (j := 10) ho_x0.1 ho_x0.2 (by decide) (by decide) k_fl_RX5_42 (v := .ref (base + 72)) (zv_fin (zf5 ho_x0 rfl) rfl) dX5_layersAnew_15 ?_
    refine lv_aload_n hx hb dX5_layersAnew_18 rfl (lv_at hl 0 rfl) ?_
    refine z_get (A d0) hZ (ci := 5) (j := 9) ho_x0.1 ho_x0.2 (by decide) (by decide) k_fl_RX5_39 (v := .int (mI M x0 9)) rfl dX5_layersAnew_19 ?_
    obtain ⟨hin, h⟩ := h
    refine z_iald (A d0) hZ (isA_c (a := 72) hZ.k0 (by decide) rfl) hin dX5_layersAnew_22 ?_
    refine lv_isub hx hb dX5_layersAnew_23 ?_
    refine lv_iconst (v := (1 : Int32)) hx hb dX5_layersAnew_24 (by decide) ?_
    refine lv_icmp_le (tgt := 168) hx hb dX5_layersAnew_25 (by decide) (fun hc => ?_) (fun hc => ?_)
    · replace h := h.1 hc
      exact hK168 hd0 hZ (lv_sub hl [] rfl) h
    · replace h := h.2 hc
      refine lv_aload_n hx hb dX5_layersAnew_28 rfl (lv_at hl 0 rfl) ?_
      refine z_get (A d0) hZ (ci := 5) (j := 11) ho_x0.1 ho_x0.2 (by decide) (by decide) k_fl_RX5_46 (v := .ref (base + 73)) (zv_fin (zf5 ho_x0 rfl) rfl) dX5_layersAnew_29 ?_
      refine lv_aload_n hx hb dX5_layersAnew_32 rfl (lv_at hl 0 rfl) ?_
      refine z_get (A d0) hZ (ci := 5) (j := 9) ho_x0.1 ho_x0.2 (by decide) (by decide) k_fl_RX5_39 (v := .int (mI M x0 9)) rfl dX5_layersAnew_33 ?_
      obtain ⟨hin, h⟩ := h
      refine z_iald (A d0) hZ (isA_c (a := 73) hZ.k0 (by decide) rfl) hin dX5_layersAnew_36 ?_
      refine lv_aload_n hx hb dX5_layersAnew_37 rfl (lv_at hl 0 rfl) ?_
      refine z_get (A d0) hZ (ci := 5) (j := 10) ho_x0.1 ho_x0.2 (by decide) (by decide) k_fl_RX5_42 (v := .ref (base + 72)) (zv_fin (zf5 ho_x0 rfl) rfl) dX5_layersAnew_38 ?_
      refine lv_aload_n hx hb dX5_layersAnew_41 rfl (lv_at hl 0 rfl) ?_
      refine z_get (A d0) hZ (ci := 5) (j := 9) ho_x0.1 ho_x0.2 (by decide) (by decide) k_fl_RX5_39 (v := .int (mI M x0 9)) rfl dX5_layersAnew_42 ?_
      obtain ⟨hin, h⟩ := h
      refine z_iald (A d0) hZ (isA_c (a := 72) hZ.k0 (by decide) rfl) hin dX5_layersAnew_45 ?_
      refine lv_isub hx hb dX5_layersAnew_46 ?_
      obtain ⟨i1, ei1⟩ : ∃ y : Int32, y = (mI M 73 (mI M x0 9).toNatClampNeg) - (mI M 72 (mI M x0 9).toNatClampNeg) := ⟨_, rfl⟩
      rw [← ei1]
      replace h := h i1 ei1
      refine lv_istore_n (lv' := [(1, .int i1), (0, .ref (base + x0))]) hx hb dX5_layersAnew_47 rfl hl (by decide) rfl (fun ls hl2 => ?_)
      replace hl := hl2
      refine lv_iconst (v := (0 : Int32)) hx hb dX5_layersAnew_48 (by decide) ?_
      refine lv_istore_n (lv' := [(2, .int (0 : Int32)), (1, .int i1), (0, .ref (base + x0))]) hx hb dX5_layersAnew_49 rfl hl (by decide) rfl (fun ls hl2 => ?_)
      replace hl := hl2
      exact (Exists.elim h fun kk h => zb_X5_layersAnew_50 A hr kk ho_x0 hd0 hZ (lv_sub hl [2, 1, 0] rfl) h (fun ho_x0 hd0 hZ hl h => (zb_X5_layersAnew_88 A hr ho_x0 hd0 hZ hl h (fun ho_x0 hd0 hZ hl h => ih ho_x0 hd0 hZ hl h hK168) hK168)))
set_option maxRecDepth 100000 in
set_option maxHeartbeats 4000000 in
theorem c_X5_layersAnew (l : Launch) (G : ZG) (base : Nat) (M : Mem) (x0 : Nat) (Q : Mem → Prop) (h : wp_X5_layersAnew x0 M Q) : ZMet l yX5_layersAnew cX5_layersAnew 5 none 4 112 G true base M [.ref (base + x0)] (qV Q) := by
  refine z_start (by decide) (Nat.le_of_ble_eq_true rfl) k_co_yX5_layersAnew ?_
  intro p e s m below meth c R d0 H locs cells slots ls A hr hn hd0 hZ hl
  have hx := (A d0).1
  have hb := (A d0).2.1
  have hl : lv_has ls 5 [(0, .ref (base + x0))] := hl
  unfold wp_X5_layersAnew at h
  obtain ⟨ho_x0, h⟩ := h
  refine lv_aload_n hx hb dX5_layersAnew_0 rfl (lv_at hl 0 rfl) ?_
  refine lv_iconst (v := (0 : Int32)) hx hb dX5_layersAnew_1 (by decide) ?_
  obtain ⟨M11, eM11⟩ : ∃ y : Mem, y = sI M x0 9 (0 : Int32) := ⟨_, rfl⟩
  refine z_put (A d0) hZ (ci := 5) (j := 9) (M' := M11) ho_x0.1 ho_x0.2 (by decide) (by decide) k_fl_RX5_39 rfl (by rw [eM11]; exact zUpd_I) rfl rfl dX5_layersAnew_2 (fun H locs hZ => ?_)
  have hm : mz M11 = mz M := by rw [eM11] <;> rfl
  have ho_x0 := isO_le (Nat.le_of_eq hm.symm) ho_x0
  replace h := h M11 eM11
  exact (Exists.elim h fun kk h => zb_X5_layersAnew_5 A hr kk ho_x0 hd0 hZ (lv_sub hl [0] rfl) h (fun hd0 hZ hl h => (zb_X5_layersAnew_168 A hr hd0 hZ hl h)))
/-! cX5_isThere -/
set_option maxRecDepth 100000 in
set_option maxHeartbeats 4000000 in
theorem zb_X5_isThere_21 {p : Program} {l : Launch} {e : Env} {R : Room} {s : State} {m : MethodId} {args : Array Value} {below : List Frame} {meth : Method} {c : Code} {G : ZG} {base z0 : Nat} {Q : Int32 → Mem → Prop} (A : ∀ d, Amb p R (s.setDrawn d) m args meth c G base z0 cX5_isThere yX5_isThere.cls 3 0 0) (hr : meth.sig.returnType = (some .boolean)) {d0 : Drawn} {H : Heap} {locs : List Loc} {cells slots : Nat} {ls : Array Slot} {t0 : Int32} {M : Mem} (hd0 : s.drawn.sameBut d0 lw_cs) (hZ : ZH G true base s.heap M H locs) (hl : lv_has ls 3 []) (h : wp_X5_isThere_21 t0 M Q) : W p l e R (s.setDrawn d0) m args below meth c H locs cells slots (ZEnd below G true base z0 (qI Q) args s) (F0 m 21 ls [.int t0]) := by
  have hx := (A d0).1
  have hb := (A d0).2.1
  unfold wp_X5_isThere_21 at h
  exact z_zret A hd0 hZ hr h.1 ⟨_, rfl, h.2⟩ dX5_isThere_21
set_option maxRecDepth 100000 in
set_option maxHeartbeats 4000000 in
theorem c_X5_isThere (l : Launch) (G : ZG) (base : Nat) (M : Mem) (x0 : Nat) (x1 : Int32) (x2 : Int32) (Q : Int32 → Mem → Prop) (h : wp_X5_isThere x0 x1 x2 M Q) : ZMet l yX5_isThere cX5_isThere 3 (some .boolean) 0 0 G true base M [.ref (base + x0), .int x1, .int x2] (qI Q) := by
  refine z_start (by decide) (Nat.le_of_ble_eq_true rfl) k_co_yX5_isThere ?_
  intro p e s m below meth c R d0 H locs cells slots ls A hr hn hd0 hZ hl
  have hx := (A d0).1
  have hb := (A d0).2.1
  have hl : lv_has ls 3 [(0, .ref (base + x0)), (1, .int x1), (2, .int x2)] := hl
  unfold wp_X5_isThere at h
  obtain ⟨ho_x0, h⟩ := h
  refine lv_aload_n hx hb dX5_isThere_0 rfl (lv_at hl 0 rfl) ?_
  refine z_get (A d0) hZ (ci := 5) (j := 22) ho_x0.1 ho_x0.2 (by decide) (by decide) k_fl_RX5_80 (v := .ref (base + 84)) (zv_fin (zf5 ho_x0 rfl) rfl) dX5_isThere_1 ?_
  refine lv_aload_n hx hb dX5_isThere_4 rfl (lv_at hl 0 rfl) ?_
  refine z_get (A d0) hZ (ci := 5) (j := 13) ho_x0.1 ho_x0.2 (by decide) (by decide) k_fl_RX5_52 (v := .ref (base + 75)) (zv_fin (zf5 ho_x0 rfl) rfl) dX5_isThere_5 ?_
  refine lv_iload_n hx hb dX5_isThere_8 rfl (lv_at hl 1 rfl) ?_
  obtain ⟨hin, h⟩ := h
  refine z_iald (A d0) hZ (isA_c (a := 75) hZ.k0 (by decide) rfl) hin dX5_isThere_9 ?_
  refine lv_iload_n hx hb dX5_isThere_10 rfl (lv_at hl 2 rfl) ?_
  refine lv_iadd hx hb dX5_isThere_11 ?_
  obtain ⟨hin, h⟩ := h
  refine z_zald (A d0) hZ (isA_c (a := 84) hZ.k0 (by decide) rfl) hin dX5_isThere_12 ?_
  refine lv_if_ne (tgt := 20) hx hb dX5_isThere_13 (by decide) (fun hc => ?_) (fun hc => ?_)
  · replace h := h.1 hc
    refine lv_iconst (v := (0 : Int32)) hx hb dX5_isThere_20 (by decide) ?_
    exact (zb_X5_isThere_21 A hr hd0 hZ (lv_sub hl [] rfl) h)
  · replace h := h.2 hc
    refine lv_iconst (v := (1 : Int32)) hx hb dX5_isThere_16 (by decide) ?_
    refine lv_goto (tgt := 21) hx hb dX5_isThere_17 (by decide) ?_
    exact (zb_X5_isThere_21 A hr hd0 hZ (lv_sub hl [] rfl) h)
/-! cX5_gather -/
set_option maxRecDepth 100000 in
set_option maxHeartbeats 4000000 in
theorem zb_X5_gather_168 {p : Program} {l : Launch} {e : Env} {R : Room} {s : State} {m : MethodId} {args : Array Value} {below : List Frame} {meth : Method} {c : Code} {G : ZG} {base z0 : Nat} {Q : Mem → Prop} (A : ∀ d, Amb p R (s.setDrawn d) m args meth c G base z0 cX5_gather yX5_gather.cls 5 1 22) (hr : meth.sig.returnType = none) {K4 : Nat → Int32 → Int32 → Int32 → Mem → Prop} {K173 : Mem → Prop} {d0 : Drawn} {H : Heap} {locs : List Loc} {cells slots : Nat} {ls : Array Slot} {x0 : Nat} {x1 : Int32} {x2 : Int32} {t0 : Int32} {t1 : Int32} {M : Mem} (ho_x0 : isO M x0 5) (hd0 : s.drawn.sameBut d0 lw_cs) (hZ : ZH G true base s.heap M H locs) (hl : lv_has ls 5 [(0, .ref (base + x0)), (1, .int x1), (2, .int x2)]) (h : wp_X5_gather_168 x0 x1 x2 t0 t1 M Q K4 K173) (hK4 : ∀ {d0 : Drawn} {H : Heap} {locs : List Loc} {cells slots : Nat} {ls : Array Slot} {x0 : Nat} {x1 : Int32} {x2 : Int32} {x3 : Int32} {M : Mem} (ho_x0 : isO M x0 5), s.drawn.sameBut d0 lw_cs → ZH G true base s.heap M H locs → lv_has ls 5 [(0, .ref (base + x0)), (1, .int x1), (2, .int x2), (3, .int x3)] → K4 x0 x1 x2 x3 M → W p l e R (s.setDrawn d0) m args below meth c H locs cells slots (ZEnd below G true base z0 (qV Q) args s) (F0 m 4 ls [])) (hK173 : ∀ {d0 : Drawn} {H : Heap} {locs : List Loc} {cells slots : Nat} {ls : Array Slot} {M : Mem}, s.drawn.sameBut d0 lw_cs → ZH G true base s.heap M H locs → lv_has ls 5 [] → K173 M → W p l e R (s.setDrawn d0) m args below meth c H locs cells slots (ZEnd below G true base z0 (qV Q) args s) (F0 m 173 ls [])) : W p l e R (s.setDrawn d0) m args below meth c H locs cells slots (ZEnd below G true base z0 (qV Q) args s) (F0 m 168 ls [.int t0, .int t1]) := by
  have hx := (A d0).1
  have hb := (A d0).2.1
  unfold wp_X5_gather_168 at h
  refine lv_iadd hx hb dX5_gather_168 ?_
  obtain ⟨i6, ei6⟩ : ∃ y : Int32, y = t1 + t0 := ⟨_, rfl⟩
  rw [← ei6]
  replace h := h i6 ei6
  refine lv_istore_n (lv' := [(3, .int i6), (0, .ref (base + x0)), (1, .int x1), (2, .int x2)]) hx hb dX5_gather_169 rfl hl (by decide) rfl (fun ls hl2 => ?_)
  replace hl := hl2
  refine lv_goto (tgt := 4) hx hb dX5_gather_170 (by decide) ?_
  exact hK4 ho_x0 hd0 hZ (lv_sub hl [1, 2, 3, 0] rfl) h
set_option maxRecDepth 100000 in
set_option maxHeartbeats 4000000 in
theorem zb_X5_gather_173 {p : Program} {l : Launch} {e : Env} {R : Room} {s : State} {m : MethodId} {args : Array Value} {below : List Frame} {meth : Method} {c : Code} {G : ZG} {base z0 : Nat} {Q : Mem → Prop} (A : ∀ d, Amb p R (s.setDrawn d) m args meth c G base z0 cX5_gather yX5_gather.cls 5 1 22) (hr : meth.sig.returnType = none) {d0 : Drawn} {H : Heap} {locs : List Loc} {cells slots : Nat} {ls : Array Slot}  {M : Mem} (hd0 : s.drawn.sameBut d0 lw_cs) (hZ : ZH G true base s.heap M H locs) (hl : lv_has ls 5 []) (h : wp_X5_gather_173 M Q) : W p l e R (s.setDrawn d0) m args below meth c H locs cells slots (ZEnd below G true base z0 (qV Q) args s) (F0 m 173 ls []) := by
  have hx := (A d0).1
  have hb := (A d0).2.1
  unfold wp_X5_gather_173 at h
  exact z_vret A hd0 hZ hr ⟨rfl, h⟩ dX5_gather_173
set_option maxRecDepth 100000 in
set_option maxHeartbeats 4000000 in
theorem zb_X5_gather_155 {p : Program} {l : Launch} {e : Env} {R : Room} {s : State} {m : MethodId} {args : Array Value} {below : List Frame} {meth : Method} {c : Code} {G : ZG} {base z0 : Nat} {Q : Mem → Prop} (A : ∀ d, Amb p R (s.setDrawn d) m args meth c G base z0 cX5_gather yX5_gather.cls 5 1 22) (hr : meth.sig.returnType = none) {K4 : Nat → Int32 → Int32 → Int32 → Mem → Prop} {K173 : Mem → Prop} {d0 : Drawn} {H : Heap} {locs : List Loc} {cells slots : Nat} {ls : Array Slot} {x0 : Nat} {x1 : Int32} {x3 : Int32} {x4 : Int32} {t0 : Int32} {t1 : Int32} {M : Mem} (ho_x0 : isO M x0 5) (hd0 : s.drawn.sameBut d0 lw_cs) (hZ : ZH G true base s.heap M H locs) (hl : lv_has ls 5 [(0, .ref (base + x0)), (1, .int x1), (3, .int x3), (4, .int x4)]) (h : wp_X5_gather_155 x0 x1 x3 x4 t0 t1 M Q K4 K173) (hK4 : ∀ {d0 : Drawn} {H : Heap} {locs : List Loc} {cells slots : Nat} {ls : Array Slot} {x0 : Nat} {x1 : Int32} {x2 : Int32} {x3 : Int32} {M : Mem} (ho_x0 : isO M x0 5), s.drawn.sameBut d0 lw_cs → ZH G true base s.heap M H locs → lv_has ls 5 [(0, .ref (base + x0)), (1, .int x1), (2, .int x2), (3, .int x3)] → K4 x0 x1 x2 x3 M → W p l e R (s.setDrawn d0) m args below meth c H locs cells slots (ZEnd below G true base z0 (qV Q) args s) (F0 m 4 ls [])) (hK173 : ∀ {d0 : Drawn} {H : Heap} {locs : List Loc} {cells slots : Nat} {ls : Array Slot} {M : Mem}, s.drawn.sameBut d0 lw_cs → ZH G true base s.heap M H locs → lv_has ls 5 [] → K173 M → W p l e R (s.setDrawn d0) m args below meth c H locs cells slots (ZEnd below G true base z0 (qV Q) args s) (F0 m 173 ls [])) : W p l e R (s.setDrawn d0) m args below meth c H locs cells slots (ZEnd below G true base z0 (qV Q) args s) (F0 m 155 ls [.int t0, .int t1]) := by
  have hx := (A d0).1
  have hb := (A d0).2.1
  unfold wp_X5_gather_155 at h
  refine lv_iadd hx hb dX5_gather_155 ?_
  obtain ⟨i5, ei5⟩ : ∃ y : Int32, y = t1 + t0 := ⟨_, rfl⟩
  rw [← ei5]
  replace h := h i5 ei5
  refine lv_istore_n (lv' := [(2, .int i5), (0, .ref (base + x0)), (1, .int x1), (3, .int x3), (4, .int x4)]) hx hb dX5_gather_156 rfl hl (by decide) rfl (fun ls hl2 => ?_)
  replace hl := hl2
  refine lv_iload_n hx hb dX5_gather_157 rfl (lv_at hl 3 rfl) ?_
  refine lv_iload hx hb dX5_gather_158 (lv_at hl 4 rfl) ?_
  refine lv_if_eq (tgt := 167) hx hb dX5_gather_160 (by decide) (fun hc => ?_) (fun hc => ?_)
  · replace h := h.1 hc
    refine lv_iconst (v := (1 : Int32)) hx hb dX5_gather_167 (by decide) ?_
    exact (zb_X5_gather_168 A hr ho_x0 hd0 hZ (lv_sub hl [1, 2, 0] rfl) h hK4 hK173)
  · replace h := h.2 hc
    refine lv_iconst (v := (0 : Int32)) hx hb dX5_gather_163 (by decide) ?_
    refine lv_goto (tgt := 168) hx hb dX5_gather_164 (by decide) ?_
    exact (zb_X5_gather_168 A hr ho_x0 hd0 hZ (lv_sub hl [1, 2, 0] rfl) h hK4 hK173)
set_option maxRecDepth 100000 in
set_option maxHeartbeats 4000000 in
theorem zb_X5_gather_144 {p : Program} {l : Launch} {e : Env} {R : Room} {s : State} {m : MethodId} {args : Array Value} {below : List Frame} {meth : Method} {c : Code} {G : ZG} {base z0 : Nat} {Q : Mem → Prop} (A : ∀ d, Amb p R (s.setDrawn d) m args meth c G base z0 cX5_gather yX5_gather.cls 5 1 22) (hr : meth.sig.returnType = none) {K4 : Nat → Int32 → Int32 → Int32 → Mem → Prop} {K173 : Mem → Prop} {d0 : Drawn} {H : Heap} {locs : List Loc} {cells slots : Nat} {ls : Array Slot} {x0 : Nat} {x1 : Int32} {x2 : Int32} {x3 : Int32} {x4 : Int32} {M : Mem} (ho_x0 : isO M x0 5) (hd0 : s.drawn.sameBut d0 lw_cs) (hZ : ZH G true base s.heap M H locs) (hl : lv_has ls 5 [(0, .ref (base + x0)), (1, .int x1), (2, .int x2), (3, .int x3), (4, .int x4)]) (h : wp_X5_gather_144 x0 x1 x2 x3 x4 M Q K4 K173) (hK4 : ∀ {d0 : Drawn} {H : Heap} {locs : List Loc} {cells slots : Nat} {ls : Array Slot} {x0 : Nat} {x1 : Int32} {x2 : Int32} {x3 : Int32} {M : Mem} (ho_x0 : isO M x0 5), s.drawn.sameBut d0 lw_cs → ZH G true base s.heap M H locs → lv_has ls 5 [(0, .ref (base + x0)), (1, .int x1), (2, .int x2), (3, .int x3)] → K4 x0 x1 x2 x3 M → W p l e R (s.setDrawn d0) m args below meth c H locs cells slots (ZEnd below G true base z0 (qV Q) args s) (F0 m 4 ls [])) (hK173 : ∀ {d0 : Drawn} {H : Heap} {locs : List Loc} {cells slots : Nat} {ls : Array Slot} {M : Mem}, s.drawn.sameBut d0 lw_cs → ZH G true base s.heap M H locs → lv_has ls 5 [] → K173 M → W p l e R (s.setDrawn d0) m args below meth c H locs cells slots (ZEnd below G true base z0 (qV Q) args s) (F0 m 173 ls [])) : W p l e R (s.setDrawn d0) m args below meth c H locs cells slots (ZEnd below G true base z0 (qV Q) args s) (F0 m 144 ls []) := by
  have hx := (A d0).1
  have hb := (A d0).2.1
  unfold wp_X5_gather_144 at h
  refine lv_iload_n hx hb dX5_gather_144 rfl (lv_at hl 2 rfl) ?_
  refine lv_iload hx hb dX5_gather_145 (lv_at hl 4 rfl) ?_
  refine lv_if_eq (tgt := 154) hx hb dX5_gather_147 (by decide) (fun hc => ?_) (fun hc => ?_)
  · replace h := h.1 hc
    refine lv_iconst (v := (0 : Int32)) hx hb dX5_gather_154 (by decide) ?_
    exact (zb_X5_gather_155 A hr ho_x0 hd0 hZ (lv_sub hl [0, 1, 3, 4] rfl) h hK4 hK173)
  · replace h := h.2 hc
    refine lv_iconst (v := (1 : Int32)) hx hb dX5_gather_150 (by decide) ?_
    refine lv_goto (tgt := 155) hx hb dX5_gather_151 (by decide) ?_
    exact (zb_X5_gather_155 A hr ho_x0 hd0 hZ (lv_sub hl [0, 1, 3, 4] rfl) h hK4 hK173)
set_option maxRecDepth 100000 in
set_option maxHeartbeats 4000000 in
theorem zb_X5_gather_133 {p : Program} {l : Launch} {e : Env} {R : Room} {s : State} {m : MethodId} {args : Array Value} {below : List Frame} {meth : Method} {c : Code} {G : ZG} {base z0 : Nat} {Q : Mem → Prop} (A : ∀ d, Amb p R (s.setDrawn d) m args meth c G base z0 cX5_gather yX5_gather.cls 5 1 22) (hr : meth.sig.returnType = none) {K4 : Nat → Int32 → Int32 → Int32 → Mem → Prop} {K173 : Mem → Prop} {d0 : Drawn} {H : Heap} {locs : List Loc} {cells slots : Nat} {ls : Array Slot} {x0 : Nat} {x1 : Int32} {x2 : Int32} {x3 : Int32} {x4 : Int32} {t0 : Int64} {t1 : Int32} {t2 : Nat} {M : Mem} (ho_x0 : isO M x0 5) (ho_t2 : isA M t2 .long) (hd0 : s.drawn.sameBut d0 lw_cs) (hZ : ZH G true base s.heap M H locs) (hl : lv_has ls 5 [(0, .ref (base + x0)), (1, .int x1), (2, .int x2), (3, .int x3), (4, .int x4)]) (h : wp_X5_gather_133 x0 x1 x2 x3 x4 t0 t1 t2 M Q K4 K173) (hK4 : ∀ {d0 : Drawn} {H : Heap} {locs : List Loc} {cells slots : Nat} {ls : Array Slot} {x0 : Nat} {x1 : Int32} {x2 : Int32} {x3 : Int32} {M : Mem} (ho_x0 : isO M x0 5), s.drawn.sameBut d0 lw_cs → ZH G true base s.heap M H locs → lv_has ls 5 [(0, .ref (base + x0)), (1, .int x1), (2, .int x2), (3, .int x3)] → K4 x0 x1 x2 x3 M → W p l e R (s.setDrawn d0) m args below meth c H locs cells slots (ZEnd below G true base z0 (qV Q) args s) (F0 m 4 ls [])) (hK173 : ∀ {d0 : Drawn} {H : Heap} {locs : List Loc} {cells slots : Nat} {ls : Array Slot} {M : Mem}, s.drawn.sameBut d0 lw_cs → ZH G true base s.heap M H locs → lv_has ls 5 [] → K173 M → W p l e R (s.setDrawn d0) m args below meth c H locs cells slots (ZEnd below G true base z0 (qV Q) args s) (F0 m 173 ls [])) : W p l e R (s.setDrawn d0) m args below meth c H locs cells slots (ZEnd below G true base z0 (qV Q) args s) (F0 m 133 ls [.long t0, .int t1, .ref (base + t2)]) := by
  have hx := (A d0).1
  have hb := (A d0).2.1
  unfold wp_X5_gather_133 at h
  obtain ⟨hin, h⟩ := h
  obtain ⟨M3, eM3⟩ : ∃ y : Mem, y = sL M t2 t1.toNatClampNeg t0 := ⟨_, rfl⟩
  refine z_last (A d0) hZ ho_t2 hin dX5_gather_133 (fun H locs hZ => ?_)
  rw [← eM3] at hZ
  have hm : mz M3 = mz M := by rw [eM3] <;> rfl
  have ho_x0 := isO_le (Nat.le_of_eq hm.symm) ho_x0
  replace h := h M3 eM3
  refine lv_aload_n hx hb dX5_gather_134 rfl (lv_at hl 0 rfl) ?_
  refine lv_dup hx hb dX5_gather_135 rfl ?_
  refine z_get (A d0) hZ (ci := 5) (j := 26) ho_x0.1 ho_x0.2 (by decide) (by decide) k_fl_RX5_94 (v := .int (mI M3 x0 26)) rfl dX5_gather_136 ?_
  refine lv_iconst (v := (1 : Int32)) hx hb dX5_gather_139 (by decide) ?_
  refine lv_iadd hx hb dX5_gather_140 ?_
  obtain ⟨M4, eM4⟩ : ∃ y : Mem, y = sI M3 x0 26 ((mI M3 x0 26) + (1 : Int32)) := ⟨_, rfl⟩
  refine z_put (A d0) hZ (ci := 5) (j := 26) (M' := M4) ho_x0.1 ho_x0.2 (by decide) (by decide) k_fl_RX5_94 rfl (by rw [eM4]; exact zUpd_I) rfl rfl dX5_gather_141 (fun H locs hZ => ?_)
  have hm : mz M4 = mz M3 := by rw [eM4] <;> rfl
  have ho_x0 := isO_le (Nat.le_of_eq hm.symm) ho_x0
  replace h := h M4 eM4
  exact (zb_X5_gather_144 A hr ho_x0 hd0 hZ (lv_sub hl [0, 1, 2, 3, 4] rfl) h hK4 hK173)
set_option maxRecDepth 100000 in
set_option maxHeartbeats 4000000 in
theorem zb_X5_gather_93 {p : Program} {l : Launch} {e : Env} {R : Room} {s : State} {m : MethodId} {args : Array Value} {below : List Frame} {meth : Method} {c : Code} {G : ZG} {base z0 : Nat} {Q : Mem → Prop} (A : ∀ d, Amb p R (s.setDrawn d) m args meth c G base z0 cX5_gather yX5_gather.cls 5 1 22) (hr : meth.sig.returnType = none) {K4 : Nat → Int32 → Int32 → Int32 → Mem → Prop} {K173 : Mem → Prop} {d0 : Drawn} {H : Heap} {locs : List Loc} {cells slots : Nat} {ls : Array Slot} {x0 : Nat} {x1 : Int32} {x2 : Int32} {x3 : Int32} {x4 : Int32} {M : Mem} (ho_x0 : isO M x0 5) (hd0 : s.drawn.sameBut d0 lw_cs) (hZ : ZH G true base s.heap M H locs) (hl : lv_has ls 5 [(0, .ref (base + x0)), (1, .int x1), (2, .int x2), (3, .int x3), (4, .int x4)]) (h : wp_X5_gather_93 x0 x1 x2 x3 x4 M Q K4 K173) (hK4 : ∀ {d0 : Drawn} {H : Heap} {locs : List Loc} {cells slots : Nat} {ls : Array Slot} {x0 : Nat} {x1 : Int32} {x2 : Int32} {x3 : Int32} {M : Mem} (ho_x0 : isO M x0 5), s.drawn.sameBut d0 lw_cs → ZH G true base s.heap M H locs → lv_has ls 5 [(0, .ref (base + x0)), (1, .int x1), (2, .int x2), (3, .int x3)] → K4 x0 x1 x2 x3 M → W p l e R (s.setDrawn d0) m args below meth c H locs cells slots (ZEnd below G true base z0 (qV Q) args s) (F0 m 4 ls [])) (hK173 : ∀ {d0 : Drawn} {H : Heap} {locs : List Loc} {cells slots : Nat} {ls : Array Slot} {M : Mem}, s.drawn.sameBut d0 lw_cs → ZH G true base s.heap M H locs → lv_has ls 5 [] → K173 M → W p l e R (s.setDrawn d0) m args below meth c H locs cells slots (ZEnd below G true base z0 (qV Q) args s) (F0 m 173 ls [])) : W p l e R (s.setDrawn d0) m args below meth c H locs cells slots (ZEnd below G true base z0 (qV Q) args s) (F0 m 93 ls []) := by
  have hx := (A d0).1
  have hb := (A d0).2.1
  unfold wp_X5_gather_93 at h
  refine lv_aload_n hx hb dX5_gather_93 rfl (lv_at hl 0 rfl) ?_
  refine z_get (A d0) hZ (ci := 5) (j := 3) ho_x0.1 ho_x0.2 (by decide) (by decide) k_fl_RX5_20 (v := .ref (base + 71)) (zv_fin (zf5 ho_x0 rfl) rfl) dX5_gather_94 ?_
  refine lv_aload_n hx hb dX5_gather_97 rfl (lv_at hl 0 rfl) ?_
  refine z_get (A d0) hZ (ci := 5) (j := 26) ho_x0.1 ho_x0.2 (by decide) (by decide) k_fl_RX5_94 (v := .int (mI M x0 26)) rfl dX5_gather_98 ?_
  refine lv_iload hx hb dX5_gather_101 (lv_at hl 4 rfl) ?_
  refine lv_if_eq (tgt := 122) hx hb dX5_gather_103 (by decide) (fun hc => ?_) (fun hc => ?_)
  · replace h := h.1 hc
    refine lv_aload_n hx hb dX5_gather_122 rfl (lv_at hl 0 rfl) ?_
    refine z_get (A d0) hZ (ci := 5) (j := 21) ho_x0.1 ho_x0.2 (by decide) (by decide) k_fl_RX5_77 (v := .ref (base + 83)) (zv_fin (zf5 ho_x0 rfl) rfl) dX5_gather_123 ?_
    refine lv_bipush (v := (16 : Int32)) hx hb dX5_gather_126 (by decide) ?_
    refine lv_iload_n hx hb dX5_gather_128 rfl (lv_at hl 1 rfl) ?_
    refine lv_imul hx hb dX5_gather_129 ?_
    refine lv_iload_n hx hb dX5_gather_130 rfl (lv_at hl 3 rfl) ?_
    refine lv_iadd hx hb dX5_gather_131 ?_
    obtain ⟨hin, h⟩ := h
    refine z_lald (A d0) hZ (isA_c (a := 83) hZ.k0 (by decide) rfl) hin dX5_gather_132 ?_
    exact (zb_X5_gather_133 A hr ho_x0 (isA_c (a := 71) hZ.k0 (by decide) rfl) hd0 hZ (lv_sub hl [0, 1, 2, 3, 4] rfl) h hK4 hK173)
  · replace h := h.2 hc
    refine lv_aload_n hx hb dX5_gather_106 rfl (lv_at hl 0 rfl) ?_
    refine z_get (A d0) hZ (ci := 5) (j := 20) ho_x0.1 ho_x0.2 (by decide) (by decide) k_fl_RX5_73 (v := .ref (base + 82)) (zv_fin (zf5 ho_x0 rfl) rfl) dX5_gather_107 ?_
    refine lv_aload_n hx hb dX5_gather_110 rfl (lv_at hl 0 rfl) ?_
    refine z_get (A d0) hZ (ci := 5) (j := 13) ho_x0.1 ho_x0.2 (by decide) (by decide) k_fl_RX5_52 (v := .ref (base + 75)) (zv_fin (zf5 ho_x0 rfl) rfl) dX5_gather_111 ?_
    refine lv_iload_n hx hb dX5_gather_114 rfl (lv_at hl 1 rfl) ?_
    obtain ⟨hin, h⟩ := h
    refine z_iald (A d0) hZ (isA_c (a := 75) hZ.k0 (by decide) rfl) hin dX5_gather_115 ?_
    refine lv_iload_n hx hb dX5_gather_116 rfl (lv_at hl 2 rfl) ?_
    refine lv_iadd hx hb dX5_gather_117 ?_
    obtain ⟨hin, h⟩ := h
    refine z_lald (A d0) hZ (isA_c (a := 82) hZ.k0 (by decide) rfl) hin dX5_gather_118 ?_
    refine lv_goto (tgt := 133) hx hb dX5_gather_119 (by decide) ?_
    exact (zb_X5_gather_133 A hr ho_x0 (isA_c (a := 71) hZ.k0 (by decide) rfl) hd0 hZ (lv_sub hl [0, 1, 2, 3, 4] rfl) h hK4 hK173)
set_option maxRecDepth 100000 in
set_option maxHeartbeats 4000000 in
theorem zb_X5_gather_77 {p : Program} {l : Launch} {e : Env} {R : Room} {s : State} {m : MethodId} {args : Array Value} {below : List Frame} {meth : Method} {c : Code} {G : ZG} {base z0 : Nat} {Q : Mem → Prop} (A : ∀ d, Amb p R (s.setDrawn d) m args meth c G base z0 cX5_gather yX5_gather.cls 5 1 22) (hr : meth.sig.returnType = none) {K4 : Nat → Int32 → Int32 → Int32 → Mem → Prop} {K173 : Mem → Prop} {d0 : Drawn} {H : Heap} {locs : List Loc} {cells slots : Nat} {ls : Array Slot} {x0 : Nat} {x1 : Int32} {x2 : Int32} {x3 : Int32} {t0 : Int32} {M : Mem} (ho_x0 : isO M x0 5) (hd0 : s.drawn.sameBut d0 lw_cs) (hZ : ZH G true base s.heap M H locs) (hl : lv_has ls 5 [(0, .ref (base + x0)), (1, .int x1), (2, .int x2), (3, .int x3)]) (h : wp_X5_gather_77 x0 x1 x2 x3 t0 M Q K4 K173) (hK4 : ∀ {d0 : Drawn} {H : Heap} {locs : List Loc} {cells slots : Nat} {ls : Array Slot} {x0 : Nat} {x1 : Int32} {x2 : Int32} {x3 : Int32} {M : Mem} (ho_x0 : isO M x0 5), s.drawn.sameBut d0 lw_cs → ZH G true base s.heap M H locs → lv_has ls 5 [(0, .ref (base + x0)), (1, .int x1), (2, .int x2), (3, .int x3)] → K4 x0 x1 x2 x3 M → W p l e R (s.setDrawn d0) m args below meth c H locs cells slots (ZEnd below G true base z0 (qV Q) args s) (F0 m 4 ls [])) (hK173 : ∀ {d0 : Drawn} {H : Heap} {locs : List Loc} {cells slots : Nat} {ls : Array Slot} {M : Mem}, s.drawn.sameBut d0 lw_cs → ZH G true base s.heap M H locs → lv_has ls 5 [] → K173 M → W p l e R (s.setDrawn d0) m args below meth c H locs cells slots (ZEnd below G true base z0 (qV Q) args s) (F0 m 173 ls [])) : W p l e R (s.setDrawn d0) m args below meth c H locs cells slots (ZEnd below G true base z0 (qV Q) args s) (F0 m 77 ls [.int t0]) := by
  have hx := (A d0).1
  have hb := (A d0).2.1
  unfold wp_X5_gather_77 at h
  refine lv_istore (lv' := [(4, .int t0), (0, .ref (base + x0)), (1, .int x1), (2, .int x2), (3, .int x3)]) hx hb dX5_gather_77 hl (by decide) rfl (fun ls hl2 => ?_)
  replace hl := hl2
  refine lv_iload hx hb dX5_gather_79 (lv_at hl 0 rfl) ?_
  refine lv_if_eq (tgt := 93) hx hb dX5_gather_81 (by decide) (fun hc => ?_) (fun hc => ?_)
  · replace h := h.1 hc
    exact (zb_X5_gather_93 A hr ho_x0 hd0 hZ (lv_sub hl [1, 2, 3, 4, 0] rfl) h hK4 hK173)
  · replace h := h.2 hc
    refine lv_aload_n hx hb dX5_gather_84 rfl (lv_at hl 1 rfl) ?_
    refine lv_iload_n hx hb dX5_gather_85 rfl (lv_at hl 2 rfl) ?_
    refine lv_iload_n hx hb dX5_gather_86 rfl (lv_at hl 3 rfl) ?_
    refine z_callV A hd0 hZ (ci := 5) (nA := 2) (As := [.int x1, .int x2]) (by decide) ho_x0 (c_X5_isThere l G base M x0 x1 x2 _ h) k_ml_RX5_209 k_im_yX5_isThere k_se_yX5_isThere k_in_RX5 k_co_yX5_isThere (by decide +kernel) ⟨by decide, by decide⟩ rfl rfl (Nat.le_of_ble_eq_true rfl) hl dX5_gather_87 (fun v M1 H locs d0 cells slots hq hd0 hZ hm => ?_)
    clear h
    obtain ⟨i2, rfl, h⟩ := hq
    have ho_x0 := isO_le hm ho_x0
    refine lv_if_eq (tgt := 144) hx hb dX5_gather_90 (by decide) (fun hc => ?_) (fun hc => ?_)
    · replace h := h.1 hc
      exact (zb_X5_gather_144 A hr ho_x0 hd0 hZ (lv_sub hl [1, 2, 3, 4, 0] rfl) h hK4 hK173)
    · replace h := h.2 hc
      exact (zb_X5_gather_93 A hr ho_x0 hd0 hZ (lv_sub hl [1, 2, 3, 4, 0] rfl) h hK4 hK173)
set_option maxRecDepth 100000 in
set_option maxHeartbeats 4000000 in
theorem zb_X5_gather_72 {p : Program} {l : Launch} {e : Env} {R : Room} {s : State} {m : MethodId} {args : Array Value} {below : List Frame} {meth : Method} {c : Code} {G : ZG} {base z0 : Nat} {Q : Mem → Prop} (A : ∀ d, Amb p R (s.setDrawn d) m args meth c G base z0 cX5_gather yX5_gather.cls 5 1 22) (hr : meth.sig.returnType = none) {K4 : Nat → Int32 → Int32 → Int32 → Mem → Prop} {K173 : Mem → Prop} {d0 : Drawn} {H : Heap} {locs : List Loc} {cells slots : Nat} {ls : Array Slot} {x0 : Nat} {x1 : Int32} {x2 : Int32} {x3 : Int32} {M : Mem} (ho_x0 : isO M x0 5) (hd0 : s.drawn.sameBut d0 lw_cs) (hZ : ZH G true base s.heap M H locs) (hl : lv_has ls 5 [(0, .ref (base + x0)), (1, .int x1), (2, .int x2), (3, .int x3)]) (h : wp_X5_gather_72 x0 x1 x2 x3 M Q K4 K173) (hK4 : ∀ {d0 : Drawn} {H : Heap} {locs : List Loc} {cells slots : Nat} {ls : Array Slot} {x0 : Nat} {x1 : Int32} {x2 : Int32} {x3 : Int32} {M : Mem} (ho_x0 : isO M x0 5), s.drawn.sameBut d0 lw_cs → ZH G true base s.heap M H locs → lv_has ls 5 [(0, .ref (base + x0)), (1, .int x1), (2, .int x2), (3, .int x3)] → K4 x0 x1 x2 x3 M → W p l e R (s.setDrawn d0) m args below meth c H locs cells slots (ZEnd below G true base z0 (qV Q) args s) (F0 m 4 ls [])) (hK173 : ∀ {d0 : Drawn} {H : Heap} {locs : List Loc} {cells slots : Nat} {ls : Array Slot} {M : Mem}, s.drawn.sameBut d0 lw_cs → ZH G true base s.heap M H locs → lv_has ls 5 [] → K173 M → W p l e R (s.setDrawn d0) m args below meth c H locs cells slots (ZEnd below G true base z0 (qV Q) args s) (F0 m 173 ls [])) : W p l e R (s.setDrawn d0) m args below meth c H locs cells slots (ZEnd below G true base z0 (qV Q) args s) (F0 m 72 ls []) := by
  have hx := (A d0).1
  have hb := (A d0).2.1
  unfold wp_X5_gather_72 at h
  refine lv_iconst (v := (1 : Int32)) hx hb dX5_gather_72 (by decide) ?_
  refine lv_goto (tgt := 77) hx hb dX5_gather_73 (by decide) ?_
  exact (zb_X5_gather_77 A hr ho_x0 hd0 hZ (lv_sub hl [0, 1, 2, 3] rfl) h hK4 hK173)
set_option maxRecDepth 100000 in
set_option maxHeartbeats 4000000 in
theorem zb_X5_gather_76 {p : Program} {l : Launch} {e : Env} {R : Room} {s : State} {m : MethodId} {args : Array Value} {below : List Frame} {meth : Method} {c : Code} {G : ZG} {base z0 : Nat} {Q : Mem → Prop} (A : ∀ d, Amb p R (s.setDrawn d) m args meth c G base z0 cX5_gather yX5_gather.cls 5 1 22) (hr : meth.sig.returnType = none) {K4 : Nat → Int32 → Int32 → Int32 → Mem → Prop} {K173 : Mem → Prop} {d0 : Drawn} {H : Heap} {locs : List Loc} {cells slots : Nat} {ls : Array Slot} {x0 : Nat} {x1 : Int32} {x2 : Int32} {x3 : Int32} {M : Mem} (ho_x0 : isO M x0 5) (hd0 : s.drawn.sameBut d0 lw_cs) (hZ : ZH G true base s.heap M H locs) (hl : lv_has ls 5 [(0, .ref (base + x0)), (1, .int x1), (2, .int x2), (3, .int x3)]) (h : wp_X5_gather_76 x0 x1 x2 x3 M Q K4 K173) (hK4 : ∀ {d0 : Drawn} {H : Heap} {locs : List Loc} {cells slots : Nat} {ls : Array Slot} {x0 : Nat} {x1 : Int32} {x2 : Int32} {x3 : Int32} {M : Mem} (ho_x0 : isO M x0 5), s.drawn.sameBut d0 lw_cs → ZH G true base s.heap M H locs → lv_has ls 5 [(0, .ref (base + x0)), (1, .int x1), (2, .int x2), (3, .int x3)] → K4 x0 x1 x2 x3 M → W p l e R (s.setDrawn d0) m args below meth c H locs cells slots (ZEnd below G true base z0 (qV Q) args s) (F0 m 4 ls [])) (hK173 : ∀ {d0 : Drawn} {H : Heap} {locs : List Loc} {cells slots : Nat} {ls : Array Slot} {M : Mem}, s.drawn.sameBut d0 lw_cs → ZH G true base s.heap M H locs → lv_has ls 5 [] → K173 M → W p l e R (s.setDrawn d0) m args below meth c H locs cells slots (ZEnd below G true base z0 (qV Q) args s) (F0 m 173 ls [])) : W p l e R (s.setDrawn d0) m args below meth c H locs cells slots (ZEnd below G true base z0 (qV Q) args s) (F0 m 76 ls []) := by
  have hx := (A d0).1
  have hb := (A d0).2.1
  unfold wp_X5_gather_76 at h
  refine lv_iconst (v := (0 : Int32)) hx hb dX5_gather_76 (by decide) ?_
  exact (zb_X5_gather_77 A hr ho_x0 hd0 hZ (lv_sub hl [0, 1, 2, 3] rfl) h hK4 hK173)
set_option maxRecDepth 100000 in
set_option maxHeartbeats 4000000 in
theorem zb_X5_gather_24 {p : Program} {l : Launch} {e : Env} {R : Room} {s : State} {m : MethodId} {args : Array Value} {below : List Frame} {meth : Method} {c : Code} {G : ZG} {base z0 : Nat} {Q : Mem → Prop} (A : ∀ d, Amb p R (s.setDrawn d) m args meth c G base z0 cX5_gather yX5_gather.cls 5 1 22) (hr : meth.sig.returnType = none) {K4 : Nat → Int32 → Int32 → Int32 → Mem → Prop} {K173 : Mem → Prop} {d0 : Drawn} {H : Heap} {locs : List Loc} {cells slots : Nat} {ls : Array Slot} {x0 : Nat} {x1 : Int32} {x2 : Int32} {x3 : Int32} {M : Mem} (ho_x0 : isO M x0 5) (hd0 : s.drawn.sameBut d0 lw_cs) (hZ : ZH G true base s.heap M H locs) (hl : lv_has ls 5 [(0, .ref (base + x0)), (1, .int x1), (2, .int x2), (3, .int x3)]) (h : wp_X5_gather_24 x0 x1 x2 x3 M Q K4 K173) (hK4 : ∀ {d0 : Drawn} {H : Heap} {locs : List Loc} {cells slots : Nat} {ls : Array Slot} {x0 : Nat} {x1 : Int32} {x2 : Int32} {x3 : Int32} {M : Mem} (ho_x0 : isO M x0 5), s.drawn.sameBut d0 lw_cs → ZH G true base s.heap M H locs → lv_has ls 5 [(0, .ref (base + x0)), (1, .int x1), (2, .int x2), (3, .int x3)] → K4 x0 x1 x2 x3 M → W p l e R (s.setDrawn d0) m args below meth c H locs cells slots (ZEnd below G true base z0 (qV Q) args s) (F0 m 4 ls [])) (hK173 : ∀ {d0 : Drawn} {H : Heap} {locs : List Loc} {cells slots : Nat} {ls : Array Slot} {M : Mem}, s.drawn.sameBut d0 lw_cs → ZH G true base s.heap M H locs → lv_has ls 5 [] → K173 M → W p l e R (s.setDrawn d0) m args below meth c H locs cells slots (ZEnd below G true base z0 (qV Q) args s) (F0 m 173 ls [])) : W p l e R (s.setDrawn d0) m args below meth c H locs cells slots (ZEnd below G true base z0 (qV Q) args s) (F0 m 24 ls []) := by
  have hx := (A d0).1
  have hb := (A d0).2.1
  unfold wp_X5_gather_24 at h
  refine lv_iload_n hx hb dX5_gather_24 rfl (lv_at hl 3 rfl) ?_
  refine lv_aload_n hx hb dX5_gather_25 rfl (lv_at hl 0 rfl) ?_
  refine z_get (A d0) hZ (ci := 5) (j := 16) ho_x0.1 ho_x0.2 (by decide) (by decide) k_fl_RX5_61 (v := .ref (base + 78)) (zv_fin (zf5 ho_x0 rfl) rfl) dX5_gather_26 ?_
  refine lv_iload_n hx hb dX5_gather_29 rfl (lv_at hl 1 rfl) ?_
  obtain ⟨hin, h⟩ := h
  refine z_iald (A d0) hZ (isA_c (a := 78) hZ.k0 (by decide) rfl) hin dX5_gather_30 ?_
  refine lv_icmp_eq (tgt := 72) hx hb dX5_gather_31 (by decide) (fun hc => ?_) (fun hc => ?_)
  · replace h := h.1 hc
    exact (zb_X5_gather_72 A hr ho_x0 hd0 hZ (lv_sub hl [0, 1, 2, 3] rfl) h hK4 hK173)
  · replace h := h.2 hc
    refine lv_iload_n hx hb dX5_gather_34 rfl (lv_at hl 2 rfl) ?_
    refine lv_aload_n hx hb dX5_gather_35 rfl (lv_at hl 0 rfl) ?_
    refine z_get (A d0) hZ (ci := 5) (j := 14) ho_x0.1 ho_x0.2 (by decide) (by decide) k_fl_RX5_55 (v := .ref (base + 76)) (zv_fin (zf5 ho_x0 rfl) rfl) dX5_gather_36 ?_
    refine lv_iload_n hx hb dX5_gather_39 rfl (lv_at hl 1 rfl) ?_
    obtain ⟨hin, h⟩ := h
    refine z_iald (A d0) hZ (isA_c (a := 76) hZ.k0 (by decide) rfl) hin dX5_gather_40 ?_
    refine lv_icmp_ge (tgt := 76) hx hb dX5_gather_41 (by decide) (fun hc => ?_) (fun hc => ?_)
    · replace h := h.1 hc
      exact (zb_X5_gather_76 A hr ho_x0 hd0 hZ (lv_sub hl [0, 1, 2, 3] rfl) h hK4 hK173)
    · replace h := h.2 hc
      refine lv_aload_n hx hb dX5_gather_44 rfl (lv_at hl 0 rfl) ?_
      refine z_get (A d0) hZ (ci := 5) (j := 20) ho_x0.1 ho_x0.2 (by decide) (by decide) k_fl_RX5_73 (v := .ref (base + 82)) (zv_fin (zf5 ho_x0 rfl) rfl) dX5_gather_45 ?_
      refine lv_aload_n hx hb dX5_gather_48 rfl (lv_at hl 0 rfl) ?_
      refine z_get (A d0) hZ (ci := 5) (j := 13) ho_x0.1 ho_x0.2 (by decide) (by decide) k_fl_RX5_52 (v := .ref (base + 75)) (zv_fin (zf5 ho_x0 rfl) rfl) dX5_gather_49 ?_
      refine lv_iload_n hx hb dX5_gather_52 rfl (lv_at hl 1 rfl) ?_
      obtain ⟨hin, h⟩ := h
      refine z_iald (A d0) hZ (isA_c (a := 75) hZ.k0 (by decide) rfl) hin dX5_gather_53 ?_
      refine lv_iload_n hx hb dX5_gather_54 rfl (lv_at hl 2 rfl) ?_
      refine lv_iadd hx hb dX5_gather_55 ?_
      obtain ⟨hin, h⟩ := h
      refine z_lald (A d0) hZ (isA_c (a := 82) hZ.k0 (by decide) rfl) hin dX5_gather_56 ?_
      refine lv_aload_n hx hb dX5_gather_57 rfl (lv_at hl 0 rfl) ?_
      refine z_get (A d0) hZ (ci := 5) (j := 21) ho_x0.1 ho_x0.2 (by decide) (by decide) k_fl_RX5_77 (v := .ref (base + 83)) (zv_fin (zf5 ho_x0 rfl) rfl) dX5_gather_58 ?_
      refine lv_bipush (v := (16 : Int32)) hx hb dX5_gather_61 (by decide) ?_
      refine lv_iload_n hx hb dX5_gather_63 rfl (lv_at hl 1 rfl) ?_
      refine lv_imul hx hb dX5_gather_64 ?_
      refine lv_iload_n hx hb dX5_gather_65 rfl (lv_at hl 3 rfl) ?_
      refine lv_iadd hx hb dX5_gather_66 ?_
      obtain ⟨hin, h⟩ := h
      refine z_lald (A d0) hZ (isA_c (a := 83) hZ.k0 (by decide) rfl) hin dX5_gather_67 ?_
      refine z_lc_ge (tgt := 76) hx hb dX5_gather_68 dX5_gather_69 (by decide) (fun hc => ?_) (fun hc => ?_)
      · replace h := h.1 hc
        exact (zb_X5_gather_76 A hr ho_x0 hd0 hZ (lv_sub hl [0, 1, 2, 3] rfl) h hK4 hK173)
      · replace h := h.2 hc
        exact (zb_X5_gather_72 A hr ho_x0 hd0 hZ (lv_sub hl [0, 1, 2, 3] rfl) h hK4 hK173)
set_option maxRecDepth 100000 in
set_option maxHeartbeats 4000000 in
theorem zb_X5_gather_4 {p : Program} {l : Launch} {e : Env} {R : Room} {s : State} {m : MethodId} {args : Array Value} {below : List Frame} {meth : Method} {c : Code} {G : ZG} {base z0 : Nat} {Q : Mem → Prop} (A : ∀ d, Amb p R (s.setDrawn d) m args meth c G base z0 cX5_gather yX5_gather.cls 5 1 22) (hr : meth.sig.returnType = none) {K173 : Mem → Prop} :
  ∀ (n : Nat) {d0 : Drawn} {H : Heap} {locs : List Loc} {cells slots : Nat} {ls : Array Slot} {x0 : Nat} {x1 : Int32} {x2 : Int32} {x3 : Int32} {M : Mem} (ho_x0 : isO M x0 5) (hd0 : s.drawn.sameBut d0 lw_cs) (hZ : ZH G true base s.heap M H locs) (hl : lv_has ls 5 [(0, .ref (base + x0)), (1, .int x1), (2, .int x2), (3, .int x3)]) (h : wp_X5_gather_4 n x0 x1 x2 x3 M Q K173) (hK173 : ∀ {d0 : Drawn} {H : Heap} {locs : List Loc} {cells slots : Nat} {ls : Array Slot} {M : Mem}, s.drawn.sameBut d0 lw_cs → ZH G true base s.heap M H locs → lv_has ls 5 [] → K173 M → W p l e R (s.setDrawn d0) m args below meth c H locs cells slots (ZEnd below G true base z0 (qV Q) args s) (F0 m 173 ls [])), W p l e R (s.setDrawn d0) m args below meth c H locs cells slots (ZEnd below G true base z0 (qV Q) args s) (F0 m 4 ls []) := by
  have hx := (A default).1
  have hb := (A default).2.1
  intro n
  induction n with
  | zero => intro d0 H locs cells slots ls x0 x1 x2 x3 M ho_x0 hd0 hZ hl h hK173; exact h.elim
  | succ n ih =>
    intro d0 H locs cells slots ls x0 x1 x2 x3 M ho_x0 hd0 hZ hl h hK173
    unfold wp_X5_gather_4 at h
    refine lv_iload_n hx hb dX5_gather_4 rfl (lv_at hl 2 rfl) ?_
    refine lv_aload_n hx hb dX5_gather_5 rfl (lv_at hl 0 rfl) ?_
    refine z_get (A d0) hZ (ci := 5) (j := 14) ho_x0.1 ho_x0.2 (by decide) (by decide) k_fl_RX5_55 (v := .ref (base + 76)) (zv_fin (zf5 ho_x0 rfl) rfl) dX5_gather_6 ?_
    refine lv_iload_n hx hb dX5_gather_9 rfl (lv_at hl 1 rfl) ?_
    obtain ⟨hin, h⟩ := h
    refine z_iald (A d0) hZ (isA_c (a := 76) hZ.k0 (by decide) rfl) hin dX5_gather_10 ?_
    refine lv_icmp_lt (tgt := 24) hx hb dX5_gather_11 (by decide) (fun hc => ?_) (fun hc => ?_)
    · replace h := h.1 hc
      exact (zb_X5_gather_24 A hr ho_x0 hd0 hZ (lv_sub hl [0, 1, 2, 3] rfl) h (fun ho_x0 hd0 hZ hl h => ih ho_x0 hd0 hZ hl h hK173) hK173)
    · replace h := h.2 hc
      refine lv_iload_n hx hb dX5_gather_14 rfl (lv_at hl 3 rfl) ?_
      refine lv_aload_n hx hb dX5_gather_15 rfl (lv_at hl 0 rfl) ?_
      refine z_get (A d0) hZ (ci := 5) (j := 16) ho_x0.1 ho_x0.2 (by decide) (by decide) k_fl_RX5_61 (v := .ref (base + 78)) (zv_fin (zf5 ho_x0 rfl) rfl) dX5_gather_16 ?_
      refine lv_iload_n hx hb dX5_gather_19 rfl (lv_at hl 1 rfl) ?_
      obtain ⟨hin, h⟩ := h
      refine z_iald (A d0) hZ (isA_c (a := 78) hZ.k0 (by decide) rfl) hin dX5_gather_20 ?_
      refine lv_icmp_ge (tgt := 173) hx hb dX5_gather_21 (by decide) (fun hc => ?_) (fun hc => ?_)
      · replace h := h.1 hc
        exact hK173 hd0 hZ (lv_sub hl [] rfl) h
      · replace h := h.2 hc
        exact (zb_X5_gather_24 A hr ho_x0 hd0 hZ (lv_sub hl [0, 1, 2, 3] rfl) h (fun ho_x0 hd0 hZ hl h => ih ho_x0 hd0 hZ hl h hK173) hK173)
set_option maxRecDepth 100000 in
set_option maxHeartbeats 4000000 in
theorem c_X5_gather (l : Launch) (G : ZG) (base : Nat) (M : Mem) (x0 : Nat) (x1 : Int32) (Q : Mem → Prop) (h : wp_X5_gather x0 x1 M Q) : ZMet l yX5_gather cX5_gather 5 none 1 22 G true base M [.ref (base + x0), .int x1] (qV Q) := by
  refine z_start (by decide) (Nat.le_of_ble_eq_true rfl) k_co_yX5_gather ?_
  intro p e s m below meth c R d0 H locs cells slots ls A hr hn hd0 hZ hl
  have hx := (A d0).1
  have hb := (A d0).2.1
  have hl : lv_has ls 5 [(0, .ref (base + x0)), (1, .int x1)] := hl
  unfold wp_X5_gather at h
  obtain ⟨ho_x0, h⟩ := h
  refine lv_iconst (v := (0 : Int32)) hx hb dX5_gather_0 (by decide) ?_
  refine lv_istore_n (lv' := [(2, .int (0 : Int32)), (0, .ref (base + x0)), (1, .int x1)]) hx hb dX5_gather_1 rfl hl (by decide) rfl (fun ls hl2 => ?_)
  replace hl := hl2
  refine lv_iconst (v := (0 : Int32)) hx hb dX5_gather_2 (by decide) ?_
  refine lv_istore_n (lv' := [(3, .int (0 : Int32)), (2, .int (0 : Int32)), (0, .ref (base + x0)), (1, .int x1)]) hx hb dX5_gather_3 rfl hl (by decide) rfl (fun ls hl2 => ?_)
  replace hl := hl2
  exact (Exists.elim h fun kk h => zb_X5_gather_4 A hr kk ho_x0 hd0 hZ (lv_sub hl [2, 3, 1, 0] rfl) h (fun hd0 hZ hl h => (zb_X5_gather_173 A hr hd0 hZ hl h)))
/-! cX5_replace -/
set_option maxRecDepth 100000 in
set_option maxHeartbeats 4000000 in
theorem zb_X5_replace_128 {p : Program} {l : Launch} {e : Env} {R : Room} {s : State} {m : MethodId} {args : Array Value} {below : List Frame} {meth : Method} {c : Code} {G : ZG} {base z0 : Nat} {Q : Mem → Prop} (A : ∀ d, Amb p R (s.setDrawn d) m args meth c G base z0 cX5_replace yX5_replace.cls 11 5 136) (hr : meth.sig.returnType = none) {K172 : Nat → Int32 → Int32 → Int32 → Int32 → Int32 → Int32 → Int32 → Mem → Prop} :
  ∀ (n : Nat) {d0 : Drawn} {H : Heap} {locs : List Loc} {cells slots : Nat} {ls : Array Slot} {x0 : Nat} {x1 : Int32} {x2 : Int32} {x3 : Int32} {x4 : Int32} {x5 : Int32} {x6 : Int32} {x7 : Int32} {x8 : Int32} {M : Mem} (ho_x0 : isO M x0 5) (hd0 : s.drawn.sameBut d0 lw_cs) (hZ : ZH G true base s.heap M H locs) (hl : lv_has ls 11 [(0, .ref (base + x0)), (1, .int x1), (2, .int x2), (3, .int x3), (4, .int x4), (5, .int x5), (6, .int x6), (7, .int x7), (8, .int x8)]) (h : wp_X5_replace_128 n x0 x1 x2 x3 x4 x5 x6 x7 x8 M Q K172) (hK172 : ∀ {d0 : Drawn} {H : Heap} {locs : List Loc} {cells slots : Nat} {ls : Array Slot} {x0 : Nat} {x1 : Int32} {x2 : Int32} {x3 : Int32} {x4 : Int32} {x5 : Int32} {x6 : Int32} {x7 : Int32} {M : Mem} (ho_x0 : isO M x0 5), s.drawn.sameBut d0 lw_cs → ZH G true base s.heap M H locs → lv_has ls 11 [(0, .ref (base + x0)), (1, .int x1), (2, .int x2), (3, .int x3), (4, .int x4), (5, .int x5), (6, .int x6), (7, .int x7)] → K172 x0 x1 x2 x3 x4 x5 x6 x7 M → W p l e R (s.setDrawn d0) m args below meth c H locs cells slots (ZEnd below G true base z0 (qV Q) args s) (F0 m 172 ls [])), W p l e R (s.setDrawn d0) m args below meth c H locs cells slots (ZEnd below G true base z0 (qV Q) args s) (F0 m 128 ls []) := by
  have hx := (A default).1
  have hb := (A default).2.1
  intro n
  induction n with
  | zero => intro d0 H locs cells slots ls x0 x1 x2 x3 x4 x5 x6 x7 x8 M ho_x0 hd0 hZ hl h hK172; exact h.elim
  | succ n ih =>
    intro d0 H locs cells slots ls x0 x1 x2 x3 x4 x5 x6 x7 x8 M ho_x0 hd0 hZ hl h hK172
    unfold wp_X5_replace_128 at h
    refine lv_iload hx hb dX5_replace_128 (lv_at hl 8 rfl) ?_
    refine lv_aload_n hx hb dX5_replace_130 rfl (lv_at hl 0 rfl) ?_
    refine z_get (A d0) hZ (ci := 5) (j := 16) ho_x0.1 ho_x0.2 (by decide) (by decide) k_fl_RX5_61 (v := .ref (base + 78)) (zv_fin (zf5 ho_x0 rfl) rfl) dX5_replace_131 ?_
    refine lv_iload hx hb dX5_replace_134 (lv_at hl 7 rfl) ?_
    obtain ⟨hin, h⟩ := h
    refine z_iald (A d0) hZ (isA_c (a := 78) hZ.k0 (by decide) rfl) hin dX5_replace_136 ?_
    refine lv_icmp_ge (tgt := 172) hx hb dX5_replace_137 (by decide) (fun hc => ?_) (fun hc => ?_)
    · replace h := h.1 hc
      exact hK172 ho_x0 hd0 hZ (lv_sub hl [0, 1, 2, 3, 4, 5, 6, 7] rfl) h
    · replace h := h.2 hc
      refine lv_aload_n hx hb dX5_replace_140 rfl (lv_at hl 0 rfl) ?_
      refine z_get (A d0) hZ (ci := 5) (j := 35) ho_x0.1 ho_x0.2 (by decide) (by decide) k_fl_RX5_122 (v := .ref (base + 93)) (zv_fin (zf5 ho_x0 rfl) rfl) dX5_replace_141 ?_
      refine lv_bipush (v := (16 : Int32)) hx hb dX5_replace_144 (by decide) ?_
      refine lv_iload hx hb dX5_replace_146 (lv_at hl 6 rfl) ?_
      refine lv_imul hx hb dX5_replace_148 ?_
      refine lv_iload hx hb dX5_replace_149 (lv_at hl 8 rfl) ?_
      refine lv_iadd hx hb dX5_replace_151 ?_
      refine lv_aload_n hx hb dX5_replace_152 rfl (lv_at hl 0 rfl) ?_
      refine z_get (A d0) hZ (ci := 5) (j := 21) ho_x0.1 ho_x0.2 (by decide) (by decide) k_fl_RX5_77 (v := .ref (base + 83)) (zv_fin (zf5 ho_x0 rfl) rfl) dX5_replace_153 ?_
      refine lv_bipush (v := (16 : Int32)) hx hb dX5_replace_156 (by decide) ?_
      refine lv_iload hx hb dX5_replace_158 (lv_at hl 7 rfl) ?_
      refine lv_imul hx hb dX5_replace_160 ?_
      refine lv_iload hx hb dX5_replace_161 (lv_at hl 8 rfl) ?_
      refine lv_iadd hx hb dX5_replace_163 ?_
      obtain ⟨hin, h⟩ := h
      refine z_lald (A d0) hZ (isA_c (a := 83) hZ.k0 (by decide) rfl) hin dX5_replace_164 ?_
      obtain ⟨hin, h⟩ := h
      obtain ⟨M9, eM9⟩ : ∃ y : Mem, y = sL M 93 (((16 : Int32) * x6) + x8).toNatClampNeg (mL M 83 (((16 : Int32) * x7) + x8).toNatClampNeg) := ⟨_, rfl⟩
      refine z_last (A d0) hZ (isA_c (a := 93) hZ.k0 (by decide) rfl) hin dX5_replace_165 (fun H locs hZ => ?_)
      rw [← eM9] at hZ
      have hm : mz M9 = mz M := by rw [eM9] <;> rfl
      have ho_x0 := isO_le (Nat.le_of_eq hm.symm) ho_x0
      replace h := h M9 eM9
      obtain ⟨i10, ei10⟩ : ∃ y : Int32, y = x8 + (1 : Int32) := ⟨_, rfl⟩
      replace h := h i10 ei10
      refine lv_iinc (v := i10) (lv' := [(8, .int i10), (0, .ref (base + x0)), (1, .int x1), (2, .int x2), (3, .int x3), (4, .int x4), (5, .int x5), (6, .int x6), (7, .int x7)]) hx hb dX5_replace_166 hl (k := 8) rfl (by rw [ei10]; rfl) (by decide) rfl (fun ls hl2 => ?_)
      replace hl := hl2
      refine lv_goto (tgt := 128) hx hb dX5_replace_169 (by decide) ?_
      exact ih ho_x0 hd0 hZ (lv_sub hl [1, 2, 3, 4, 5, 6, 7, 8, 0] rfl) h hK172
set_option maxRecDepth 100000 in
set_option maxHeartbeats 4000000 in
theorem zb_X5_replace_175 {p : Program} {l : Launch} {e : Env} {R : Room} {s : State} {m : MethodId} {args : Array Value} {below : List Frame} {meth : Method} {c : Code} {G : ZG} {base z0 : Nat} {Q : Mem → Prop} (A : ∀ d, Amb p R (s.setDrawn d) m args meth c G base z0 cX5_replace yX5_replace.cls 11 5 136) (hr : meth.sig.returnType = none) {K240 : Nat → Int32 → Int32 → Int32 → Int32 → Int32 → Int32 → Mem → Prop} :
  ∀ (n : Nat) {d0 : Drawn} {H : Heap} {locs : List Loc} {cells slots : Nat} {ls : Array Slot} {x0 : Nat} {x1 : Int32} {x2 : Int32} {x3 : Int32} {x4 : Int32} {x5 : Int32} {x6 : Int32} {x7 : Int32} {x8 : Int32} {M : Mem} (ho_x0 : isO M x0 5) (hd0 : s.drawn.sameBut d0 lw_cs) (hZ : ZH G true base s.heap M H locs) (hl : lv_has ls 11 [(0, .ref (base + x0)), (1, .int x1), (2, .int x2), (3, .int x3), (4, .int x4), (5, .int x5), (6, .int x6), (7, .int x7), (8, .int x8)]) (h : wp_X5_replace_175 n x0 x1 x2 x3 x4 x5 x6 x7 x8 M Q K240) (hK240 : ∀ {d0 : Drawn} {H : Heap} {locs : List Loc} {cells slots : Nat} {ls : Array Slot} {x0 : Nat} {x1 : Int32} {x2 : Int32} {x3 : Int32} {x4 : Int32} {x5 : Int32} {x6 : Int32} {M : Mem} (ho_x0 : isO M x0 5), s.drawn.sameBut d0 lw_cs → ZH G true base s.heap M H locs → lv_has ls 11 [(0, .ref (base + x0)), (1, .int x1), (2, .int x2), (3, .int x3), (4, .int x4), (5, .int x5), (6, .int x6)] → K240 x0 x1 x2 x3 x4 x5 x6 M → W p l e R (s.setDrawn d0) m args below meth c H locs cells slots (ZEnd below G true base z0 (qV Q) args s) (F0 m 240 ls [])), W p l e R (s.setDrawn d0) m args below meth c H locs cells slots (ZEnd below G true base z0 (qV Q) args s) (F0 m 175 ls []) := by
  have hx := (A default).1
  have hb := (A default).2.1
  intro n
  induction n with
  | zero => intro d0 H locs cells slots ls x0 x1 x2 x3 x4 x5 x6 x7 x8 M ho_x0 hd0 hZ hl h hK240; exact h.elim
  | succ n ih =>
    intro d0 H locs cells slots ls x0 x1 x2 x3 x4 x5 x6 x7 x8 M ho_x0 hd0 hZ hl h hK240
    unfold wp_X5_replace_175 at h
    refine lv_iload hx hb dX5_replace_175 (lv_at hl 8 rfl) ?_
    refine lv_aload_n hx hb dX5_replace_177 rfl (lv_at hl 0 rfl) ?_
    refine z_get (A d0) hZ (ci := 5) (j := 14) ho_x0.1 ho_x0.2 (by decide) (by decide) k_fl_RX5_55 (v := .ref (base + 76)) (zv_fin (zf5 ho_x0 rfl) rfl) dX5_replace_178 ?_
    refine lv_iload hx hb dX5_replace_181 (lv_at hl 7 rfl) ?_
    obtain ⟨hin, h⟩ := h
    refine z_iald (A d0) hZ (isA_c (a := 76) hZ.k0 (by decide) rfl) hin dX5_replace_183 ?_
    refine lv_icmp_ge (tgt := 240) hx hb dX5_replace_184 (by decide) (fun hc => ?_) (fun hc => ?_)
    · replace h := h.1 hc
      exact hK240 ho_x0 hd0 hZ (lv_sub hl [0, 1, 2, 3, 4, 5, 6] rfl) h
    · replace h := h.2 hc
      refine lv_aload_n hx hb dX5_replace_187 rfl (lv_at hl 0 rfl) ?_
      refine z_get (A d0) hZ (ci := 5) (j := 34) ho_x0.1 ho_x0.2 (by decide) (by decide) k_fl_RX5_118 (v := .ref (base + 92)) (zv_fin (zf5 ho_x0 rfl) rfl) dX5_replace_188 ?_
      refine lv_iload hx hb dX5_replace_191 (lv_at hl 5 rfl) ?_
      refine lv_aload_n hx hb dX5_replace_193 rfl (lv_at hl 0 rfl) ?_
      refine z_get (A d0) hZ (ci := 5) (j := 20) ho_x0.1 ho_x0.2 (by decide) (by decide) k_fl_RX5_73 (v := .ref (base + 82)) (zv_fin (zf5 ho_x0 rfl) rfl) dX5_replace_194 ?_
      refine lv_aload_n hx hb dX5_replace_197 rfl (lv_at hl 0 rfl) ?_
      refine z_get (A d0) hZ (ci := 5) (j := 13) ho_x0.1 ho_x0.2 (by decide) (by decide) k_fl_RX5_52 (v := .ref (base + 75)) (zv_fin (zf5 ho_x0 rfl) rfl) dX5_replace_198 ?_
      refine lv_iload hx hb dX5_replace_201 (lv_at hl 7 rfl) ?_
      obtain ⟨hin, h⟩ := h
      refine z_iald (A d0) hZ (isA_c (a := 75) hZ.k0 (by decide) rfl) hin dX5_replace_203 ?_
      refine lv_iload hx hb dX5_replace_204 (lv_at hl 8 rfl) ?_
      refine lv_iadd hx hb dX5_replace_206 ?_
      obtain ⟨hin, h⟩ := h
      refine z_lald (A d0) hZ (isA_c (a := 82) hZ.k0 (by decide) rfl) hin dX5_replace_207 ?_
      obtain ⟨hin, h⟩ := h
      obtain ⟨M11, eM11⟩ : ∃ y : Mem, y = sL M 92 x5.toNatClampNeg (mL M 82 ((mI M 75 x7.toNatClampNeg) + x8).toNatClampNeg) := ⟨_, rfl⟩
      refine z_last (A d0) hZ (isA_c (a := 92) hZ.k0 (by decide) rfl) hin dX5_replace_208 (fun H locs hZ => ?_)
      rw [← eM11] at hZ
      have hm : mz M11 = mz M := by rw [eM11] <;> rfl
      have ho_x0 := isO_le (Nat.le_of_eq hm.symm) ho_x0
      replace h := h M11 eM11
      refine lv_aload_n hx hb dX5_replace_209 rfl (lv_at hl 0 rfl) ?_
      refine z_get (A d0) hZ (ci := 5) (j := 36) ho_x0.1 ho_x0.2 (by decide) (by decide) k_fl_RX5_125 (v := .ref (base + 94)) (zv_fin (zf5 ho_x0 rfl) rfl) dX5_replace_210 ?_
      refine lv_iload hx hb dX5_replace_213 (lv_at hl 5 rfl) ?_
      refine lv_aload_n hx hb dX5_replace_215 rfl (lv_at hl 0 rfl) ?_
      refine z_get (A d0) hZ (ci := 5) (j := 22) ho_x0.1 ho_x0.2 (by decide) (by decide) k_fl_RX5_80 (v := .ref (base + 84)) (zv_fin (zf5 ho_x0 rfl) rfl) dX5_replace_216 ?_
      refine lv_aload_n hx hb dX5_replace_219 rfl (lv_at hl 0 rfl) ?_
      refine z_get (A d0) hZ (ci := 5) (j := 13) ho_x0.1 ho_x0.2 (by decide) (by decide) k_fl_RX5_52 (v := .ref (base + 75)) (zv_fin (zf5 ho_x0 rfl) rfl) dX5_replace_220 ?_
      refine lv_iload hx hb dX5_replace_223 (lv_at hl 7 rfl) ?_
      obtain ⟨hin, h⟩ := h
      refine z_iald (A d0) hZ (isA_c (a := 75) hZ.k0 (by decide) rfl) hin dX5_replace_225 ?_
      refine lv_iload hx hb dX5_replace_226 (lv_at hl 8 rfl) ?_
      refine lv_iadd hx hb dX5_replace_228 ?_
      obtain ⟨hin, h⟩ := h
      refine z_zald (A d0) hZ (isA_c (a := 84) hZ.k0 (by decide) rfl) hin dX5_replace_229 ?_
      obtain ⟨hin, h⟩ := h
      obtain ⟨hbo, h⟩ := h
      obtain ⟨M12, eM12⟩ : ∃ y : Mem, y = sI M11 94 x5.toNatClampNeg (mI M11 84 ((mI M11 75 x7.toNatClampNeg) + x8).toNatClampNeg) := ⟨_, rfl⟩
      refine z_zast (A d0) hZ (isA_c (a := 94) hZ.k0 (by decide) rfl) hin hbo dX5_replace_230 (fun H locs hZ => ?_)
      rw [← eM12] at hZ
      have hm : mz M12 = mz M11 := by rw [eM12] <;> rfl
      have ho_x0 := isO_le (Nat.le_of_eq hm.symm) ho_x0
      replace h := h M12 eM12
      obtain ⟨i13, ei13⟩ : ∃ y : Int32, y = x5 + (1 : Int32) := ⟨_, rfl⟩
      replace h := h i13 ei13
      refine lv_iinc (v := i13) (lv' := [(5, .int i13), (0, .ref (base + x0)), (1, .int x1), (2, .int x2), (3, .int x3), (4, .int x4), (6, .int x6), (7, .int x7), (8, .int x8)]) hx hb dX5_replace_231 hl (k := 5) rfl (by rw [ei13]; rfl) (by decide) rfl (fun ls hl2 => ?_)
      replace hl := hl2
      obtain ⟨i14, ei14⟩ : ∃ y : Int32, y = x8 + (1 : Int32) := ⟨_, rfl⟩
      replace h := h i14 ei14
      refine lv_iinc (v := i14) (lv' := [(8, .int i14), (5, .int i13), (0, .ref (base + x0)), (1, .int x1), (2, .int x2), (3, .int x3), (4, .int x4), (6, .int x6), (7, .int x7)]) hx hb dX5_replace_234 hl (k := 8) rfl (by rw [ei14]; rfl) (by decide) rfl (fun ls hl2 => ?_)
      replace hl := hl2
      refine lv_goto (tgt := 175) hx hb dX5_replace_237 (by decide) ?_
      exact ih ho_x0 hd0 hZ (lv_sub hl [2, 3, 4, 5, 6, 1, 7, 8, 0] rfl) h hK240
set_option maxRecDepth 100000 in
set_option maxHeartbeats 4000000 in
theorem zb_X5_replace_240 {p : Program} {l : Launch} {e : Env} {R : Room} {s : State} {m : MethodId} {args : Array Value} {below : List Frame} {meth : Method} {c : Code} {G : ZG} {base z0 : Nat} {Q : Mem → Prop} (A : ∀ d, Amb p R (s.setDrawn d) m args meth c G base z0 cX5_replace yX5_replace.cls 11 5 136) (hr : meth.sig.returnType = none) {K14 : Nat → Int32 → Int32 → Int32 → Int32 → Int32 → Int32 → Mem → Prop} {K246 : Nat → Int32 → Int32 → Int32 → Mem → Prop} {d0 : Drawn} {H : Heap} {locs : List Loc} {cells slots : Nat} {ls : Array Slot} {x0 : Nat} {x1 : Int32} {x2 : Int32} {x3 : Int32} {x4 : Int32} {x5 : Int32} {x6 : Int32} {M : Mem} (ho_x0 : isO M x0 5) (hd0 : s.drawn.sameBut d0 lw_cs) (hZ : ZH G true base s.heap M H locs) (hl : lv_has ls 11 [(0, .ref (base + x0)), (1, .int x1), (2, .int x2), (3, .int x3), (4, .int x4), (5, .int x5), (6, .int x6)]) (h : wp_X5_replace_240 x0 x1 x2 x3 x4 x5 x6 M Q K14 K246) (hK14 : ∀ {d0 : Drawn} {H : Heap} {locs : List Loc} {cells slots : Nat} {ls : Array Slot} {x0 : Nat} {x1 : Int32} {x2 : Int32} {x3 : Int32} {x4 : Int32} {x5 : Int32} {x6 : Int32} {M : Mem} (ho_x0 : isO M x0 5), s.drawn.sameBut d0 lw_cs → ZH G true base s.heap M H locs → lv_has ls 11 [(0, .ref (base + x0)), (1, .int x1), (2, .int x2), (3, .int x3), (4, .int x4), (5, .int x5), (6, .int x6)] → K14 x0 x1 x2 x3 x4 x5 x6 M → W p l e R (s.setDrawn d0) m args below meth c H locs cells slots (ZEnd below G true base z0 (qV Q) args s) (F0 m 14 ls [])) (hK246 : ∀ {d0 : Drawn} {H : Heap} {locs : List Loc} {cells slots : Nat} {ls : Array Slot} {x0 : Nat} {x1 : Int32} {x3 : Int32} {x4 : Int32} {M : Mem} (ho_x0 : isO M x0 5), s.drawn.sameBut d0 lw_cs → ZH G true base s.heap M H locs → lv_has ls 11 [(0, .ref (base + x0)), (1, .int x1), (3, .int x3), (4, .int x4)] → K246 x0 x1 x3 x4 M → W p l e R (s.setDrawn d0) m args below meth c H locs cells slots (ZEnd below G true base z0 (qV Q) args s) (F0 m 246 ls [])) : W p l e R (s.setDrawn d0) m args below meth c H locs cells slots (ZEnd below G true base z0 (qV Q) args s) (F0 m 240 ls []) := by
  have hx := (A d0).1
  have hb := (A d0).2.1
  unfold wp_X5_replace_240 at h
  obtain ⟨i15, ei15⟩ : ∃ y : Int32, y = x6 + (1 : Int32) := ⟨_, rfl⟩
  replace h := h i15 ei15
  refine lv_iinc (v := i15) (lv' := [(6, .int i15), (0, .ref (base + x0)), (1, .int x1), (2, .int x2), (3, .int x3), (4, .int x4), (5, .int x5)]) hx hb dX5_replace_240 hl (k := 6) rfl (by rw [ei15]; rfl) (by decide) rfl (fun ls hl2 => ?_)
  replace hl := hl2
  refine lv_goto (tgt := 14) hx hb dX5_replace_243 (by decide) ?_
  exact hK14 ho_x0 hd0 hZ (lv_sub hl [1, 2, 3, 4, 5, 6, 0] rfl) h
set_option maxRecDepth 100000 in
set_option maxHeartbeats 4000000 in
theorem zb_X5_replace_439 {p : Program} {l : Launch} {e : Env} {R : Room} {s : State} {m : MethodId} {args : Array Value} {below : List Frame} {meth : Method} {c : Code} {G : ZG} {base z0 : Nat} {Q : Mem → Prop} (A : ∀ d, Amb p R (s.setDrawn d) m args meth c G base z0 cX5_replace yX5_replace.cls 11 5 136) (hr : meth.sig.returnType = none) {K483 : Nat → Int32 → Int32 → Int32 → Int32 → Int32 → Int32 → Int32 → Mem → Prop} :
  ∀ (n : Nat) {d0 : Drawn} {H : Heap} {locs : List Loc} {cells slots : Nat} {ls : Array Slot} {x0 : Nat} {x1 : Int32} {x4 : Int32} {x5 : Int32} {x6 : Int32} {x7 : Int32} {x8 : Int32} {x9 : Int32} {x10 : Int32} {M : Mem} (ho_x0 : isO M x0 5) (hd0 : s.drawn.sameBut d0 lw_cs) (hZ : ZH G true base s.heap M H locs) (hl : lv_has ls 11 [(0, .ref (base + x0)), (1, .int x1), (4, .int x4), (5, .int x5), (6, .int x6), (7, .int x7), (8, .int x8), (9, .int x9), (10, .int x10)]) (h : wp_X5_replace_439 n x0 x1 x4 x5 x6 x7 x8 x9 x10 M Q K483) (hK483 : ∀ {d0 : Drawn} {H : Heap} {locs : List Loc} {cells slots : Nat} {ls : Array Slot} {x0 : Nat} {x1 : Int32} {x4 : Int32} {x5 : Int32} {x6 : Int32} {x7 : Int32} {x8 : Int32} {x9 : Int32} {M : Mem} (ho_x0 : isO M x0 5), s.drawn.sameBut d0 lw_cs → ZH G true base s.heap M H locs → lv_has ls 11 [(0, .ref (base + x0)), (1, .int x1), (4, .int x4), (5, .int x5), (6, .int x6), (7, .int x7), (8, .int x8), (9, .int x9)] → K483 x0 x1 x4 x5 x6 x7 x8 x9 M → W p l e R (s.setDrawn d0) m args below meth c H locs cells slots (ZEnd below G true base z0 (qV Q) args s) (F0 m 483 ls [])), W p l e R (s.setDrawn d0) m args below meth c H locs cells slots (ZEnd below G true base z0 (qV Q) args s) (F0 m 439 ls []) := by
  have hx := (A default).1
  have hb := (A default).2.1
  intro n
  induction n with
  | zero => intro d0 H locs cells slots ls x0 x1 x4 x5 x6 x7 x8 x9 x10 M ho_x0 hd0 hZ hl h hK483; exact h.elim
  | succ n ih =>
    intro d0 H locs cells slots ls x0 x1 x4 x5 x6 x7 x8 x9 x10 M ho_x0 hd0 hZ hl h hK483
    unfold wp_X5_replace_439 at h
    refine lv_iload hx hb dX5_replace_439 (lv_at hl 8 rfl) ?_
    refine lv_aload_n hx hb dX5_replace_441 rfl (lv_at hl 0 rfl) ?_
    refine z_get (A d0) hZ (ci := 5) (j := 16) ho_x0.1 ho_x0.2 (by decide) (by decide) k_fl_RX5_61 (v := .ref (base + 78)) (zv_fin (zf5 ho_x0 rfl) rfl) dX5_replace_442 ?_
    refine lv_iload hx hb dX5_replace_445 (lv_at hl 7 rfl) ?_
    obtain ⟨hin, h⟩ := h
    refine z_iald (A d0) hZ (isA_c (a := 78) hZ.k0 (by decide) rfl) hin dX5_replace_447 ?_
    refine lv_icmp_ge (tgt := 483) hx hb dX5_replace_448 (by decide) (fun hc => ?_) (fun hc => ?_)
    · replace h := h.1 hc
      exact hK483 ho_x0 hd0 hZ (lv_sub hl [0, 1, 2, 3, 4, 5, 6, 7] rfl) h
    · replace h := h.2 hc
      refine lv_aload_n hx hb dX5_replace_451 rfl (lv_at hl 0 rfl) ?_
      refine z_get (A d0) hZ (ci := 5) (j := 21) ho_x0.1 ho_x0.2 (by decide) (by decide) k_fl_RX5_77 (v := .ref (base + 83)) (zv_fin (zf5 ho_x0 rfl) rfl) dX5_replace_452 ?_
      refine lv_bipush (v := (16 : Int32)) hx hb dX5_replace_455 (by decide) ?_
      refine lv_iload hx hb dX5_replace_457 (lv_at hl 7 rfl) ?_
      refine lv_imul hx hb dX5_replace_459 ?_
      refine lv_iload hx hb dX5_replace_460 (lv_at hl 8 rfl) ?_
      refine lv_iadd hx hb dX5_replace_462 ?_
      refine lv_aload_n hx hb dX5_replace_463 rfl (lv_at hl 0 rfl) ?_
      refine z_get (A d0) hZ (ci := 5) (j := 35) ho_x0.1 ho_x0.2 (by decide) (by decide) k_fl_RX5_122 (v := .ref (base + 93)) (zv_fin (zf5 ho_x0 rfl) rfl) dX5_replace_464 ?_
      refine lv_bipush (v := (16 : Int32)) hx hb dX5_replace_467 (by decide) ?_
      refine lv_iload hx hb dX5_replace_469 (lv_at hl 6 rfl) ?_
      refine lv_imul hx hb dX5_replace_471 ?_
      refine lv_iload hx hb dX5_replace_472 (lv_at hl 8 rfl) ?_
      refine lv_iadd hx hb dX5_replace_474 ?_
      obtain ⟨hin, h⟩ := h
      refine z_lald (A d0) hZ (isA_c (a := 93) hZ.k0 (by decide) rfl) hin dX5_replace_475 ?_
      obtain ⟨hin, h⟩ := h
      obtain ⟨M29, eM29⟩ : ∃ y : Mem, y = sL M 83 (((16 : Int32) * x9) + x10).toNatClampNeg (mL M 93 (((16 : Int32) * x8) + x10).toNatClampNeg) := ⟨_, rfl⟩
      refine z_last (A d0) hZ (isA_c (a := 83) hZ.k0 (by decide) rfl) hin dX5_replace_476 (fun H locs hZ => ?_)
      rw [← eM29] at hZ
      have hm : mz M29 = mz M := by rw [eM29] <;> rfl
      have ho_x0 := isO_le (Nat.le_of_eq hm.symm) ho_x0
      replace h := h M29 eM29
      obtain ⟨i30, ei30⟩ : ∃ y : Int32, y = x10 + (1 : Int32) := ⟨_, rfl⟩
      replace h := h i30 ei30
      refine lv_iinc (v := i30) (lv' := [(10, .int i30), (0, .ref (base + x0)), (1, .int x1), (4, .int x4), (5, .int x5), (6, .int x6), (7, .int x7), (8, .int x8), (9, .int x9)]) hx hb dX5_replace_477 hl (k := 8) rfl (by rw [ei30]; rfl) (by decide) rfl (fun ls hl2 => ?_)
      replace hl := hl2
      refine lv_goto (tgt := 439) hx hb dX5_replace_480 (by decide) ?_
      exact ih ho_x0 hd0 hZ (lv_sub hl [1, 2, 3, 4, 5, 6, 7, 8, 0] rfl) h hK483
set_option maxRecDepth 100000 in
set_option maxHeartbeats 4000000 in
theorem zb_X5_replace_486 {p : Program} {l : Launch} {e : Env} {R : Room} {s : State} {m : MethodId} {args : Array Value} {below : List Frame} {meth : Method} {c : Code} {G : ZG} {base z0 : Nat} {Q : Mem → Prop} (A : ∀ d, Amb p R (s.setDrawn d) m args meth c G base z0 cX5_replace yX5_replace.cls 11 5 136) (hr : meth.sig.returnType = none) {K538 : Nat → Int32 → Int32 → Int32 → Int32 → Int32 → Int32 → Mem → Prop} :
  ∀ (n : Nat) {d0 : Drawn} {H : Heap} {locs : List Loc} {cells slots : Nat} {ls : Array Slot} {x0 : Nat} {x1 : Int32} {x4 : Int32} {x5 : Int32} {x6 : Int32} {x7 : Int32} {x8 : Int32} {x9 : Int32} {x10 : Int32} {M : Mem} (ho_x0 : isO M x0 5) (hd0 : s.drawn.sameBut d0 lw_cs) (hZ : ZH G true base s.heap M H locs) (hl : lv_has ls 11 [(0, .ref (base + x0)), (1, .int x1), (4, .int x4), (5, .int x5), (6, .int x6), (7, .int x7), (8, .int x8), (9, .int x9), (10, .int x10)]) (h : wp_X5_replace_486 n x0 x1 x4 x5 x6 x7 x8 x9 x10 M Q K538) (hK538 : ∀ {d0 : Drawn} {H : Heap} {locs : List Loc} {cells slots : Nat} {ls : Array Slot} {x0 : Nat} {x1 : Int32} {x4 : Int32} {x5 : Int32} {x6 : Int32} {x7 : Int32} {x8 : Int32} {M : Mem} (ho_x0 : isO M x0 5), s.drawn.sameBut d0 lw_cs → ZH G true base s.heap M H locs → lv_has ls 11 [(0, .ref (base + x0)), (1, .int x1), (4, .int x4), (5, .int x5), (6, .int x6), (7, .int x7), (8, .int x8)] → K538 x0 x1 x4 x5 x6 x7 x8 M → W p l e R (s.setDrawn d0) m args below meth c H locs cells slots (ZEnd below G true base z0 (qV Q) args s) (F0 m 538 ls [])), W p l e R (s.setDrawn d0) m args below meth c H locs cells slots (ZEnd below G true base z0 (qV Q) args s) (F0 m 486 ls []) := by
  have hx := (A default).1
  have hb := (A default).2.1
  intro n
  induction n with
  | zero => intro d0 H locs cells slots ls x0 x1 x4 x5 x6 x7 x8 x9 x10 M ho_x0 hd0 hZ hl h hK538; exact h.elim
  | succ n ih =>
    intro d0 H locs cells slots ls x0 x1 x4 x5 x6 x7 x8 x9 x10 M ho_x0 hd0 hZ hl h hK538
    unfold wp_X5_replace_486 at h
    refine lv_iload hx hb dX5_replace_486 (lv_at hl 8 rfl) ?_
    refine lv_aload_n hx hb dX5_replace_488 rfl (lv_at hl 0 rfl) ?_
    refine z_get (A d0) hZ (ci := 5) (j := 14) ho_x0.1 ho_x0.2 (by decide) (by decide) k_fl_RX5_55 (v := .ref (base + 76)) (zv_fin (zf5 ho_x0 rfl) rfl) dX5_replace_489 ?_
    refine lv_iload hx hb dX5_replace_492 (lv_at hl 7 rfl) ?_
    obtain ⟨hin, h⟩ := h
    refine z_iald (A d0) hZ (isA_c (a := 76) hZ.k0 (by decide) rfl) hin dX5_replace_494 ?_
    refine lv_icmp_ge (tgt := 538) hx hb dX5_replace_495 (by decide) (fun hc => ?_) (fun hc => ?_)
    · replace h := h.1 hc
      exact hK538 ho_x0 hd0 hZ (lv_sub hl [0, 1, 2, 3, 4, 5, 6] rfl) h
    · replace h := h.2 hc
      refine lv_aload_n hx hb dX5_replace_498 rfl (lv_at hl 0 rfl) ?_
      refine z_get (A d0) hZ (ci := 5) (j := 20) ho_x0.1 ho_x0.2 (by decide) (by decide) k_fl_RX5_73 (v := .ref (base + 82)) (zv_fin (zf5 ho_x0 rfl) rfl) dX5_replace_499 ?_
      refine lv_iload hx hb dX5_replace_502 (lv_at hl 4 rfl) ?_
      refine lv_aload_n hx hb dX5_replace_504 rfl (lv_at hl 0 rfl) ?_
      refine z_get (A d0) hZ (ci := 5) (j := 34) ho_x0.1 ho_x0.2 (by decide) (by decide) k_fl_RX5_118 (v := .ref (base + 92)) (zv_fin (zf5 ho_x0 rfl) rfl) dX5_replace_505 ?_
      refine lv_iload hx hb dX5_replace_508 (lv_at hl 3 rfl) ?_
      obtain ⟨hin, h⟩ := h
      refine z_lald (A d0) hZ (isA_c (a := 92) hZ.k0 (by decide) rfl) hin dX5_replace_510 ?_
      obtain ⟨hin, h⟩ := h
      obtain ⟨M31, eM31⟩ : ∃ y : Mem, y = sL M 82 x6.toNatClampNeg (mL M 92 x5.toNatClampNeg) := ⟨_, rfl⟩
      refine z_last (A d0) hZ (isA_c (a := 82) hZ.k0 (by decide) rfl) hin dX5_replace_511 (fun H locs hZ => ?_)
      rw [← eM31] at hZ
      have hm : mz M31 = mz M := by rw [eM31] <;> rfl
      have ho_x0 := isO_le (Nat.le_of_eq hm.symm) ho_x0
      replace h := h M31 eM31
      refine lv_aload_n hx hb dX5_replace_512 rfl (lv_at hl 0 rfl) ?_
      refine z_get (A d0) hZ (ci := 5) (j := 22) ho_x0.1 ho_x0.2 (by decide) (by decide) k_fl_RX5_80 (v := .ref (base + 84)) (zv_fin (zf5 ho_x0 rfl) rfl) dX5_replace_513 ?_
      refine lv_iload hx hb dX5_replace_516 (lv_at hl 4 rfl) ?_
      refine lv_aload_n hx hb dX5_replace_518 rfl (lv_at hl 0 rfl) ?_
      refine z_get (A d0) hZ (ci := 5) (j := 36) ho_x0.1 ho_x0.2 (by decide) (by decide) k_fl_RX5_125 (v := .ref (base + 94)) (zv_fin (zf5 ho_x0 rfl) rfl) dX5_replace_519 ?_
      refine lv_iload hx hb dX5_replace_522 (lv_at hl 3 rfl) ?_
      obtain ⟨hin, h⟩ := h
      refine z_zald (A d0) hZ (isA_c (a := 94) hZ.k0 (by decide) rfl) hin dX5_replace_524 ?_
      obtain ⟨hin, h⟩ := h
      obtain ⟨hbo, h⟩ := h
      obtain ⟨M32, eM32⟩ : ∃ y : Mem, y = sI M31 84 x6.toNatClampNeg (mI M31 94 x5.toNatClampNeg) := ⟨_, rfl⟩
      refine z_zast (A d0) hZ (isA_c (a := 84) hZ.k0 (by decide) rfl) hin hbo dX5_replace_525 (fun H locs hZ => ?_)
      rw [← eM32] at hZ
      have hm : mz M32 = mz M31 := by rw [eM32] <;> rfl
      have ho_x0 := isO_le (Nat.le_of_eq hm.symm) ho_x0
      replace h := h M32 eM32
      obtain ⟨i33, ei33⟩ : ∃ y : Int32, y = x6 + (1 : Int32) := ⟨_, rfl⟩
      replace h := h i33 ei33
      refine lv_iinc (v := i33) (lv' := [(6, .int i33), (0, .ref (base + x0)), (1, .int x1), (4, .int x4), (5, .int x5), (7, .int x7), (8, .int x8), (9, .int x9), (10, .int x10)]) hx hb dX5_replace_526 hl (k := 4) rfl (by rw [ei33]; rfl) (by decide) rfl (fun ls hl2 => ?_)
      replace hl := hl2
      obtain ⟨i34, ei34⟩ : ∃ y : Int32, y = x5 + (1 : Int32) := ⟨_, rfl⟩
      replace h := h i34 ei34
      refine lv_iinc (v := i34) (lv' := [(5, .int i34), (6, .int i33), (0, .ref (base + x0)), (1, .int x1), (4, .int x4), (7, .int x7), (8, .int x8), (9, .int x9), (10, .int x10)]) hx hb dX5_replace_529 hl (k := 4) rfl (by rw [ei34]; rfl) (by decide) rfl (fun ls hl2 => ?_)
      replace hl := hl2
      obtain ⟨i35, ei35⟩ : ∃ y : Int32, y = x10 + (1 : Int32) := ⟨_, rfl⟩
      replace h := h i35 ei35
      refine lv_iinc (v := i35) (lv' := [(10, .int i35), (5, .int i34), (6, .int i33), (0, .ref (base + x0)), (1, .int x1), (4, .int x4), (7, .int x7), (8, .int x8), (9, .int x9)]) hx hb dX5_replace_532 hl (k := 8) rfl (by rw [ei35]; rfl) (by decide) rfl (fun ls hl2 => ?_)
      replace hl := hl2
      refine lv_goto (tgt := 486) hx hb dX5_replace_535 (by decide) ?_
      exact ih ho_x0 hd0 hZ (lv_sub hl [3, 4, 5, 1, 2, 6, 7, 8, 0] rfl) h hK538
set_option maxRecDepth 100000 in
set_option maxHeartbeats 4000000 in
theorem zb_X5_replace_538 {p : Program} {l : Launch} {e : Env} {R : Room} {s : State} {m : MethodId} {args : Array Value} {below : List Frame} {meth : Method} {c : Code} {G : ZG} {base z0 : Nat} {Q : Mem → Prop} (A : ∀ d, Amb p R (s.setDrawn d) m args meth c G base z0 cX5_replace yX5_replace.cls 11 5 136) (hr : meth.sig.returnType = none) {K313 : Nat → Int32 → Int32 → Int32 → Int32 → Int32 → Int32 → Mem → Prop} {K544 : Nat → Int32 → Int32 → Int32 → Mem → Prop} {d0 : Drawn} {H : Heap} {locs : List Loc} {cells slots : Nat} {ls : Array Slot} {x0 : Nat} {x1 : Int32} {x4 : Int32} {x5 : Int32} {x6 : Int32} {x7 : Int32} {x8 : Int32} {M : Mem} (ho_x0 : isO M x0 5) (hd0 : s.drawn.sameBut d0 lw_cs) (hZ : ZH G true base s.heap M H locs) (hl : lv_has ls 11 [(0, .ref (base + x0)), (1, .int x1), (4, .int x4), (5, .int x5), (6, .int x6), (7, .int x7), (8, .int x8)]) (h : wp_X5_replace_538 x0 x1 x4 x5 x6 x7 x8 M Q K313 K544) (hK313 : ∀ {d0 : Drawn} {H : Heap} {locs : List Loc} {cells slots : Nat} {ls : Array Slot} {x0 : Nat} {x1 : Int32} {x4 : Int32} {x5 : Int32} {x6 : Int32} {x7 : Int32} {x8 : Int32} {M : Mem} (ho_x0 : isO M x0 5), s.drawn.sameBut d0 lw_cs → ZH G true base s.heap M H locs → lv_has ls 11 [(0, .ref (base + x0)), (1, .int x1), (4, .int x4), (5, .int x5), (6, .int x6), (7, .int x7), (8, .int x8)] → K313 x0 x1 x4 x5 x6 x7 x8 M → W p l e R (s.setDrawn d0) m args below meth c H locs cells slots (ZEnd below G true base z0 (qV Q) args s) (F0 m 313 ls [])) (hK544 : ∀ {d0 : Drawn} {H : Heap} {locs : List Loc} {cells slots : Nat} {ls : Array Slot} {x0 : Nat} {x1 : Int32} {x4 : Int32} {x7 : Int32} {M : Mem} (ho_x0 : isO M x0 5), s.drawn.sameBut d0 lw_cs → ZH G true base s.heap M H locs → lv_has ls 11 [(0, .ref (base + x0)), (1, .int x1), (4, .int x4), (7, .int x7)] → K544 x0 x1 x4 x7 M → W p l e R (s.setDrawn d0) m args below meth c H locs cells slots (ZEnd below G true base z0 (qV Q) args s) (F0 m 544 ls [])) : W p l e R (s.setDrawn d0) m args below meth c H locs cells slots (ZEnd below G true base z0 (qV Q) args s) (F0 m 538 ls []) := by
  have hx := (A d0).1
  have hb := (A d0).2.1
  unfold wp_X5_replace_538 at h
  obtain ⟨i36, ei36⟩ : ∃ y : Int32, y = x8 + (1 : Int32) := ⟨_, rfl⟩
  replace h := h i36 ei36
  refine lv_iinc (v := i36) (lv' := [(8, .int i36), (0, .ref (base + x0)), (1, .int x1), (4, .int x4), (5, .int x5), (6, .int x6), (7, .int x7)]) hx hb dX5_replace_538 hl (k := 6) rfl (by rw [ei36]; rfl) (by decide) rfl (fun ls hl2 => ?_)
  replace hl := hl2
  refine lv_goto (tgt := 313) hx hb dX5_replace_541 (by decide) ?_
  exact hK313 ho_x0 hd0 hZ (lv_sub hl [1, 2, 3, 4, 5, 6, 0] rfl) h
set_option maxRecDepth 100000 in
set_option maxHeartbeats 4000000 in
theorem zb_X5_replace_599 {p : Program} {l : Launch} {e : Env} {R : Room} {s : State} {m : MethodId} {args : Array Value} {below : List Frame} {meth : Method} {c : Code} {G : ZG} {base z0 : Nat} {Q : Mem → Prop} (A : ∀ d, Amb p R (s.setDrawn d) m args meth c G base z0 cX5_replace yX5_replace.cls 11 5 136) (hr : meth.sig.returnType = none) {d0 : Drawn} {H : Heap} {locs : List Loc} {cells slots : Nat} {ls : Array Slot}  {M : Mem} (hd0 : s.drawn.sameBut d0 lw_cs) (hZ : ZH G true base s.heap M H locs) (hl : lv_has ls 11 []) (h : wp_X5_replace_599 M Q) : W p l e R (s.setDrawn d0) m args below meth c H locs cells slots (ZEnd below G true base z0 (qV Q) args s) (F0 m 599 ls []) := by
  have hx := (A d0).1
  have hb := (A d0).2.1
  unfold wp_X5_replace_599 at h
  exact z_vret A hd0 hZ hr ⟨rfl, h⟩ dX5_replace_599
set_option maxRecDepth 100000 in
set_option maxHeartbeats 4000000 in
theorem zb_X5_replace_172 {p : Program} {l : Launch} {e : Env} {R : Room} {s : State} {m : MethodId} {args : Array Value} {below : List Frame} {meth : Method} {c : Code} {G : ZG} {base z0 : Nat} {Q : Mem → Prop} (A : ∀ d, Amb p R (s.setDrawn d) m args meth c G base z0 cX5_replace yX5_replace.cls 11 5 136) (hr : meth.sig.returnType = none) {K14 : Nat → Int32 → Int32 → Int32 → Int32 → Int32 → Int32 → Mem → Prop} {K246 : Nat → Int32 → Int32 → Int32 → Mem → Prop} {d0 : Drawn} {H : Heap} {locs : List Loc} {cells slots : Nat} {ls : Array Slot} {x0 : Nat} {x1 : Int32} {x2 : Int32} {x3 : Int32} {x4 : Int32} {x5 : Int32} {x6 : Int32} {x7 : Int32} {M : Mem} (ho_x0 : isO M x0 5) (hd0 : s.drawn.sameBut d0 lw_cs) (hZ : ZH G true base s.heap M H locs) (hl : lv_has ls 11 [(0, .ref (base + x0)), (1, .int x1), (2, .int x2), (3, .int x3), (4, .int x4), (5, .int x5), (6, .int x6), (7, .int x7)]) (h : wp_X5_replace_172 x0 x1 x2 x3 x4 x5 x6 x7 M Q K14 K246) (hK14 : ∀ {d0 : Drawn} {H : Heap} {locs : List Loc} {cells slots : Nat} {ls : Array Slot} {x0 : Nat} {x1 : Int32} {x2 : Int32} {x3 : Int32} {x4 : Int32} {x5 : Int32} {x6 : Int32} {M : Mem} (ho_x0 : isO M x0 5), s.drawn.sameBut d0 lw_cs → ZH G true base s.heap M H locs → lv_has ls 11 [(0, .ref (base + x0)), (1, .int x1), (2, .int x2), (3, .int x3), (4, .int x4), (5, .int x5), (6, .int x6)] → K14 x0 x1 x2 x3 x4 x5 x6 M → W p l e R (s.setDrawn d0) m args below meth c H locs cells slots (ZEnd below G true base z0 (qV Q) args s) (F0 m 14 ls [])) (hK246 : ∀ {d0 : Drawn} {H : Heap} {locs : List Loc} {cells slots : Nat} {ls : Array Slot} {x0 : Nat} {x1 : Int32} {x3 : Int32} {x4 : Int32} {M : Mem} (ho_x0 : isO M x0 5), s.drawn.sameBut d0 lw_cs → ZH G true base s.heap M H locs → lv_has ls 11 [(0, .ref (base + x0)), (1, .int x1), (3, .int x3), (4, .int x4)] → K246 x0 x1 x3 x4 M → W p l e R (s.setDrawn d0) m args below meth c H locs cells slots (ZEnd below G true base z0 (qV Q) args s) (F0 m 246 ls [])) : W p l e R (s.setDrawn d0) m args below meth c H locs cells slots (ZEnd below G true base z0 (qV Q) args s) (F0 m 172 ls []) := by
  have hx := (A d0).1
  have hb := (A d0).2.1
  unfold wp_X5_replace_172 at h
  refine lv_iconst (v := (0 : Int32)) hx hb dX5_replace_172 (by decide) ?_
  refine lv_istore (lv' := [(8, .int (0 : Int32)), (0, .ref (base + x0)), (1, .int x1), (2, .int x2), (3, .int x3), (4, .int x4), (5, .int x5), (6, .int x6), (7, .int x7)]) hx hb dX5_replace_173 hl (by decide) rfl (fun ls hl2 => ?_)
  replace hl := hl2
  exact (Exists.elim h fun kk h => zb_X5_replace_175 A hr kk ho_x0 hd0 hZ (lv_sub hl [1, 2, 3, 4, 5, 6, 7, 8, 0] rfl) h (fun ho_x0 hd0 hZ hl h => (zb_X5_replace_240 A hr ho_x0 hd0 hZ hl h hK14 hK246)))
set_option maxRecDepth 100000 in
set_option maxHeartbeats 4000000 in
theorem zb_X5_replace_483 {p : Program} {l : Launch} {e : Env} {R : Room} {s : State} {m : MethodId} {args : Array Value} {below : List Frame} {meth : Method} {c : Code} {G : ZG} {base z0 : Nat} {Q : Mem → Prop} (A : ∀ d, Amb p R (s.setDrawn d) m args meth c G base z0 cX5_replace yX5_replace.cls 11 5 136) (hr : meth.sig.returnType = none) {K313 : Nat → Int32 → Int32 → Int32 → Int32 → Int32 → Int32 → Mem → Prop} {K544 : Nat → Int32 → Int32 → Int32 → Mem → Prop} {d0 : Drawn} {H : Heap} {locs : List Loc} {cells slots : Nat} {ls : Array Slot} {x0 : Nat} {x1 : Int32} {x4 : Int32} {x5 : Int32} {x6 : Int32} {x7 : Int32} {x8 : Int32} {x9 : Int32} {M : Mem} (ho_x0 : isO M x0 5) (hd0 : s.drawn.sameBut d0 lw_cs) (hZ : ZH G true base s.heap M H locs) (hl : lv_has ls 11 [(0, .ref (base + x0)), (1, .int x1), (4, .int x4), (5, .int x5), (6, .int x6), (7, .int x7), (8, .int x8), (9, .int x9)]) (h : wp_X5_replace_483 x0 x1 x4 x5 x6 x7 x8 x9 M Q K313 K544) (hK313 : ∀ {d0 : Drawn} {H : Heap} {locs : List Loc} {cells slots : Nat} {ls : Array Slot} {x0 : Nat} {x1 : Int32} {x4 : Int32} {x5 : Int32} {x6 : Int32} {x7 : Int32} {x8 : Int32} {M : Mem} (ho_x0 : isO M x0 5), s.drawn.sameBut d0 lw_cs → ZH G true base s.heap M H locs → lv_has ls 11 [(0, .ref (base + x0)), (1, .int x1), (4, .int x4), (5, .int x5), (6, .int x6), (7, .int x7), (8, .int x8)] → K313 x0 x1 x4 x5 x6 x7 x8 M → W p l e R (s.setDrawn d0) m args below meth c H locs cells slots (ZEnd below G true base z0 (qV Q) args s) (F0 m 313 ls [])) (hK544 : ∀ {d0 : Drawn} {H : Heap} {locs : List Loc} {cells slots : Nat} {ls : Array Slot} {x0 : Nat} {x1 : Int32} {x4 : Int32} {x7 : Int32} {M : Mem} (ho_x0 : isO M x0 5), s.drawn.sameBut d0 lw_cs → ZH G true base s.heap M H locs → lv_has ls 11 [(0, .ref (base + x0)), (1, .int x1), (4, .int x4), (7, .int x7)] → K544 x0 x1 x4 x7 M → W p l e R (s.setDrawn d0) m args below meth c H locs cells slots (ZEnd below G true base z0 (qV Q) args s) (F0 m 544 ls [])) : W p l e R (s.setDrawn d0) m args below meth c H locs cells slots (ZEnd below G true base z0 (qV Q) args s) (F0 m 483 ls []) := by
  have hx := (A d0).1
  have hb := (A d0).2.1
  unfold wp_X5_replace_483 at h
  refine lv_iconst (v := (0 : Int32)) hx hb dX5_replace_483 (by decide) ?_
  refine lv_istore (lv' := [(10, .int (0 : Int32)), (0, .ref (base + x0)), (1, .int x1), (4, .int x4), (5, .int x5), (6, .int x6), (7, .int x7), (8, .int x8), (9, .int x9)]) hx hb dX5_replace_484 hl (by decide) rfl (fun ls hl2 => ?_)
  replace hl := hl2
  exact (Exists.elim h fun kk h => zb_X5_replace_486 A hr kk ho_x0 hd0 hZ (lv_sub hl [1, 2, 3, 4, 5, 6, 7, 8, 0] rfl) h (fun ho_x0 hd0 hZ hl h => (zb_X5_replace_538 A hr ho_x0 hd0 hZ hl h hK313 hK544)))
set_option maxRecDepth 100000 in
set_option maxHeartbeats 4000000 in
theorem zb_X5_replace_577 {p : Program} {l : Launch} {e : Env} {R : Room} {s : State} {m : MethodId} {args : Array Value} {below : List Frame} {meth : Method} {c : Code} {G : ZG} {base z0 : Nat} {Q : Mem → Prop} (A : ∀ d, Amb p R (s.setDrawn d) m args meth c G base z0 cX5_replace yX5_replace.cls 11 5 136) (hr : meth.sig.returnType = none) {d0 : Drawn} {H : Heap} {locs : List Loc} {cells slots : Nat} {ls : Array Slot} {x0 : Nat} {t0 : Int32} {t1 : Nat} {M : Mem} (ho_x0 : isO M x0 5) (ho_t1 : isO M t1 5) (hd0 : s.drawn.sameBut d0 lw_cs) (hZ : ZH G true base s.heap M H locs) (hl : lv_has ls 11 [(0, .ref (base + x0))]) (h : wp_X5_replace_577 x0 t0 t1 M Q) : W p l e R (s.setDrawn d0) m args below meth c H locs cells slots (ZEnd below G true base z0 (qV Q) args s) (F0 m 577 ls [.int t0, .ref (base + t1)]) := by
  have hx := (A d0).1
  have hb := (A d0).2.1
  unfold wp_X5_replace_577 at h
  obtain ⟨hbo, h⟩ := h
  obtain ⟨M41, eM41⟩ : ∃ y : Mem, y = sI M t1 23 t0 := ⟨_, rfl⟩
  refine z_put (A d0) hZ (ci := 5) (j := 23) (M' := M41) ho_t1.1 ho_t1.2 (by decide) (by decide) k_fl_RX5_84 rfl (by rw [eM41]; exact zUpd_Z) (nar_b hbo) (by rcases hbo with h9 | h9 <;> rw [h9] <;> rfl) dX5_replace_577 (fun H locs hZ => ?_)
  have hm : mz M41 = mz M := by rw [eM41] <;> rfl
  have ho_x0 := isO_le (Nat.le_of_eq hm.symm) ho_x0
  replace h := h M41 eM41
  refine lv_aload_n hx hb dX5_replace_580 rfl (lv_at hl 0 rfl) ?_
  refine z_get (A d0) hZ (ci := 5) (j := 23) ho_x0.1 ho_x0.2 (by decide) (by decide) k_fl_RX5_84 (v := .int (mI M41 x0 23)) rfl dX5_replace_581 ?_
  refine lv_if_eq (tgt := 594) hx hb dX5_replace_584 (by decide) (fun hc => ?_) (fun hc => ?_)
  · replace h := h.1 hc
    refine lv_aload_n hx hb dX5_replace_594 rfl (lv_at hl 0 rfl) ?_
    refine lv_iconst (v := (0 : Int32)) hx hb dX5_replace_595 (by decide) ?_
    obtain ⟨M42, eM42⟩ : ∃ y : Mem, y = sI M41 x0 9 (0 : Int32) := ⟨_, rfl⟩
    refine z_put (A d0) hZ (ci := 5) (j := 9) (M' := M42) ho_x0.1 ho_x0.2 (by decide) (by decide) k_fl_RX5_39 rfl (by rw [eM42]; exact zUpd_I) rfl rfl dX5_replace_596 (fun H locs hZ => ?_)
    have hm : mz M42 = mz M41 := by rw [eM42] <;> rfl
    have ho_x0 := isO_le (Nat.le_of_eq hm.symm) ho_x0
    replace h := h M42 eM42
    exact (zb_X5_replace_599 A hr hd0 hZ (lv_sub hl [] rfl) h)
  · replace h := h.2 hc
    refine lv_aload_n hx hb dX5_replace_587 rfl (lv_at hl 0 rfl) ?_
    refine z_callV A hd0 hZ (ci := 5) (nA := 0) (As := []) (by decide) ho_x0 (c_X5_layersAnew l G base M41 x0 _ h) k_ml_RX5_217 k_im_yX5_layersAnew k_se_yX5_layersAnew k_in_RX5 k_co_yX5_layersAnew (by decide +kernel) ⟨by decide, by decide⟩ rfl rfl (Nat.le_of_ble_eq_true rfl) hl dX5_replace_588 (fun v M43 H locs d0 cells slots hq hd0 hZ hm => ?_)
    clear h
    obtain ⟨rfl, h⟩ := hq
    have ho_x0 := isO_le hm ho_x0
    refine lv_goto (tgt := 599) hx hb dX5_replace_591 (by decide) ?_
    exact (zb_X5_replace_599 A hr hd0 hZ (lv_sub hl [] rfl) h)
set_option maxRecDepth 100000 in
set_option maxHeartbeats 4000000 in
theorem zb_X5_replace_14 {p : Program} {l : Launch} {e : Env} {R : Room} {s : State} {m : MethodId} {args : Array Value} {below : List Frame} {meth : Method} {c : Code} {G : ZG} {base z0 : Nat} {Q : Mem → Prop} (A : ∀ d, Amb p R (s.setDrawn d) m args meth c G base z0 cX5_replace yX5_replace.cls 11 5 136) (hr : meth.sig.returnType = none) {K246 : Nat → Int32 → Int32 → Int32 → Mem → Prop} :
  ∀ (n : Nat) {d0 : Drawn} {H : Heap} {locs : List Loc} {cells slots : Nat} {ls : Array Slot} {x0 : Nat} {x1 : Int32} {x2 : Int32} {x3 : Int32} {x4 : Int32} {x5 : Int32} {x6 : Int32} {M : Mem} (ho_x0 : isO M x0 5) (hd0 : s.drawn.sameBut d0 lw_cs) (hZ : ZH G true base s.heap M H locs) (hl : lv_has ls 11 [(0, .ref (base + x0)), (1, .int x1), (2, .int x2), (3, .int x3), (4, .int x4), (5, .int x5), (6, .int x6)]) (h : wp_X5_replace_14 n x0 x1 x2 x3 x4 x5 x6 M Q K246) (hK246 : ∀ {d0 : Drawn} {H : Heap} {locs : List Loc} {cells slots : Nat} {ls : Array Slot} {x0 : Nat} {x1 : Int32} {x3 : Int32} {x4 : Int32} {M : Mem} (ho_x0 : isO M x0 5), s.drawn.sameBut d0 lw_cs → ZH G true base s.heap M H locs → lv_has ls 11 [(0, .ref (base + x0)), (1, .int x1), (3, .int x3), (4, .int x4)] → K246 x0 x1 x3 x4 M → W p l e R (s.setDrawn d0) m args below meth c H locs cells slots (ZEnd below G true base z0 (qV Q) args s) (F0 m 246 ls [])), W p l e R (s.setDrawn d0) m args below meth c H locs cells slots (ZEnd below G true base z0 (qV Q) args s) (F0 m 14 ls []) := by
  have hx := (A default).1
  have hb := (A default).2.1
  intro n
  induction n with
  | zero => intro d0 H locs cells slots ls x0 x1 x2 x3 x4 x5 x6 M ho_x0 hd0 hZ hl h hK246; exact h.elim
  | succ n ih =>
    intro d0 H locs cells slots ls x0 x1 x2 x3 x4 x5 x6 M ho_x0 hd0 hZ hl h hK246
    unfold wp_X5_replace_14 at h
    refine lv_iload hx hb dX5_replace_14 (lv_at hl 6 rfl) ?_
    refine lv_iload hx hb dX5_replace_16 (lv_at hl 4 rfl) ?_
    refine lv_icmp_ge (tgt := 246) hx hb dX5_replace_18 (by decide) (fun hc => ?_) (fun hc => ?_)
    · replace h := h.1 hc
      exact hK246 ho_x0 hd0 hZ (lv_sub hl [0, 1, 3, 4] rfl) h
    · replace h := h.2 hc
      refine lv_iload_n hx hb dX5_replace_21 rfl (lv_at hl 2 rfl) ?_
      refine lv_iload hx hb dX5_replace_22 (lv_at hl 6 rfl) ?_
      refine lv_iadd hx hb dX5_replace_24 ?_
      obtain ⟨i1, ei1⟩ : ∃ y : Int32, y = x2 + x6 := ⟨_, rfl⟩
      rw [← ei1]
      replace h := h i1 ei1
      refine lv_istore (lv' := [(7, .int i1), (0, .ref (base + x0)), (1, .int x1), (2, .int x2), (3, .int x3), (4, .int x4), (5, .int x5), (6, .int x6)]) hx hb dX5_replace_25 hl (by decide) rfl (fun ls hl2 => ?_)
      replace hl := hl2
      refine lv_aload_n hx hb dX5_replace_27 rfl (lv_at hl 1 rfl) ?_
      refine z_get (A d0) hZ (ci := 5) (j := 27) ho_x0.1 ho_x0.2 (by decide) (by decide) k_fl_RX5_97 (v := .ref (base + 85)) (zv_fin (zf5 ho_x0 rfl) rfl) dX5_replace_28 ?_
      refine lv_iload hx hb dX5_replace_31 (lv_at hl 7 rfl) ?_
      refine lv_aload_n hx hb dX5_replace_33 rfl (lv_at hl 1 rfl) ?_
      refine z_get (A d0) hZ (ci := 5) (j := 12) ho_x0.1 ho_x0.2 (by decide) (by decide) k_fl_RX5_49 (v := .ref (base + 74)) (zv_fin (zf5 ho_x0 rfl) rfl) dX5_replace_34 ?_
      refine lv_iload hx hb dX5_replace_37 (lv_at hl 0 rfl) ?_
      obtain ⟨hin, h⟩ := h
      refine z_iald (A d0) hZ (isA_c (a := 74) hZ.k0 (by decide) rfl) hin dX5_replace_39 ?_
      obtain ⟨hin, h⟩ := h
      obtain ⟨M2, eM2⟩ : ∃ y : Mem, y = sI M 85 x6.toNatClampNeg (mI M 74 i1.toNatClampNeg) := ⟨_, rfl⟩
      refine z_iast (A d0) hZ (isA_c (a := 85) hZ.k0 (by decide) rfl) hin dX5_replace_40 (fun H locs hZ => ?_)
      rw [← eM2] at hZ
      have hm : mz M2 = mz M := by rw [eM2] <;> rfl
      have ho_x0 := isO_le (Nat.le_of_eq hm.symm) ho_x0
      replace h := h M2 eM2
      refine lv_aload_n hx hb dX5_replace_41 rfl (lv_at hl 1 rfl) ?_
      refine z_get (A d0) hZ (ci := 5) (j := 28) ho_x0.1 ho_x0.2 (by decide) (by decide) k_fl_RX5_100 (v := .ref (base + 86)) (zv_fin (zf5 ho_x0 rfl) rfl) dX5_replace_42 ?_
      refine lv_iload hx hb dX5_replace_45 (lv_at hl 7 rfl) ?_
      refine lv_aload_n hx hb dX5_replace_47 rfl (lv_at hl 1 rfl) ?_
      refine z_get (A d0) hZ (ci := 5) (j := 14) ho_x0.1 ho_x0.2 (by decide) (by decide) k_fl_RX5_55 (v := .ref (base + 76)) (zv_fin (zf5 ho_x0 rfl) rfl) dX5_replace_48 ?_
      refine lv_iload hx hb dX5_replace_51 (lv_at hl 0 rfl) ?_
      obtain ⟨hin, h⟩ := h
      refine z_iald (A d0) hZ (isA_c (a := 76) hZ.k0 (by decide) rfl) hin dX5_replace_53 ?_
      obtain ⟨hin, h⟩ := h
      obtain ⟨M3, eM3⟩ : ∃ y : Mem, y = sI M2 86 x6.toNatClampNeg (mI M2 76 i1.toNatClampNeg) := ⟨_, rfl⟩
      refine z_iast (A d0) hZ (isA_c (a := 86) hZ.k0 (by decide) rfl) hin dX5_replace_54 (fun H locs hZ => ?_)
      rw [← eM3] at hZ
      have hm : mz M3 = mz M2 := by rw [eM3] <;> rfl
      have ho_x0 := isO_le (Nat.le_of_eq hm.symm) ho_x0
      replace h := h M3 eM3
      refine lv_aload_n hx hb dX5_replace_55 rfl (lv_at hl 1 rfl) ?_
      refine z_get (A d0) hZ (ci := 5) (j := 29) ho_x0.1 ho_x0.2 (by decide) (by decide) k_fl_RX5_103 (v := .ref (base + 87)) (zv_fin (zf5 ho_x0 rfl) rfl) dX5_replace_56 ?_
      refine lv_iload hx hb dX5_replace_59 (lv_at hl 7 rfl) ?_
      refine lv_aload_n hx hb dX5_replace_61 rfl (lv_at hl 1 rfl) ?_
      refine z_get (A d0) hZ (ci := 5) (j := 15) ho_x0.1 ho_x0.2 (by decide) (by decide) k_fl_RX5_58 (v := .ref (base + 77)) (zv_fin (zf5 ho_x0 rfl) rfl) dX5_replace_62 ?_
      refine lv_iload hx hb dX5_replace_65 (lv_at hl 0 rfl) ?_
      obtain ⟨hin, h⟩ := h
      refine z_iald (A d0) hZ (isA_c (a := 77) hZ.k0 (by decide) rfl) hin dX5_replace_67 ?_
      obtain ⟨hin, h⟩ := h
      obtain ⟨M4, eM4⟩ : ∃ y : Mem, y = sI M3 87 x6.toNatClampNeg (mI M3 77 i1.toNatClampNeg) := ⟨_, rfl⟩
      refine z_iast (A d0) hZ (isA_c (a := 87) hZ.k0 (by decide) rfl) hin dX5_replace_68 (fun H locs hZ => ?_)
      rw [← eM4] at hZ
      have hm : mz M4 = mz M3 := by rw [eM4] <;> rfl
      have ho_x0 := isO_le (Nat.le_of_eq hm.symm) ho_x0
      replace h := h M4 eM4
      refine lv_aload_n hx hb dX5_replace_69 rfl (lv_at hl 1 rfl) ?_
      refine z_get (A d0) hZ (ci := 5) (j := 30) ho_x0.1 ho_x0.2 (by decide) (by decide) k_fl_RX5_106 (v := .ref (base + 88)) (zv_fin (zf5 ho_x0 rfl) rfl) dX5_replace_70 ?_
      refine lv_iload hx hb dX5_replace_73 (lv_at hl 7 rfl) ?_
      refine lv_aload_n hx hb dX5_replace_75 rfl (lv_at hl 1 rfl) ?_
      refine z_get (A d0) hZ (ci := 5) (j := 16) ho_x0.1 ho_x0.2 (by decide) (by decide) k_fl_RX5_61 (v := .ref (base + 78)) (zv_fin (zf5 ho_x0 rfl) rfl) dX5_replace_76 ?_
      refine lv_iload hx hb dX5_replace_79 (lv_at hl 0 rfl) ?_
      obtain ⟨hin, h⟩ := h
      refine z_iald (A d0) hZ (isA_c (a := 78) hZ.k0 (by decide) rfl) hin dX5_replace_81 ?_
      obtain ⟨hin, h⟩ := h
      obtain ⟨M5, eM5⟩ : ∃ y : Mem, y = sI M4 88 x6.toNatClampNeg (mI M4 78 i1.toNatClampNeg) := ⟨_, rfl⟩
      refine z_iast (A d0) hZ (isA_c (a := 88) hZ.k0 (by decide) rfl) hin dX5_replace_82 (fun H locs hZ => ?_)
      rw [← eM5] at hZ
      have hm : mz M5 = mz M4 := by rw [eM5] <;> rfl
      have ho_x0 := isO_le (Nat.le_of_eq hm.symm) ho_x0
      replace h := h M5 eM5
      refine lv_aload_n hx hb dX5_replace_83 rfl (lv_at hl 1 rfl) ?_
      refine z_get (A d0) hZ (ci := 5) (j := 31) ho_x0.1 ho_x0.2 (by decide) (by decide) k_fl_RX5_109 (v := .ref (base + 89)) (zv_fin (zf5 ho_x0 rfl) rfl) dX5_replace_84 ?_
      refine lv_iload hx hb dX5_replace_87 (lv_at hl 7 rfl) ?_
      refine lv_aload_n hx hb dX5_replace_89 rfl (lv_at hl 1 rfl) ?_
      refine z_get (A d0) hZ (ci := 5) (j := 17) ho_x0.1 ho_x0.2 (by decide) (by decide) k_fl_RX5_64 (v := .ref (base + 79)) (zv_fin (zf5 ho_x0 rfl) rfl) dX5_replace_90 ?_
      refine lv_iload hx hb dX5_replace_93 (lv_at hl 0 rfl) ?_
      obtain ⟨hin, h⟩ := h
      refine z_lald (A d0) hZ (isA_c (a := 79) hZ.k0 (by decide) rfl) hin dX5_replace_95 ?_
      obtain ⟨hin, h⟩ := h
      obtain ⟨M6, eM6⟩ : ∃ y : Mem, y = sL M5 89 x6.toNatClampNeg (mL M5 79 i1.toNatClampNeg) := ⟨_, rfl⟩
      refine z_last (A d0) hZ (isA_c (a := 89) hZ.k0 (by decide) rfl) hin dX5_replace_96 (fun H locs hZ => ?_)
      rw [← eM6] at hZ
      have hm : mz M6 = mz M5 := by rw [eM6] <;> rfl
      have ho_x0 := isO_le (Nat.le_of_eq hm.symm) ho_x0
      replace h := h M6 eM6
      refine lv_aload_n hx hb dX5_replace_97 rfl (lv_at hl 1 rfl) ?_
      refine z_get (A d0) hZ (ci := 5) (j := 32) ho_x0.1 ho_x0.2 (by decide) (by decide) k_fl_RX5_112 (v := .ref (base + 90)) (zv_fin (zf5 ho_x0 rfl) rfl) dX5_replace_98 ?_
      refine lv_iload hx hb dX5_replace_101 (lv_at hl 7 rfl) ?_
      refine lv_aload_n hx hb dX5_replace_103 rfl (lv_at hl 1 rfl) ?_
      refine z_get (A d0) hZ (ci := 5) (j := 18) ho_x0.1 ho_x0.2 (by decide) (by decide) k_fl_RX5_67 (v := .ref (base + 80)) (zv_fin (zf5 ho_x0 rfl) rfl) dX5_replace_104 ?_
      refine lv_iload hx hb dX5_replace_107 (lv_at hl 0 rfl) ?_
      obtain ⟨hin, h⟩ := h
      refine z_lald (A d0) hZ (isA_c (a := 80) hZ.k0 (by decide) rfl) hin dX5_replace_109 ?_
      obtain ⟨hin, h⟩ := h
      obtain ⟨M7, eM7⟩ : ∃ y : Mem, y = sL M6 90 x6.toNatClampNeg (mL M6 80 i1.toNatClampNeg) := ⟨_, rfl⟩
      refine z_last (A d0) hZ (isA_c (a := 90) hZ.k0 (by decide) rfl) hin dX5_replace_110 (fun H locs hZ => ?_)
      rw [← eM7] at hZ
      have hm : mz M7 = mz M6 := by rw [eM7] <;> rfl
      have ho_x0 := isO_le (Nat.le_of_eq hm.symm) ho_x0
      replace h := h M7 eM7
      refine lv_aload_n hx hb dX5_replace_111 rfl (lv_at hl 1 rfl) ?_
      refine z_get (A d0) hZ (ci := 5) (j := 33) ho_x0.1 ho_x0.2 (by decide) (by decide) k_fl_RX5_115 (v := .ref (base + 91)) (zv_fin (zf5 ho_x0 rfl) rfl) dX5_replace_112 ?_
      refine lv_iload hx hb dX5_replace_115 (lv_at hl 7 rfl) ?_
      refine lv_aload_n hx hb dX5_replace_117 rfl (lv_at hl 1 rfl) ?_
      refine z_get (A d0) hZ (ci := 5) (j := 19) ho_x0.1 ho_x0.2 (by decide) (by decide) k_fl_RX5_70 (v := .ref (base + 81)) (zv_fin (zf5 ho_x0 rfl) rfl) dX5_replace_118 ?_
      refine lv_iload hx hb dX5_replace_121 (lv_at hl 0 rfl) ?_
      obtain ⟨hin, h⟩ := h
      refine z_lald (A d0) hZ (isA_c (a := 81) hZ.k0 (by decide) rfl) hin dX5_replace_123 ?_
      obtain ⟨hin, h⟩ := h
      obtain ⟨M8, eM8⟩ : ∃ y : Mem, y = sL M7 91 x6.toNatClampNeg (mL M7 81 i1.toNatClampNeg) := ⟨_, rfl⟩
      refine z_last (A d0) hZ (isA_c (a := 91) hZ.k0 (by decide) rfl) hin dX5_replace_124 (fun H locs hZ => ?_)
      rw [← eM8] at hZ
      have hm : mz M8 = mz M7 := by rw [eM8] <;> rfl
      have ho_x0 := isO_le (Nat.le_of_eq hm.symm) ho_x0
      replace h := h M8 eM8
      refine lv_iconst (v := (0 : Int32)) hx hb dX5_replace_125 (by decide) ?_
      refine lv_istore (lv' := [(8, .int (0 : Int32)), (7, .int i1), (0, .ref (base + x0)), (1, .int x1), (2, .int x2), (3, .int x3), (4, .int x4), (5, .int x5), (6, .int x6)]) hx hb dX5_replace_126 hl (by decide) rfl (fun ls hl2 => ?_)
      replace hl := hl2
      exact (Exists.elim h fun kk h => zb_X5_replace_128 A hr kk ho_x0 hd0 hZ (lv_sub hl [2, 3, 4, 5, 6, 7, 8, 1, 0] rfl) h (fun ho_x0 hd0 hZ hl h => (zb_X5_replace_172 A hr ho_x0 hd0 hZ hl h (fun ho_x0 hd0 hZ hl h => ih ho_x0 hd0 hZ hl h hK246) hK246)))
set_option maxRecDepth 100000 in
set_option maxHeartbeats 4000000 in
theorem zb_X5_replace_313 {p : Program} {l : Launch} {e : Env} {R : Room} {s : State} {m : MethodId} {args : Array Value} {below : List Frame} {meth : Method} {c : Code} {G : ZG} {base z0 : Nat} {Q : Mem → Prop} (A : ∀ d, Amb p R (s.setDrawn d) m args meth c G base z0 cX5_replace yX5_replace.cls 11 5 136) (hr : meth.sig.returnType = none) {K544 : Nat → Int32 → Int32 → Int32 → Mem → Prop} :
  ∀ (n : Nat) {d0 : Drawn} {H : Heap} {locs : List Loc} {cells slots : Nat} {ls : Array Slot} {x0 : Nat} {x1 : Int32} {x4 : Int32} {x5 : Int32} {x6 : Int32} {x7 : Int32} {x8 : Int32} {M : Mem} (ho_x0 : isO M x0 5) (hd0 : s.drawn.sameBut d0 lw_cs) (hZ : ZH G true base s.heap M H locs) (hl : lv_has ls 11 [(0, .ref (base + x0)), (1, .int x1), (4, .int x4), (5, .int x5), (6, .int x6), (7, .int x7), (8, .int x8)]) (h : wp_X5_replace_313 n x0 x1 x4 x5 x6 x7 x8 M Q K544) (hK544 : ∀ {d0 : Drawn} {H : Heap} {locs : List Loc} {cells slots : Nat} {ls : Array Slot} {x0 : Nat} {x1 : Int32} {x4 : Int32} {x7 : Int32} {M : Mem} (ho_x0 : isO M x0 5), s.drawn.sameBut d0 lw_cs → ZH G true base s.heap M H locs → lv_has ls 11 [(0, .ref (base + x0)), (1, .int x1), (4, .int x4), (7, .int x7)] → K544 x0 x1 x4 x7 M → W p l e R (s.setDrawn d0) m args below meth c H locs cells slots (ZEnd below G true base z0 (qV Q) args s) (F0 m 544 ls [])), W p l e R (s.setDrawn d0) m args below meth c H locs cells slots (ZEnd below G true base z0 (qV Q) args s) (F0 m 313 ls []) := by
  have hx := (A default).1
  have hb := (A default).2.1
  intro n
  induction n with
  | zero => intro d0 H locs cells slots ls x0 x1 x4 x5 x6 x7 x8 M ho_x0 hd0 hZ hl h hK544; exact h.elim
  | succ n ih =>
    intro d0 H locs cells slots ls x0 x1 x4 x5 x6 x7 x8 M ho_x0 hd0 hZ hl h hK544
    unfold wp_X5_replace_313 at h
    refine lv_iload hx hb dX5_replace_313 (lv_at hl 6 rfl) ?_
    refine lv_iload hx hb dX5_replace_315 (lv_at hl 2 rfl) ?_
    refine lv_icmp_ge (tgt := 544) hx hb dX5_replace_317 (by decide) (fun hc => ?_) (fun hc => ?_)
    · replace h := h.1 hc
      exact hK544 ho_x0 hd0 hZ (lv_sub hl [0, 1, 2, 5] rfl) h
    · replace h := h.2 hc
      refine lv_iload_n hx hb dX5_replace_320 rfl (lv_at hl 1 rfl) ?_
      refine lv_iload hx hb dX5_replace_321 (lv_at hl 5 rfl) ?_
      refine lv_iadd hx hb dX5_replace_323 ?_
      refine lv_iload hx hb dX5_replace_324 (lv_at hl 6 rfl) ?_
      refine lv_iadd hx hb dX5_replace_326 ?_
      obtain ⟨i20, ei20⟩ : ∃ y : Int32, y = (x1 + x7) + x8 := ⟨_, rfl⟩
      rw [← ei20]
      replace h := h i20 ei20
      refine lv_istore (lv' := [(9, .int i20), (0, .ref (base + x0)), (1, .int x1), (4, .int x4), (5, .int x5), (6, .int x6), (7, .int x7), (8, .int x8)]) hx hb dX5_replace_327 hl (by decide) rfl (fun ls hl2 => ?_)
      replace hl := hl2
      refine lv_aload_n hx hb dX5_replace_329 rfl (lv_at hl 1 rfl) ?_
      refine z_get (A d0) hZ (ci := 5) (j := 12) ho_x0.1 ho_x0.2 (by decide) (by decide) k_fl_RX5_49 (v := .ref (base + 74)) (zv_fin (zf5 ho_x0 rfl) rfl) dX5_replace_330 ?_
      refine lv_iload hx hb dX5_replace_333 (lv_at hl 0 rfl) ?_
      refine lv_aload_n hx hb dX5_replace_335 rfl (lv_at hl 1 rfl) ?_
      refine z_get (A d0) hZ (ci := 5) (j := 27) ho_x0.1 ho_x0.2 (by decide) (by decide) k_fl_RX5_97 (v := .ref (base + 85)) (zv_fin (zf5 ho_x0 rfl) rfl) dX5_replace_336 ?_
      refine lv_iload hx hb dX5_replace_339 (lv_at hl 7 rfl) ?_
      obtain ⟨hin, h⟩ := h
      refine z_iald (A d0) hZ (isA_c (a := 85) hZ.k0 (by decide) rfl) hin dX5_replace_341 ?_
      obtain ⟨hin, h⟩ := h
      obtain ⟨M21, eM21⟩ : ∃ y : Mem, y = sI M 74 i20.toNatClampNeg (mI M 85 x8.toNatClampNeg) := ⟨_, rfl⟩
      refine z_iast (A d0) hZ (isA_c (a := 74) hZ.k0 (by decide) rfl) hin dX5_replace_342 (fun H locs hZ => ?_)
      rw [← eM21] at hZ
      have hm : mz M21 = mz M := by rw [eM21] <;> rfl
      have ho_x0 := isO_le (Nat.le_of_eq hm.symm) ho_x0
      replace h := h M21 eM21
      refine lv_aload_n hx hb dX5_replace_343 rfl (lv_at hl 1 rfl) ?_
      refine z_get (A d0) hZ (ci := 5) (j := 14) ho_x0.1 ho_x0.2 (by decide) (by decide) k_fl_RX5_55 (v := .ref (base + 76)) (zv_fin (zf5 ho_x0 rfl) rfl) dX5_replace_344 ?_
      refine lv_iload hx hb dX5_replace_347 (lv_at hl 0 rfl) ?_
      refine lv_aload_n hx hb dX5_replace_349 rfl (lv_at hl 1 rfl) ?_
      refine z_get (A d0) hZ (ci := 5) (j := 28) ho_x0.1 ho_x0.2 (by decide) (by decide) k_fl_RX5_100 (v := .ref (base + 86)) (zv_fin (zf5 ho_x0 rfl) rfl) dX5_replace_350 ?_
      refine lv_iload hx hb dX5_replace_353 (lv_at hl 7 rfl) ?_
      obtain ⟨hin, h⟩ := h
      refine z_iald (A d0) hZ (isA_c (a := 86) hZ.k0 (by decide) rfl) hin dX5_replace_355 ?_
      obtain ⟨hin, h⟩ := h
      obtain ⟨M22, eM22⟩ : ∃ y : Mem, y = sI M21 76 i20.toNatClampNeg (mI M21 86 x8.toNatClampNeg) := ⟨_, rfl⟩
      refine z_iast (A d0) hZ (isA_c (a := 76) hZ.k0 (by decide) rfl) hin dX5_replace_356 (fun H locs hZ => ?_)
      rw [← eM22] at hZ
      have hm : mz M22 = mz M21 := by rw [eM22] <;> rfl
      have ho_x0 := isO_le (Nat.le_of_eq hm.symm) ho_x0
      replace h := h M22 eM22
      refine lv_aload_n hx hb dX5_replace_357 rfl (lv_at hl 1 rfl) ?_
      refine z_get (A d0) hZ (ci := 5) (j := 15) ho_x0.1 ho_x0.2 (by decide) (by decide) k_fl_RX5_58 (v := .ref (base + 77)) (zv_fin (zf5 ho_x0 rfl) rfl) dX5_replace_358 ?_
      refine lv_iload hx hb dX5_replace_361 (lv_at hl 0 rfl) ?_
      refine lv_aload_n hx hb dX5_replace_363 rfl (lv_at hl 1 rfl) ?_
      refine z_get (A d0) hZ (ci := 5) (j := 29) ho_x0.1 ho_x0.2 (by decide) (by decide) k_fl_RX5_103 (v := .ref (base + 87)) (zv_fin (zf5 ho_x0 rfl) rfl) dX5_replace_364 ?_
      refine lv_iload hx hb dX5_replace_367 (lv_at hl 7 rfl) ?_
      obtain ⟨hin, h⟩ := h
      refine z_iald (A d0) hZ (isA_c (a := 87) hZ.k0 (by decide) rfl) hin dX5_replace_369 ?_
      obtain ⟨hin, h⟩ := h
      obtain ⟨M23, eM23⟩ : ∃ y : Mem, y = sI M22 77 i20.toNatClampNeg (mI M22 87 x8.toNatClampNeg) := ⟨_, rfl⟩
      refine z_iast (A d0) hZ (isA_c (a := 77) hZ.k0 (by decide) rfl) hin dX5_replace_370 (fun H locs hZ => ?_)
      rw [← eM23] at hZ
      have hm : mz M23 = mz M22 := by rw [eM23] <;> rfl
      have ho_x0 := isO_le (Nat.le_of_eq hm.symm) ho_x0
      replace h := h M23 eM23
      refine lv_aload_n hx hb dX5_replace_371 rfl (lv_at hl 1 rfl) ?_
      refine z_get (A d0) hZ (ci := 5) (j := 16) ho_x0.1 ho_x0.2 (by decide) (by decide) k_fl_RX5_61 (v := .ref (base + 78)) (zv_fin (zf5 ho_x0 rfl) rfl) dX5_replace_372 ?_
      refine lv_iload hx hb dX5_replace_375 (lv_at hl 0 rfl) ?_
      refine lv_aload_n hx hb dX5_replace_377 rfl (lv_at hl 1 rfl) ?_
      refine z_get (A d0) hZ (ci := 5) (j := 30) ho_x0.1 ho_x0.2 (by decide) (by decide) k_fl_RX5_106 (v := .ref (base + 88)) (zv_fin (zf5 ho_x0 rfl) rfl) dX5_replace_378 ?_
      refine lv_iload hx hb dX5_replace_381 (lv_at hl 7 rfl) ?_
      obtain ⟨hin, h⟩ := h
      refine z_iald (A d0) hZ (isA_c (a := 88) hZ.k0 (by decide) rfl) hin dX5_replace_383 ?_
      obtain ⟨hin, h⟩ := h
      obtain ⟨M24, eM24⟩ : ∃ y : Mem, y = sI M23 78 i20.toNatClampNeg (mI M23 88 x8.toNatClampNeg) := ⟨_, rfl⟩
      refine z_iast (A d0) hZ (isA_c (a := 78) hZ.k0 (by decide) rfl) hin dX5_replace_384 (fun H locs hZ => ?_)
      rw [← eM24] at hZ
      have hm : mz M24 = mz M23 := by rw [eM24] <;> rfl
      have ho_x0 := isO_le (Nat.le_of_eq hm.symm) ho_x0
      replace h := h M24 eM24
      refine lv_aload_n hx hb dX5_replace_385 rfl (lv_at hl 1 rfl) ?_
      refine z_get (A d0) hZ (ci := 5) (j := 17) ho_x0.1 ho_x0.2 (by decide) (by decide) k_fl_RX5_64 (v := .ref (base + 79)) (zv_fin (zf5 ho_x0 rfl) rfl) dX5_replace_386 ?_
      refine lv_iload hx hb dX5_replace_389 (lv_at hl 0 rfl) ?_
      refine lv_aload_n hx hb dX5_replace_391 rfl (lv_at hl 1 rfl) ?_
      refine z_get (A d0) hZ (ci := 5) (j := 31) ho_x0.1 ho_x0.2 (by decide) (by decide) k_fl_RX5_109 (v := .ref (base + 89)) (zv_fin (zf5 ho_x0 rfl) rfl) dX5_replace_392 ?_
      refine lv_iload hx hb dX5_replace_395 (lv_at hl 7 rfl) ?_
      obtain ⟨hin, h⟩ := h
      refine z_lald (A d0) hZ (isA_c (a := 89) hZ.k0 (by decide) rfl) hin dX5_replace_397 ?_
      obtain ⟨hin, h⟩ := h
      obtain ⟨M25, eM25⟩ : ∃ y : Mem, y = sL M24 79 i20.toNatClampNeg (mL M24 89 x8.toNatClampNeg) := ⟨_, rfl⟩
      refine z_last (A d0) hZ (isA_c (a := 79) hZ.k0 (by decide) rfl) hin dX5_replace_398 (fun H locs hZ => ?_)
      rw [← eM25] at hZ
      have hm : mz M25 = mz M24 := by rw [eM25] <;> rfl
      have ho_x0 := isO_le (Nat.le_of_eq hm.symm) ho_x0
      replace h := h M25 eM25
      refine lv_aload_n hx hb dX5_replace_399 rfl (lv_at hl 1 rfl) ?_
      refine z_get (A d0) hZ (ci := 5) (j := 18) ho_x0.1 ho_x0.2 (by decide) (by decide) k_fl_RX5_67 (v := .ref (base + 80)) (zv_fin (zf5 ho_x0 rfl) rfl) dX5_replace_400 ?_
      refine lv_iload hx hb dX5_replace_403 (lv_at hl 0 rfl) ?_
      refine lv_aload_n hx hb dX5_replace_405 rfl (lv_at hl 1 rfl) ?_
      refine z_get (A d0) hZ (ci := 5) (j := 32) ho_x0.1 ho_x0.2 (by decide) (by decide) k_fl_RX5_112 (v := .ref (base + 90)) (zv_fin (zf5 ho_x0 rfl) rfl) dX5_replace_406 ?_
      refine lv_iload hx hb dX5_replace_409 (lv_at hl 7 rfl) ?_
      obtain ⟨hin, h⟩ := h
      refine z_lald (A d0) hZ (isA_c (a := 90) hZ.k0 (by decide) rfl) hin dX5_replace_411 ?_
      obtain ⟨hin, h⟩ := h
      obtain ⟨M26, eM26⟩ : ∃ y : Mem, y = sL M25 80 i20.toNatClampNeg (mL M25 90 x8.toNatClampNeg) := ⟨_, rfl⟩
      refine z_last (A d0) hZ (isA_c (a := 80) hZ.k0 (by decide) rfl) hin dX5_replace_412 (fun H locs hZ => ?_)
      rw [← eM26] at hZ
      have hm : mz M26 = mz M25 := by rw [eM26] <;> rfl
      have ho_x0 := isO_le (Nat.le_of_eq hm.symm) ho_x0
      replace h := h M26 eM26
      refine lv_aload_n hx hb dX5_replace_413 rfl (lv_at hl 1 rfl) ?_
      refine z_get (A d0) hZ (ci := 5) (j := 19) ho_x0.1 ho_x0.2 (by decide) (by decide) k_fl_RX5_70 (v := .ref (base + 81)) (zv_fin (zf5 ho_x0 rfl) rfl) dX5_replace_414 ?_
      refine lv_iload hx hb dX5_replace_417 (lv_at hl 0 rfl) ?_
      refine lv_aload_n hx hb dX5_replace_419 rfl (lv_at hl 1 rfl) ?_
      refine z_get (A d0) hZ (ci := 5) (j := 33) ho_x0.1 ho_x0.2 (by decide) (by decide) k_fl_RX5_115 (v := .ref (base + 91)) (zv_fin (zf5 ho_x0 rfl) rfl) dX5_replace_420 ?_
      refine lv_iload hx hb dX5_replace_423 (lv_at hl 7 rfl) ?_
      obtain ⟨hin, h⟩ := h
      refine z_lald (A d0) hZ (isA_c (a := 91) hZ.k0 (by decide) rfl) hin dX5_replace_425 ?_
      obtain ⟨hin, h⟩ := h
      obtain ⟨M27, eM27⟩ : ∃ y : Mem, y = sL M26 81 i20.toNatClampNeg (mL M26 91 x8.toNatClampNeg) := ⟨_, rfl⟩
      refine z_last (A d0) hZ (isA_c (a := 81) hZ.k0 (by decide) rfl) hin dX5_replace_426 (fun H locs hZ => ?_)
      rw [← eM27] at hZ
      have hm : mz M27 = mz M26 := by rw [eM27] <;> rfl
      have ho_x0 := isO_le (Nat.le_of_eq hm.symm) ho_x0
      replace h := h M27 eM27
      refine lv_aload_n hx hb dX5_replace_427 rfl (lv_at hl 1 rfl) ?_
      refine z_get (A d0) hZ (ci := 5) (j := 13) ho_x0.1 ho_x0.2 (by decide) (by decide) k_fl_RX5_52 (v := .ref (base + 75)) (zv_fin (zf5 ho_x0 rfl) rfl) dX5_replace_428 ?_
      refine lv_iload hx hb dX5_replace_431 (lv_at hl 0 rfl) ?_
      refine lv_iload hx hb dX5_replace_433 (lv_at hl 5 rfl) ?_
      obtain ⟨hin, h⟩ := h
      obtain ⟨M28, eM28⟩ : ∃ y : Mem, y = sI M27 75 i20.toNatClampNeg x6 := ⟨_, rfl⟩
      refine z_iast (A d0) hZ (isA_c (a := 75) hZ.k0 (by decide) rfl) hin dX5_replace_435 (fun H locs hZ => ?_)
      rw [← eM28] at hZ
      have hm : mz M28 = mz M27 := by rw [eM28] <;> rfl
      have ho_x0 := isO_le (Nat.le_of_eq hm.symm) ho_x0
      replace h := h M28 eM28
      refine lv_iconst (v := (0 : Int32)) hx hb dX5_replace_436 (by decide) ?_
      refine lv_istore (lv' := [(10, .int (0 : Int32)), (9, .int i20), (0, .ref (base + x0)), (1, .int x1), (4, .int x4), (5, .int x5), (6, .int x6), (7, .int x7), (8, .int x8)]) hx hb dX5_replace_437 hl (by decide) rfl (fun ls hl2 => ?_)
      replace hl := hl2
      exact (Exists.elim h fun kk h => zb_X5_replace_439 A hr kk ho_x0 hd0 hZ (lv_sub hl [2, 3, 4, 5, 6, 7, 8, 1, 0] rfl) h (fun ho_x0 hd0 hZ hl h => (zb_X5_replace_483 A hr ho_x0 hd0 hZ hl h (fun ho_x0 hd0 hZ hl h => ih ho_x0 hd0 hZ hl h hK544) hK544)))
set_option maxRecDepth 100000 in
set_option maxHeartbeats 4000000 in
theorem zb_X5_replace_544 {p : Program} {l : Launch} {e : Env} {R : Room} {s : State} {m : MethodId} {args : Array Value} {below : List Frame} {meth : Method} {c : Code} {G : ZG} {base z0 : Nat} {Q : Mem → Prop} (A : ∀ d, Amb p R (s.setDrawn d) m args meth c G base z0 cX5_replace yX5_replace.cls 11 5 136) (hr : meth.sig.returnType = none) {d0 : Drawn} {H : Heap} {locs : List Loc} {cells slots : Nat} {ls : Array Slot} {x0 : Nat} {x1 : Int32} {x4 : Int32} {x7 : Int32} {M : Mem} (ho_x0 : isO M x0 5) (hd0 : s.drawn.sameBut d0 lw_cs) (hZ : ZH G true base s.heap M H locs) (hl : lv_has ls 11 [(0, .ref (base + x0)), (1, .int x1), (4, .int x4), (7, .int x7)]) (h : wp_X5_replace_544 x0 x1 x4 x7 M Q) : W p l e R (s.setDrawn d0) m args below meth c H locs cells slots (ZEnd below G true base z0 (qV Q) args s) (F0 m 544 ls []) := by
  have hx := (A d0).1
  have hb := (A d0).2.1
  unfold wp_X5_replace_544 at h
  refine lv_aload_n hx hb dX5_replace_544 rfl (lv_at hl 0 rfl) ?_
  refine z_get (A d0) hZ (ci := 5) (j := 10) ho_x0.1 ho_x0.2 (by decide) (by decide) k_fl_RX5_42 (v := .ref (base + 72)) (zv_fin (zf5 ho_x0 rfl) rfl) dX5_replace_545 ?_
  refine lv_iconst (v := (0 : Int32)) hx hb dX5_replace_548 (by decide) ?_
  refine lv_iconst (v := (0 : Int32)) hx hb dX5_replace_549 (by decide) ?_
  obtain ⟨hin, h⟩ := h
  obtain ⟨M37, eM37⟩ : ∃ y : Mem, y = sI M 72 (0 : Int32).toNatClampNeg (0 : Int32) := ⟨_, rfl⟩
  refine z_iast (A d0) hZ (isA_c (a := 72) hZ.k0 (by decide) rfl) hin dX5_replace_550 (fun H locs hZ => ?_)
  rw [← eM37] at hZ
  have hm : mz M37 = mz M := by rw [eM37] <;> rfl
  have ho_x0 := isO_le (Nat.le_of_eq hm.symm) ho_x0
  replace h := h M37 eM37
  refine lv_aload_n hx hb dX5_replace_551 rfl (lv_at hl 0 rfl) ?_
  refine z_get (A d0) hZ (ci := 5) (j := 11) ho_x0.1 ho_x0.2 (by decide) (by decide) k_fl_RX5_46 (v := .ref (base + 73)) (zv_fin (zf5 ho_x0 rfl) rfl) dX5_replace_552 ?_
  refine lv_iconst (v := (0 : Int32)) hx hb dX5_replace_555 (by decide) ?_
  refine lv_iload_n hx hb dX5_replace_556 rfl (lv_at hl 1 rfl) ?_
  refine lv_iload hx hb dX5_replace_557 (lv_at hl 3 rfl) ?_
  refine lv_iadd hx hb dX5_replace_559 ?_
  refine lv_iload hx hb dX5_replace_560 (lv_at hl 2 rfl) ?_
  refine lv_iadd hx hb dX5_replace_562 ?_
  obtain ⟨hin, h⟩ := h
  obtain ⟨M38, eM38⟩ : ∃ y : Mem, y = sI M37 73 (0 : Int32).toNatClampNeg ((x1 + x7) + x4) := ⟨_, rfl⟩
  refine z_iast (A d0) hZ (isA_c (a := 73) hZ.k0 (by decide) rfl) hin dX5_replace_563 (fun H locs hZ => ?_)
  rw [← eM38] at hZ
  have hm : mz M38 = mz M37 := by rw [eM38] <;> rfl
  have ho_x0 := isO_le (Nat.le_of_eq hm.symm) ho_x0
  replace h := h M38 eM38
  refine lv_aload_n hx hb dX5_replace_564 rfl (lv_at hl 0 rfl) ?_
  refine lv_aload_n hx hb dX5_replace_565 rfl (lv_at hl 0 rfl) ?_
  refine z_callV A hd0 hZ (ci := 5) (nA := 0) (As := []) (by decide) ho_x0 (c_X5_pieces l G base M38 x0 _ h) k_ml_RX5_213 k_im_yX5_pieces k_se_yX5_pieces k_in_RX5 k_co_yX5_pieces (by decide +kernel) ⟨by decide, by decide⟩ rfl rfl (Nat.le_of_ble_eq_true rfl) hl dX5_replace_566 (fun v M39 H locs d0 cells slots hq hd0 hZ hm => ?_)
  clear h
  obtain ⟨i40, rfl, h⟩ := hq
  have ho_x0 := isO_le hm ho_x0
  refine lv_if_le (tgt := 576) hx hb dX5_replace_569 (by decide) (fun hc => ?_) (fun hc => ?_)
  · replace h := h.1 hc
    refine lv_iconst (v := (0 : Int32)) hx hb dX5_replace_576 (by decide) ?_
    exact (zb_X5_replace_577 A hr ho_x0 ho_x0 hd0 hZ (lv_sub hl [0] rfl) h)
  · replace h := h.2 hc
    refine lv_iconst (v := (1 : Int32)) hx hb dX5_replace_572 (by decide) ?_
    refine lv_goto (tgt := 577) hx hb dX5_replace_573 (by decide) ?_
    exact (zb_X5_replace_577 A hr ho_x0 ho_x0 hd0 hZ (lv_sub hl [0] rfl) h)
set_option maxRecDepth 100000 in
set_option maxHeartbeats 4000000 in
theorem zb_X5_replace_271 {p : Program} {l : Launch} {e : Env} {R : Room} {s : State} {m : MethodId} {args : Array Value} {below : List Frame} {meth : Method} {c : Code} {G : ZG} {base z0 : Nat} {Q : Mem → Prop} (A : ∀ d, Amb p R (s.setDrawn d) m args meth c G base z0 cX5_replace yX5_replace.cls 11 5 136) (hr : meth.sig.returnType = none) {d0 : Drawn} {H : Heap} {locs : List Loc} {cells slots : Nat} {ls : Array Slot} {x0 : Nat} {x1 : Int32} {x3 : Int32} {x4 : Int32} {t0 : Int32} {M : Mem} (ho_x0 : isO M x0 5) (hd0 : s.drawn.sameBut d0 lw_cs) (hZ : ZH G true base s.heap M H locs) (hl : lv_has ls 11 [(0, .ref (base + x0)), (1, .int x1), (3, .int x3), (4, .int x4)]) (h : wp_X5_replace_271 x0 x1 x3 x4 t0 M Q) : W p l e R (s.setDrawn d0) m args below meth c H locs cells slots (ZEnd below G true base z0 (qV Q) args s) (F0 m 271 ls [.int t0]) := by
  have hx := (A d0).1
  have hb := (A d0).2.1
  unfold wp_X5_replace_271 at h
  refine lv_istore (lv' := [(6, .int t0), (0, .ref (base + x0)), (1, .int x1), (3, .int x3), (4, .int x4)]) hx hb dX5_replace_271 hl (by decide) rfl (fun ls hl2 => ?_)
  replace hl := hl2
  refine lv_aload_n hx hb dX5_replace_273 rfl (lv_at hl 1 rfl) ?_
  refine lv_aload_n hx hb dX5_replace_274 rfl (lv_at hl 1 rfl) ?_
  refine z_get (A d0) hZ (ci := 5) (j := 26) ho_x0.1 ho_x0.2 (by decide) (by decide) k_fl_RX5_94 (v := .int (mI M x0 26)) rfl dX5_replace_275 ?_
  refine lv_iload_n hx hb dX5_replace_278 rfl (lv_at hl 2 rfl) ?_
  refine lv_iload hx hb dX5_replace_279 (lv_at hl 0 rfl) ?_
  refine lv_iload_n hx hb dX5_replace_281 rfl (lv_at hl 3 rfl) ?_
  refine z_callV A hd0 hZ (ci := 5) (nA := 4) (As := [.int (mI M x0 26), .int x1, .int t0, .int x3]) (by decide) ho_x0 (c_X5_make l G base M x0 (mI M x0 26) x1 t0 x3 _ h) k_ml_RX5_205 k_im_yX5_make k_se_yX5_make k_in_RX5 k_co_yX5_make (by decide +kernel) ⟨by decide, by decide⟩ rfl rfl (Nat.le_of_ble_eq_true rfl) hl dX5_replace_282 (fun v M16 H locs d0 cells slots hq hd0 hZ hm => ?_)
  clear h
  obtain ⟨i17, rfl, h⟩ := hq
  have ho_x0 := isO_le hm ho_x0
  refine lv_istore (lv' := [(7, .int i17), (6, .int t0), (0, .ref (base + x0)), (1, .int x1), (3, .int x3), (4, .int x4)]) hx hb dX5_replace_285 hl (by decide) rfl (fun ls hl2 => ?_)
  replace hl := hl2
  refine lv_aload_n hx hb dX5_replace_287 rfl (lv_at hl 2 rfl) ?_
  refine lv_dup hx hb dX5_replace_288 rfl ?_
  refine z_get (A d0) hZ (ci := 5) (j := 24) ho_x0.1 ho_x0.2 (by decide) (by decide) k_fl_RX5_88 (v := .int (mI M16 x0 24)) rfl dX5_replace_289 ?_
  refine lv_iload hx hb dX5_replace_292 (lv_at hl 0 rfl) ?_
  refine lv_iadd hx hb dX5_replace_294 ?_
  obtain ⟨M18, eM18⟩ : ∃ y : Mem, y = sI M16 x0 24 ((mI M16 x0 24) + i17) := ⟨_, rfl⟩
  refine z_put (A d0) hZ (ci := 5) (j := 24) (M' := M18) ho_x0.1 ho_x0.2 (by decide) (by decide) k_fl_RX5_88 rfl (by rw [eM18]; exact zUpd_I) rfl rfl dX5_replace_295 (fun H locs hZ => ?_)
  have hm : mz M18 = mz M16 := by rw [eM18] <;> rfl
  have ho_x0 := isO_le (Nat.le_of_eq hm.symm) ho_x0
  replace h := h M18 eM18
  refine lv_iload hx hb dX5_replace_298 (lv_at hl 1 rfl) ?_
  refine lv_aload_n hx hb dX5_replace_300 rfl (lv_at hl 2 rfl) ?_
  refine z_get (A d0) hZ (ci := 5) (j := 26) ho_x0.1 ho_x0.2 (by decide) (by decide) k_fl_RX5_94 (v := .int (mI M18 x0 26)) rfl dX5_replace_301 ?_
  refine lv_iadd hx hb dX5_replace_304 ?_
  obtain ⟨i19, ei19⟩ : ∃ y : Int32, y = t0 + (mI M18 x0 26) := ⟨_, rfl⟩
  rw [← ei19]
  replace h := h i19 ei19
  refine lv_istore (lv' := [(6, .int i19), (7, .int i17), (0, .ref (base + x0)), (1, .int x1), (3, .int x3), (4, .int x4)]) hx hb dX5_replace_305 hl (by decide) rfl (fun ls hl2 => ?_)
  replace hl := hl2
  refine lv_iconst (v := (0 : Int32)) hx hb dX5_replace_307 (by decide) ?_
  refine lv_istore (lv' := [(5, .int (0 : Int32)), (6, .int i19), (7, .int i17), (0, .ref (base + x0)), (1, .int x1), (3, .int x3), (4, .int x4)]) hx hb dX5_replace_308 hl (by decide) rfl (fun ls hl2 => ?_)
  replace hl := hl2
  refine lv_iconst (v := (0 : Int32)) hx hb dX5_replace_310 (by decide) ?_
  refine lv_istore (lv' := [(8, .int (0 : Int32)), (5, .int (0 : Int32)), (6, .int i19), (7, .int i17), (0, .ref (base + x0)), (1, .int x1), (3, .int x3), (4, .int x4)]) hx hb dX5_replace_311 hl (by decide) rfl (fun ls hl2 => ?_)
  replace hl := hl2
  exact (Exists.elim h fun kk h => zb_X5_replace_313 A hr kk ho_x0 hd0 hZ (lv_sub hl [4, 5, 7, 1, 2, 3, 0] rfl) h (fun ho_x0 hd0 hZ hl h => (zb_X5_replace_544 A hr ho_x0 hd0 hZ hl h)))
set_option maxRecDepth 100000 in
set_option maxHeartbeats 4000000 in
theorem zb_X5_replace_246 {p : Program} {l : Launch} {e : Env} {R : Room} {s : State} {m : MethodId} {args : Array Value} {below : List Frame} {meth : Method} {c : Code} {G : ZG} {base z0 : Nat} {Q : Mem → Prop} (A : ∀ d, Amb p R (s.setDrawn d) m args meth c G base z0 cX5_replace yX5_replace.cls 11 5 136) (hr : meth.sig.returnType = none) {d0 : Drawn} {H : Heap} {locs : List Loc} {cells slots : Nat} {ls : Array Slot} {x0 : Nat} {x1 : Int32} {x3 : Int32} {x4 : Int32} {M : Mem} (ho_x0 : isO M x0 5) (hd0 : s.drawn.sameBut d0 lw_cs) (hZ : ZH G true base s.heap M H locs) (hl : lv_has ls 11 [(0, .ref (base + x0)), (1, .int x1), (3, .int x3), (4, .int x4)]) (h : wp_X5_replace_246 x0 x1 x3 x4 M Q) : W p l e R (s.setDrawn d0) m args below meth c H locs cells slots (ZEnd below G true base z0 (qV Q) args s) (F0 m 246 ls []) := by
  have hx := (A d0).1
  have hb := (A d0).2.1
  unfold wp_X5_replace_246 at h
  refine lv_iload_n hx hb dX5_replace_246 rfl (lv_at hl 1 rfl) ?_
  refine lv_if_ne (tgt := 254) hx hb dX5_replace_247 (by decide) (fun hc => ?_) (fun hc => ?_)
  · replace h := h.1 hc
    refine lv_aload_n hx hb dX5_replace_254 rfl (lv_at hl 0 rfl) ?_
    refine z_get (A d0) hZ (ci := 5) (j := 13) ho_x0.1 ho_x0.2 (by decide) (by decide) k_fl_RX5_52 (v := .ref (base + 75)) (zv_fin (zf5 ho_x0 rfl) rfl) dX5_replace_255 ?_
    refine lv_iload_n hx hb dX5_replace_258 rfl (lv_at hl 1 rfl) ?_
    refine lv_iconst (v := (1 : Int32)) hx hb dX5_replace_259 (by decide) ?_
    refine lv_isub hx hb dX5_replace_260 ?_
    obtain ⟨hin, h⟩ := h
    refine z_iald (A d0) hZ (isA_c (a := 75) hZ.k0 (by decide) rfl) hin dX5_replace_261 ?_
    refine lv_aload_n hx hb dX5_replace_262 rfl (lv_at hl 0 rfl) ?_
    refine z_get (A d0) hZ (ci := 5) (j := 14) ho_x0.1 ho_x0.2 (by decide) (by decide) k_fl_RX5_55 (v := .ref (base + 76)) (zv_fin (zf5 ho_x0 rfl) rfl) dX5_replace_263 ?_
    refine lv_iload_n hx hb dX5_replace_266 rfl (lv_at hl 1 rfl) ?_
    refine lv_iconst (v := (1 : Int32)) hx hb dX5_replace_267 (by decide) ?_
    refine lv_isub hx hb dX5_replace_268 ?_
    obtain ⟨hin, h⟩ := h
    refine z_iald (A d0) hZ (isA_c (a := 76) hZ.k0 (by decide) rfl) hin dX5_replace_269 ?_
    refine lv_iadd hx hb dX5_replace_270 ?_
    exact (zb_X5_replace_271 A hr ho_x0 hd0 hZ (lv_sub hl [0, 1, 2, 3] rfl) h)
  · replace h := h.2 hc
    refine lv_iconst (v := (0 : Int32)) hx hb dX5_replace_250 (by decide) ?_
    refine lv_goto (tgt := 271) hx hb dX5_replace_251 (by decide) ?_
    exact (zb_X5_replace_271 A hr ho_x0 hd0 hZ (lv_sub hl [0, 1, 2, 3] rfl) h)
set_option maxRecDepth 100000 in
set_option maxHeartbeats 4000000 in
theorem c_X5_replace (l : Launch) (G : ZG) (base : Nat) (M : Mem) (x0 : Nat) (x1 : Int32) (x2 : Int32) (x3 : Int32) (Q : Mem → Prop) (h : wp_X5_replace x0 x1 x2 x3 M Q) : ZMet l yX5_replace cX5_replace 11 none 5 136 G true base M [.ref (base + x0), .int x1, .int x2, .int x3] (qV Q) := by
  refine z_start (by decide) (Nat.le_of_ble_eq_true rfl) k_co_yX5_replace ?_
  intro p e s m below meth c R d0 H locs cells slots ls A hr hn hd0 hZ hl
  have hx := (A d0).1
  have hb := (A d0).2.1
  have hl : lv_has ls 11 [(0, .ref (base + x0)), (1, .int x1), (2, .int x2), (3, .int x3)] := hl
  unfold wp_X5_replace at h
  obtain ⟨ho_x0, h⟩ := h
  refine lv_aload_n hx hb dX5_replace_0 rfl (lv_at hl 0 rfl) ?_
  refine z_callV A hd0 hZ (ci := 5) (nA := 0) (As := []) (by decide) ho_x0 (c_X5_pieces l G base M x0 _ h) k_ml_RX5_213 k_im_yX5_pieces k_se_yX5_pieces k_in_RX5 k_co_yX5_pieces (by decide +kernel) ⟨by decide, by decide⟩ rfl rfl (Nat.le_of_ble_eq_true rfl) hl dX5_replace_1 (fun v M44 H locs d0 cells slots hq hd0 hZ hm => ?_)
  clear h
  obtain ⟨i45, rfl, h⟩ := hq
  have ho_x0 := isO_le hm ho_x0
  refine lv_iload_n hx hb dX5_replace_4 rfl (lv_at hl 2 rfl) ?_
  refine lv_isub hx hb dX5_replace_5 ?_
  obtain ⟨i46, ei46⟩ : ∃ y : Int32, y = i45 - x2 := ⟨_, rfl⟩
  rw [← ei46]
  replace h := h i46 ei46
  refine lv_istore (lv' := [(4, .int i46), (0, .ref (base + x0)), (1, .int x1), (2, .int x2), (3, .int x3)]) hx hb dX5_replace_6 hl (by decide) rfl (fun ls hl2 => ?_)
  replace hl := hl2
  refine lv_iconst (v := (0 : Int32)) hx hb dX5_replace_8 (by decide) ?_
  refine lv_istore (lv' := [(5, .int (0 : Int32)), (4, .int i46), (0, .ref (base + x0)), (1, .int x1), (2, .int x2), (3, .int x3)]) hx hb dX5_replace_9 hl (by decide) rfl (fun ls hl2 => ?_)
  replace hl := hl2
  refine lv_iconst (v := (0 : Int32)) hx hb dX5_replace_11 (by decide) ?_
  refine lv_istore (lv' := [(6, .int (0 : Int32)), (5, .int (0 : Int32)), (4, .int i46), (0, .ref (base + x0)), (1, .int x1), (2, .int x2), (3, .int x3)]) hx hb dX5_replace_12 hl (by decide) rfl (fun ls hl2 => ?_)
  replace hl := hl2
  exact (Exists.elim h fun kk h => zb_X5_replace_14 A hr kk ho_x0 hd0 hZ (lv_sub hl [3, 4, 5, 6, 2, 1, 0] rfl) h (fun ho_x0 hd0 hZ hl h => (zb_X5_replace_246 A hr ho_x0 hd0 hZ hl h)))
