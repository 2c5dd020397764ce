/-! cX5_there -/
set_option maxRecDepth 100000 in
set_option maxHeartbeats 4000000 in
theorem zb_X5_there_59 {p : Program} {l : Launch} {e : Env} {R : Room} {s : State} {m : MethodId} {args : Array Value} {below : List Frame} {meth : Method} {c : Code} {G : ZG} {base z0 : Nat} {Q : Int32 → Mem → Prop} (A : ∀ d, Amb p R (s.setDrawn d) m args meth c G base z0 cX5_there yX5_there.cls 4 1 22) (hr : meth.sig.returnType = (some .int)) {K34 : Nat → Int32 → Int32 → Int32 → Mem → Prop} {K67 : Nat → Int32 → Int32 → Mem → Prop} {d0 : Drawn} {H : Heap} {locs : List Loc} {cells slots : Nat} {ls : Array Slot} {x0 : Nat} {x2 : Int32} {x3 : Int32} {t0 : Int32} {t1 : Int32} {M : Mem} (ho_x0 : isO M x0 5) (hd0 : s.drawn.sameBut d0 lw_cs) (hZ : ZH G true base s.heap M H locs) (hl : lv_has ls 4 [(0, .ref (base + x0)), (2, .int x2), (3, .int x3)]) (h : wp_X5_there_59 x0 x2 x3 t0 t1 M Q K34 K67) (hK34 : ∀ {d0 : Drawn} {H : Heap} {locs : List Loc} {cells slots : Nat} {ls : Array Slot} {x0 : Nat} {x1 : Int32} {x2 : Int32} {x3 : Int32} {M : Mem} (ho_x0 : isO M x0 5), s.drawn.sameBut d0 lw_cs → ZH G true base s.heap M H locs → lv_has ls 4 [(0, .ref (base + x0)), (1, .int x1), (2, .int x2), (3, .int x3)] → K34 x0 x1 x2 x3 M → W p l e R (s.setDrawn d0) m args below meth c H locs cells slots (ZEnd below G true base z0 (qI Q) args s) (F0 m 34 ls [])) (hK67 : ∀ {d0 : Drawn} {H : Heap} {locs : List Loc} {cells slots : Nat} {ls : Array Slot} {x0 : Nat} {x1 : Int32} {x2 : Int32} {M : Mem} (ho_x0 : isO M x0 5), s.drawn.sameBut d0 lw_cs → ZH G true base s.heap M H locs → lv_has ls 4 [(0, .ref (base + x0)), (1, .int x1), (2, .int x2)] → K67 x0 x1 x2 M → W p l e R (s.setDrawn d0) m args below meth c H locs cells slots (ZEnd below G true base z0 (qI Q) args s) (F0 m 67 ls [])) : W p l e R (s.setDrawn d0) m args below meth c H locs cells slots (ZEnd below G true base z0 (qI Q) args s) (F0 m 59 ls [.int t0, .int t1]) := by
  have hx := (A d0).1
  have hb := (A d0).2.1
  unfold wp_X5_there_59 at h
  refine lv_iadd hx hb dX5_there_59 ?_
  obtain ⟨i6, ei6⟩ : ∃ y : Int32, y = t1 + t0 := ⟨_, rfl⟩
  rw [← ei6]
  replace h := h i6 ei6
  refine lv_istore_n (lv' := [(1, .int i6), (0, .ref (base + x0)), (2, .int x2), (3, .int x3)]) hx hb dX5_there_60 rfl hl (by decide) rfl (fun ls hl2 => ?_)
  replace hl := hl2
  obtain ⟨i7, ei7⟩ : ∃ y : Int32, y = x3 + (1 : Int32) := ⟨_, rfl⟩
  replace h := h i7 ei7
  refine lv_iinc (v := i7) (lv' := [(3, .int i7), (1, .int i6), (0, .ref (base + x0)), (2, .int x2)]) hx hb dX5_there_61 hl (k := 3) rfl (by rw [ei7]; rfl) (by decide) rfl (fun ls hl2 => ?_)
  replace hl := hl2
  refine lv_goto (tgt := 34) hx hb dX5_there_64 (by decide) ?_
  exact hK34 ho_x0 hd0 hZ (lv_sub hl [2, 1, 3, 0] rfl) h
set_option maxRecDepth 100000 in
set_option maxHeartbeats 4000000 in
theorem zb_X5_there_67 {p : Program} {l : Launch} {e : Env} {R : Room} {s : State} {m : MethodId} {args : Array Value} {below : List Frame} {meth : Method} {c : Code} {G : ZG} {base z0 : Nat} {Q : Int32 → Mem → Prop} (A : ∀ d, Amb p R (s.setDrawn d) m args meth c G base z0 cX5_there yX5_there.cls 4 1 22) (hr : meth.sig.returnType = (some .int)) {K4 : Nat → Int32 → Int32 → Mem → Prop} {K73 : Int32 → Mem → Prop} {d0 : Drawn} {H : Heap} {locs : List Loc} {cells slots : Nat} {ls : Array Slot} {x0 : Nat} {x1 : Int32} {x2 : Int32} {M : Mem} (ho_x0 : isO M x0 5) (hd0 : s.drawn.sameBut d0 lw_cs) (hZ : ZH G true base s.heap M H locs) (hl : lv_has ls 4 [(0, .ref (base + x0)), (1, .int x1), (2, .int x2)]) (h : wp_X5_there_67 x0 x1 x2 M Q K4 K73) (hK4 : ∀ {d0 : Drawn} {H : Heap} {locs : List Loc} {cells slots : Nat} {ls : Array Slot} {x0 : Nat} {x1 : Int32} {x2 : Int32} {M : Mem} (ho_x0 : isO M x0 5), s.drawn.sameBut d0 lw_cs → ZH G true base s.heap M H locs → lv_has ls 4 [(0, .ref (base + x0)), (1, .int x1), (2, .int x2)] → K4 x0 x1 x2 M → W p l e R (s.setDrawn d0) m args below meth c H locs cells slots (ZEnd below G true base z0 (qI Q) args s) (F0 m 4 ls [])) (hK73 : ∀ {d0 : Drawn} {H : Heap} {locs : List Loc} {cells slots : Nat} {ls : Array Slot} {x1 : Int32} {M : Mem}, s.drawn.sameBut d0 lw_cs → ZH G true base s.heap M H locs → lv_has ls 4 [(1, .int x1)] → K73 x1 M → W p l e R (s.setDrawn d0) m args below meth c H locs cells slots (ZEnd below G true base z0 (qI Q) args s) (F0 m 73 ls [])) : W p l e R (s.setDrawn d0) m args below meth c H locs cells slots (ZEnd below G true base z0 (qI Q) args s) (F0 m 67 ls []) := by
  have hx := (A d0).1
  have hb := (A d0).2.1
  unfold wp_X5_there_67 at h
  obtain ⟨i8, ei8⟩ : ∃ y : Int32, y = x2 + (1 : Int32) := ⟨_, rfl⟩
  replace h := h i8 ei8
  refine lv_iinc (v := i8) (lv' := [(2, .int i8), (0, .ref (base + x0)), (1, .int x1)]) hx hb dX5_there_67 hl (k := 2) rfl (by rw [ei8]; rfl) (by decide) rfl (fun ls hl2 => ?_)
  replace hl := hl2
  refine lv_goto (tgt := 4) hx hb dX5_there_70 (by decide) ?_
  exact hK4 ho_x0 hd0 hZ (lv_sub hl [1, 2, 0] rfl) h
set_option maxRecDepth 100000 in
set_option maxHeartbeats 4000000 in
theorem zb_X5_there_73 {p : Program} {l : Launch} {e : Env} {R : Room} {s : State} {m : MethodId} {args : Array Value} {below : List Frame} {meth : Method} {c : Code} {G : ZG} {base z0 : Nat} {Q : Int32 → Mem → Prop} (A : ∀ d, Amb p R (s.setDrawn d) m args meth c G base z0 cX5_there yX5_there.cls 4 1 22) (hr : meth.sig.returnType = (some .int)) {d0 : Drawn} {H : Heap} {locs : List Loc} {cells slots : Nat} {ls : Array Slot} {x1 : Int32} {M : Mem} (hd0 : s.drawn.sameBut d0 lw_cs) (hZ : ZH G true base s.heap M H locs) (hl : lv_has ls 4 [(1, .int x1)]) (h : wp_X5_there_73 x1 M Q) : W p l e R (s.setDrawn d0) m args below meth c H locs cells slots (ZEnd below G true base z0 (qI Q) args s) (F0 m 73 ls []) := by
  have hx := (A d0).1
  have hb := (A d0).2.1
  unfold wp_X5_there_73 at h
  refine lv_iload_n hx hb dX5_there_73 rfl (lv_at hl 0 rfl) ?_
  exact z_iret A hd0 hZ hr ⟨_, rfl, h⟩ dX5_there_74
set_option maxRecDepth 100000 in
set_option maxHeartbeats 4000000 in
theorem zb_X5_there_34 {p : Program} {l : Launch} {e : Env} {R : Room} {s : State} {m : MethodId} {args : Array Value} {below : List Frame} {meth : Method} {c : Code} {G : ZG} {base z0 : Nat} {Q : Int32 → Mem → Prop} (A : ∀ d, Amb p R (s.setDrawn d) m args meth c G base z0 cX5_there yX5_there.cls 4 1 22) (hr : meth.sig.returnType = (some .int)) {K67 : Nat → Int32 → Int32 → Mem → Prop} :
  ∀ (n : Nat) {d0 : Drawn} {H : Heap} {locs : List Loc} {cells slots : Nat} {ls : Array Slot} {x0 : Nat} {x1 : Int32} {x2 : Int32} {x3 : Int32} {M : Mem} (ho_x0 : isO M x0 5) (hd0 : s.drawn.sameBut d0 lw_cs) (hZ : ZH G true base s.heap M H locs) (hl : lv_has ls 4 [(0, .ref (base + x0)), (1, .int x1), (2, .int x2), (3, .int x3)]) (h : wp_X5_there_34 n x0 x1 x2 x3 M Q K67) (hK67 : ∀ {d0 : Drawn} {H : Heap} {locs : List Loc} {cells slots : Nat} {ls : Array Slot} {x0 : Nat} {x1 : Int32} {x2 : Int32} {M : Mem} (ho_x0 : isO M x0 5), s.drawn.sameBut d0 lw_cs → ZH G true base s.heap M H locs → lv_has ls 4 [(0, .ref (base + x0)), (1, .int x1), (2, .int x2)] → K67 x0 x1 x2 M → W p l e R (s.setDrawn d0) m args below meth c H locs cells slots (ZEnd below G true base z0 (qI Q) args s) (F0 m 67 ls [])), W p l e R (s.setDrawn d0) m args below meth c H locs cells slots (ZEnd below G true base z0 (qI Q) args s) (F0 m 34 ls []) := by
  have hx := (A default).1
  have hb := (A default).2.1
  intro n
  induction n with
  | zero => intro d0 H locs cells slots ls x0 x1 x2 x3 M ho_x0 hd0 hZ hl h hK67; exact h.elim
  | succ n ih =>
    intro d0 H locs cells slots ls x0 x1 x2 x3 M ho_x0 hd0 hZ hl h hK67
    unfold wp_X5_there_34 at h
    refine lv_iload_n hx hb dX5_there_34 rfl (lv_at hl 3 rfl) ?_
    refine lv_aload_n hx hb dX5_there_35 rfl (lv_at hl 0 rfl) ?_
    refine z_get (A d0) hZ (ci := 5) (j := 14) ho_x0.1 ho_x0.2 (by decide) (by decide) k_fl_RX5_55 (v := .ref (base + 76)) (zv_fin (zf5 ho_x0 rfl) rfl) dX5_there_36 ?_
    refine lv_iload_n hx hb dX5_there_39 rfl (lv_at hl 2 rfl) ?_
    obtain ⟨hin, h⟩ := h
    refine z_iald (A d0) hZ (isA_c (a := 76) hZ.k0 (by decide) rfl) hin dX5_there_40 ?_
    refine lv_icmp_ge (tgt := 67) hx hb dX5_there_41 (by decide) (fun hc => ?_) (fun hc => ?_)
    · replace h := h.1 hc
      exact hK67 ho_x0 hd0 hZ (lv_sub hl [0, 1, 2] rfl) h
    · replace h := h.2 hc
      refine lv_iload_n hx hb dX5_there_44 rfl (lv_at hl 1 rfl) ?_
      refine lv_aload_n hx hb dX5_there_45 rfl (lv_at hl 0 rfl) ?_
      refine lv_iload_n hx hb dX5_there_46 rfl (lv_at hl 2 rfl) ?_
      refine lv_iload_n hx hb dX5_there_47 rfl (lv_at hl 3 rfl) ?_
      refine z_callV A hd0 hZ (ci := 5) (nA := 2) (As := [.int x2, .int x3]) (by decide) ho_x0 (c_X5_isThere l G base M x0 x2 x3 _ h) k_ml_RX5_209 k_im_yX5_isThere k_se_yX5_isThere k_in_RX5 k_co_yX5_isThere (by decide +kernel) ⟨by decide, by decide⟩ rfl rfl (Nat.le_of_ble_eq_true rfl) hl dX5_there_48 (fun v M4 H locs d0 cells slots hq hd0 hZ hm => ?_)
      clear h
      obtain ⟨i5, rfl, h⟩ := hq
      have ho_x0 := isO_le hm ho_x0
      refine lv_if_eq (tgt := 58) hx hb dX5_there_51 (by decide) (fun hc => ?_) (fun hc => ?_)
      · replace h := h.1 hc
        refine lv_iconst (v := (0 : Int32)) hx hb dX5_there_58 (by decide) ?_
        exact (zb_X5_there_59 A hr ho_x0 hd0 hZ (lv_sub hl [0, 2, 3] rfl) h (fun ho_x0 hd0 hZ hl h => ih ho_x0 hd0 hZ hl h hK67) hK67)
      · replace h := h.2 hc
        refine lv_iconst (v := (1 : Int32)) hx hb dX5_there_54 (by decide) ?_
        refine lv_goto (tgt := 59) hx hb dX5_there_55 (by decide) ?_
        exact (zb_X5_there_59 A hr ho_x0 hd0 hZ (lv_sub hl [0, 2, 3] rfl) h (fun ho_x0 hd0 hZ hl h => ih ho_x0 hd0 hZ hl h hK67) hK67)
set_option maxRecDepth 100000 in
set_option maxHeartbeats 4000000 in
theorem zb_X5_there_20 {p : Program} {l : Launch} {e : Env} {R : Room} {s : State} {m : MethodId} {args : Array Value} {below : List Frame} {meth : Method} {c : Code} {G : ZG} {base z0 : Nat} {Q : Int32 → Mem → Prop} (A : ∀ d, Amb p R (s.setDrawn d) m args meth c G base z0 cX5_there yX5_there.cls 4 1 22) (hr : meth.sig.returnType = (some .int)) {K4 : Nat → Int32 → Int32 → Mem → Prop} {K73 : Int32 → Mem → Prop} {d0 : Drawn} {H : Heap} {locs : List Loc} {cells slots : Nat} {ls : Array Slot} {x0 : Nat} {x1 : Int32} {x2 : Int32} {t0 : Int32} {t1 : Int32} {M : Mem} (ho_x0 : isO M x0 5) (hd0 : s.drawn.sameBut d0 lw_cs) (hZ : ZH G true base s.heap M H locs) (hl : lv_has ls 4 [(0, .ref (base + x0)), (1, .int x1), (2, .int x2)]) (h : wp_X5_there_20 x0 x1 x2 t0 t1 M Q K4 K73) (hK4 : ∀ {d0 : Drawn} {H : Heap} {locs : List Loc} {cells slots : Nat} {ls : Array Slot} {x0 : Nat} {x1 : Int32} {x2 : Int32} {M : Mem} (ho_x0 : isO M x0 5), s.drawn.sameBut d0 lw_cs → ZH G true base s.heap M H locs → lv_has ls 4 [(0, .ref (base + x0)), (1, .int x1), (2, .int x2)] → K4 x0 x1 x2 M → W p l e R (s.setDrawn d0) m args below meth c H locs cells slots (ZEnd below G true base z0 (qI Q) args s) (F0 m 4 ls [])) (hK73 : ∀ {d0 : Drawn} {H : Heap} {locs : List Loc} {cells slots : Nat} {ls : Array Slot} {x1 : Int32} {M : Mem}, s.drawn.sameBut d0 lw_cs → ZH G true base s.heap M H locs → lv_has ls 4 [(1, .int x1)] → K73 x1 M → W p l e R (s.setDrawn d0) m args below meth c H locs cells slots (ZEnd below G true base z0 (qI Q) args s) (F0 m 73 ls [])) : W p l e R (s.setDrawn d0) m args below meth c H locs cells slots (ZEnd below G true base z0 (qI Q) args s) (F0 m 20 ls [.int t0, .int t1]) := by
  have hx := (A d0).1
  have hb := (A d0).2.1
  unfold wp_X5_there_20 at h
  refine lv_icmp_ge (tgt := 73) hx hb dX5_there_20 (by decide) (fun hc => ?_) (fun hc => ?_)
  · replace h := h.1 hc
    exact hK73 hd0 hZ (lv_sub hl [1] rfl) h
  · replace h := h.2 hc
    refine lv_iload_n hx hb dX5_there_23 rfl (lv_at hl 1 rfl) ?_
    refine lv_aload_n hx hb dX5_there_24 rfl (lv_at hl 0 rfl) ?_
    refine z_get (A d0) hZ (ci := 5) (j := 16) ho_x0.1 ho_x0.2 (by decide) (by decide) k_fl_RX5_61 (v := .ref (base + 78)) (zv_fin (zf5 ho_x0 rfl) rfl) dX5_there_25 ?_
    refine lv_iload_n hx hb dX5_there_28 rfl (lv_at hl 2 rfl) ?_
    obtain ⟨hin, h⟩ := h
    refine z_iald (A d0) hZ (isA_c (a := 78) hZ.k0 (by decide) rfl) hin dX5_there_29 ?_
    refine lv_iadd hx hb dX5_there_30 ?_
    obtain ⟨i3, ei3⟩ : ∃ y : Int32, y = x1 + (mI M 78 x2.toNatClampNeg) := ⟨_, rfl⟩
    rw [← ei3]
    replace h := h i3 ei3
    refine lv_istore_n (lv' := [(1, .int i3), (0, .ref (base + x0)), (2, .int x2)]) hx hb dX5_there_31 rfl hl (by decide) rfl (fun ls hl2 => ?_)
    replace hl := hl2
    refine lv_iconst (v := (0 : Int32)) hx hb dX5_there_32 (by decide) ?_
    refine lv_istore_n (lv' := [(3, .int (0 : Int32)), (1, .int i3), (0, .ref (base + x0)), (2, .int x2)]) hx hb dX5_there_33 rfl hl (by decide) rfl (fun ls hl2 => ?_)
    replace hl := hl2
    exact (Exists.elim h fun kk h => zb_X5_there_34 A hr kk ho_x0 hd0 hZ (lv_sub hl [2, 1, 3, 0] rfl) h (fun ho_x0 hd0 hZ hl h => (zb_X5_there_67 A hr ho_x0 hd0 hZ hl h hK4 hK73)))
set_option maxRecDepth 100000 in
set_option maxHeartbeats 4000000 in
theorem zb_X5_there_4 {p : Program} {l : Launch} {e : Env} {R : Room} {s : State} {m : MethodId} {args : Array Value} {below : List Frame} {meth : Method} {c : Code} {G : ZG} {base z0 : Nat} {Q : Int32 → Mem → Prop} (A : ∀ d, Amb p R (s.setDrawn d) m args meth c G base z0 cX5_there yX5_there.cls 4 1 22) (hr : meth.sig.returnType = (some .int)) {K73 : Int32 → Mem → Prop} :
  ∀ (n : Nat) {d0 : Drawn} {H : Heap} {locs : List Loc} {cells slots : Nat} {ls : Array Slot} {x0 : Nat} {x1 : Int32} {x2 : Int32} {M : Mem} (ho_x0 : isO M x0 5) (hd0 : s.drawn.sameBut d0 lw_cs) (hZ : ZH G true base s.heap M H locs) (hl : lv_has ls 4 [(0, .ref (base + x0)), (1, .int x1), (2, .int x2)]) (h : wp_X5_there_4 n x0 x1 x2 M Q K73) (hK73 : ∀ {d0 : Drawn} {H : Heap} {locs : List Loc} {cells slots : Nat} {ls : Array Slot} {x1 : Int32} {M : Mem}, s.drawn.sameBut d0 lw_cs → ZH G true base s.heap M H locs → lv_has ls 4 [(1, .int x1)] → K73 x1 M → W p l e R (s.setDrawn d0) m args below meth c H locs cells slots (ZEnd below G true base z0 (qI Q) args s) (F0 m 73 ls [])), W p l e R (s.setDrawn d0) m args below meth c H locs cells slots (ZEnd below G true base z0 (qI Q) args s) (F0 m 4 ls []) := by
  have hx := (A default).1
  have hb := (A default).2.1
  intro n
  induction n with
  | zero => intro d0 H locs cells slots ls x0 x1 x2 M ho_x0 hd0 hZ hl h hK73; exact h.elim
  | succ n ih =>
    intro d0 H locs cells slots ls x0 x1 x2 M ho_x0 hd0 hZ hl h hK73
    unfold wp_X5_there_4 at h
    refine lv_iload_n hx hb dX5_there_4 rfl (lv_at hl 2 rfl) ?_
    refine lv_aload_n hx hb dX5_there_5 rfl (lv_at hl 0 rfl) ?_
    refine z_get (A d0) hZ (ci := 5) (j := 23) ho_x0.1 ho_x0.2 (by decide) (by decide) k_fl_RX5_84 (v := .int (mI M x0 23)) rfl dX5_there_6 ?_
    refine lv_if_eq (tgt := 19) hx hb dX5_there_9 (by decide) (fun hc => ?_) (fun hc => ?_)
    · replace h := h.1 hc
      refine lv_iconst (v := (0 : Int32)) hx hb dX5_there_19 (by decide) ?_
      exact (zb_X5_there_20 A hr ho_x0 hd0 hZ (lv_sub hl [0, 1, 2] rfl) h (fun ho_x0 hd0 hZ hl h => ih ho_x0 hd0 hZ hl h hK73) hK73)
    · replace h := h.2 hc
      refine lv_aload_n hx hb dX5_there_12 rfl (lv_at hl 0 rfl) ?_
      refine z_callV A hd0 hZ (ci := 5) (nA := 0) (As := []) (by decide) ho_x0 (c_X5_pieces l G base M x0 _ h) k_ml_RX5_213 k_im_yX5_pieces k_se_yX5_pieces k_in_RX5 k_co_yX5_pieces (by decide +kernel) ⟨by decide, by decide⟩ rfl rfl (Nat.le_of_ble_eq_true rfl) hl dX5_there_13 (fun v M1 H locs d0 cells slots hq hd0 hZ hm => ?_)
      clear h
      obtain ⟨i2, rfl, h⟩ := hq
      have ho_x0 := isO_le hm ho_x0
      refine lv_goto (tgt := 20) hx hb dX5_there_16 (by decide) ?_
      exact (zb_X5_there_20 A hr ho_x0 hd0 hZ (lv_sub hl [0, 1, 2] rfl) h (fun ho_x0 hd0 hZ hl h => ih ho_x0 hd0 hZ hl h hK73) hK73)
set_option maxRecDepth 100000 in
set_option maxHeartbeats 4000000 in
theorem c_X5_there (l : Launch) (G : ZG) (base : Nat) (M : Mem) (x0 : Nat) (Q : Int32 → Mem → Prop) (h : wp_X5_there x0 M Q) : ZMet l yX5_there cX5_there 4 (some .int) 1 22 G true base M [.ref (base + x0)] (qI Q) := by
  refine z_start (by decide) (Nat.le_of_ble_eq_true rfl) k_co_yX5_there ?_
  intro p e s m below meth c R d0 H locs cells slots ls A hr hn hd0 hZ hl
  have hx := (A d0).1
  have hb := (A d0).2.1
  have hl : lv_has ls 4 [(0, .ref (base + x0))] := hl
  unfold wp_X5_there at h
  obtain ⟨ho_x0, h⟩ := h
  refine lv_iconst (v := (0 : Int32)) hx hb dX5_there_0 (by decide) ?_
  refine lv_istore_n (lv' := [(1, .int (0 : Int32)), (0, .ref (base + x0))]) hx hb dX5_there_1 rfl hl (by decide) rfl (fun ls hl2 => ?_)
  replace hl := hl2
  refine lv_iconst (v := (0 : Int32)) hx hb dX5_there_2 (by decide) ?_
  refine lv_istore_n (lv' := [(2, .int (0 : Int32)), (1, .int (0 : Int32)), (0, .ref (base + x0))]) hx hb dX5_there_3 rfl hl (by decide) rfl (fun ls hl2 => ?_)
  replace hl := hl2
  exact (Exists.elim h fun kk h => zb_X5_there_4 A hr kk ho_x0 hd0 hZ (lv_sub hl [2, 1, 0] rfl) h (fun hd0 hZ hl h => (zb_X5_there_73 A hr hd0 hZ hl h)))
/-! cX5_isBuilt -/
set_option maxRecDepth 100000 in
set_option maxHeartbeats 4000000 in
theorem zb_X5_isBuilt_22 {p : Program} {l : Launch} {e : Env} {R : Room} {s : State} {m : MethodId} {args : Array Value} {below : List Frame} {meth : Method} {c : Code} {G : ZG} {base z0 : Nat} {Q : Int32 → Mem → Prop} (A : ∀ d, Amb p R (s.setDrawn d) m args meth c G base z0 cX5_isBuilt yX5_isBuilt.cls 2 0 0) (hr : meth.sig.returnType = (some .boolean)) {d0 : Drawn} {H : Heap} {locs : List Loc} {cells slots : Nat} {ls : Array Slot} {t0 : Int32} {M : Mem} (hd0 : s.drawn.sameBut d0 lw_cs) (hZ : ZH G true base s.heap M H locs) (hl : lv_has ls 2 []) (h : wp_X5_isBuilt_22 t0 M Q) : W p l e R (s.setDrawn d0) m args below meth c H locs cells slots (ZEnd below G true base z0 (qI Q) args s) (F0 m 22 ls [.int t0]) := by
  have hx := (A d0).1
  have hb := (A d0).2.1
  unfold wp_X5_isBuilt_22 at h
  exact z_zret A hd0 hZ hr h.1 ⟨_, rfl, h.2⟩ dX5_isBuilt_22
set_option maxRecDepth 100000 in
set_option maxHeartbeats 4000000 in
theorem zb_X5_isBuilt_17 {p : Program} {l : Launch} {e : Env} {R : Room} {s : State} {m : MethodId} {args : Array Value} {below : List Frame} {meth : Method} {c : Code} {G : ZG} {base z0 : Nat} {Q : Int32 → Mem → Prop} (A : ∀ d, Amb p R (s.setDrawn d) m args meth c G base z0 cX5_isBuilt yX5_isBuilt.cls 2 0 0) (hr : meth.sig.returnType = (some .boolean)) {d0 : Drawn} {H : Heap} {locs : List Loc} {cells slots : Nat} {ls : Array Slot}  {M : Mem} (hd0 : s.drawn.sameBut d0 lw_cs) (hZ : ZH G true base s.heap M H locs) (hl : lv_has ls 2 []) (h : wp_X5_isBuilt_17 M Q) : W p l e R (s.setDrawn d0) m args below meth c H locs cells slots (ZEnd below G true base z0 (qI Q) args s) (F0 m 17 ls []) := by
  have hx := (A d0).1
  have hb := (A d0).2.1
  unfold wp_X5_isBuilt_17 at h
  refine lv_iconst (v := (1 : Int32)) hx hb dX5_isBuilt_17 (by decide) ?_
  refine lv_goto (tgt := 22) hx hb dX5_isBuilt_18 (by decide) ?_
  exact (zb_X5_isBuilt_22 A hr hd0 hZ (lv_sub hl [] rfl) h)
set_option maxRecDepth 100000 in
set_option maxHeartbeats 4000000 in
theorem zb_X5_isBuilt_21 {p : Program} {l : Launch} {e : Env} {R : Room} {s : State} {m : MethodId} {args : Array Value} {below : List Frame} {meth : Method} {c : Code} {G : ZG} {base z0 : Nat} {Q : Int32 → Mem → Prop} (A : ∀ d, Amb p R (s.setDrawn d) m args meth c G base z0 cX5_isBuilt yX5_isBuilt.cls 2 0 0) (hr : meth.sig.returnType = (some .boolean)) {d0 : Drawn} {H : Heap} {locs : List Loc} {cells slots : Nat} {ls : Array Slot}  {M : Mem} (hd0 : s.drawn.sameBut d0 lw_cs) (hZ : ZH G true base s.heap M H locs) (hl : lv_has ls 2 []) (h : wp_X5_isBuilt_21 M Q) : W p l e R (s.setDrawn d0) m args below meth c H locs cells slots (ZEnd below G true base z0 (qI Q) args s) (F0 m 21 ls []) := by
  have hx := (A d0).1
  have hb := (A d0).2.1
  unfold wp_X5_isBuilt_21 at h
  refine lv_iconst (v := (0 : Int32)) hx hb dX5_isBuilt_21 (by decide) ?_
  exact (zb_X5_isBuilt_22 A hr hd0 hZ (lv_sub hl [] rfl) h)
set_option maxRecDepth 100000 in
set_option maxHeartbeats 4000000 in
theorem c_X5_isBuilt (l : Launch) (G : ZG) (base : Nat) (M : Mem) (x0 : Nat) (x1 : Int32) (Q : Int32 → Mem → Prop) (h : wp_X5_isBuilt x0 x1 M Q) : ZMet l yX5_isBuilt cX5_isBuilt 2 (some .boolean) 0 0 G true base M [.ref (base + x0), .int x1] (qI Q) := by
  refine z_start (by decide) (Nat.le_of_ble_eq_true rfl) k_co_yX5_isBuilt ?_
  intro p e s m below meth c R d0 H locs cells slots ls A hr hn hd0 hZ hl
  have hx := (A d0).1
  have hb := (A d0).2.1
  have hl : lv_has ls 2 [(0, .ref (base + x0)), (1, .int x1)] := hl
  unfold wp_X5_isBuilt at h
  obtain ⟨ho_x0, h⟩ := h
  refine lv_iload_n hx hb dX5_isBuilt_0 rfl (lv_at hl 1 rfl) ?_
  refine lv_iconst (v := (1 : Int32)) hx hb dX5_isBuilt_1 (by decide) ?_
  refine lv_icmp_eq (tgt := 17) hx hb dX5_isBuilt_2 (by decide) (fun hc => ?_) (fun hc => ?_)
  · replace h := h.1 hc
    exact (zb_X5_isBuilt_17 A hr hd0 hZ (lv_sub hl [] rfl) h)
  · replace h := h.2 hc
    refine lv_iload_n hx hb dX5_isBuilt_5 rfl (lv_at hl 1 rfl) ?_
    refine lv_iconst (v := (2 : Int32)) hx hb dX5_isBuilt_6 (by decide) ?_
    refine lv_icmp_ne (tgt := 21) hx hb dX5_isBuilt_7 (by decide) (fun hc => ?_) (fun hc => ?_)
    · replace h := h.1 hc
      exact (zb_X5_isBuilt_21 A hr hd0 hZ (lv_sub hl [] rfl) h)
    · replace h := h.2 hc
      refine lv_aload_n hx hb dX5_isBuilt_10 rfl (lv_at hl 0 rfl) ?_
      refine z_get (A d0) hZ (ci := 5) (j := 2) ho_x0.1 ho_x0.2 (by decide) (by decide) k_fl_RX5_17 (v := .int (mI M x0 2)) rfl dX5_isBuilt_11 ?_
      refine lv_if_le (tgt := 21) hx hb dX5_isBuilt_14 (by decide) (fun hc => ?_) (fun hc => ?_)
      · replace h := h.1 hc
        exact (zb_X5_isBuilt_21 A hr hd0 hZ (lv_sub hl [] rfl) h)
      · replace h := h.2 hc
        exact (zb_X5_isBuilt_17 A hr hd0 hZ (lv_sub hl [] rfl) h)
/-! cX5_build -/
set_option maxRecDepth 100000 in
set_option maxHeartbeats 4000000 in
theorem zb_X5_build_15 {p : Program} {l : Launch} {e : Env} {R : Room} {s : State} {m : MethodId} {args : Array Value} {below : List Frame} {meth : Method} {c : Code} {G : ZG} {base z0 : Nat} {Q : Int32 → Mem → Prop} (A : ∀ d, Amb p R (s.setDrawn d) m args meth c G base z0 cX5_build yX5_build.cls 2 6 166) (hr : meth.sig.returnType = (some .int)) {d0 : Drawn} {H : Heap} {locs : List Loc} {cells slots : Nat} {ls : Array Slot}  {M : Mem} (hd0 : s.drawn.sameBut d0 lw_cs) (hZ : ZH G true base s.heap M H locs) (hl : lv_has ls 2 []) (h : wp_X5_build_15 M Q) : W p l e R (s.setDrawn d0) m args below meth c H locs cells slots (ZEnd below G true base z0 (qI Q) args s) (F0 m 15 ls []) := by
  have hx := (A d0).1
  have hb := (A d0).2.1
  unfold wp_X5_build_15 at h
  refine lv_bipush (v := (-2 : Int32)) hx hb dX5_build_15 (by decide) ?_
  exact z_iret A hd0 hZ hr ⟨_, rfl, h⟩ dX5_build_17
set_option maxRecDepth 100000 in
set_option maxHeartbeats 4000000 in
theorem c_X5_build (l : Launch) (G : ZG) (base : Nat) (M : Mem) (x0 : Nat) (x1 : Int32) (Q : Int32 → Mem → Prop) (h : wp_X5_build x0 x1 M Q) : ZMet l yX5_build cX5_build 2 (some .int) 6 166 G true base M [.ref (base + x0), .int x1] (qI Q) := by
  refine z_start (by decide) (Nat.le_of_ble_eq_true rfl) k_co_yX5_build ?_
  intro p e s m below meth c R d0 H locs cells slots ls A hr hn hd0 hZ hl
  have hx := (A d0).1
  have hb := (A d0).2.1
  have hl : lv_has ls 2 [(0, .ref (base + x0)), (1, .int x1)] := hl
  unfold wp_X5_build at h
  obtain ⟨ho_x0, h⟩ := h
  refine lv_aload_n hx hb dX5_build_0 rfl (lv_at hl 0 rfl) ?_
  refine lv_iload_n hx hb dX5_build_1 rfl (lv_at hl 1 rfl) ?_
  refine z_callV A hd0 hZ (ci := 5) (nA := 1) (As := [.int x1]) (by decide) ho_x0 (c_X5_isBuilt l G base M x0 x1 _ h) k_ml_RX5_220 k_im_yX5_isBuilt k_se_yX5_isBuilt k_in_RX5 k_co_yX5_isBuilt (by decide +kernel) ⟨by decide, by decide⟩ rfl rfl (Nat.le_of_ble_eq_true rfl) hl dX5_build_2 (fun v M1 H locs d0 cells slots hq hd0 hZ hm => ?_)
  clear h
  obtain ⟨i2, rfl, h⟩ := hq
  have ho_x0 := isO_le hm ho_x0
  refine lv_if_eq (tgt := 15) hx hb dX5_build_5 (by decide) (fun hc => ?_) (fun hc => ?_)
  · replace h := h.1 hc
    exact (zb_X5_build_15 A hr hd0 hZ (lv_sub hl [] rfl) h)
  · replace h := h.2 hc
    refine lv_aload_n hx hb dX5_build_8 rfl (lv_at hl 0 rfl) ?_
    refine z_get (A d0) hZ (ci := 5) (j := 1) ho_x0.1 ho_x0.2 (by decide) (by decide) k_fl_RX5_13 (v := .int (mI M1 x0 1)) rfl dX5_build_9 ?_
    refine lv_if_ne (tgt := 18) hx hb dX5_build_12 (by decide) (fun hc => ?_) (fun hc => ?_)
    · replace h := h.1 hc
      refine lv_aload_n hx hb dX5_build_18 rfl (lv_at hl 0 rfl) ?_
      refine z_callV A hd0 hZ (ci := 5) (nA := 0) (As := []) (by decide) ho_x0 (c_X5_take l G base M1 x0 _ h) k_ml_RX5_178 k_im_yX5_take k_se_yX5_take k_in_RX5 k_co_yX5_take (by decide +kernel) ⟨by decide, by decide⟩ rfl rfl (Nat.le_of_ble_eq_true rfl) hl dX5_build_19 (fun v M3 H locs d0 cells slots hq hd0 hZ hm => ?_)
      clear h
      obtain ⟨rfl, h⟩ := hq
      have ho_x0 := isO_le hm ho_x0
      refine lv_aload_n hx hb dX5_build_22 rfl (lv_at hl 0 rfl) ?_
      refine lv_aload_n hx hb dX5_build_23 rfl (lv_at hl 0 rfl) ?_
      refine z_get (A d0) hZ (ci := 5) (j := 1) ho_x0.1 ho_x0.2 (by decide) (by decide) k_fl_RX5_13 (v := .int (mI M3 x0 1)) rfl dX5_build_24 ?_
      obtain ⟨M4, eM4⟩ : ∃ y : Mem, y = sI M3 x0 26 (mI M3 x0 1) := ⟨_, rfl⟩
      refine z_put (A d0) hZ (ci := 5) (j := 26) (M' := M4) ho_x0.1 ho_x0.2 (by decide) (by decide) k_fl_RX5_94 rfl (by rw [eM4]; exact zUpd_I) rfl rfl dX5_build_27 (fun H locs hZ => ?_)
      have hm : mz M4 = mz M3 := by rw [eM4] <;> rfl
      have ho_x0 := isO_le (Nat.le_of_eq hm.symm) ho_x0
      replace h := h M4 eM4
      refine lv_aload_n hx hb dX5_build_30 rfl (lv_at hl 0 rfl) ?_
      refine z_get (A d0) hZ (ci := 5) (j := 11) ho_x0.1 ho_x0.2 (by decide) (by decide) k_fl_RX5_46 (v := .ref (base + 73)) (zv_fin (zf5 ho_x0 rfl) rfl) dX5_build_31 ?_
      refine lv_iconst (v := (0 : Int32)) hx hb dX5_build_34 (by decide) ?_
      refine lv_iconst (v := (0 : Int32)) hx hb dX5_build_35 (by decide) ?_
      obtain ⟨hin, h⟩ := h
      obtain ⟨M5, eM5⟩ : ∃ y : Mem, y = sI M4 73 (0 : Int32).toNatClampNeg (0 : Int32) := ⟨_, rfl⟩
      refine z_iast (A d0) hZ (isA_c (a := 73) hZ.k0 (by decide) rfl) hin dX5_build_36 (fun H locs hZ => ?_)
      rw [← eM5] at hZ
      have hm : mz M5 = mz M4 := by rw [eM5] <;> rfl
      have ho_x0 := isO_le (Nat.le_of_eq hm.symm) ho_x0
      replace h := h M5 eM5
      refine lv_aload_n hx hb dX5_build_37 rfl (lv_at hl 0 rfl) ?_
      refine lv_iconst (v := (0 : Int32)) hx hb dX5_build_38 (by decide) ?_
      refine lv_iconst (v := (0 : Int32)) hx hb dX5_build_39 (by decide) ?_
      refine lv_iload_n hx hb dX5_build_40 rfl (lv_at hl 1 rfl) ?_
      refine z_callV A hd0 hZ (ci := 5) (nA := 3) (As := [.int (0 : Int32), .int (0 : Int32), .int x1]) (by decide) ho_x0 (c_X5_replace l G base M5 x0 (0 : Int32) (0 : Int32) x1 _ h) k_ml_RX5_224 k_im_yX5_replace k_se_yX5_replace k_in_RX5 k_co_yX5_replace (by decide +kernel) ⟨by decide, by decide⟩ rfl rfl (Nat.le_of_ble_eq_true rfl) hl dX5_build_41 (fun v M6 H locs d0 cells slots hq hd0 hZ hm => ?_)
      clear h
      obtain ⟨rfl, h⟩ := hq
      have ho_x0 := isO_le hm ho_x0
      refine lv_aload_n hx hb dX5_build_44 rfl (lv_at hl 0 rfl) ?_
      refine z_callV A hd0 hZ (ci := 5) (nA := 0) (As := []) (by decide) ho_x0 (c_X5_pieces l G base M6 x0 _ h) k_ml_RX5_213 k_im_yX5_pieces k_se_yX5_pieces k_in_RX5 k_co_yX5_pieces (by decide +kernel) ⟨by decide, by decide⟩ rfl rfl (Nat.le_of_ble_eq_true rfl) hl dX5_build_45 (fun v M7 H locs d0 cells slots hq hd0 hZ hm => ?_)
      clear h
      obtain ⟨i8, rfl, h⟩ := hq
      have ho_x0 := isO_le hm ho_x0
      exact z_iret A hd0 hZ hr ⟨_, rfl, h⟩ dX5_build_48
    · replace h := h.2 hc
      exact (zb_X5_build_15 A hr hd0 hZ (lv_sub hl [] rfl) h)
/-! cX5_again -/
set_option maxRecDepth 100000 in
set_option maxHeartbeats 4000000 in
theorem zb_X5_again_27 {p : Program} {l : Launch} {e : Env} {R : Room} {s : State} {m : MethodId} {args : Array Value} {below : List Frame} {meth : Method} {c : Code} {G : ZG} {base z0 : Nat} {Q : Int32 → Mem → Prop} (A : ∀ d, Amb p R (s.setDrawn d) m args meth c G base z0 cX5_again yX5_again.cls 3 6 166) (hr : meth.sig.returnType = (some .int)) {K46 : Nat → Int32 → Mem → Prop} :
  ∀ (n : Nat) {d0 : Drawn} {H : Heap} {locs : List Loc} {cells slots : Nat} {ls : Array Slot} {x0 : Nat} {x1 : Int32} {x2 : Int32} {M : Mem} (ho_x0 : isO M x0 5) (hd0 : s.drawn.sameBut d0 lw_cs) (hZ : ZH G true base s.heap M H locs) (hl : lv_has ls 3 [(0, .ref (base + x0)), (1, .int x1), (2, .int x2)]) (h : wp_X5_again_27 n x0 x1 x2 M Q K46) (hK46 : ∀ {d0 : Drawn} {H : Heap} {locs : List Loc} {cells slots : Nat} {ls : Array Slot} {x0 : Nat} {x1 : Int32} {M : Mem} (ho_x0 : isO M x0 5), s.drawn.sameBut d0 lw_cs → ZH G true base s.heap M H locs → lv_has ls 3 [(0, .ref (base + x0)), (1, .int x1)] → K46 x0 x1 M → W p l e R (s.setDrawn d0) m args below meth c H locs cells slots (ZEnd below G true base z0 (qI Q) args s) (F0 m 46 ls [])), W p l e R (s.setDrawn d0) m args below meth c H locs cells slots (ZEnd below G true base z0 (qI Q) args s) (F0 m 27 ls []) := by
  have hx := (A default).1
  have hb := (A default).2.1
  intro n
  induction n with
  | zero => intro d0 H locs cells slots ls x0 x1 x2 M ho_x0 hd0 hZ hl h hK46; exact h.elim
  | succ n ih =>
    intro d0 H locs cells slots ls x0 x1 x2 M ho_x0 hd0 hZ hl h hK46
    unfold wp_X5_again_27 at h
    refine lv_iload_n hx hb dX5_again_27 rfl (lv_at hl 2 rfl) ?_
    refine lv_aload_n hx hb dX5_again_28 rfl (lv_at hl 0 rfl) ?_
    refine z_callV A hd0 hZ (ci := 5) (nA := 0) (As := []) (by decide) ho_x0 (c_X5_pieces l G base M x0 _ h) k_ml_RX5_213 k_im_yX5_pieces k_se_yX5_pieces k_in_RX5 k_co_yX5_pieces (by decide +kernel) ⟨by decide, by decide⟩ rfl rfl (Nat.le_of_ble_eq_true rfl) hl dX5_again_29 (fun v M1 H locs d0 cells slots hq hd0 hZ hm => ?_)
    clear h
    obtain ⟨i2, rfl, h⟩ := hq
    have ho_x0 := isO_le hm ho_x0
    refine lv_icmp_ge (tgt := 46) hx hb dX5_again_32 (by decide) (fun hc => ?_) (fun hc => ?_)
    · replace h := h.1 hc
      exact hK46 ho_x0 hd0 hZ (lv_sub hl [0, 1] rfl) h
    · replace h := h.2 hc
      refine lv_aload_n hx hb dX5_again_35 rfl (lv_at hl 0 rfl) ?_
      refine lv_iload_n hx hb dX5_again_36 rfl (lv_at hl 2 rfl) ?_
      refine z_callV A hd0 hZ (ci := 5) (nA := 1) (As := [.int x2]) (by decide) ho_x0 (c_X5_gather l G base M1 x0 x2 _ h) k_ml_RX5_228 k_im_yX5_gather k_se_yX5_gather k_in_RX5 k_co_yX5_gather (by decide +kernel) ⟨by decide, by decide⟩ rfl rfl (Nat.le_of_ble_eq_true rfl) hl dX5_again_37 (fun v M3 H locs d0 cells slots hq hd0 hZ hm => ?_)
      clear h
      obtain ⟨rfl, h⟩ := hq
      have ho_x0 := isO_le hm ho_x0
      obtain ⟨i4, ei4⟩ : ∃ y : Int32, y = x2 + (1 : Int32) := ⟨_, rfl⟩
      replace h := h i4 ei4
      refine lv_iinc (v := i4) (lv' := [(2, .int i4), (0, .ref (base + x0)), (1, .int x1)]) hx hb dX5_again_40 hl (k := 2) rfl (by rw [ei4]; rfl) (by decide) rfl (fun ls hl2 => ?_)
      replace hl := hl2
      refine lv_goto (tgt := 27) hx hb dX5_again_43 (by decide) ?_
      exact ih ho_x0 hd0 hZ (lv_sub hl [1, 2, 0] rfl) h hK46
set_option maxRecDepth 100000 in
set_option maxHeartbeats 4000000 in
theorem zb_X5_again_46 {p : Program} {l : Launch} {e : Env} {R : Room} {s : State} {m : MethodId} {args : Array Value} {below : List Frame} {meth : Method} {c : Code} {G : ZG} {base z0 : Nat} {Q : Int32 → Mem → Prop} (A : ∀ d, Amb p R (s.setDrawn d) m args meth c G base z0 cX5_again yX5_again.cls 3 6 166) (hr : meth.sig.returnType = (some .int)) {d0 : Drawn} {H : Heap} {locs : List Loc} {cells slots : Nat} {ls : Array Slot} {x0 : Nat} {x1 : Int32} {M : Mem} (ho_x0 : isO M x0 5) (hd0 : s.drawn.sameBut d0 lw_cs) (hZ : ZH G true base s.heap M H locs) (hl : lv_has ls 3 [(0, .ref (base + x0)), (1, .int x1)]) (h : wp_X5_again_46 x0 x1 M Q) : W p l e R (s.setDrawn d0) m args below meth c H locs cells slots (ZEnd below G true base z0 (qI Q) args s) (F0 m 46 ls []) := by
  have hx := (A d0).1
  have hb := (A d0).2.1
  unfold wp_X5_again_46 at h
  refine lv_aload_n hx hb dX5_again_46 rfl (lv_at hl 0 rfl) ?_
  refine z_get (A d0) hZ (ci := 5) (j := 11) ho_x0.1 ho_x0.2 (by decide) (by decide) k_fl_RX5_46 (v := .ref (base + 73)) (zv_fin (zf5 ho_x0 rfl) rfl) dX5_again_47 ?_
  refine lv_iconst (v := (0 : Int32)) hx hb dX5_again_50 (by decide) ?_
  refine lv_iconst (v := (0 : Int32)) hx hb dX5_again_51 (by decide) ?_
  obtain ⟨hin, h⟩ := h
  obtain ⟨M5, eM5⟩ : ∃ y : Mem, y = sI M 73 (0 : Int32).toNatClampNeg (0 : Int32) := ⟨_, rfl⟩
  refine z_iast (A d0) hZ (isA_c (a := 73) hZ.k0 (by decide) rfl) hin dX5_again_52 (fun H locs hZ => ?_)
  rw [← eM5] at hZ
  have hm : mz M5 = mz M := by rw [eM5] <;> rfl
  have ho_x0 := isO_le (Nat.le_of_eq hm.symm) ho_x0
  replace h := h M5 eM5
  refine lv_aload_n hx hb dX5_again_53 rfl (lv_at hl 0 rfl) ?_
  refine lv_iconst (v := (0 : Int32)) hx hb dX5_again_54 (by decide) ?_
  refine lv_iconst (v := (0 : Int32)) hx hb dX5_again_55 (by decide) ?_
  refine lv_iload_n hx hb dX5_again_56 rfl (lv_at hl 1 rfl) ?_
  refine z_callV A hd0 hZ (ci := 5) (nA := 3) (As := [.int (0 : Int32), .int (0 : Int32), .int x1]) (by decide) ho_x0 (c_X5_replace l G base M5 x0 (0 : Int32) (0 : Int32) x1 _ h) k_ml_RX5_224 k_im_yX5_replace k_se_yX5_replace k_in_RX5 k_co_yX5_replace (by decide +kernel) ⟨by decide, by decide⟩ rfl rfl (Nat.le_of_ble_eq_true rfl) hl dX5_again_57 (fun v M6 H locs d0 cells slots hq hd0 hZ hm => ?_)
  clear h
  obtain ⟨rfl, h⟩ := hq
  have ho_x0 := isO_le hm ho_x0
  refine lv_aload_n hx hb dX5_again_60 rfl (lv_at hl 0 rfl) ?_
  refine z_callV A hd0 hZ (ci := 5) (nA := 0) (As := []) (by decide) ho_x0 (c_X5_pieces l G base M6 x0 _ h) k_ml_RX5_213 k_im_yX5_pieces k_se_yX5_pieces k_in_RX5 k_co_yX5_pieces (by decide +kernel) ⟨by decide, by decide⟩ rfl rfl (Nat.le_of_ble_eq_true rfl) hl dX5_again_61 (fun v M7 H locs d0 cells slots hq hd0 hZ hm => ?_)
  clear h
  obtain ⟨i8, rfl, h⟩ := hq
  have ho_x0 := isO_le hm ho_x0
  exact z_iret A hd0 hZ hr ⟨_, rfl, h⟩ dX5_again_64
set_option maxRecDepth 100000 in
set_option maxHeartbeats 4000000 in
theorem c_X5_again (l : Launch) (G : ZG) (base : Nat) (M : Mem) (x0 : Nat) (x1 : Int32) (Q : Int32 → Mem → Prop) (h : wp_X5_again x0 x1 M Q) : ZMet l yX5_again cX5_again 3 (some .int) 6 166 G true base M [.ref (base + x0), .int x1] (qI Q) := by
  refine z_start (by decide) (Nat.le_of_ble_eq_true rfl) k_co_yX5_again ?_
  intro p e s m below meth c R d0 H locs cells slots ls A hr hn hd0 hZ hl
  have hx := (A d0).1
  have hb := (A d0).2.1
  have hl : lv_has ls 3 [(0, .ref (base + x0)), (1, .int x1)] := hl
  unfold wp_X5_again at h
  obtain ⟨ho_x0, h⟩ := h
  refine lv_aload_n hx hb dX5_again_0 rfl (lv_at hl 0 rfl) ?_
  refine z_get (A d0) hZ (ci := 5) (j := 23) ho_x0.1 ho_x0.2 (by decide) (by decide) k_fl_RX5_84 (v := .int (mI M x0 23)) rfl dX5_again_1 ?_
  refine lv_if_ne (tgt := 9) hx hb dX5_again_4 (by decide) (fun hc => ?_) (fun hc => ?_)
  · replace h := h.1 hc
    refine lv_aload_n hx hb dX5_again_9 rfl (lv_at hl 0 rfl) ?_
    refine lv_iload_n hx hb dX5_again_10 rfl (lv_at hl 1 rfl) ?_
    refine z_callV A hd0 hZ (ci := 5) (nA := 1) (As := [.int x1]) (by decide) ho_x0 (c_X5_isBuilt l G base M x0 x1 _ h) k_ml_RX5_220 k_im_yX5_isBuilt k_se_yX5_isBuilt k_in_RX5 k_co_yX5_isBuilt (by decide +kernel) ⟨by decide, by decide⟩ rfl rfl (Nat.le_of_ble_eq_true rfl) hl dX5_again_11 (fun v M9 H locs d0 cells slots hq hd0 hZ hm => ?_)
    clear h
    obtain ⟨i10, rfl, h⟩ := hq
    have ho_x0 := isO_le hm ho_x0
    refine lv_if_ne (tgt := 20) hx hb dX5_again_14 (by decide) (fun hc => ?_) (fun hc => ?_)
    · replace h := h.1 hc
      refine lv_aload_n hx hb dX5_again_20 rfl (lv_at hl 0 rfl) ?_
      refine lv_iconst (v := (0 : Int32)) hx hb dX5_again_21 (by decide) ?_
      obtain ⟨M11, eM11⟩ : ∃ y : Mem, y = sI M9 x0 26 (0 : Int32) := ⟨_, rfl⟩
      refine z_put (A d0) hZ (ci := 5) (j := 26) (M' := M11) ho_x0.1 ho_x0.2 (by decide) (by decide) k_fl_RX5_94 rfl (by rw [eM11]; exact zUpd_I) rfl rfl dX5_again_22 (fun H locs hZ => ?_)
      have hm : mz M11 = mz M9 := by rw [eM11] <;> rfl
      have ho_x0 := isO_le (Nat.le_of_eq hm.symm) ho_x0
      replace h := h M11 eM11
      refine lv_iconst (v := (0 : Int32)) hx hb dX5_again_25 (by decide) ?_
      refine lv_istore_n (lv' := [(2, .int (0 : Int32)), (0, .ref (base + x0)), (1, .int x1)]) hx hb dX5_again_26 rfl hl (by decide) rfl (fun ls hl2 => ?_)
      replace hl := hl2
      exact (Exists.elim h fun kk h => zb_X5_again_27 A hr kk ho_x0 hd0 hZ (lv_sub hl [1, 2, 0] rfl) h (fun ho_x0 hd0 hZ hl h => (zb_X5_again_46 A hr ho_x0 hd0 hZ hl h)))
    · replace h := h.2 hc
      refine lv_bipush (v := (-2 : Int32)) hx hb dX5_again_17 (by decide) ?_
      exact z_iret A hd0 hZ hr ⟨_, rfl, h⟩ dX5_again_19
  · replace h := h.2 hc
    refine lv_iconst (v := (-1 : Int32)) hx hb dX5_again_7 (by decide) ?_
    exact z_iret A hd0 hZ hr ⟨_, rfl, h⟩ dX5_again_8
/-! cX5_clear -/
set_option maxRecDepth 100000 in
set_option maxHeartbeats 4000000 in
theorem c_X5_clear (l : Launch) (G : ZG) (base : Nat) (M : Mem) (x0 : Nat) (Q : Int32 → Mem → Prop) (h : wp_X5_clear x0 M Q) : ZMet l yX5_clear cX5_clear 2 (some .int) 2 45 G true base M [.ref (base + x0)] (qI Q) := by
  refine z_start (by decide) (Nat.le_of_ble_eq_true rfl) k_co_yX5_clear ?_
  intro p e s m below meth c R d0 H locs cells slots ls A hr hn hd0 hZ hl
  have hx := (A d0).1
  have hb := (A d0).2.1
  have hl : lv_has ls 2 [(0, .ref (base + x0))] := hl
  unfold wp_X5_clear at h
  obtain ⟨ho_x0, h⟩ := h
  refine lv_aload_n hx hb dX5_clear_0 rfl (lv_at hl 0 rfl) ?_
  refine z_callV A hd0 hZ (ci := 5) (nA := 0) (As := []) (by decide) ho_x0 (c_X5_there l G base M x0 _ h) k_ml_RX5_232 k_im_yX5_there k_se_yX5_there k_in_RX5 k_co_yX5_there (by decide +kernel) ⟨by decide, by decide⟩ rfl rfl (Nat.le_of_ble_eq_true rfl) hl dX5_clear_1 (fun v M1 H locs d0 cells slots hq hd0 hZ hm => ?_)
  clear h
  obtain ⟨i2, rfl, h⟩ := hq
  have ho_x0 := isO_le hm ho_x0
  refine lv_istore_n (lv' := [(1, .int i2), (0, .ref (base + x0))]) hx hb dX5_clear_4 rfl hl (by decide) rfl (fun ls hl2 => ?_)
  replace hl := hl2
  refine lv_aload_n hx hb dX5_clear_5 rfl (lv_at hl 1 rfl) ?_
  refine lv_iconst (v := (0 : Int32)) hx hb dX5_clear_6 (by decide) ?_
  obtain ⟨M3, eM3⟩ : ∃ y : Mem, y = sI M1 x0 23 (0 : Int32) := ⟨_, rfl⟩
  refine z_put (A d0) hZ (ci := 5) (j := 23) (M' := M3) ho_x0.1 ho_x0.2 (by decide) (by decide) k_fl_RX5_84 rfl (by rw [eM3]; exact zUpd_Z) (nar_b (Or.inl rfl)) rfl dX5_clear_7 (fun H locs hZ => ?_)
  have hm : mz M3 = mz M1 := by rw [eM3] <;> rfl
  have ho_x0 := isO_le (Nat.le_of_eq hm.symm) ho_x0
  replace h := h M3 eM3
  refine lv_aload_n hx hb dX5_clear_10 rfl (lv_at hl 1 rfl) ?_
  refine lv_iconst (v := (0 : Int32)) hx hb dX5_clear_11 (by decide) ?_
  obtain ⟨M4, eM4⟩ : ∃ y : Mem, y = sI M3 x0 9 (0 : Int32) := ⟨_, rfl⟩
  refine z_put (A d0) hZ (ci := 5) (j := 9) (M' := M4) ho_x0.1 ho_x0.2 (by decide) (by decide) k_fl_RX5_39 rfl (by rw [eM4]; exact zUpd_I) rfl rfl dX5_clear_12 (fun H locs hZ => ?_)
  have hm : mz M4 = mz M3 := by rw [eM4] <;> rfl
  have ho_x0 := isO_le (Nat.le_of_eq hm.symm) ho_x0
  replace h := h M4 eM4
  refine lv_aload_n hx hb dX5_clear_15 rfl (lv_at hl 1 rfl) ?_
  refine z_get (A d0) hZ (ci := 5) (j := 11) ho_x0.1 ho_x0.2 (by decide) (by decide) k_fl_RX5_46 (v := .ref (base + 73)) (zv_fin (zf5 ho_x0 rfl) rfl) dX5_clear_16 ?_
  refine lv_iconst (v := (0 : Int32)) hx hb dX5_clear_19 (by decide) ?_
  refine lv_iconst (v := (0 : Int32)) hx hb dX5_clear_20 (by decide) ?_
  obtain ⟨hin, h⟩ := h
  obtain ⟨M5, eM5⟩ : ∃ y : Mem, y = sI M4 73 (0 : Int32).toNatClampNeg (0 : Int32) := ⟨_, rfl⟩
  refine z_iast (A d0) hZ (isA_c (a := 73) hZ.k0 (by decide) rfl) hin dX5_clear_21 (fun H locs hZ => ?_)
  rw [← eM5] at hZ
  have hm : mz M5 = mz M4 := by rw [eM5] <;> rfl
  have ho_x0 := isO_le (Nat.le_of_eq hm.symm) ho_x0
  replace h := h M5 eM5
  refine lv_iload_n hx hb dX5_clear_22 rfl (lv_at hl 0 rfl) ?_
  exact z_iret A hd0 hZ hr ⟨_, rfl, h⟩ dX5_clear_23
/-! cX5_round -/
set_option maxRecDepth 100000 in
set_option maxHeartbeats 4000000 in
theorem zb_X5_round_19 {p : Program} {l : Launch} {e : Env} {R : Room} {s : State} {m : MethodId} {args : Array Value} {below : List Frame} {meth : Method} {c : Code} {G : ZG} {base z0 : Nat} {Q : Int32 → Mem → Prop} (A : ∀ d, Amb p R (s.setDrawn d) m args meth c G base z0 cX5_round yX5_round.cls 2 2 52) (hr : meth.sig.returnType = (some .int)) {d0 : Drawn} {H : Heap} {locs : List Loc} {cells slots : Nat} {ls : Array Slot}  {M : Mem} (hd0 : s.drawn.sameBut d0 lw_cs) (hZ : ZH G true base s.heap M H locs) (hl : lv_has ls 2 []) (h : wp_X5_round_19 M Q) : W p l e R (s.setDrawn d0) m args below meth c H locs cells slots (ZEnd below G true base z0 (qI Q) args s) (F0 m 19 ls []) := by
  have hx := (A d0).1
  have hb := (A d0).2.1
  unfold wp_X5_round_19 at h
  refine lv_iconst (v := (-1 : Int32)) hx hb dX5_round_19 (by decide) ?_
  exact z_iret A hd0 hZ hr ⟨_, rfl, h⟩ dX5_round_20
set_option maxRecDepth 100000 in
set_option maxHeartbeats 4000000 in
theorem c_X5_round (l : Launch) (G : ZG) (base : Nat) (M : Mem) (x0 : Nat) (x1 : Int32) (Q : Int32 → Mem → Prop) (h : wp_X5_round x0 x1 M Q) : ZMet l yX5_round cX5_round 2 (some .int) 2 52 G true base M [.ref (base + x0), .int x1] (qI Q) := by
  refine z_start (by decide) (Nat.le_of_ble_eq_true rfl) k_co_yX5_round ?_
  intro p e s m below meth c R d0 H locs cells slots ls A hr hn hd0 hZ hl
  have hx := (A d0).1
  have hb := (A d0).2.1
  have hl : lv_has ls 2 [(0, .ref (base + x0)), (1, .int x1)] := hl
  unfold wp_X5_round at h
  obtain ⟨ho_x0, h⟩ := h
  refine lv_aload_n hx hb dX5_round_0 rfl (lv_at hl 0 rfl) ?_
  refine z_get (A d0) hZ (ci := 5) (j := 23) ho_x0.1 ho_x0.2 (by decide) (by decide) k_fl_RX5_84 (v := .int (mI M x0 23)) rfl dX5_round_1 ?_
  refine lv_if_eq (tgt := 19) hx hb dX5_round_4 (by decide) (fun hc => ?_) (fun hc => ?_)
  · replace h := h.1 hc
    exact (zb_X5_round_19 A hr hd0 hZ (lv_sub hl [] rfl) h)
  · replace h := h.2 hc
    refine lv_iload_n hx hb dX5_round_7 rfl (lv_at hl 1 rfl) ?_
    refine lv_if_lt (tgt := 19) hx hb dX5_round_8 (by decide) (fun hc => ?_) (fun hc => ?_)
    · replace h := h.1 hc
      exact (zb_X5_round_19 A hr hd0 hZ (lv_sub hl [] rfl) h)
    · replace h := h.2 hc
      refine lv_iload_n hx hb dX5_round_11 rfl (lv_at hl 1 rfl) ?_
      refine lv_aload_n hx hb dX5_round_12 rfl (lv_at hl 0 rfl) ?_
      refine z_callV A hd0 hZ (ci := 5) (nA := 0) (As := []) (by decide) ho_x0 (c_X5_pieces l G base M x0 _ h) k_ml_RX5_213 k_im_yX5_pieces k_se_yX5_pieces k_in_RX5 k_co_yX5_pieces (by decide +kernel) ⟨by decide, by decide⟩ rfl rfl (Nat.le_of_ble_eq_true rfl) hl dX5_round_13 (fun v M1 H locs d0 cells slots hq hd0 hZ hm => ?_)
      clear h
      obtain ⟨i2, rfl, h⟩ := hq
      have ho_x0 := isO_le hm ho_x0
      refine lv_icmp_lt (tgt := 21) hx hb dX5_round_16 (by decide) (fun hc => ?_) (fun hc => ?_)
      · replace h := h.1 hc
        refine lv_aload_n hx hb dX5_round_21 rfl (lv_at hl 0 rfl) ?_
        refine z_get (A d0) hZ (ci := 5) (j := 12) ho_x0.1 ho_x0.2 (by decide) (by decide) k_fl_RX5_49 (v := .ref (base + 74)) (zv_fin (zf5 ho_x0 rfl) rfl) dX5_round_22 ?_
        refine lv_iload_n hx hb dX5_round_25 rfl (lv_at hl 1 rfl) ?_
        obtain ⟨hin, h⟩ := h
        refine z_iald (A d0) hZ (isA_c (a := 74) hZ.k0 (by decide) rfl) hin dX5_round_26 ?_
        refine lv_iconst (v := (1 : Int32)) hx hb dX5_round_27 (by decide) ?_
        refine lv_icmp_eq (tgt := 34) hx hb dX5_round_28 (by decide) (fun hc => ?_) (fun hc => ?_)
        · replace h := h.1 hc
          refine lv_aload_n hx hb dX5_round_34 rfl (lv_at hl 0 rfl) ?_
          refine z_get (A d0) hZ (ci := 5) (j := 12) ho_x0.1 ho_x0.2 (by decide) (by decide) k_fl_RX5_49 (v := .ref (base + 74)) (zv_fin (zf5 ho_x0 rfl) rfl) dX5_round_35 ?_
          refine lv_iload_n hx hb dX5_round_38 rfl (lv_at hl 1 rfl) ?_
          refine lv_iconst (v := (2 : Int32)) hx hb dX5_round_39 (by decide) ?_
          obtain ⟨hin, h⟩ := h
          obtain ⟨M3, eM3⟩ : ∃ y : Mem, y = sI M1 74 x1.toNatClampNeg (2 : Int32) := ⟨_, rfl⟩
          refine z_iast (A d0) hZ (isA_c (a := 74) hZ.k0 (by decide) rfl) hin dX5_round_40 (fun H locs hZ => ?_)
          rw [← eM3] at hZ
          have hm : mz M3 = mz M1 := by rw [eM3] <;> rfl
          have ho_x0 := isO_le (Nat.le_of_eq hm.symm) ho_x0
          replace h := h M3 eM3
          refine lv_aload_n hx hb dX5_round_41 rfl (lv_at hl 0 rfl) ?_
          refine lv_iload_n hx hb dX5_round_42 rfl (lv_at hl 1 rfl) ?_
          refine z_callV A hd0 hZ (ci := 5) (nA := 1) (As := [.int x1]) (by decide) ho_x0 (c_X5_miss l G base M3 x0 x1 _ h) k_ml_RX5_197 k_im_yX5_miss k_se_yX5_miss k_in_RX5 k_co_yX5_miss (by decide +kernel) ⟨by decide, by decide⟩ rfl rfl (Nat.le_of_ble_eq_true rfl) hl dX5_round_43 (fun v M4 H locs d0 cells slots hq hd0 hZ hm => ?_)
          clear h
          obtain ⟨i5, rfl, h⟩ := hq
          have ho_x0 := isO_le hm ho_x0
          refine lv_aload_n hx hb dX5_round_46 rfl (lv_at hl 0 rfl) ?_
          refine z_get (A d0) hZ (ci := 5) (j := 15) ho_x0.1 ho_x0.2 (by decide) (by decide) k_fl_RX5_58 (v := .ref (base + 77)) (zv_fin (zf5 ho_x0 rfl) rfl) dX5_round_47 ?_
          refine lv_iload_n hx hb dX5_round_50 rfl (lv_at hl 1 rfl) ?_
          obtain ⟨hin, h⟩ := h
          refine z_iald (A d0) hZ (isA_c (a := 77) hZ.k0 (by decide) rfl) hin dX5_round_51 ?_
          refine lv_icmp_gt (tgt := 57) hx hb dX5_round_52 (by decide) (fun hc => ?_) (fun hc => ?_)
          · replace h := h.1 hc
            refine lv_aload_n hx hb dX5_round_57 rfl (lv_at hl 0 rfl) ?_
            refine z_get (A d0) hZ (ci := 5) (j := 12) ho_x0.1 ho_x0.2 (by decide) (by decide) k_fl_RX5_49 (v := .ref (base + 74)) (zv_fin (zf5 ho_x0 rfl) rfl) dX5_round_58 ?_
            refine lv_iload_n hx hb dX5_round_61 rfl (lv_at hl 1 rfl) ?_
            refine lv_iconst (v := (1 : Int32)) hx hb dX5_round_62 (by decide) ?_
            obtain ⟨hin, h⟩ := h
            obtain ⟨M6, eM6⟩ : ∃ y : Mem, y = sI M4 74 x1.toNatClampNeg (1 : Int32) := ⟨_, rfl⟩
            refine z_iast (A d0) hZ (isA_c (a := 74) hZ.k0 (by decide) rfl) hin dX5_round_63 (fun H locs hZ => ?_)
            rw [← eM6] at hZ
            have hm : mz M6 = mz M4 := by rw [eM6] <;> rfl
            have ho_x0 := isO_le (Nat.le_of_eq hm.symm) ho_x0
            replace h := h M6 eM6
            refine lv_iconst (v := (0 : Int32)) hx hb dX5_round_64 (by decide) ?_
            exact z_iret A hd0 hZ hr ⟨_, rfl, h⟩ dX5_round_65
          · replace h := h.2 hc
            refine lv_iconst (v := (1 : Int32)) hx hb dX5_round_55 (by decide) ?_
            exact z_iret A hd0 hZ hr ⟨_, rfl, h⟩ dX5_round_56
        · replace h := h.2 hc
          refine lv_bipush (v := (-2 : Int32)) hx hb dX5_round_31 (by decide) ?_
          exact z_iret A hd0 hZ hr ⟨_, rfl, h⟩ dX5_round_33
      · replace h := h.2 hc
        exact (zb_X5_round_19 A hr hd0 hZ (lv_sub hl [] rfl) h)
/-! cX5_merge -/
set_option maxRecDepth 100000 in
set_option maxHeartbeats 4000000 in
theorem zb_X5_merge_21 {p : Program} {l : Launch} {e : Env} {R : Room} {s : State} {m : MethodId} {args : Array Value} {below : List Frame} {meth : Method} {c : Code} {G : ZG} {base z0 : Nat} {Q : Int32 → Mem → Prop} (A : ∀ d, Amb p R (s.setDrawn d) m args meth c G base z0 cX5_merge yX5_merge.cls 3 6 166) (hr : meth.sig.returnType = (some .int)) {d0 : Drawn} {H : Heap} {locs : List Loc} {cells slots : Nat} {ls : Array Slot}  {M : Mem} (hd0 : s.drawn.sameBut d0 lw_cs) (hZ : ZH G true base s.heap M H locs) (hl : lv_has ls 3 []) (h : wp_X5_merge_21 M Q) : W p l e R (s.setDrawn d0) m args below meth c H locs cells slots (ZEnd below G true base z0 (qI Q) args s) (F0 m 21 ls []) := by
  have hx := (A d0).1
  have hb := (A d0).2.1
  unfold wp_X5_merge_21 at h
  refine lv_iconst (v := (-1 : Int32)) hx hb dX5_merge_21 (by decide) ?_
  exact z_iret A hd0 hZ hr ⟨_, rfl, h⟩ dX5_merge_22
set_option maxRecDepth 100000 in
set_option maxHeartbeats 4000000 in
theorem c_X5_merge (l : Launch) (G : ZG) (base : Nat) (M : Mem) (x0 : Nat) (x1 : Int32) (Q : Int32 → Mem → Prop) (h : wp_X5_merge x0 x1 M Q) : ZMet l yX5_merge cX5_merge 3 (some .int) 6 166 G true base M [.ref (base + x0), .int x1] (qI Q) := by
  refine z_start (by decide) (Nat.le_of_ble_eq_true rfl) k_co_yX5_merge ?_
  intro p e s m below meth c R d0 H locs cells slots ls A hr hn hd0 hZ hl
  have hx := (A d0).1
  have hb := (A d0).2.1
  have hl : lv_has ls 3 [(0, .ref (base + x0)), (1, .int x1)] := hl
  unfold wp_X5_merge at h
  obtain ⟨ho_x0, h⟩ := h
  refine lv_aload_n hx hb dX5_merge_0 rfl (lv_at hl 0 rfl) ?_
  refine z_get (A d0) hZ (ci := 5) (j := 23) ho_x0.1 ho_x0.2 (by decide) (by decide) k_fl_RX5_84 (v := .int (mI M x0 23)) rfl dX5_merge_1 ?_
  refine lv_if_eq (tgt := 21) hx hb dX5_merge_4 (by decide) (fun hc => ?_) (fun hc => ?_)
  · replace h := h.1 hc
    exact (zb_X5_merge_21 A hr hd0 hZ (lv_sub hl [] rfl) h)
  · replace h := h.2 hc
    refine lv_iload_n hx hb dX5_merge_7 rfl (lv_at hl 1 rfl) ?_
    refine lv_if_lt (tgt := 21) hx hb dX5_merge_8 (by decide) (fun hc => ?_) (fun hc => ?_)
    · replace h := h.1 hc
      exact (zb_X5_merge_21 A hr hd0 hZ (lv_sub hl [] rfl) h)
    · replace h := h.2 hc
      refine lv_iload_n hx hb dX5_merge_11 rfl (lv_at hl 1 rfl) ?_
      refine lv_aload_n hx hb dX5_merge_12 rfl (lv_at hl 0 rfl) ?_
      refine z_callV A hd0 hZ (ci := 5) (nA := 0) (As := []) (by decide) ho_x0 (c_X5_pieces l G base M x0 _ h) k_ml_RX5_213 k_im_yX5_pieces k_se_yX5_pieces k_in_RX5 k_co_yX5_pieces (by decide +kernel) ⟨by decide, by decide⟩ rfl rfl (Nat.le_of_ble_eq_true rfl) hl dX5_merge_13 (fun v M1 H locs d0 cells slots hq hd0 hZ hm => ?_)
      clear h
      obtain ⟨i2, rfl, h⟩ := hq
      have ho_x0 := isO_le hm ho_x0
      refine lv_iconst (v := (1 : Int32)) hx hb dX5_merge_16 (by decide) ?_
      refine lv_isub hx hb dX5_merge_17 ?_
      refine lv_icmp_lt (tgt := 23) hx hb dX5_merge_18 (by decide) (fun hc => ?_) (fun hc => ?_)
      · replace h := h.1 hc
        refine lv_aload_n hx hb dX5_merge_23 rfl (lv_at hl 0 rfl) ?_
        refine lv_iconst (v := (0 : Int32)) hx hb dX5_merge_24 (by decide) ?_
        obtain ⟨M3, eM3⟩ : ∃ y : Mem, y = sI M1 x0 26 (0 : Int32) := ⟨_, rfl⟩
        refine z_put (A d0) hZ (ci := 5) (j := 26) (M' := M3) ho_x0.1 ho_x0.2 (by decide) (by decide) k_fl_RX5_94 rfl (by rw [eM3]; exact zUpd_I) rfl rfl dX5_merge_25 (fun H locs hZ => ?_)
        have hm : mz M3 = mz M1 := by rw [eM3] <;> rfl
        have ho_x0 := isO_le (Nat.le_of_eq hm.symm) ho_x0
        replace h := h M3 eM3
        refine lv_aload_n hx hb dX5_merge_28 rfl (lv_at hl 0 rfl) ?_
        refine lv_iload_n hx hb dX5_merge_29 rfl (lv_at hl 1 rfl) ?_
        refine z_callV A hd0 hZ (ci := 5) (nA := 1) (As := [.int x1]) (by decide) ho_x0 (c_X5_gather l G base M3 x0 x1 _ h) k_ml_RX5_228 k_im_yX5_gather k_se_yX5_gather k_in_RX5 k_co_yX5_gather (by decide +kernel) ⟨by decide, by decide⟩ rfl rfl (Nat.le_of_ble_eq_true rfl) hl dX5_merge_30 (fun v M4 H locs d0 cells slots hq hd0 hZ hm => ?_)
        clear h
        obtain ⟨rfl, h⟩ := hq
        have ho_x0 := isO_le hm ho_x0
        refine lv_aload_n hx hb dX5_merge_33 rfl (lv_at hl 0 rfl) ?_
        refine lv_iload_n hx hb dX5_merge_34 rfl (lv_at hl 1 rfl) ?_
        refine lv_iconst (v := (1 : Int32)) hx hb dX5_merge_35 (by decide) ?_
        refine lv_iadd hx hb dX5_merge_36 ?_
        refine z_callV A hd0 hZ (ci := 5) (nA := 1) (As := [.int (x1 + (1 : Int32))]) (by decide) ho_x0 (c_X5_gather l G base M4 x0 (x1 + (1 : Int32)) _ h) k_ml_RX5_228 k_im_yX5_gather k_se_yX5_gather k_in_RX5 k_co_yX5_gather (by decide +kernel) ⟨by decide, by decide⟩ rfl rfl (Nat.le_of_ble_eq_true rfl) hl dX5_merge_37 (fun v M5 H locs d0 cells slots hq hd0 hZ hm => ?_)
        clear h
        obtain ⟨rfl, h⟩ := hq
        have ho_x0 := isO_le hm ho_x0
        refine lv_aload_n hx hb dX5_merge_40 rfl (lv_at hl 0 rfl) ?_
        refine z_callV A hd0 hZ (ci := 5) (nA := 0) (As := []) (by decide) ho_x0 (c_X5_pieces l G base M5 x0 _ h) k_ml_RX5_213 k_im_yX5_pieces k_se_yX5_pieces k_in_RX5 k_co_yX5_pieces (by decide +kernel) ⟨by decide, by decide⟩ rfl rfl (Nat.le_of_ble_eq_true rfl) hl dX5_merge_41 (fun v M6 H locs d0 cells slots hq hd0 hZ hm => ?_)
        clear h
        obtain ⟨i7, rfl, h⟩ := hq
        have ho_x0 := isO_le hm ho_x0
        refine lv_iconst (v := (2 : Int32)) hx hb dX5_merge_44 (by decide) ?_
        refine lv_isub hx hb dX5_merge_45 ?_
        obtain ⟨i8, ei8⟩ : ∃ y : Int32, y = i7 - (2 : Int32) := ⟨_, rfl⟩
        rw [← ei8]
        replace h := h i8 ei8
        refine lv_istore_n (lv' := [(2, .int i8), (0, .ref (base + x0)), (1, .int x1)]) hx hb dX5_merge_46 rfl hl (by decide) rfl (fun ls hl2 => ?_)
        replace hl := hl2
        refine lv_aload_n hx hb dX5_merge_47 rfl (lv_at hl 1 rfl) ?_
        refine lv_iload_n hx hb dX5_merge_48 rfl (lv_at hl 2 rfl) ?_
        refine lv_iload_n hx hb dX5_merge_49 rfl (lv_at hl 2 rfl) ?_
        refine lv_iconst (v := (2 : Int32)) hx hb dX5_merge_50 (by decide) ?_
        refine lv_iadd hx hb dX5_merge_51 ?_
        refine lv_iconst (v := (1 : Int32)) hx hb dX5_merge_52 (by decide) ?_
        refine z_callV A hd0 hZ (ci := 5) (nA := 3) (As := [.int x1, .int (x1 + (2 : Int32)), .int (1 : Int32)]) (by decide) ho_x0 (c_X5_replace l G base M6 x0 x1 (x1 + (2 : Int32)) (1 : Int32) _ h) k_ml_RX5_224 k_im_yX5_replace k_se_yX5_replace k_in_RX5 k_co_yX5_replace (by decide +kernel) ⟨by decide, by decide⟩ rfl rfl (Nat.le_of_ble_eq_true rfl) hl dX5_merge_53 (fun v M9 H locs d0 cells slots hq hd0 hZ hm => ?_)
        clear h
        obtain ⟨rfl, h⟩ := hq
        have ho_x0 := isO_le hm ho_x0
        refine lv_aload_n hx hb dX5_merge_56 rfl (lv_at hl 1 rfl) ?_
        refine z_callV A hd0 hZ (ci := 5) (nA := 0) (As := []) (by decide) ho_x0 (c_X5_pieces l G base M9 x0 _ h) k_ml_RX5_213 k_im_yX5_pieces k_se_yX5_pieces k_in_RX5 k_co_yX5_pieces (by decide +kernel) ⟨by decide, by decide⟩ rfl rfl (Nat.le_of_ble_eq_true rfl) hl dX5_merge_57 (fun v M10 H locs d0 cells slots hq hd0 hZ hm => ?_)
        clear h
        obtain ⟨i11, rfl, h⟩ := hq
        have ho_x0 := isO_le hm ho_x0
        refine lv_iload_n hx hb dX5_merge_60 rfl (lv_at hl 0 rfl) ?_
        refine lv_isub hx hb dX5_merge_61 ?_
        exact z_iret A hd0 hZ hr ⟨_, rfl, h⟩ dX5_merge_62
      · replace h := h.2 hc
        exact (zb_X5_merge_21 A hr hd0 hZ (lv_sub hl [] rfl) h)
/-! cX5_say -/
set_option maxRecDepth 100000 in
set_option maxHeartbeats 4000000 in
theorem c_X5_say (l : Launch) (G : ZG) (base : Nat) (M : Mem) (x0 : Nat) (x1 : Int32) (Q : Mem → Prop) (h : wp_X5_say x0 x1 M Q) : ZMet l yX5_say cX5_say 2 none 0 0 G true base M [.ref (base + x0), .int x1] (qV Q) := by
  refine z_start (by decide) (Nat.le_of_ble_eq_true rfl) k_co_yX5_say ?_
  intro p e s m below meth c R d0 H locs cells slots ls A hr hn hd0 hZ hl
  have hx := (A d0).1
  have hb := (A d0).2.1
  have hl : lv_has ls 2 [(0, .ref (base + x0)), (1, .int x1)] := hl
  unfold wp_X5_say at h
  obtain ⟨ho_x0, h⟩ := h
  refine lv_aload_n hx hb dX5_say_0 rfl (lv_at hl 0 rfl) ?_
  refine z_get (A d0) hZ (ci := 5) (j := 37) ho_x0.1 ho_x0.2 (by decide) (by decide) k_fl_RX5_128 (v := .ref (base + 95)) (zv_fin (zf5 ho_x0 rfl) rfl) dX5_say_1 ?_
  refine lv_aload_n hx hb dX5_say_4 rfl (lv_at hl 0 rfl) ?_
  refine z_get (A d0) hZ (ci := 5) (j := 39) ho_x0.1 ho_x0.2 (by decide) (by decide) k_fl_RX5_134 (v := .int (mI M x0 39)) rfl dX5_say_5 ?_
  refine lv_iload_n hx hb dX5_say_8 rfl (lv_at hl 1 rfl) ?_
  obtain ⟨hin, h⟩ := h
  obtain ⟨M1, eM1⟩ : ∃ y : Mem, y = sI M 95 (mI M x0 39).toNatClampNeg x1 := ⟨_, rfl⟩
  refine z_iast (A d0) hZ (isA_c (a := 95) hZ.k0 (by decide) rfl) hin dX5_say_9 (fun H locs hZ => ?_)
  rw [← eM1] at hZ
  have hm : mz M1 = mz M := by rw [eM1] <;> rfl
  have ho_x0 := isO_le (Nat.le_of_eq hm.symm) ho_x0
  replace h := h M1 eM1
  refine lv_aload_n hx hb dX5_say_10 rfl (lv_at hl 0 rfl) ?_
  refine lv_dup hx hb dX5_say_11 rfl ?_
  refine z_get (A d0) hZ (ci := 5) (j := 39) ho_x0.1 ho_x0.2 (by decide) (by decide) k_fl_RX5_134 (v := .int (mI M1 x0 39)) rfl dX5_say_12 ?_
  refine lv_iconst (v := (1 : Int32)) hx hb dX5_say_15 (by decide) ?_
  refine lv_iadd hx hb dX5_say_16 ?_
  obtain ⟨M2, eM2⟩ : ∃ y : Mem, y = sI M1 x0 39 ((mI M1 x0 39) + (1 : Int32)) := ⟨_, rfl⟩
  refine z_put (A d0) hZ (ci := 5) (j := 39) (M' := M2) ho_x0.1 ho_x0.2 (by decide) (by decide) k_fl_RX5_134 rfl (by rw [eM2]; exact zUpd_I) rfl rfl dX5_say_17 (fun H locs hZ => ?_)
  have hm : mz M2 = mz M1 := by rw [eM2] <;> rfl
  have ho_x0 := isO_le (Nat.le_of_eq hm.symm) ho_x0
  replace h := h M2 eM2
  exact z_vret A hd0 hZ hr ⟨rfl, h⟩ dX5_say_20
/-! cX5_down -/
set_option maxRecDepth 100000 in
set_option maxHeartbeats 4000000 in
theorem zb_X5_down_120 {p : Program} {l : Launch} {e : Env} {R : Room} {s : State} {m : MethodId} {args : Array Value} {below : List Frame} {meth : Method} {c : Code} {G : ZG} {base z0 : Nat} {Q : Int32 → Mem → Prop} (A : ∀ d, Amb p R (s.setDrawn d) m args meth c G base z0 cX5_down yX5_down.cls 8 1 28) (hr : meth.sig.returnType = (some .int)) {K62 : Nat → Int32 → Int32 → Int64 → Int32 → Int32 → Int32 → Mem → Prop} {K125 : Nat → Int32 → Int32 → Int32 → Int32 → Mem → Prop} {d0 : Drawn} {H : Heap} {locs : List Loc} {cells slots : Nat} {ls : Array Slot} {x0 : Nat} {x1 : Int32} {x2 : Int32} {x3 : Int64} {x5 : Int32} {x6 : Int32} {t0 : Int32} {M : Mem} (ho_x0 : isO M x0 5) (hd0 : s.drawn.sameBut d0 lw_cs) (hZ : ZH G true base s.heap M H locs) (hl : lv_has ls 8 [(0, .ref (base + x0)), (1, .int x1), (2, .int x2), (3, .long x3), (5, .int x5), (6, .int x6)]) (h : wp_X5_down_120 x0 x1 x2 x3 x5 x6 t0 M Q K62 K125) (hK62 : ∀ {d0 : Drawn} {H : Heap} {locs : List Loc} {cells slots : Nat} {ls : Array Slot} {x0 : Nat} {x1 : Int32} {x2 : Int32} {x3 : Int64} {x5 : Int32} {x6 : Int32} {x7 : Int32} {M : Mem} (ho_x0 : isO M x0 5), s.drawn.sameBut d0 lw_cs → ZH G true base s.heap M H locs → lv_has ls 8 [(0, .ref (base + x0)), (1, .int x1), (2, .int x2), (3, .long x3), (5, .int x5), (6, .int x6), (7, .int x7)] → K62 x0 x1 x2 x3 x5 x6 x7 M → W p l e R (s.setDrawn d0) m args below meth c H locs cells slots (ZEnd below G true base z0 (qI Q) args s) (F0 m 62 ls [])) (hK125 : ∀ {d0 : Drawn} {H : Heap} {locs : List Loc} {cells slots : Nat} {ls : Array Slot} {x0 : Nat} {x1 : Int32} {x2 : Int32} {x5 : Int32} {x6 : Int32} {M : Mem} (ho_x0 : isO M x0 5), s.drawn.sameBut d0 lw_cs → ZH G true base s.heap M H locs → lv_has ls 8 [(0, .ref (base + x0)), (1, .int x1), (2, .int x2), (5, .int x5), (6, .int x6)] → K125 x0 x1 x2 x5 x6 M → W p l e R (s.setDrawn d0) m args below meth c H locs cells slots (ZEnd below G true base z0 (qI Q) args s) (F0 m 125 ls [])) : W p l e R (s.setDrawn d0) m args below meth c H locs cells slots (ZEnd below G true base z0 (qI Q) args s) (F0 m 120 ls [.int t0]) := by
  have hx := (A d0).1
  have hb := (A d0).2.1
  unfold wp_X5_down_120 at h
  refine lv_istore (lv' := [(7, .int t0), (0, .ref (base + x0)), (1, .int x1), (2, .int x2), (3, .long x3), (5, .int x5), (6, .int x6)]) hx hb dX5_down_120 hl (by decide) rfl (fun ls hl2 => ?_)
  replace hl := hl2
  refine lv_goto (tgt := 62) hx hb dX5_down_122 (by decide) ?_
  exact hK62 ho_x0 hd0 hZ (lv_sub hl [1, 2, 3, 4, 5, 6, 0] rfl) h
set_option maxRecDepth 100000 in
set_option maxHeartbeats 4000000 in
theorem zb_X5_down_125 {p : Program} {l : Launch} {e : Env} {R : Room} {s : State} {m : MethodId} {args : Array Value} {below : List Frame} {meth : Method} {c : Code} {G : ZG} {base z0 : Nat} {Q : Int32 → Mem → Prop} (A : ∀ d, Amb p R (s.setDrawn d) m args meth c G base z0 cX5_down yX5_down.cls 8 1 28) (hr : meth.sig.returnType = (some .int)) {d0 : Drawn} {H : Heap} {locs : List Loc} {cells slots : Nat} {ls : Array Slot} {x0 : Nat} {x1 : Int32} {x2 : Int32} {x5 : Int32} {x6 : Int32} {M : Mem} (ho_x0 : isO M x0 5) (hd0 : s.drawn.sameBut d0 lw_cs) (hZ : ZH G true base s.heap M H locs) (hl : lv_has ls 8 [(0, .ref (base + x0)), (1, .int x1), (2, .int x2), (5, .int x5), (6, .int x6)]) (h : wp_X5_down_125 x0 x1 x2 x5 x6 M Q) : W p l e R (s.setDrawn d0) m args below meth c H locs cells slots (ZEnd below G true base z0 (qI Q) args s) (F0 m 125 ls []) := by
  have hx := (A d0).1
  have hb := (A d0).2.1
  unfold wp_X5_down_125 at h
  refine lv_aload_n hx hb dX5_down_125 rfl (lv_at hl 0 rfl) ?_
  refine lv_iload_n hx hb dX5_down_126 rfl (lv_at hl 1 rfl) ?_
  refine lv_aload_n hx hb dX5_down_127 rfl (lv_at hl 0 rfl) ?_
  refine z_get (A d0) hZ (ci := 5) (j := 10) ho_x0.1 ho_x0.2 (by decide) (by decide) k_fl_RX5_42 (v := .ref (base + 72)) (zv_fin (zf5 ho_x0 rfl) rfl) dX5_down_128 ?_
  refine lv_iload_n hx hb dX5_down_131 rfl (lv_at hl 2 rfl) ?_
  obtain ⟨hin, h⟩ := h
  refine z_iald (A d0) hZ (isA_c (a := 72) hZ.k0 (by decide) rfl) hin dX5_down_132 ?_
  refine lv_isub hx hb dX5_down_133 ?_
  refine z_callV A hd0 hZ (ci := 5) (nA := 1) (As := [.int (x1 - (mI M 72 x2.toNatClampNeg))]) (by decide) ho_x0 (c_X5_say l G base M x0 (x1 - (mI M 72 x2.toNatClampNeg)) _ h) k_ml_RX5_243 k_im_yX5_say k_se_yX5_say k_in_RX5 k_co_yX5_say (by decide +kernel) ⟨by decide, by decide⟩ rfl rfl (Nat.le_of_ble_eq_true rfl) hl dX5_down_134 (fun v M3 H locs d0 cells slots hq hd0 hZ hm => ?_)
  clear h
  obtain ⟨rfl, h⟩ := hq
  have ho_x0 := isO_le hm ho_x0
  refine lv_aload_n hx hb dX5_down_137 rfl (lv_at hl 0 rfl) ?_
  refine lv_iload hx hb dX5_down_138 (lv_at hl 3 rfl) ?_
  refine z_callV A hd0 hZ (ci := 5) (nA := 1) (As := [.int x5]) (by decide) ho_x0 (c_X5_say l G base M3 x0 x5 _ h) k_ml_RX5_243 k_im_yX5_say k_se_yX5_say k_in_RX5 k_co_yX5_say (by decide +kernel) ⟨by decide, by decide⟩ rfl rfl (Nat.le_of_ble_eq_true rfl) hl dX5_down_140 (fun v M4 H locs d0 cells slots hq hd0 hZ hm => ?_)
  clear h
  obtain ⟨rfl, h⟩ := hq
  have ho_x0 := isO_le hm ho_x0
  refine lv_aload_n hx hb dX5_down_143 rfl (lv_at hl 0 rfl) ?_
  refine lv_iload hx hb dX5_down_144 (lv_at hl 4 rfl) ?_
  refine z_callV A hd0 hZ (ci := 5) (nA := 1) (As := [.int x6]) (by decide) ho_x0 (c_X5_say l G base M4 x0 x6 _ h) k_ml_RX5_243 k_im_yX5_say k_se_yX5_say k_in_RX5 k_co_yX5_say (by decide +kernel) ⟨by decide, by decide⟩ rfl rfl (Nat.le_of_ble_eq_true rfl) hl dX5_down_146 (fun v M5 H locs d0 cells slots hq hd0 hZ hm => ?_)
  clear h
  obtain ⟨rfl, h⟩ := hq
  have ho_x0 := isO_le hm ho_x0
  refine lv_iload hx hb dX5_down_149 (lv_at hl 4 rfl) ?_
  exact z_iret A hd0 hZ hr ⟨_, rfl, h⟩ dX5_down_151
set_option maxRecDepth 100000 in
set_option maxHeartbeats 4000000 in
theorem zb_X5_down_119 {p : Program} {l : Launch} {e : Env} {R : Room} {s : State} {m : MethodId} {args : Array Value} {below : List Frame} {meth : Method} {c : Code} {G : ZG} {base z0 : Nat} {Q : Int32 → Mem → Prop} (A : ∀ d, Amb p R (s.setDrawn d) m args meth c G base z0 cX5_down yX5_down.cls 8 1 28) (hr : meth.sig.returnType = (some .int)) {K62 : Nat → Int32 → Int32 → Int64 → Int32 → Int32 → Int32 → Mem → Prop} {K125 : Nat → Int32 → Int32 → Int32 → Int32 → Mem → Prop} {d0 : Drawn} {H : Heap} {locs : List Loc} {cells slots : Nat} {ls : Array Slot} {x0 : Nat} {x1 : Int32} {x2 : Int32} {x3 : Int64} {x5 : Int32} {x6 : Int32} {M : Mem} (ho_x0 : isO M x0 5) (hd0 : s.drawn.sameBut d0 lw_cs) (hZ : ZH G true base s.heap M H locs) (hl : lv_has ls 8 [(0, .ref (base + x0)), (1, .int x1), (2, .int x2), (3, .long x3), (5, .int x5), (6, .int x6)]) (h : wp_X5_down_119 x0 x1 x2 x3 x5 x6 M Q K62 K125) (hK62 : ∀ {d0 : Drawn} {H : Heap} {locs : List Loc} {cells slots : Nat} {ls : Array Slot} {x0 : Nat} {x1 : Int32} {x2 : Int32} {x3 : Int64} {x5 : Int32} {x6 : Int32} {x7 : Int32} {M : Mem} (ho_x0 : isO M x0 5), s.drawn.sameBut d0 lw_cs → ZH G true base s.heap M H locs → lv_has ls 8 [(0, .ref (base + x0)), (1, .int x1), (2, .int x2), (3, .long x3), (5, .int x5), (6, .int x6), (7, .int x7)] → K62 x0 x1 x2 x3 x5 x6 x7 M → W p l e R (s.setDrawn d0) m args below meth c H locs cells slots (ZEnd below G true base z0 (qI Q) args s) (F0 m 62 ls [])) (hK125 : ∀ {d0 : Drawn} {H : Heap} {locs : List Loc} {cells slots : Nat} {ls : Array Slot} {x0 : Nat} {x1 : Int32} {x2 : Int32} {x5 : Int32} {x6 : Int32} {M : Mem} (ho_x0 : isO M x0 5), s.drawn.sameBut d0 lw_cs → ZH G true base s.heap M H locs → lv_has ls 8 [(0, .ref (base + x0)), (1, .int x1), (2, .int x2), (5, .int x5), (6, .int x6)] → K125 x0 x1 x2 x5 x6 M → W p l e R (s.setDrawn d0) m args below meth c H locs cells slots (ZEnd below G true base z0 (qI Q) args s) (F0 m 125 ls [])) : W p l e R (s.setDrawn d0) m args below meth c H locs cells slots (ZEnd below G true base z0 (qI Q) args s) (F0 m 119 ls []) := by
  have hx := (A d0).1
  have hb := (A d0).2.1
  unfold wp_X5_down_119 at h
  refine lv_iconst (v := (0 : Int32)) hx hb dX5_down_119 (by decide) ?_
  exact (zb_X5_down_120 A hr ho_x0 hd0 hZ (lv_sub hl [0, 1, 2, 3, 4, 5] rfl) h hK62 hK125)
set_option maxRecDepth 100000 in
set_option maxHeartbeats 4000000 in
theorem zb_X5_down_105 {p : Program} {l : Launch} {e : Env} {R : Room} {s : State} {m : MethodId} {args : Array Value} {below : List Frame} {meth : Method} {c : Code} {G : ZG} {base z0 : Nat} {Q : Int32 → Mem → Prop} (A : ∀ d, Amb p R (s.setDrawn d) m args meth c G base z0 cX5_down yX5_down.cls 8 1 28) (hr : meth.sig.returnType = (some .int)) {K62 : Nat → Int32 → Int32 → Int64 → Int32 → Int32 → Int32 → Mem → Prop} {K125 : Nat → Int32 → Int32 → Int32 → Int32 → Mem → Prop} {d0 : Drawn} {H : Heap} {locs : List Loc} {cells slots : Nat} {ls : Array Slot} {x0 : Nat} {x1 : Int32} {x2 : Int32} {x3 : Int64} {x5 : Int32} {x6 : Int32} {x7 : Int32} {M : Mem} (ho_x0 : isO M x0 5) (hd0 : s.drawn.sameBut d0 lw_cs) (hZ : ZH G true base s.heap M H locs) (hl : lv_has ls 8 [(0, .ref (base + x0)), (1, .int x1), (2, .int x2), (3, .long x3), (5, .int x5), (6, .int x6), (7, .int x7)]) (h : wp_X5_down_105 x0 x1 x2 x3 x5 x6 x7 M Q K62 K125) (hK62 : ∀ {d0 : Drawn} {H : Heap} {locs : List Loc} {cells slots : Nat} {ls : Array Slot} {x0 : Nat} {x1 : Int32} {x2 : Int32} {x3 : Int64} {x5 : Int32} {x6 : Int32} {x7 : Int32} {M : Mem} (ho_x0 : isO M x0 5), s.drawn.sameBut d0 lw_cs → ZH G true base s.heap M H locs → lv_has ls 8 [(0, .ref (base + x0)), (1, .int x1), (2, .int x2), (3, .long x3), (5, .int x5), (6, .int x6), (7, .int x7)] → K62 x0 x1 x2 x3 x5 x6 x7 M → W p l e R (s.setDrawn d0) m args below meth c H locs cells slots (ZEnd below G true base z0 (qI Q) args s) (F0 m 62 ls [])) (hK125 : ∀ {d0 : Drawn} {H : Heap} {locs : List Loc} {cells slots : Nat} {ls : Array Slot} {x0 : Nat} {x1 : Int32} {x2 : Int32} {x5 : Int32} {x6 : Int32} {M : Mem} (ho_x0 : isO M x0 5), s.drawn.sameBut d0 lw_cs → ZH G true base s.heap M H locs → lv_has ls 8 [(0, .ref (base + x0)), (1, .int x1), (2, .int x2), (5, .int x5), (6, .int x6)] → K125 x0 x1 x2 x5 x6 M → W p l e R (s.setDrawn d0) m args below meth c H locs cells slots (ZEnd below G true base z0 (qI Q) args s) (F0 m 125 ls [])) : W p l e R (s.setDrawn d0) m args below meth c H locs cells slots (ZEnd below G true base z0 (qI Q) args s) (F0 m 105 ls []) := by
  have hx := (A d0).1
  have hb := (A d0).2.1
  unfold wp_X5_down_105 at h
  refine lv_iload hx hb dX5_down_105 (lv_at hl 6 rfl) ?_
  refine lv_if_eq (tgt := 119) hx hb dX5_down_107 (by decide) (fun hc => ?_) (fun hc => ?_)
  · replace h := h.1 hc
    exact (zb_X5_down_119 A hr ho_x0 hd0 hZ (lv_sub hl [0, 1, 2, 3, 4, 5] rfl) h hK62 hK125)
  · replace h := h.2 hc
    refine lv_iload hx hb dX5_down_110 (lv_at hl 5 rfl) ?_
    refine lv_if_le (tgt := 119) hx hb dX5_down_112 (by decide) (fun hc => ?_) (fun hc => ?_)
    · replace h := h.1 hc
      exact (zb_X5_down_119 A hr ho_x0 hd0 hZ (lv_sub hl [0, 1, 2, 3, 4, 5] rfl) h hK62 hK125)
    · replace h := h.2 hc
      refine lv_iconst (v := (1 : Int32)) hx hb dX5_down_115 (by decide) ?_
      refine lv_goto (tgt := 120) hx hb dX5_down_116 (by decide) ?_
      exact (zb_X5_down_120 A hr ho_x0 hd0 hZ (lv_sub hl [0, 1, 2, 3, 4, 5] rfl) h hK62 hK125)
set_option maxRecDepth 100000 in
set_option maxHeartbeats 4000000 in
theorem zb_X5_down_62 {p : Program} {l : Launch} {e : Env} {R : Room} {s : State} {m : MethodId} {args : Array Value} {below : List Frame} {meth : Method} {c : Code} {G : ZG} {base z0 : Nat} {Q : Int32 → Mem → Prop} (A : ∀ d, Amb p R (s.setDrawn d) m args meth c G base z0 cX5_down yX5_down.cls 8 1 28) (hr : meth.sig.returnType = (some .int)) {K125 : Nat → Int32 → Int32 → Int32 → Int32 → Mem → Prop} :
  ∀ (n : Nat) {d0 : Drawn} {H : Heap} {locs : List Loc} {cells slots : Nat} {ls : Array Slot} {x0 : Nat} {x1 : Int32} {x2 : Int32} {x3 : Int64} {x5 : Int32} {x6 : Int32} {x7 : Int32} {M : Mem} (ho_x0 : isO M x0 5) (hd0 : s.drawn.sameBut d0 lw_cs) (hZ : ZH G true base s.heap M H locs) (hl : lv_has ls 8 [(0, .ref (base + x0)), (1, .int x1), (2, .int x2), (3, .long x3), (5, .int x5), (6, .int x6), (7, .int x7)]) (h : wp_X5_down_62 n x0 x1 x2 x3 x5 x6 x7 M Q K125) (hK125 : ∀ {d0 : Drawn} {H : Heap} {locs : List Loc} {cells slots : Nat} {ls : Array Slot} {x0 : Nat} {x1 : Int32} {x2 : Int32} {x5 : Int32} {x6 : Int32} {M : Mem} (ho_x0 : isO M x0 5), s.drawn.sameBut d0 lw_cs → ZH G true base s.heap M H locs → lv_has ls 8 [(0, .ref (base + x0)), (1, .int x1), (2, .int x2), (5, .int x5), (6, .int x6)] → K125 x0 x1 x2 x5 x6 M → W p l e R (s.setDrawn d0) m args below meth c H locs cells slots (ZEnd below G true base z0 (qI Q) args s) (F0 m 125 ls [])), W p l e R (s.setDrawn d0) m args below meth c H locs cells slots (ZEnd below G true base z0 (qI Q) args s) (F0 m 62 ls []) := by
  have hx := (A default).1
  have hb := (A default).2.1
  intro n
  induction n with
  | zero => intro d0 H locs cells slots ls x0 x1 x2 x3 x5 x6 x7 M ho_x0 hd0 hZ hl h hK125; exact h.elim
  | succ n ih =>
    intro d0 H locs cells slots ls x0 x1 x2 x3 x5 x6 x7 M ho_x0 hd0 hZ hl h hK125
    unfold wp_X5_down_62 at h
    refine lv_iload hx hb dX5_down_62 (lv_at hl 6 rfl) ?_
    refine lv_if_eq (tgt := 125) hx hb dX5_down_64 (by decide) (fun hc => ?_) (fun hc => ?_)
    · replace h := h.1 hc
      exact hK125 ho_x0 hd0 hZ (lv_sub hl [0, 1, 2, 4, 5] rfl) h
    · replace h := h.2 hc
      refine lv_aload_n hx hb dX5_down_67 rfl (lv_at hl 0 rfl) ?_
      refine lv_dup hx hb dX5_down_68 rfl ?_
      refine z_get (A d0) hZ (ci := 5) (j := 41) ho_x0.1 ho_x0.2 (by decide) (by decide) k_fl_RX5_140 (v := .int (mI M x0 41)) rfl dX5_down_69 ?_
      refine lv_iconst (v := (1 : Int32)) hx hb dX5_down_72 (by decide) ?_
      refine lv_iadd hx hb dX5_down_73 ?_
      obtain ⟨M1, eM1⟩ : ∃ y : Mem, y = sI M x0 41 ((mI M x0 41) + (1 : Int32)) := ⟨_, rfl⟩
      refine z_put (A d0) hZ (ci := 5) (j := 41) (M' := M1) ho_x0.1 ho_x0.2 (by decide) (by decide) k_fl_RX5_140 rfl (by rw [eM1]; exact zUpd_I) rfl rfl dX5_down_74 (fun H locs hZ => ?_)
      have hm : mz M1 = mz M := by rw [eM1] <;> rfl
      have ho_x0 := isO_le (Nat.le_of_eq hm.symm) ho_x0
      replace h := h M1 eM1
      refine lv_aload_n hx hb dX5_down_77 rfl (lv_at hl 0 rfl) ?_
      refine z_get (A d0) hZ (ci := 5) (j := 20) ho_x0.1 ho_x0.2 (by decide) (by decide) k_fl_RX5_73 (v := .ref (base + 82)) (zv_fin (zf5 ho_x0 rfl) rfl) dX5_down_78 ?_
      refine lv_aload_n hx hb dX5_down_81 rfl (lv_at hl 0 rfl) ?_
      refine z_get (A d0) hZ (ci := 5) (j := 13) ho_x0.1 ho_x0.2 (by decide) (by decide) k_fl_RX5_52 (v := .ref (base + 75)) (zv_fin (zf5 ho_x0 rfl) rfl) dX5_down_82 ?_
      refine lv_iload_n hx hb dX5_down_85 rfl (lv_at hl 1 rfl) ?_
      obtain ⟨hin, h⟩ := h
      refine z_iald (A d0) hZ (isA_c (a := 75) hZ.k0 (by decide) rfl) hin dX5_down_86 ?_
      refine lv_iload hx hb dX5_down_87 (lv_at hl 5 rfl) ?_
      refine lv_iadd hx hb dX5_down_89 ?_
      obtain ⟨hin, h⟩ := h
      refine z_lald (A d0) hZ (isA_c (a := 82) hZ.k0 (by decide) rfl) hin dX5_down_90 ?_
      refine lv_lload_n hx hb dX5_down_91 rfl (lv_at hl 3 rfl) ?_
      refine z_lc_le (tgt := 102) hx hb dX5_down_92 dX5_down_93 (by decide) (fun hc => ?_) (fun hc => ?_)
      · replace h := h.1 hc
        refine lv_iconst (v := (0 : Int32)) hx hb dX5_down_102 (by decide) ?_
        refine lv_istore (lv' := [(7, .int (0 : Int32)), (0, .ref (base + x0)), (1, .int x1), (2, .int x2), (3, .long x3), (5, .int x5), (6, .int x6)]) hx hb dX5_down_103 hl (by decide) rfl (fun ls hl2 => ?_)
        replace hl := hl2
        exact (zb_X5_down_105 A hr ho_x0 hd0 hZ (lv_sub hl [1, 2, 3, 4, 5, 6, 0] rfl) h (fun ho_x0 hd0 hZ hl h => ih ho_x0 hd0 hZ hl h hK125) hK125)
      · replace h := h.2 hc
        obtain ⟨i2, ei2⟩ : ∃ y : Int32, y = x6 + (-1 : Int32) := ⟨_, rfl⟩
        replace h := h i2 ei2
        refine lv_iinc (v := i2) (lv' := [(6, .int i2), (0, .ref (base + x0)), (1, .int x1), (2, .int x2), (3, .long x3), (5, .int x5), (7, .int x7)]) hx hb dX5_down_96 hl (k := 5) rfl (by rw [ei2]; rfl) (by decide) rfl (fun ls hl2 => ?_)
        replace hl := hl2
        refine lv_goto (tgt := 105) hx hb dX5_down_99 (by decide) ?_
        exact (zb_X5_down_105 A hr ho_x0 hd0 hZ (lv_sub hl [1, 2, 3, 4, 5, 0, 6] rfl) h (fun ho_x0 hd0 hZ hl h => ih ho_x0 hd0 hZ hl h hK125) hK125)
set_option maxRecDepth 100000 in
set_option maxHeartbeats 4000000 in
theorem zb_X5_down_60 {p : Program} {l : Launch} {e : Env} {R : Room} {s : State} {m : MethodId} {args : Array Value} {below : List Frame} {meth : Method} {c : Code} {G : ZG} {base z0 : Nat} {Q : Int32 → Mem → Prop} (A : ∀ d, Amb p R (s.setDrawn d) m args meth c G base z0 cX5_down yX5_down.cls 8 1 28) (hr : meth.sig.returnType = (some .int)) {d0 : Drawn} {H : Heap} {locs : List Loc} {cells slots : Nat} {ls : Array Slot} {x0 : Nat} {x1 : Int32} {x2 : Int32} {x3 : Int64} {x5 : Int32} {x6 : Int32} {t0 : Int32} {M : Mem} (ho_x0 : isO M x0 5) (hd0 : s.drawn.sameBut d0 lw_cs) (hZ : ZH G true base s.heap M H locs) (hl : lv_has ls 8 [(0, .ref (base + x0)), (1, .int x1), (2, .int x2), (3, .long x3), (5, .int x5), (6, .int x6)]) (h : wp_X5_down_60 x0 x1 x2 x3 x5 x6 t0 M Q) : W p l e R (s.setDrawn d0) m args below meth c H locs cells slots (ZEnd below G true base z0 (qI Q) args s) (F0 m 60 ls [.int t0]) := by
  have hx := (A d0).1
  have hb := (A d0).2.1
  unfold wp_X5_down_60 at h
  refine lv_istore (lv' := [(7, .int t0), (0, .ref (base + x0)), (1, .int x1), (2, .int x2), (3, .long x3), (5, .int x5), (6, .int x6)]) hx hb dX5_down_60 hl (by decide) rfl (fun ls hl2 => ?_)
  replace hl := hl2
  exact (Exists.elim h fun kk h => zb_X5_down_62 A hr kk ho_x0 hd0 hZ (lv_sub hl [1, 2, 3, 4, 5, 6, 0] rfl) h (fun ho_x0 hd0 hZ hl h => (zb_X5_down_125 A hr ho_x0 hd0 hZ hl h)))
set_option maxRecDepth 100000 in
set_option maxHeartbeats 4000000 in
theorem zb_X5_down_48 {p : Program} {l : Launch} {e : Env} {R : Room} {s : State} {m : MethodId} {args : Array Value} {below : List Frame} {meth : Method} {c : Code} {G : ZG} {base z0 : Nat} {Q : Int32 → Mem → Prop} (A : ∀ d, Amb p R (s.setDrawn d) m args meth c G base z0 cX5_down yX5_down.cls 8 1 28) (hr : meth.sig.returnType = (some .int)) {d0 : Drawn} {H : Heap} {locs : List Loc} {cells slots : Nat} {ls : Array Slot} {x0 : Nat} {x1 : Int32} {x2 : Int32} {x3 : Int64} {x5 : Int32} {t0 : Int32} {M : Mem} (ho_x0 : isO M x0 5) (hd0 : s.drawn.sameBut d0 lw_cs) (hZ : ZH G true base s.heap M H locs) (hl : lv_has ls 8 [(0, .ref (base + x0)), (1, .int x1), (2, .int x2), (3, .long x3), (5, .int x5)]) (h : wp_X5_down_48 x0 x1 x2 x3 x5 t0 M Q) : W p l e R (s.setDrawn d0) m args below meth c H locs cells slots (ZEnd below G true base z0 (qI Q) args s) (F0 m 48 ls [.int t0]) := by
  have hx := (A d0).1
  have hb := (A d0).2.1
  unfold wp_X5_down_48 at h
  refine lv_istore (lv' := [(6, .int t0), (0, .ref (base + x0)), (1, .int x1), (2, .int x2), (3, .long x3), (5, .int x5)]) hx hb dX5_down_48 hl (by decide) rfl (fun ls hl2 => ?_)
  replace hl := hl2
  refine lv_iload hx hb dX5_down_50 (lv_at hl 0 rfl) ?_
  refine lv_if_le (tgt := 59) hx hb dX5_down_52 (by decide) (fun hc => ?_) (fun hc => ?_)
  · replace h := h.1 hc
    refine lv_iconst (v := (0 : Int32)) hx hb dX5_down_59 (by decide) ?_
    exact (zb_X5_down_60 A hr ho_x0 hd0 hZ (lv_sub hl [1, 2, 3, 4, 5, 0] rfl) h)
  · replace h := h.2 hc
    refine lv_iconst (v := (1 : Int32)) hx hb dX5_down_55 (by decide) ?_
    refine lv_goto (tgt := 60) hx hb dX5_down_56 (by decide) ?_
    exact (zb_X5_down_60 A hr ho_x0 hd0 hZ (lv_sub hl [1, 2, 3, 4, 5, 0] rfl) h)
set_option maxRecDepth 100000 in
set_option maxHeartbeats 4000000 in
theorem c_X5_down (l : Launch) (G : ZG) (base : Nat) (M : Mem) (x0 : Nat) (x1 : Int32) (x2 : Int32) (x3 : Int64) (Q : Int32 → Mem → Prop) (h : wp_X5_down x0 x1 x2 x3 M Q) : ZMet l yX5_down cX5_down 8 (some .int) 1 28 G true base M [.ref (base + x0), .int x1, .int x2, .long x3] (qI Q) := by
  refine z_start (by decide) (Nat.le_of_ble_eq_true rfl) k_co_yX5_down ?_
  intro p e s m below meth c R d0 H locs cells slots ls A hr hn hd0 hZ hl
  have hx := (A d0).1
  have hb := (A d0).2.1
  have hl : lv_has ls 8 [(0, .ref (base + x0)), (1, .int x1), (2, .int x2), (3, .long x3)] := hl
  unfold wp_X5_down at h
  obtain ⟨ho_x0, h⟩ := h
  refine lv_aload_n hx hb dX5_down_0 rfl (lv_at hl 0 rfl) ?_
  refine lv_iload_n hx hb dX5_down_1 rfl (lv_at hl 1 rfl) ?_
  refine lv_lload_n hx hb dX5_down_2 rfl (lv_at hl 3 rfl) ?_
  refine z_callV A hd0 hZ (ci := 5) (nA := 2) (As := [.int x1, .long x3]) (by decide) ho_x0 (c_X5_guessOf l G base M x0 x1 x3 _ h) k_ml_RX5_235 k_im_yX5_guessOf k_se_yX5_guessOf k_in_RX5 k_co_yX5_guessOf (by decide +kernel) ⟨by decide, by decide⟩ rfl rfl (Nat.le_of_ble_eq_true rfl) hl dX5_down_3 (fun v M6 H locs d0 cells slots hq hd0 hZ hm => ?_)
  clear h
  obtain ⟨i7, rfl, h⟩ := hq
  have ho_x0 := isO_le hm ho_x0
  refine lv_istore (lv' := [(5, .int i7), (0, .ref (base + x0)), (1, .int x1), (2, .int x2), (3, .long x3)]) hx hb dX5_down_6 hl (by decide) rfl (fun ls hl2 => ?_)
  replace hl := hl2
  refine lv_iload hx hb dX5_down_8 (lv_at hl 0 rfl) ?_
  refine lv_aload_n hx hb dX5_down_10 rfl (lv_at hl 1 rfl) ?_
  refine z_get (A d0) hZ (ci := 5) (j := 15) ho_x0.1 ho_x0.2 (by decide) (by decide) k_fl_RX5_58 (v := .ref (base + 77)) (zv_fin (zf5 ho_x0 rfl) rfl) dX5_down_11 ?_
  refine lv_iload_n hx hb dX5_down_14 rfl (lv_at hl 2 rfl) ?_
  obtain ⟨hin, h⟩ := h
  refine z_iald (A d0) hZ (isA_c (a := 77) hZ.k0 (by decide) rfl) hin dX5_down_15 ?_
  refine lv_iadd hx hb dX5_down_16 ?_
  refine lv_aload_n hx hb dX5_down_17 rfl (lv_at hl 1 rfl) ?_
  refine z_get (A d0) hZ (ci := 5) (j := 14) ho_x0.1 ho_x0.2 (by decide) (by decide) k_fl_RX5_55 (v := .ref (base + 76)) (zv_fin (zf5 ho_x0 rfl) rfl) dX5_down_18 ?_
  refine lv_iload_n hx hb dX5_down_21 rfl (lv_at hl 2 rfl) ?_
  obtain ⟨hin, h⟩ := h
  refine z_iald (A d0) hZ (isA_c (a := 76) hZ.k0 (by decide) rfl) hin dX5_down_22 ?_
  refine lv_iconst (v := (1 : Int32)) hx hb dX5_down_23 (by decide) ?_
  refine lv_isub hx hb dX5_down_24 ?_
  refine lv_icmp_ge (tgt := 40) hx hb dX5_down_25 (by decide) (fun hc => ?_) (fun hc => ?_)
  · replace h := h.1 hc
    refine lv_aload_n hx hb dX5_down_40 rfl (lv_at hl 1 rfl) ?_
    refine z_get (A d0) hZ (ci := 5) (j := 14) ho_x0.1 ho_x0.2 (by decide) (by decide) k_fl_RX5_55 (v := .ref (base + 76)) (zv_fin (zf5 ho_x0 rfl) rfl) dX5_down_41 ?_
    refine lv_iload_n hx hb dX5_down_44 rfl (lv_at hl 2 rfl) ?_
    obtain ⟨hin, h⟩ := h
    refine z_iald (A d0) hZ (isA_c (a := 76) hZ.k0 (by decide) rfl) hin dX5_down_45 ?_
    refine lv_iconst (v := (1 : Int32)) hx hb dX5_down_46 (by decide) ?_
    refine lv_isub hx hb dX5_down_47 ?_
    exact (zb_X5_down_48 A hr ho_x0 hd0 hZ (lv_sub hl [1, 2, 3, 4, 0] rfl) h)
  · replace h := h.2 hc
    refine lv_iload hx hb dX5_down_28 (lv_at hl 0 rfl) ?_
    refine lv_aload_n hx hb dX5_down_30 rfl (lv_at hl 1 rfl) ?_
    refine z_get (A d0) hZ (ci := 5) (j := 15) ho_x0.1 ho_x0.2 (by decide) (by decide) k_fl_RX5_58 (v := .ref (base + 77)) (zv_fin (zf5 ho_x0 rfl) rfl) dX5_down_31 ?_
    refine lv_iload_n hx hb dX5_down_34 rfl (lv_at hl 2 rfl) ?_
    obtain ⟨hin, h⟩ := h
    refine z_iald (A d0) hZ (isA_c (a := 77) hZ.k0 (by decide) rfl) hin dX5_down_35 ?_
    refine lv_iadd hx hb dX5_down_36 ?_
    refine lv_goto (tgt := 48) hx hb dX5_down_37 (by decide) ?_
    exact (zb_X5_down_48 A hr ho_x0 hd0 hZ (lv_sub hl [1, 2, 3, 4, 0] rfl) h)
/-! cX5_found -/
set_option maxRecDepth 100000 in
set_option maxHeartbeats 4000000 in
theorem zb_X5_found_33 {p : Program} {l : Launch} {e : Env} {R : Room} {s : State} {m : MethodId} {args : Array Value} {below : List Frame} {meth : Method} {c : Code} {G : ZG} {base z0 : Nat} {Q : Int32 → Mem → Prop} (A : ∀ d, Amb p R (s.setDrawn d) m args meth c G base z0 cX5_found yX5_found.cls 9 2 55) (hr : meth.sig.returnType = (some .boolean)) {K88 : Nat → Int64 → Int32 → Int32 → Mem → Prop} :
  ∀ (n : Nat) {d0 : Drawn} {H : Heap} {locs : List Loc} {cells slots : Nat} {ls : Array Slot} {x0 : Nat} {x1 : Int64} {x3 : Int32} {x4 : Int32} {x5 : Int32} {M : Mem} (ho_x0 : isO M x0 5) (hd0 : s.drawn.sameBut d0 lw_cs) (hZ : ZH G true base s.heap M H locs) (hl : lv_has ls 9 [(0, .ref (base + x0)), (1, .long x1), (3, .int x3), (4, .int x4), (5, .int x5)]) (h : wp_X5_found_33 n x0 x1 x3 x4 x5 M Q K88) (hK88 : ∀ {d0 : Drawn} {H : Heap} {locs : List Loc} {cells slots : Nat} {ls : Array Slot} {x0 : Nat} {x1 : Int64} {x4 : Int32} {x5 : Int32} {M : Mem} (ho_x0 : isO M x0 5), s.drawn.sameBut d0 lw_cs → ZH G true base s.heap M H locs → lv_has ls 9 [(0, .ref (base + x0)), (1, .long x1), (4, .int x4), (5, .int x5)] → K88 x0 x1 x4 x5 M → W p l e R (s.setDrawn d0) m args below meth c H locs cells slots (ZEnd below G true base z0 (qI Q) args s) (F0 m 88 ls [])), W p l e R (s.setDrawn d0) m args below meth c H locs cells slots (ZEnd below G true base z0 (qI Q) args s) (F0 m 33 ls []) := by
  have hx := (A default).1
  have hb := (A default).2.1
  intro n
  induction n with
  | zero => intro d0 H locs cells slots ls x0 x1 x3 x4 x5 M ho_x0 hd0 hZ hl h hK88; exact h.elim
  | succ n ih =>
    intro d0 H locs cells slots ls x0 x1 x3 x4 x5 M ho_x0 hd0 hZ hl h hK88
    unfold wp_X5_found_33 at h
    refine lv_iload_n hx hb dX5_found_33 rfl (lv_at hl 2 rfl) ?_
    refine lv_if_le (tgt := 88) hx hb dX5_found_34 (by decide) (fun hc => ?_) (fun hc => ?_)
    · replace h := h.1 hc
      exact hK88 ho_x0 hd0 hZ (lv_sub hl [0, 1, 3, 4] rfl) h
    · replace h := h.2 hc
      refine lv_aload_n hx hb dX5_found_37 rfl (lv_at hl 0 rfl) ?_
      refine z_get (A d0) hZ (ci := 5) (j := 13) ho_x0.1 ho_x0.2 (by decide) (by decide) k_fl_RX5_52 (v := .ref (base + 75)) (zv_fin (zf5 ho_x0 rfl) rfl) dX5_found_38 ?_
      refine lv_iload hx hb dX5_found_41 (lv_at hl 3 rfl) ?_
      obtain ⟨hin, h⟩ := h
      refine z_iald (A d0) hZ (isA_c (a := 75) hZ.k0 (by decide) rfl) hin dX5_found_43 ?_
      refine lv_iload hx hb dX5_found_44 (lv_at hl 4 rfl) ?_
      refine lv_iadd hx hb dX5_found_46 ?_
      refine lv_aload_n hx hb dX5_found_47 rfl (lv_at hl 0 rfl) ?_
      refine z_get (A d0) hZ (ci := 5) (j := 13) ho_x0.1 ho_x0.2 (by decide) (by decide) k_fl_RX5_52 (v := .ref (base + 75)) (zv_fin (zf5 ho_x0 rfl) rfl) dX5_found_48 ?_
      refine lv_aload_n hx hb dX5_found_51 rfl (lv_at hl 0 rfl) ?_
      refine z_get (A d0) hZ (ci := 5) (j := 10) ho_x0.1 ho_x0.2 (by decide) (by decide) k_fl_RX5_42 (v := .ref (base + 72)) (zv_fin (zf5 ho_x0 rfl) rfl) dX5_found_52 ?_
      refine lv_iload_n hx hb dX5_found_55 rfl (lv_at hl 2 rfl) ?_
      obtain ⟨hin, h⟩ := h
      refine z_iald (A d0) hZ (isA_c (a := 72) hZ.k0 (by decide) rfl) hin dX5_found_56 ?_
      obtain ⟨hin, h⟩ := h
      refine z_iald (A d0) hZ (isA_c (a := 75) hZ.k0 (by decide) rfl) hin dX5_found_57 ?_
      refine lv_isub hx hb dX5_found_58 ?_
      obtain ⟨i1, ei1⟩ : ∃ y : Int32, y = ((mI M 75 x4.toNatClampNeg) + x5) - (mI M 75 (mI M 72 x3.toNatClampNeg).toNatClampNeg) := ⟨_, rfl⟩
      rw [← ei1]
      replace h := h i1 ei1
      refine lv_istore (lv' := [(6, .int i1), (0, .ref (base + x0)), (1, .long x1), (3, .int x3), (4, .int x4), (5, .int x5)]) hx hb dX5_found_59 hl (by decide) rfl (fun ls hl2 => ?_)
      replace hl := hl2
      obtain ⟨i2, ei2⟩ : ∃ y : Int32, y = x3 + (-1 : Int32) := ⟨_, rfl⟩
      replace h := h i2 ei2
      refine lv_iinc (v := i2) (lv' := [(3, .int i2), (6, .int i1), (0, .ref (base + x0)), (1, .long x1), (4, .int x4), (5, .int x5)]) hx hb dX5_found_61 hl (k := 3) rfl (by rw [ei2]; rfl) (by decide) rfl (fun ls hl2 => ?_)
      replace hl := hl2
      refine lv_aload_n hx hb dX5_found_64 rfl (lv_at hl 2 rfl) ?_
      refine z_get (A d0) hZ (ci := 5) (j := 10) ho_x0.1 ho_x0.2 (by decide) (by decide) k_fl_RX5_42 (v := .ref (base + 72)) (zv_fin (zf5 ho_x0 rfl) rfl) dX5_found_65 ?_
      refine lv_iload_n hx hb dX5_found_68 rfl (lv_at hl 0 rfl) ?_
      obtain ⟨hin, h⟩ := h
      refine z_iald (A d0) hZ (isA_c (a := 72) hZ.k0 (by decide) rfl) hin dX5_found_69 ?_
      refine lv_iload hx hb dX5_found_70 (lv_at hl 1 rfl) ?_
      refine lv_iadd hx hb dX5_found_72 ?_
      obtain ⟨i3, ei3⟩ : ∃ y : Int32, y = (mI M 72 i2.toNatClampNeg) + i1 := ⟨_, rfl⟩
      rw [← ei3]
      replace h := h i3 ei3
      refine lv_istore (lv' := [(4, .int i3), (3, .int i2), (6, .int i1), (0, .ref (base + x0)), (1, .long x1), (5, .int x5)]) hx hb dX5_found_73 hl (by decide) rfl (fun ls hl2 => ?_)
      replace hl := hl2
      refine lv_aload_n hx hb dX5_found_75 rfl (lv_at hl 3 rfl) ?_
      refine lv_iload hx hb dX5_found_76 (lv_at hl 0 rfl) ?_
      refine lv_iload_n hx hb dX5_found_78 rfl (lv_at hl 1 rfl) ?_
      refine lv_lload_n hx hb dX5_found_79 rfl (lv_at hl 4 rfl) ?_
      refine z_callV A hd0 hZ (ci := 5) (nA := 3) (As := [.int i3, .int i2, .long x1]) (by decide) ho_x0 (c_X5_down l G base M x0 i3 i2 x1 _ h) k_ml_RX5_239 k_im_yX5_down k_se_yX5_down k_in_RX5 k_co_yX5_down (by decide +kernel) ⟨by decide, by decide⟩ rfl rfl (Nat.le_of_ble_eq_true rfl) hl dX5_found_80 (fun v M4 H locs d0 cells slots hq hd0 hZ hm => ?_)
      clear h
      obtain ⟨i5, rfl, h⟩ := hq
      have ho_x0 := isO_le hm ho_x0
      refine lv_istore (lv' := [(5, .int i5), (4, .int i3), (3, .int i2), (6, .int i1), (0, .ref (base + x0)), (1, .long x1)]) hx hb dX5_found_83 hl (by decide) rfl (fun ls hl2 => ?_)
      replace hl := hl2
      refine lv_goto (tgt := 33) hx hb dX5_found_85 (by decide) ?_
      exact ih ho_x0 hd0 hZ (lv_sub hl [4, 5, 2, 1, 0] rfl) h hK88
set_option maxRecDepth 100000 in
set_option maxHeartbeats 4000000 in
theorem zb_X5_found_250 {p : Program} {l : Launch} {e : Env} {R : Room} {s : State} {m : MethodId} {args : Array Value} {below : List Frame} {meth : Method} {c : Code} {G : ZG} {base z0 : Nat} {Q : Int32 → Mem → Prop} (A : ∀ d, Amb p R (s.setDrawn d) m args meth c G base z0 cX5_found yX5_found.cls 9 2 55) (hr : meth.sig.returnType = (some .boolean)) {K181 : Nat → Int64 → Int32 → Int32 → Int32 → Mem → Prop} {K256 : Nat → Mem → Prop} {d0 : Drawn} {H : Heap} {locs : List Loc} {cells slots : Nat} {ls : Array Slot} {x0 : Nat} {x1 : Int64} {x4 : Int32} {x7 : Int32} {x8 : Int32} {M : Mem} (ho_x0 : isO M x0 5) (hd0 : s.drawn.sameBut d0 lw_cs) (hZ : ZH G true base s.heap M H locs) (hl : lv_has ls 9 [(0, .ref (base + x0)), (1, .long x1), (4, .int x4), (7, .int x7), (8, .int x8)]) (h : wp_X5_found_250 x0 x1 x4 x7 x8 M Q K181 K256) (hK181 : ∀ {d0 : Drawn} {H : Heap} {locs : List Loc} {cells slots : Nat} {ls : Array Slot} {x0 : Nat} {x1 : Int64} {x4 : Int32} {x7 : Int32} {x8 : Int32} {M : Mem} (ho_x0 : isO M x0 5), s.drawn.sameBut d0 lw_cs → ZH G true base s.heap M H locs → lv_has ls 9 [(0, .ref (base + x0)), (1, .long x1), (4, .int x4), (7, .int x7), (8, .int x8)] → K181 x0 x1 x4 x7 x8 M → W p l e R (s.setDrawn d0) m args below meth c H locs cells slots (ZEnd below G true base z0 (qI Q) args s) (F0 m 181 ls [])) (hK256 : ∀ {d0 : Drawn} {H : Heap} {locs : List Loc} {cells slots : Nat} {ls : Array Slot} {x0 : Nat} {M : Mem} (ho_x0 : isO M x0 5), s.drawn.sameBut d0 lw_cs → ZH G true base s.heap M H locs → lv_has ls 9 [(0, .ref (base + x0))] → K256 x0 M → W p l e R (s.setDrawn d0) m args below meth c H locs cells slots (ZEnd below G true base z0 (qI Q) args s) (F0 m 256 ls [])) : W p l e R (s.setDrawn d0) m args below meth c H locs cells slots (ZEnd below G true base z0 (qI Q) args s) (F0 m 250 ls []) := by
  have hx := (A d0).1
  have hb := (A d0).2.1
  unfold wp_X5_found_250 at h
  obtain ⟨i15, ei15⟩ : ∃ y : Int32, y = x7 + (-1 : Int32) := ⟨_, rfl⟩
  replace h := h i15 ei15
  refine lv_iinc (v := i15) (lv' := [(7, .int i15), (0, .ref (base + x0)), (1, .long x1), (4, .int x4), (8, .int x8)]) hx hb dX5_found_250 hl (k := 3) rfl (by rw [ei15]; rfl) (by decide) rfl (fun ls hl2 => ?_)
  replace hl := hl2
  refine lv_goto (tgt := 181) hx hb dX5_found_253 (by decide) ?_
  exact hK181 ho_x0 hd0 hZ (lv_sub hl [1, 2, 3, 0, 4] rfl) h
set_option maxRecDepth 100000 in
set_option maxHeartbeats 4000000 in
theorem zb_X5_found_281 {p : Program} {l : Launch} {e : Env} {R : Room} {s : State} {m : MethodId} {args : Array Value} {below : List Frame} {meth : Method} {c : Code} {G : ZG} {base z0 : Nat} {Q : Int32 → Mem → Prop} (A : ∀ d, Amb p R (s.setDrawn d) m args meth c G base z0 cX5_found yX5_found.cls 9 2 55) (hr : meth.sig.returnType = (some .boolean)) {d0 : Drawn} {H : Heap} {locs : List Loc} {cells slots : Nat} {ls : Array Slot} {x6 : Int32} {t0 : Int32} {t1 : Nat} {M : Mem} (ho_t1 : isO M t1 5) (hd0 : s.drawn.sameBut d0 lw_cs) (hZ : ZH G true base s.heap M H locs) (hl : lv_has ls 9 [(6, .int x6)]) (h : wp_X5_found_281 x6 t0 t1 M Q) : W p l e R (s.setDrawn d0) m args below meth c H locs cells slots (ZEnd below G true base z0 (qI Q) args s) (F0 m 281 ls [.int t0, .ref (base + t1)]) := by
  have hx := (A d0).1
  have hb := (A d0).2.1
  unfold wp_X5_found_281 at h
  refine z_callV A hd0 hZ (ci := 5) (nA := 1) (As := [.int t0]) (by decide) ho_t1 (c_X5_say l G base M t1 t0 _ h) k_ml_RX5_243 k_im_yX5_say k_se_yX5_say k_in_RX5 k_co_yX5_say (by decide +kernel) ⟨by decide, by decide⟩ rfl rfl (Nat.le_of_ble_eq_true rfl) hl dX5_found_281 (fun v M16 H locs d0 cells slots hq hd0 hZ hm => ?_)
  clear h
  obtain ⟨rfl, h⟩ := hq
  refine lv_iload hx hb dX5_found_284 (lv_at hl 0 rfl) ?_
  exact z_zret A hd0 hZ hr h.1 ⟨_, rfl, h.2⟩ dX5_found_286
set_option maxRecDepth 100000 in
set_option maxHeartbeats 4000000 in
theorem zb_X5_found_224 {p : Program} {l : Launch} {e : Env} {R : Room} {s : State} {m : MethodId} {args : Array Value} {below : List Frame} {meth : Method} {c : Code} {G : ZG} {base z0 : Nat} {Q : Int32 → Mem → Prop} (A : ∀ d, Amb p R (s.setDrawn d) m args meth c G base z0 cX5_found yX5_found.cls 9 2 55) (hr : meth.sig.returnType = (some .boolean)) {K181 : Nat → Int64 → Int32 → Int32 → Int32 → Mem → Prop} {K256 : Nat → Mem → Prop} {d0 : Drawn} {H : Heap} {locs : List Loc} {cells slots : Nat} {ls : Array Slot} {x0 : Nat} {x1 : Int64} {x4 : Int32} {x7 : Int32} {t0 : Int32} {M : Mem} (ho_x0 : isO M x0 5) (hd0 : s.drawn.sameBut d0 lw_cs) (hZ : ZH G true base s.heap M H locs) (hl : lv_has ls 9 [(0, .ref (base + x0)), (1, .long x1), (4, .int x4), (7, .int x7)]) (h : wp_X5_found_224 x0 x1 x4 x7 t0 M Q K181 K256) (hK181 : ∀ {d0 : Drawn} {H : Heap} {locs : List Loc} {cells slots : Nat} {ls : Array Slot} {x0 : Nat} {x1 : Int64} {x4 : Int32} {x7 : Int32} {x8 : Int32} {M : Mem} (ho_x0 : isO M x0 5), s.drawn.sameBut d0 lw_cs → ZH G true base s.heap M H locs → lv_has ls 9 [(0, .ref (base + x0)), (1, .long x1), (4, .int x4), (7, .int x7), (8, .int x8)] → K181 x0 x1 x4 x7 x8 M → W p l e R (s.setDrawn d0) m args below meth c H locs cells slots (ZEnd below G true base z0 (qI Q) args s) (F0 m 181 ls [])) (hK256 : ∀ {d0 : Drawn} {H : Heap} {locs : List Loc} {cells slots : Nat} {ls : Array Slot} {x0 : Nat} {M : Mem} (ho_x0 : isO M x0 5), s.drawn.sameBut d0 lw_cs → ZH G true base s.heap M H locs → lv_has ls 9 [(0, .ref (base + x0))] → K256 x0 M → W p l e R (s.setDrawn d0) m args below meth c H locs cells slots (ZEnd below G true base z0 (qI Q) args s) (F0 m 256 ls [])) : W p l e R (s.setDrawn d0) m args below meth c H locs cells slots (ZEnd below G true base z0 (qI Q) args s) (F0 m 224 ls [.int t0]) := by
  have hx := (A d0).1
  have hb := (A d0).2.1
  unfold wp_X5_found_224 at h
  refine lv_istore (lv' := [(8, .int t0), (0, .ref (base + x0)), (1, .long x1), (4, .int x4), (7, .int x7)]) hx hb dX5_found_224 hl (by decide) rfl (fun ls hl2 => ?_)
  replace hl := hl2
  refine lv_aload_n hx hb dX5_found_226 rfl (lv_at hl 1 rfl) ?_
  refine z_get (A d0) hZ (ci := 5) (j := 21) ho_x0.1 ho_x0.2 (by decide) (by decide) k_fl_RX5_77 (v := .ref (base + 83)) (zv_fin (zf5 ho_x0 rfl) rfl) dX5_found_227 ?_
  refine lv_bipush (v := (16 : Int32)) hx hb dX5_found_230 (by decide) ?_
  refine lv_iload hx hb dX5_found_232 (lv_at hl 3 rfl) ?_
  refine lv_imul hx hb dX5_found_234 ?_
  refine lv_iload hx hb dX5_found_235 (lv_at hl 4 rfl) ?_
  refine lv_iadd hx hb dX5_found_237 ?_
  obtain ⟨hin, h⟩ := h
  refine z_lald (A d0) hZ (isA_c (a := 83) hZ.k0 (by decide) rfl) hin dX5_found_238 ?_
  refine lv_lload_n hx hb dX5_found_239 rfl (lv_at hl 2 rfl) ?_
  refine z_lc_ne (tgt := 250) hx hb dX5_found_240 dX5_found_241 (by decide) (fun hc => ?_) (fun hc => ?_)
  · replace h := h.1 hc
    exact (zb_X5_found_250 A hr ho_x0 hd0 hZ (lv_sub hl [1, 2, 3, 4, 0] rfl) h hK181 hK256)
  · replace h := h.2 hc
    refine lv_aload_n hx hb dX5_found_244 rfl (lv_at hl 1 rfl) ?_
    refine lv_iload hx hb dX5_found_245 (lv_at hl 4 rfl) ?_
    obtain ⟨M14, eM14⟩ : ∃ y : Mem, y = sI M x0 45 x7 := ⟨_, rfl⟩
    refine z_put (A d0) hZ (ci := 5) (j := 45) (M' := M14) ho_x0.1 ho_x0.2 (by decide) (by decide) k_fl_RX5_152 rfl (by rw [eM14]; exact zUpd_I) rfl rfl dX5_found_247 (fun H locs hZ => ?_)
    have hm : mz M14 = mz M := by rw [eM14] <;> rfl
    have ho_x0 := isO_le (Nat.le_of_eq hm.symm) ho_x0
    replace h := h M14 eM14
    exact (zb_X5_found_250 A hr ho_x0 hd0 hZ (lv_sub hl [1, 2, 3, 4, 0] rfl) h hK181 hK256)
set_option maxRecDepth 100000 in
set_option maxHeartbeats 4000000 in
theorem zb_X5_found_270 {p : Program} {l : Launch} {e : Env} {R : Room} {s : State} {m : MethodId} {args : Array Value} {below : List Frame} {meth : Method} {c : Code} {G : ZG} {base z0 : Nat} {Q : Int32 → Mem → Prop} (A : ∀ d, Amb p R (s.setDrawn d) m args meth c G base z0 cX5_found yX5_found.cls 9 2 55) (hr : meth.sig.returnType = (some .boolean)) {d0 : Drawn} {H : Heap} {locs : List Loc} {cells slots : Nat} {ls : Array Slot} {x0 : Nat} {x6 : Int32} {M : Mem} (ho_x0 : isO M x0 5) (hd0 : s.drawn.sameBut d0 lw_cs) (hZ : ZH G true base s.heap M H locs) (hl : lv_has ls 9 [(0, .ref (base + x0)), (6, .int x6)]) (h : wp_X5_found_270 x0 x6 M Q) : W p l e R (s.setDrawn d0) m args below meth c H locs cells slots (ZEnd below G true base z0 (qI Q) args s) (F0 m 270 ls []) := by
  have hx := (A d0).1
  have hb := (A d0).2.1
  unfold wp_X5_found_270 at h
  refine lv_aload_n hx hb dX5_found_270 rfl (lv_at hl 0 rfl) ?_
  refine lv_iload hx hb dX5_found_271 (lv_at hl 1 rfl) ?_
  refine lv_if_eq (tgt := 280) hx hb dX5_found_273 (by decide) (fun hc => ?_) (fun hc => ?_)
  · replace h := h.1 hc
    refine lv_iconst (v := (0 : Int32)) hx hb dX5_found_280 (by decide) ?_
    exact (zb_X5_found_281 A hr ho_x0 hd0 hZ (lv_sub hl [1] rfl) h)
  · replace h := h.2 hc
    refine lv_iconst (v := (1 : Int32)) hx hb dX5_found_276 (by decide) ?_
    refine lv_goto (tgt := 281) hx hb dX5_found_277 (by decide) ?_
    exact (zb_X5_found_281 A hr ho_x0 hd0 hZ (lv_sub hl [1] rfl) h)
set_option maxRecDepth 100000 in
set_option maxHeartbeats 4000000 in
theorem zb_X5_found_223 {p : Program} {l : Launch} {e : Env} {R : Room} {s : State} {m : MethodId} {args : Array Value} {below : List Frame} {meth : Method} {c : Code} {G : ZG} {base z0 : Nat} {Q : Int32 → Mem → Prop} (A : ∀ d, Amb p R (s.setDrawn d) m args meth c G base z0 cX5_found yX5_found.cls 9 2 55) (hr : meth.sig.returnType = (some .boolean)) {K181 : Nat → Int64 → Int32 → Int32 → Int32 → Mem → Prop} {K256 : Nat → Mem → Prop} {d0 : Drawn} {H : Heap} {locs : List Loc} {cells slots : Nat} {ls : Array Slot} {x0 : Nat} {x1 : Int64} {x4 : Int32} {x7 : Int32} {M : Mem} (ho_x0 : isO M x0 5) (hd0 : s.drawn.sameBut d0 lw_cs) (hZ : ZH G true base s.heap M H locs) (hl : lv_has ls 9 [(0, .ref (base + x0)), (1, .long x1), (4, .int x4), (7, .int x7)]) (h : wp_X5_found_223 x0 x1 x4 x7 M Q K181 K256) (hK181 : ∀ {d0 : Drawn} {H : Heap} {locs : List Loc} {cells slots : Nat} {ls : Array Slot} {x0 : Nat} {x1 : Int64} {x4 : Int32} {x7 : Int32} {x8 : Int32} {M : Mem} (ho_x0 : isO M x0 5), s.drawn.sameBut d0 lw_cs → ZH G true base s.heap M H locs → lv_has ls 9 [(0, .ref (base + x0)), (1, .long x1), (4, .int x4), (7, .int x7), (8, .int x8)] → K181 x0 x1 x4 x7 x8 M → W p l e R (s.setDrawn d0) m args below meth c H locs cells slots (ZEnd below G true base z0 (qI Q) args s) (F0 m 181 ls [])) (hK256 : ∀ {d0 : Drawn} {H : Heap} {locs : List Loc} {cells slots : Nat} {ls : Array Slot} {x0 : Nat} {M : Mem} (ho_x0 : isO M x0 5), s.drawn.sameBut d0 lw_cs → ZH G true base s.heap M H locs → lv_has ls 9 [(0, .ref (base + x0))] → K256 x0 M → W p l e R (s.setDrawn d0) m args below meth c H locs cells slots (ZEnd below G true base z0 (qI Q) args s) (F0 m 256 ls [])) : W p l e R (s.setDrawn d0) m args below meth c H locs cells slots (ZEnd below G true base z0 (qI Q) args s) (F0 m 223 ls []) := by
  have hx := (A d0).1
  have hb := (A d0).2.1
  unfold wp_X5_found_223 at h
  refine lv_iconst (v := (0 : Int32)) hx hb dX5_found_223 (by decide) ?_
  exact (zb_X5_found_224 A hr ho_x0 hd0 hZ (lv_sub hl [0, 1, 2, 3] rfl) h hK181 hK256)
set_option maxRecDepth 100000 in
set_option maxHeartbeats 4000000 in
theorem zb_X5_found_268 {p : Program} {l : Launch} {e : Env} {R : Room} {s : State} {m : MethodId} {args : Array Value} {below : List Frame} {meth : Method} {c : Code} {G : ZG} {base z0 : Nat} {Q : Int32 → Mem → Prop} (A : ∀ d, Amb p R (s.setDrawn d) m args meth c G base z0 cX5_found yX5_found.cls 9 2 55) (hr : meth.sig.returnType = (some .boolean)) {d0 : Drawn} {H : Heap} {locs : List Loc} {cells slots : Nat} {ls : Array Slot} {x0 : Nat} {t0 : Int32} {M : Mem} (ho_x0 : isO M x0 5) (hd0 : s.drawn.sameBut d0 lw_cs) (hZ : ZH G true base s.heap M H locs) (hl : lv_has ls 9 [(0, .ref (base + x0))]) (h : wp_X5_found_268 x0 t0 M Q) : W p l e R (s.setDrawn d0) m args below meth c H locs cells slots (ZEnd below G true base z0 (qI Q) args s) (F0 m 268 ls [.int t0]) := by
  have hx := (A d0).1
  have hb := (A d0).2.1
  unfold wp_X5_found_268 at h
  refine lv_istore (lv' := [(6, .int t0), (0, .ref (base + x0))]) hx hb dX5_found_268 hl (by decide) rfl (fun ls hl2 => ?_)
  replace hl := hl2
  exact (zb_X5_found_270 A hr ho_x0 hd0 hZ (lv_sub hl [1, 0] rfl) h)
set_option maxRecDepth 100000 in
set_option maxHeartbeats 4000000 in
theorem zb_X5_found_181 {p : Program} {l : Launch} {e : Env} {R : Room} {s : State} {m : MethodId} {args : Array Value} {below : List Frame} {meth : Method} {c : Code} {G : ZG} {base z0 : Nat} {Q : Int32 → Mem → Prop} (A : ∀ d, Amb p R (s.setDrawn d) m args meth c G base z0 cX5_found yX5_found.cls 9 2 55) (hr : meth.sig.returnType = (some .boolean)) {K256 : Nat → Mem → Prop} :
  ∀ (n : Nat) {d0 : Drawn} {H : Heap} {locs : List Loc} {cells slots : Nat} {ls : Array Slot} {x0 : Nat} {x1 : Int64} {x4 : Int32} {x7 : Int32} {x8 : Int32} {M : Mem} (ho_x0 : isO M x0 5) (hd0 : s.drawn.sameBut d0 lw_cs) (hZ : ZH G true base s.heap M H locs) (hl : lv_has ls 9 [(0, .ref (base + x0)), (1, .long x1), (4, .int x4), (7, .int x7), (8, .int x8)]) (h : wp_X5_found_181 n x0 x1 x4 x7 x8 M Q K256) (hK256 : ∀ {d0 : Drawn} {H : Heap} {locs : List Loc} {cells slots : Nat} {ls : Array Slot} {x0 : Nat} {M : Mem} (ho_x0 : isO M x0 5), s.drawn.sameBut d0 lw_cs → ZH G true base s.heap M H locs → lv_has ls 9 [(0, .ref (base + x0))] → K256 x0 M → W p l e R (s.setDrawn d0) m args below meth c H locs cells slots (ZEnd below G true base z0 (qI Q) args s) (F0 m 256 ls [])), W p l e R (s.setDrawn d0) m args below meth c H locs cells slots (ZEnd below G true base z0 (qI Q) args s) (F0 m 181 ls []) := by
  have hx := (A default).1
  have hb := (A default).2.1
  intro n
  induction n with
  | zero => intro d0 H locs cells slots ls x0 x1 x4 x7 x8 M ho_x0 hd0 hZ hl h hK256; exact h.elim
  | succ n ih =>
    intro d0 H locs cells slots ls x0 x1 x4 x7 x8 M ho_x0 hd0 hZ hl h hK256
    unfold wp_X5_found_181 at h
    refine lv_iload hx hb dX5_found_181 (lv_at hl 4 rfl) ?_
    refine lv_if_eq (tgt := 256) hx hb dX5_found_183 (by decide) (fun hc => ?_) (fun hc => ?_)
    · replace h := h.1 hc
      exact hK256 ho_x0 hd0 hZ (lv_sub hl [0] rfl) h
    · replace h := h.2 hc
      refine lv_aload_n hx hb dX5_found_186 rfl (lv_at hl 0 rfl) ?_
      refine lv_dup hx hb dX5_found_187 rfl ?_
      refine z_get (A d0) hZ (ci := 5) (j := 41) ho_x0.1 ho_x0.2 (by decide) (by decide) k_fl_RX5_140 (v := .int (mI M x0 41)) rfl dX5_found_188 ?_
      refine lv_iconst (v := (1 : Int32)) hx hb dX5_found_191 (by decide) ?_
      refine lv_iadd hx hb dX5_found_192 ?_
      obtain ⟨M13, eM13⟩ : ∃ y : Mem, y = sI M x0 41 ((mI M x0 41) + (1 : Int32)) := ⟨_, rfl⟩
      refine z_put (A d0) hZ (ci := 5) (j := 41) (M' := M13) ho_x0.1 ho_x0.2 (by decide) (by decide) k_fl_RX5_140 rfl (by rw [eM13]; exact zUpd_I) rfl rfl dX5_found_193 (fun H locs hZ => ?_)
      have hm : mz M13 = mz M := by rw [eM13] <;> rfl
      have ho_x0 := isO_le (Nat.le_of_eq hm.symm) ho_x0
      replace h := h M13 eM13
      refine lv_aload_n hx hb dX5_found_196 rfl (lv_at hl 0 rfl) ?_
      refine z_get (A d0) hZ (ci := 5) (j := 21) ho_x0.1 ho_x0.2 (by decide) (by decide) k_fl_RX5_77 (v := .ref (base + 83)) (zv_fin (zf5 ho_x0 rfl) rfl) dX5_found_197 ?_
      refine lv_bipush (v := (16 : Int32)) hx hb dX5_found_200 (by decide) ?_
      refine lv_iload hx hb dX5_found_202 (lv_at hl 2 rfl) ?_
      refine lv_imul hx hb dX5_found_204 ?_
      refine lv_iload hx hb dX5_found_205 (lv_at hl 3 rfl) ?_
      refine lv_iadd hx hb dX5_found_207 ?_
      obtain ⟨hin, h⟩ := h
      refine z_lald (A d0) hZ (isA_c (a := 83) hZ.k0 (by decide) rfl) hin dX5_found_208 ?_
      refine lv_lload_n hx hb dX5_found_209 rfl (lv_at hl 1 rfl) ?_
      refine z_lc_le (tgt := 223) hx hb dX5_found_210 dX5_found_211 (by decide) (fun hc => ?_) (fun hc => ?_)
      · replace h := h.1 hc
        exact (zb_X5_found_223 A hr ho_x0 hd0 hZ (lv_sub hl [0, 1, 2, 3] rfl) h (fun ho_x0 hd0 hZ hl h => ih ho_x0 hd0 hZ hl h hK256) hK256)
      · replace h := h.2 hc
        refine lv_iload hx hb dX5_found_214 (lv_at hl 3 rfl) ?_
        refine lv_if_le (tgt := 223) hx hb dX5_found_216 (by decide) (fun hc => ?_) (fun hc => ?_)
        · replace h := h.1 hc
          exact (zb_X5_found_223 A hr ho_x0 hd0 hZ (lv_sub hl [0, 1, 2, 3] rfl) h (fun ho_x0 hd0 hZ hl h => ih ho_x0 hd0 hZ hl h hK256) hK256)
        · replace h := h.2 hc
          refine lv_iconst (v := (1 : Int32)) hx hb dX5_found_219 (by decide) ?_
          refine lv_goto (tgt := 224) hx hb dX5_found_220 (by decide) ?_
          exact (zb_X5_found_224 A hr ho_x0 hd0 hZ (lv_sub hl [0, 1, 2, 3] rfl) h (fun ho_x0 hd0 hZ hl h => ih ho_x0 hd0 hZ hl h hK256) hK256)
set_option maxRecDepth 100000 in
set_option maxHeartbeats 4000000 in
theorem zb_X5_found_256 {p : Program} {l : Launch} {e : Env} {R : Room} {s : State} {m : MethodId} {args : Array Value} {below : List Frame} {meth : Method} {c : Code} {G : ZG} {base z0 : Nat} {Q : Int32 → Mem → Prop} (A : ∀ d, Amb p R (s.setDrawn d) m args meth c G base z0 cX5_found yX5_found.cls 9 2 55) (hr : meth.sig.returnType = (some .boolean)) {d0 : Drawn} {H : Heap} {locs : List Loc} {cells slots : Nat} {ls : Array Slot} {x0 : Nat} {M : Mem} (ho_x0 : isO M x0 5) (hd0 : s.drawn.sameBut d0 lw_cs) (hZ : ZH G true base s.heap M H locs) (hl : lv_has ls 9 [(0, .ref (base + x0))]) (h : wp_X5_found_256 x0 M Q) : W p l e R (s.setDrawn d0) m args below meth c H locs cells slots (ZEnd below G true base z0 (qI Q) args s) (F0 m 256 ls []) := by
  have hx := (A d0).1
  have hb := (A d0).2.1
  unfold wp_X5_found_256 at h
  refine lv_aload_n hx hb dX5_found_256 rfl (lv_at hl 0 rfl) ?_
  refine z_get (A d0) hZ (ci := 5) (j := 45) ho_x0.1 ho_x0.2 (by decide) (by decide) k_fl_RX5_152 (v := .int (mI M x0 45)) rfl dX5_found_257 ?_
  refine lv_if_lt (tgt := 267) hx hb dX5_found_260 (by decide) (fun hc => ?_) (fun hc => ?_)
  · replace h := h.1 hc
    refine lv_iconst (v := (0 : Int32)) hx hb dX5_found_267 (by decide) ?_
    exact (zb_X5_found_268 A hr ho_x0 hd0 hZ (lv_sub hl [0] rfl) h)
  · replace h := h.2 hc
    refine lv_iconst (v := (1 : Int32)) hx hb dX5_found_263 (by decide) ?_
    refine lv_goto (tgt := 268) hx hb dX5_found_264 (by decide) ?_
    exact (zb_X5_found_268 A hr ho_x0 hd0 hZ (lv_sub hl [0] rfl) h)
set_option maxRecDepth 100000 in
set_option maxHeartbeats 4000000 in
theorem zb_X5_found_179 {p : Program} {l : Launch} {e : Env} {R : Room} {s : State} {m : MethodId} {args : Array Value} {below : List Frame} {meth : Method} {c : Code} {G : ZG} {base z0 : Nat} {Q : Int32 → Mem → Prop} (A : ∀ d, Amb p R (s.setDrawn d) m args meth c G base z0 cX5_found yX5_found.cls 9 2 55) (hr : meth.sig.returnType = (some .boolean)) {d0 : Drawn} {H : Heap} {locs : List Loc} {cells slots : Nat} {ls : Array Slot} {x0 : Nat} {x1 : Int64} {x4 : Int32} {x7 : Int32} {t0 : Int32} {M : Mem} (ho_x0 : isO M x0 5) (hd0 : s.drawn.sameBut d0 lw_cs) (hZ : ZH G true base s.heap M H locs) (hl : lv_has ls 9 [(0, .ref (base + x0)), (1, .long x1), (4, .int x4), (7, .int x7)]) (h : wp_X5_found_179 x0 x1 x4 x7 t0 M Q) : W p l e R (s.setDrawn d0) m args below meth c H locs cells slots (ZEnd below G true base z0 (qI Q) args s) (F0 m 179 ls [.int t0]) := by
  have hx := (A d0).1
  have hb := (A d0).2.1
  unfold wp_X5_found_179 at h
  refine lv_istore (lv' := [(8, .int t0), (0, .ref (base + x0)), (1, .long x1), (4, .int x4), (7, .int x7)]) hx hb dX5_found_179 hl (by decide) rfl (fun ls hl2 => ?_)
  replace hl := hl2
  exact (Exists.elim h fun kk h => zb_X5_found_181 A hr kk ho_x0 hd0 hZ (lv_sub hl [1, 2, 3, 4, 0] rfl) h (fun ho_x0 hd0 hZ hl h => (zb_X5_found_256 A hr ho_x0 hd0 hZ hl h)))
set_option maxRecDepth 100000 in
set_option maxHeartbeats 4000000 in
theorem zb_X5_found_151 {p : Program} {l : Launch} {e : Env} {R : Room} {s : State} {m : MethodId} {args : Array Value} {below : List Frame} {meth : Method} {c : Code} {G : ZG} {base z0 : Nat} {Q : Int32 → Mem → Prop} (A : ∀ d, Amb p R (s.setDrawn d) m args meth c G base z0 cX5_found yX5_found.cls 9 2 55) (hr : meth.sig.returnType = (some .boolean)) {d0 : Drawn} {H : Heap} {locs : List Loc} {cells slots : Nat} {ls : Array Slot} {x0 : Nat} {x1 : Int64} {x4 : Int32} {t0 : Int32} {M : Mem} (ho_x0 : isO M x0 5) (hd0 : s.drawn.sameBut d0 lw_cs) (hZ : ZH G true base s.heap M H locs) (hl : lv_has ls 9 [(0, .ref (base + x0)), (1, .long x1), (4, .int x4)]) (h : wp_X5_found_151 x0 x1 x4 t0 M Q) : W p l e R (s.setDrawn d0) m args below meth c H locs cells slots (ZEnd below G true base z0 (qI Q) args s) (F0 m 151 ls [.int t0]) := by
  have hx := (A d0).1
  have hb := (A d0).2.1
  unfold wp_X5_found_151 at h
  refine lv_istore (lv' := [(6, .int t0), (0, .ref (base + x0)), (1, .long x1), (4, .int x4)]) hx hb dX5_found_151 hl (by decide) rfl (fun ls hl2 => ?_)
  replace hl := hl2
  refine lv_iload hx hb dX5_found_153 (lv_at hl 0 rfl) ?_
  refine lv_if_ne (tgt := 270) hx hb dX5_found_155 (by decide) (fun hc => ?_) (fun hc => ?_)
  · replace h := h.1 hc
    exact (zb_X5_found_270 A hr ho_x0 hd0 hZ (lv_sub hl [1, 0] rfl) h)
  · replace h := h.2 hc
    refine lv_aload_n hx hb dX5_found_158 rfl (lv_at hl 1 rfl) ?_
    refine z_get (A d0) hZ (ci := 5) (j := 16) ho_x0.1 ho_x0.2 (by decide) (by decide) k_fl_RX5_61 (v := .ref (base + 78)) (zv_fin (zf5 ho_x0 rfl) rfl) dX5_found_159 ?_
    refine lv_iload hx hb dX5_found_162 (lv_at hl 3 rfl) ?_
    obtain ⟨hin, h⟩ := h
    refine z_iald (A d0) hZ (isA_c (a := 78) hZ.k0 (by decide) rfl) hin dX5_found_164 ?_
    refine lv_iconst (v := (1 : Int32)) hx hb dX5_found_165 (by decide) ?_
    refine lv_isub hx hb dX5_found_166 ?_
    obtain ⟨i12, ei12⟩ : ∃ y : Int32, y = (mI M 78 x4.toNatClampNeg) - (1 : Int32) := ⟨_, rfl⟩
    rw [← ei12]
    replace h := h i12 ei12
    refine lv_istore (lv' := [(7, .int i12), (6, .int t0), (0, .ref (base + x0)), (1, .long x1), (4, .int x4)]) hx hb dX5_found_167 hl (by decide) rfl (fun ls hl2 => ?_)
    replace hl := hl2
    refine lv_iload hx hb dX5_found_169 (lv_at hl 0 rfl) ?_
    refine lv_if_lt (tgt := 178) hx hb dX5_found_171 (by decide) (fun hc => ?_) (fun hc => ?_)
    · replace h := h.1 hc
      refine lv_iconst (v := (0 : Int32)) hx hb dX5_found_178 (by decide) ?_
      exact (zb_X5_found_179 A hr ho_x0 hd0 hZ (lv_sub hl [2, 3, 4, 0] rfl) h)
    · replace h := h.2 hc
      refine lv_iconst (v := (1 : Int32)) hx hb dX5_found_174 (by decide) ?_
      refine lv_goto (tgt := 179) hx hb dX5_found_175 (by decide) ?_
      exact (zb_X5_found_179 A hr ho_x0 hd0 hZ (lv_sub hl [2, 3, 4, 0] rfl) h)
set_option maxRecDepth 100000 in
set_option maxHeartbeats 4000000 in
theorem zb_X5_found_150 {p : Program} {l : Launch} {e : Env} {R : Room} {s : State} {m : MethodId} {args : Array Value} {below : List Frame} {meth : Method} {c : Code} {G : ZG} {base z0 : Nat} {Q : Int32 → Mem → Prop} (A : ∀ d, Amb p R (s.setDrawn d) m args meth c G base z0 cX5_found yX5_found.cls 9 2 55) (hr : meth.sig.returnType = (some .boolean)) {d0 : Drawn} {H : Heap} {locs : List Loc} {cells slots : Nat} {ls : Array Slot} {x0 : Nat} {x1 : Int64} {x4 : Int32} {M : Mem} (ho_x0 : isO M x0 5) (hd0 : s.drawn.sameBut d0 lw_cs) (hZ : ZH G true base s.heap M H locs) (hl : lv_has ls 9 [(0, .ref (base + x0)), (1, .long x1), (4, .int x4)]) (h : wp_X5_found_150 x0 x1 x4 M Q) : W p l e R (s.setDrawn d0) m args below meth c H locs cells slots (ZEnd below G true base z0 (qI Q) args s) (F0 m 150 ls []) := by
  have hx := (A d0).1
  have hb := (A d0).2.1
  unfold wp_X5_found_150 at h
  refine lv_iconst (v := (0 : Int32)) hx hb dX5_found_150 (by decide) ?_
  exact (zb_X5_found_151 A hr ho_x0 hd0 hZ (lv_sub hl [0, 1, 2] rfl) h)
set_option maxRecDepth 100000 in
set_option maxHeartbeats 4000000 in
theorem zb_X5_found_88 {p : Program} {l : Launch} {e : Env} {R : Room} {s : State} {m : MethodId} {args : Array Value} {below : List Frame} {meth : Method} {c : Code} {G : ZG} {base z0 : Nat} {Q : Int32 → Mem → Prop} (A : ∀ d, Amb p R (s.setDrawn d) m args meth c G base z0 cX5_found yX5_found.cls 9 2 55) (hr : meth.sig.returnType = (some .boolean)) {d0 : Drawn} {H : Heap} {locs : List Loc} {cells slots : Nat} {ls : Array Slot} {x0 : Nat} {x1 : Int64} {x4 : Int32} {x5 : Int32} {M : Mem} (ho_x0 : isO M x0 5) (hd0 : s.drawn.sameBut d0 lw_cs) (hZ : ZH G true base s.heap M H locs) (hl : lv_has ls 9 [(0, .ref (base + x0)), (1, .long x1), (4, .int x4), (5, .int x5)]) (h : wp_X5_found_88 x0 x1 x4 x5 M Q) : W p l e R (s.setDrawn d0) m args below meth c H locs cells slots (ZEnd below G true base z0 (qI Q) args s) (F0 m 88 ls []) := by
  have hx := (A d0).1
  have hb := (A d0).2.1
  unfold wp_X5_found_88 at h
  refine lv_aload_n hx hb dX5_found_88 rfl (lv_at hl 0 rfl) ?_
  refine lv_iload hx hb dX5_found_89 (lv_at hl 2 rfl) ?_
  obtain ⟨M6, eM6⟩ : ∃ y : Mem, y = sI M x0 43 x4 := ⟨_, rfl⟩
  refine z_put (A d0) hZ (ci := 5) (j := 43) (M' := M6) ho_x0.1 ho_x0.2 (by decide) (by decide) k_fl_RX5_146 rfl (by rw [eM6]; exact zUpd_I) rfl rfl dX5_found_91 (fun H locs hZ => ?_)
  have hm : mz M6 = mz M := by rw [eM6] <;> rfl
  have ho_x0 := isO_le (Nat.le_of_eq hm.symm) ho_x0
  replace h := h M6 eM6
  refine lv_aload_n hx hb dX5_found_94 rfl (lv_at hl 0 rfl) ?_
  refine lv_iload hx hb dX5_found_95 (lv_at hl 3 rfl) ?_
  obtain ⟨M7, eM7⟩ : ∃ y : Mem, y = sI M6 x0 44 x5 := ⟨_, rfl⟩
  refine z_put (A d0) hZ (ci := 5) (j := 44) (M' := M7) ho_x0.1 ho_x0.2 (by decide) (by decide) k_fl_RX5_149 rfl (by rw [eM7]; exact zUpd_I) rfl rfl dX5_found_97 (fun H locs hZ => ?_)
  have hm : mz M7 = mz M6 := by rw [eM7] <;> rfl
  have ho_x0 := isO_le (Nat.le_of_eq hm.symm) ho_x0
  replace h := h M7 eM7
  refine lv_aload_n hx hb dX5_found_100 rfl (lv_at hl 0 rfl) ?_
  refine lv_iconst (v := (-1 : Int32)) hx hb dX5_found_101 (by decide) ?_
  obtain ⟨M8, eM8⟩ : ∃ y : Mem, y = sI M7 x0 45 (-1 : Int32) := ⟨_, rfl⟩
  refine z_put (A d0) hZ (ci := 5) (j := 45) (M' := M8) ho_x0.1 ho_x0.2 (by decide) (by decide) k_fl_RX5_152 rfl (by rw [eM8]; exact zUpd_I) rfl rfl dX5_found_102 (fun H locs hZ => ?_)
  have hm : mz M8 = mz M7 := by rw [eM8] <;> rfl
  have ho_x0 := isO_le (Nat.le_of_eq hm.symm) ho_x0
  replace h := h M8 eM8
  refine lv_aload_n hx hb dX5_found_105 rfl (lv_at hl 0 rfl) ?_
  refine lv_dup hx hb dX5_found_106 rfl ?_
  refine z_get (A d0) hZ (ci := 5) (j := 41) ho_x0.1 ho_x0.2 (by decide) (by decide) k_fl_RX5_140 (v := .int (mI M8 x0 41)) rfl dX5_found_107 ?_
  refine lv_iconst (v := (1 : Int32)) hx hb dX5_found_110 (by decide) ?_
  refine lv_iadd hx hb dX5_found_111 ?_
  obtain ⟨M9, eM9⟩ : ∃ y : Mem, y = sI M8 x0 41 ((mI M8 x0 41) + (1 : Int32)) := ⟨_, rfl⟩
  refine z_put (A d0) hZ (ci := 5) (j := 41) (M' := M9) ho_x0.1 ho_x0.2 (by decide) (by decide) k_fl_RX5_140 rfl (by rw [eM9]; exact zUpd_I) rfl rfl dX5_found_112 (fun H locs hZ => ?_)
  have hm : mz M9 = mz M8 := by rw [eM9] <;> rfl
  have ho_x0 := isO_le (Nat.le_of_eq hm.symm) ho_x0
  replace h := h M9 eM9
  refine lv_aload_n hx hb dX5_found_115 rfl (lv_at hl 0 rfl) ?_
  refine z_get (A d0) hZ (ci := 5) (j := 20) ho_x0.1 ho_x0.2 (by decide) (by decide) k_fl_RX5_73 (v := .ref (base + 82)) (zv_fin (zf5 ho_x0 rfl) rfl) dX5_found_116 ?_
  refine lv_aload_n hx hb dX5_found_119 rfl (lv_at hl 0 rfl) ?_
  refine z_get (A d0) hZ (ci := 5) (j := 13) ho_x0.1 ho_x0.2 (by decide) (by decide) k_fl_RX5_52 (v := .ref (base + 75)) (zv_fin (zf5 ho_x0 rfl) rfl) dX5_found_120 ?_
  refine lv_iload hx hb dX5_found_123 (lv_at hl 2 rfl) ?_
  obtain ⟨hin, h⟩ := h
  refine z_iald (A d0) hZ (isA_c (a := 75) hZ.k0 (by decide) rfl) hin dX5_found_125 ?_
  refine lv_iload hx hb dX5_found_126 (lv_at hl 3 rfl) ?_
  refine lv_iadd hx hb dX5_found_128 ?_
  obtain ⟨hin, h⟩ := h
  refine z_lald (A d0) hZ (isA_c (a := 82) hZ.k0 (by decide) rfl) hin dX5_found_129 ?_
  refine lv_lload_n hx hb dX5_found_130 rfl (lv_at hl 1 rfl) ?_
  refine z_lc_ne (tgt := 150) hx hb dX5_found_131 dX5_found_132 (by decide) (fun hc => ?_) (fun hc => ?_)
  · replace h := h.1 hc
    exact (zb_X5_found_150 A hr ho_x0 hd0 hZ (lv_sub hl [0, 1, 2] rfl) h)
  · replace h := h.2 hc
    refine lv_aload_n hx hb dX5_found_135 rfl (lv_at hl 0 rfl) ?_
    refine lv_iload hx hb dX5_found_136 (lv_at hl 2 rfl) ?_
    refine lv_iload hx hb dX5_found_138 (lv_at hl 3 rfl) ?_
    refine z_callV A hd0 hZ (ci := 5) (nA := 2) (As := [.int x4, .int x5]) (by decide) ho_x0 (c_X5_isThere l G base M9 x0 x4 x5 _ h) k_ml_RX5_209 k_im_yX5_isThere k_se_yX5_isThere k_in_RX5 k_co_yX5_isThere (by decide +kernel) ⟨by decide, by decide⟩ rfl rfl (Nat.le_of_ble_eq_true rfl) hl dX5_found_140 (fun v M10 H locs d0 cells slots hq hd0 hZ hm => ?_)
    clear h
    obtain ⟨i11, rfl, h⟩ := hq
    have ho_x0 := isO_le hm ho_x0
    refine lv_if_eq (tgt := 150) hx hb dX5_found_143 (by decide) (fun hc => ?_) (fun hc => ?_)
    · replace h := h.1 hc
      exact (zb_X5_found_150 A hr ho_x0 hd0 hZ (lv_sub hl [0, 1, 2] rfl) h)
    · replace h := h.2 hc
      refine lv_iconst (v := (1 : Int32)) hx hb dX5_found_146 (by decide) ?_
      refine lv_goto (tgt := 151) hx hb dX5_found_147 (by decide) ?_
      exact (zb_X5_found_151 A hr ho_x0 hd0 hZ (lv_sub hl [0, 1, 2] rfl) h)
set_option maxRecDepth 100000 in
set_option maxHeartbeats 4000000 in
theorem c_X5_found (l : Launch) (G : ZG) (base : Nat) (M : Mem) (x0 : Nat) (x1 : Int64) (Q : Int32 → Mem → Prop) (h : wp_X5_found x0 x1 M Q) : ZMet l yX5_found cX5_found 9 (some .boolean) 2 55 G true base M [.ref (base + x0), .long x1] (qI Q) := by
  refine z_start (by decide) (Nat.le_of_ble_eq_true rfl) k_co_yX5_found ?_
  intro p e s m below meth c R d0 H locs cells slots ls A hr hn hd0 hZ hl
  have hx := (A d0).1
  have hb := (A d0).2.1
  have hl : lv_has ls 9 [(0, .ref (base + x0)), (1, .long x1)] := hl
  unfold wp_X5_found at h
  obtain ⟨ho_x0, h⟩ := h
  refine lv_aload_n hx hb dX5_found_0 rfl (lv_at hl 0 rfl) ?_
  refine lv_iconst (v := (0 : Int32)) hx hb dX5_found_1 (by decide) ?_
  obtain ⟨M17, eM17⟩ : ∃ y : Mem, y = sI M x0 39 (0 : Int32) := ⟨_, rfl⟩
  refine z_put (A d0) hZ (ci := 5) (j := 39) (M' := M17) ho_x0.1 ho_x0.2 (by decide) (by decide) k_fl_RX5_134 rfl (by rw [eM17]; exact zUpd_I) rfl rfl dX5_found_2 (fun H locs hZ => ?_)
  have hm : mz M17 = mz M := by rw [eM17] <;> rfl
  have ho_x0 := isO_le (Nat.le_of_eq hm.symm) ho_x0
  replace h := h M17 eM17
  refine lv_aload_n hx hb dX5_found_5 rfl (lv_at hl 0 rfl) ?_
  refine lv_iconst (v := (0 : Int32)) hx hb dX5_found_6 (by decide) ?_
  obtain ⟨M18, eM18⟩ : ∃ y : Mem, y = sI M17 x0 41 (0 : Int32) := ⟨_, rfl⟩
  refine z_put (A d0) hZ (ci := 5) (j := 41) (M' := M18) ho_x0.1 ho_x0.2 (by decide) (by decide) k_fl_RX5_140 rfl (by rw [eM18]; exact zUpd_I) rfl rfl dX5_found_7 (fun H locs hZ => ?_)
  have hm : mz M18 = mz M17 := by rw [eM18] <;> rfl
  have ho_x0 := isO_le (Nat.le_of_eq hm.symm) ho_x0
  replace h := h M18 eM18
  refine lv_aload_n hx hb dX5_found_10 rfl (lv_at hl 0 rfl) ?_
  refine z_get (A d0) hZ (ci := 5) (j := 9) ho_x0.1 ho_x0.2 (by decide) (by decide) k_fl_RX5_39 (v := .int (mI M18 x0 9)) rfl dX5_found_11 ?_
  obtain ⟨i19, ei19⟩ : ∃ y : Int32, y = mI M18 x0 9 := ⟨_, rfl⟩
  rw [← ei19]
  replace h := h i19 ei19
  refine lv_istore_n (lv' := [(3, .int i19), (0, .ref (base + x0)), (1, .long x1)]) hx hb dX5_found_14 rfl hl (by decide) rfl (fun ls hl2 => ?_)
  replace hl := hl2
  refine lv_aload_n hx hb dX5_found_15 rfl (lv_at hl 1 rfl) ?_
  refine z_get (A d0) hZ (ci := 5) (j := 10) ho_x0.1 ho_x0.2 (by decide) (by decide) k_fl_RX5_42 (v := .ref (base + 72)) (zv_fin (zf5 ho_x0 rfl) rfl) dX5_found_16 ?_
  refine lv_iload_n hx hb dX5_found_19 rfl (lv_at hl 0 rfl) ?_
  obtain ⟨hin, h⟩ := h
  refine z_iald (A d0) hZ (isA_c (a := 72) hZ.k0 (by decide) rfl) hin dX5_found_20 ?_
  obtain ⟨i20, ei20⟩ : ∃ y : Int32, y = mI M18 72 i19.toNatClampNeg := ⟨_, rfl⟩
  rw [← ei20]
  replace h := h i20 ei20
  refine lv_istore (lv' := [(4, .int i20), (3, .int i19), (0, .ref (base + x0)), (1, .long x1)]) hx hb dX5_found_21 hl (by decide) rfl (fun ls hl2 => ?_)
  replace hl := hl2
  refine lv_aload_n hx hb dX5_found_23 rfl (lv_at hl 2 rfl) ?_
  refine lv_iload hx hb dX5_found_24 (lv_at hl 0 rfl) ?_
  refine lv_iload_n hx hb dX5_found_26 rfl (lv_at hl 1 rfl) ?_
  refine lv_lload_n hx hb dX5_found_27 rfl (lv_at hl 3 rfl) ?_
  refine z_callV A hd0 hZ (ci := 5) (nA := 3) (As := [.int i20, .int i19, .long x1]) (by decide) ho_x0 (c_X5_down l G base M18 x0 i20 i19 x1 _ h) k_ml_RX5_239 k_im_yX5_down k_se_yX5_down k_in_RX5 k_co_yX5_down (by decide +kernel) ⟨by decide, by decide⟩ rfl rfl (Nat.le_of_ble_eq_true rfl) hl dX5_found_28 (fun v M21 H locs d0 cells slots hq hd0 hZ hm => ?_)
  clear h
  obtain ⟨i22, rfl, h⟩ := hq
  have ho_x0 := isO_le hm ho_x0
  refine lv_istore (lv' := [(5, .int i22), (4, .int i20), (3, .int i19), (0, .ref (base + x0)), (1, .long x1)]) hx hb dX5_found_31 hl (by decide) rfl (fun ls hl2 => ?_)
  replace hl := hl2
  exact (Exists.elim h fun kk h => zb_X5_found_33 A hr kk ho_x0 hd0 hZ (lv_sub hl [3, 4, 2, 1, 0] rfl) h (fun ho_x0 hd0 hZ hl h => (zb_X5_found_88 A hr ho_x0 hd0 hZ hl h)))
