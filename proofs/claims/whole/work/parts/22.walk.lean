/-! cJ9_min_7cf53 -/
set_option maxRecDepth 100000 in
set_option maxHeartbeats 4000000 in
theorem zb_J9_min_7cf53_10 {p : Program} {l : Launch} {e : Env} {R : Room} {s : State} {m : MethodId} {args : Array Value} {below : List Frame} {meth : Method} {c : Code} {G : ZG} {base z0 : Nat} {Q : Int32 → Mem → Prop} (A : ∀ d, Amb p R (s.setDrawn d) m args meth c G base z0 cJ9_min_7cf53 yJ9_min_7cf53.cls 2 0 0) (hr : meth.sig.returnType = (some .int)) {d0 : Drawn} {H : Heap} {locs : List Loc} {cells slots : Nat} {ls : Array Slot} {t0 : Int32} {M : Mem} (hd0 : s.drawn.sameBut d0 lw_cs) (hZ : ZH G true base s.heap M H locs) (hl : lv_has ls 2 []) (h : wp_J9_min_7cf53_10 t0 M Q) : W p l e R (s.setDrawn d0) m args below meth c H locs cells slots (ZEnd below G true base z0 (qI Q) args s) (F0 m 10 ls [.int t0]) := by
  have hx := (A d0).1
  have hb := (A d0).2.1
  unfold wp_J9_min_7cf53_10 at h
  exact z_iret A hd0 hZ hr ⟨_, rfl, h⟩ dJ9_min_7cf53_10
set_option maxRecDepth 100000 in
set_option maxHeartbeats 4000000 in
theorem c_J9_min_7cf53 (l : Launch) (G : ZG) (base : Nat) (M : Mem) (x0 : Int32) (x1 : Int32) (Q : Int32 → Mem → Prop) (h : wp_J9_min_7cf53 x0 x1 M Q) : ZMet l yJ9_min_7cf53 cJ9_min_7cf53 2 (some .int) 0 0 G true base M [.int x0, .int x1] (qI Q) := by
  refine z_start (by decide +kernel) (Nat.le_of_ble_eq_true rfl) k_co_yJ9_min_7cf53 ?_
  intro p e s m below meth c R d0 H locs cells slots ls A hr hn hd0 hZ hl
  have hx := (A d0).1
  have hb := (A d0).2.1
  have hl : lv_has ls 2 [(0, .int x0), (1, .int x1)] := hl
  unfold wp_J9_min_7cf53 at h
  refine lv_iload_n hx hb dJ9_min_7cf53_0 rfl (lv_at hl 0 rfl) ?_
  refine lv_iload_n hx hb dJ9_min_7cf53_1 rfl (lv_at hl 1 rfl) ?_
  refine lv_icmp_gt (tgt := 9) hx hb dJ9_min_7cf53_2 (by decide) (fun hc => ?_) (fun hc => ?_)
  · replace h := h.1 hc
    refine lv_iload_n hx hb dJ9_min_7cf53_9 rfl (lv_at hl 1 rfl) ?_
    exact (zb_J9_min_7cf53_10 A hr hd0 hZ (lv_sub hl [] rfl) h)
  · replace h := h.2 hc
    refine lv_iload_n hx hb dJ9_min_7cf53_5 rfl (lv_at hl 0 rfl) ?_
    refine lv_goto (tgt := 10) hx hb dJ9_min_7cf53_6 (by decide) ?_
    exact (zb_J9_min_7cf53_10 A hr hd0 hZ (lv_sub hl [] rfl) h)
/-! cX2_gather -/
set_option maxRecDepth 100000 in
set_option maxHeartbeats 4000000 in
theorem zb_X2_gather_26 {p : Program} {l : Launch} {e : Env} {R : Room} {s : State} {m : MethodId} {args : Array Value} {below : List Frame} {meth : Method} {c : Code} {G : ZG} {base z0 : Nat} {Q : Int32 → Mem → Prop} (A : ∀ d, Amb p R (s.setDrawn d) m args meth c G base z0 cX2_gather yX2_gather.cls 11 1 21) (hr : meth.sig.returnType = (some .int)) {d0 : Drawn} {H : Heap} {locs : List Loc} {cells slots : Nat} {ls : Array Slot}  {M : Mem} (hd0 : s.drawn.sameBut d0 lw_cs) (hZ : ZH G true base s.heap M H locs) (hl : lv_has ls 11 []) (h : wp_X2_gather_26 M Q) : W p l e R (s.setDrawn d0) m args below meth c H locs cells slots (ZEnd below G true base z0 (qI Q) args s) (F0 m 26 ls []) := by
  have hx := (A d0).1
  have hb := (A d0).2.1
  unfold wp_X2_gather_26 at h
  refine lv_iconst (v := (0 : Int32)) hx hb dX2_gather_26 (by decide) ?_
  exact z_iret A hd0 hZ hr ⟨_, rfl, h⟩ dX2_gather_27
set_option maxRecDepth 100000 in
set_option maxHeartbeats 4000000 in
theorem zb_X2_gather_138 {p : Program} {l : Launch} {e : Env} {R : Room} {s : State} {m : MethodId} {args : Array Value} {below : List Frame} {meth : Method} {c : Code} {G : ZG} {base z0 : Nat} {Q : Int32 → Mem → Prop} (A : ∀ d, Amb p R (s.setDrawn d) m args meth c G base z0 cX2_gather yX2_gather.cls 11 1 21) (hr : meth.sig.returnType = (some .int)) {K85 : Nat → Option Nat → Int32 → Int32 → Int32 → Int32 → Int32 → Mem → Prop} {K195 : Int32 → Mem → Prop} {d0 : Drawn} {H : Heap} {locs : List Loc} {cells slots : Nat} {ls : Array Slot} {x0 : Nat} {x3 : Nat} {x6 : Int32} {x7 : Int32} {x8 : Int32} {x9 : Int32} {x10 : Int32} {M : Mem} (ho_x0 : isO M x0 2) (ho_x3 : isA M x3 .long) (hd0 : s.drawn.sameBut d0 lw_cs) (hZ : ZH G true base s.heap M H locs) (hl : lv_has ls 11 [(0, .ref (base + x0)), (3, .ref (base + x3)), (6, .int x6), (7, .int x7), (8, .int x8), (9, .int x9), (10, .int x10)]) (h : wp_X2_gather_138 x0 x3 x6 x7 x8 x9 x10 M Q K85 K195) (hK85 : ∀ {d0 : Drawn} {H : Heap} {locs : List Loc} {cells slots : Nat} {ls : Array Slot} {x0 : Nat} {x3 : Option Nat} {x6 : Int32} {x7 : Int32} {x8 : Int32} {x9 : Int32} {x10 : Int32} {M : Mem} (ho_x0 : isO M x0 2), s.drawn.sameBut d0 lw_cs → ZH G true base s.heap M H locs → lv_has ls 11 [(0, .ref (base + x0)), (3, vr base x3), (6, .int x6), (7, .int x7), (8, .int x8), (9, .int x9), (10, .int x10)] → K85 x0 x3 x6 x7 x8 x9 x10 M → W p l e R (s.setDrawn d0) m args below meth c H locs cells slots (ZEnd below G true base z0 (qI Q) args s) (F0 m 85 ls [])) (hK195 : ∀ {d0 : Drawn} {H : Heap} {locs : List Loc} {cells slots : Nat} {ls : Array Slot} {x10 : Int32} {M : Mem}, s.drawn.sameBut d0 lw_cs → ZH G true base s.heap M H locs → lv_has ls 11 [(10, .int x10)] → K195 x10 M → W p l e R (s.setDrawn d0) m args below meth c H locs cells slots (ZEnd below G true base z0 (qI Q) args s) (F0 m 195 ls [])) : W p l e R (s.setDrawn d0) m args below meth c H locs cells slots (ZEnd below G true base z0 (qI Q) args s) (F0 m 138 ls []) := by
  have hx := (A d0).1
  have hb := (A d0).2.1
  unfold wp_X2_gather_138 at h
  refine lv_aload_n hx hb dX2_gather_138 rfl (lv_at hl 1 rfl) ?_
  refine lv_iload hx hb dX2_gather_139 (lv_at hl 6 rfl) ?_
  refine lv_aload_n hx hb dX2_gather_141 rfl (lv_at hl 0 rfl) ?_
  refine z_get (A d0) hZ (ci := 2) (j := 2) ho_x0.1 ho_x0.2 (by decide) (by decide) k_fl_RX2_29 (v := .ref (base + (x0 + 3))) (zv_fin (zf2_2 ho_x0) rfl) dX2_gather_142 ?_
  refine lv_iload hx hb dX2_gather_145 (lv_at hl 5 rfl) ?_
  obtain ⟨hin, h⟩ := h
  refine z_lald (A d0) hZ (isA_T3 hZ.k0 ho_x0) hin dX2_gather_147 ?_
  obtain ⟨hin, h⟩ := h
  obtain ⟨M2, eM2⟩ : ∃ y : Mem, y = sL M x3 x10.toNatClampNeg (mL M (x0 + 3) x9.toNatClampNeg) := ⟨_, rfl⟩
  refine z_last (A d0) hZ ho_x3 hin dX2_gather_148 (fun H locs hZ => ?_)
  rw [← eM2] at hZ
  have hm : mz M2 = mz M := by rw [eM2] <;> rfl
  have ho_x0 := isO_le (Nat.le_of_eq hm.symm) ho_x0
  have ho_x3 := isA_le (Nat.le_of_eq hm.symm) ho_x3
  replace h := h M2 eM2
  obtain ⟨i3, ei3⟩ : ∃ y : Int32, y = x10 + (1 : Int32) := ⟨_, rfl⟩
  replace h := h i3 ei3
  refine lv_iinc (v := i3) (lv' := [(10, .int i3), (0, .ref (base + x0)), (3, .ref (base + x3)), (6, .int x6), (7, .int x7), (8, .int x8), (9, .int x9)]) hx hb dX2_gather_149 hl (k := 6) rfl (by rw [ei3]; rfl) (by decide) rfl (fun ls hl2 => ?_)
  replace hl := hl2
  obtain ⟨i4, ei4⟩ : ∃ y : Int32, y = x9 + (1 : Int32) := ⟨_, rfl⟩
  replace h := h i4 ei4
  refine lv_iinc (v := i4) (lv' := [(9, .int i4), (10, .int i3), (0, .ref (base + x0)), (3, .ref (base + x3)), (6, .int x6), (7, .int x7), (8, .int x8)]) hx hb dX2_gather_152 hl (k := 6) rfl (by rw [ei4]; rfl) (by decide) rfl (fun ls hl2 => ?_)
  replace hl := hl2
  refine lv_goto (tgt := 85) hx hb dX2_gather_155 (by decide) ?_
  exact hK85 ho_x0 hd0 hZ (lv_sub hl [2, 3, 4, 5, 6, 0, 1] rfl) h
set_option maxRecDepth 100000 in
set_option maxHeartbeats 4000000 in
theorem zb_X2_gather_186 {p : Program} {l : Launch} {e : Env} {R : Room} {s : State} {m : MethodId} {args : Array Value} {below : List Frame} {meth : Method} {c : Code} {G : ZG} {base z0 : Nat} {Q : Int32 → Mem → Prop} (A : ∀ d, Amb p R (s.setDrawn d) m args meth c G base z0 cX2_gather yX2_gather.cls 11 1 21) (hr : meth.sig.returnType = (some .int)) {K85 : Nat → Option Nat → Int32 → Int32 → Int32 → Int32 → Int32 → Mem → Prop} {K195 : Int32 → Mem → Prop} {d0 : Drawn} {H : Heap} {locs : List Loc} {cells slots : Nat} {ls : Array Slot} {x0 : Nat} {x3 : Nat} {x6 : Int32} {x7 : Int32} {x8 : Int32} {x9 : Int32} {t0 : Int32} {t1 : Int32} {M : Mem} (ho_x0 : isO M x0 2) (ho_x3 : isA M x3 .long) (hd0 : s.drawn.sameBut d0 lw_cs) (hZ : ZH G true base s.heap M H locs) (hl : lv_has ls 11 [(0, .ref (base + x0)), (3, .ref (base + x3)), (6, .int x6), (7, .int x7), (8, .int x8), (9, .int x9)]) (h : wp_X2_gather_186 x0 x3 x6 x7 x8 x9 t0 t1 M Q K85 K195) (hK85 : ∀ {d0 : Drawn} {H : Heap} {locs : List Loc} {cells slots : Nat} {ls : Array Slot} {x0 : Nat} {x3 : Option Nat} {x6 : Int32} {x7 : Int32} {x8 : Int32} {x9 : Int32} {x10 : Int32} {M : Mem} (ho_x0 : isO M x0 2), s.drawn.sameBut d0 lw_cs → ZH G true base s.heap M H locs → lv_has ls 11 [(0, .ref (base + x0)), (3, vr base x3), (6, .int x6), (7, .int x7), (8, .int x8), (9, .int x9), (10, .int x10)] → K85 x0 x3 x6 x7 x8 x9 x10 M → W p l e R (s.setDrawn d0) m args below meth c H locs cells slots (ZEnd below G true base z0 (qI Q) args s) (F0 m 85 ls [])) (hK195 : ∀ {d0 : Drawn} {H : Heap} {locs : List Loc} {cells slots : Nat} {ls : Array Slot} {x10 : Int32} {M : Mem}, s.drawn.sameBut d0 lw_cs → ZH G true base s.heap M H locs → lv_has ls 11 [(10, .int x10)] → K195 x10 M → W p l e R (s.setDrawn d0) m args below meth c H locs cells slots (ZEnd below G true base z0 (qI Q) args s) (F0 m 195 ls [])) : W p l e R (s.setDrawn d0) m args below meth c H locs cells slots (ZEnd below G true base z0 (qI Q) args s) (F0 m 186 ls [.int t0, .int t1]) := by
  have hx := (A d0).1
  have hb := (A d0).2.1
  unfold wp_X2_gather_186 at h
  refine lv_iadd hx hb dX2_gather_186 ?_
  obtain ⟨i6, ei6⟩ : ∃ y : Int32, y = t1 + t0 := ⟨_, rfl⟩
  rw [← ei6]
  replace h := h i6 ei6
  refine lv_istore (lv' := [(10, .int i6), (0, .ref (base + x0)), (3, .ref (base + x3)), (6, .int x6), (7, .int x7), (8, .int x8), (9, .int x9)]) hx hb dX2_gather_187 hl (by decide) rfl (fun ls hl2 => ?_)
  replace hl := hl2
  obtain ⟨i7, ei7⟩ : ∃ y : Int32, y = x8 + (1 : Int32) := ⟨_, rfl⟩
  replace h := h i7 ei7
  refine lv_iinc (v := i7) (lv' := [(8, .int i7), (10, .int i6), (0, .ref (base + x0)), (3, .ref (base + x3)), (6, .int x6), (7, .int x7), (9, .int x9)]) hx hb dX2_gather_189 hl (k := 5) rfl (by rw [ei7]; rfl) (by decide) rfl (fun ls hl2 => ?_)
  replace hl := hl2
  refine lv_goto (tgt := 85) hx hb dX2_gather_192 (by decide) ?_
  exact hK85 ho_x0 hd0 hZ (lv_sub hl [2, 3, 4, 5, 0, 6, 1] rfl) h
set_option maxRecDepth 100000 in
set_option maxHeartbeats 4000000 in
theorem zb_X2_gather_195 {p : Program} {l : Launch} {e : Env} {R : Room} {s : State} {m : MethodId} {args : Array Value} {below : List Frame} {meth : Method} {c : Code} {G : ZG} {base z0 : Nat} {Q : Int32 → Mem → Prop} (A : ∀ d, Amb p R (s.setDrawn d) m args meth c G base z0 cX2_gather yX2_gather.cls 11 1 21) (hr : meth.sig.returnType = (some .int)) {d0 : Drawn} {H : Heap} {locs : List Loc} {cells slots : Nat} {ls : Array Slot} {x10 : Int32} {M : Mem} (hd0 : s.drawn.sameBut d0 lw_cs) (hZ : ZH G true base s.heap M H locs) (hl : lv_has ls 11 [(10, .int x10)]) (h : wp_X2_gather_195 x10 M Q) : W p l e R (s.setDrawn d0) m args below meth c H locs cells slots (ZEnd below G true base z0 (qI Q) args s) (F0 m 195 ls []) := by
  have hx := (A d0).1
  have hb := (A d0).2.1
  unfold wp_X2_gather_195 at h
  refine lv_iload hx hb dX2_gather_195 (lv_at hl 0 rfl) ?_
  exact z_iret A hd0 hZ hr ⟨_, rfl, h⟩ dX2_gather_197
set_option maxRecDepth 100000 in
set_option maxHeartbeats 4000000 in
theorem zb_X2_gather_158 {p : Program} {l : Launch} {e : Env} {R : Room} {s : State} {m : MethodId} {args : Array Value} {below : List Frame} {meth : Method} {c : Code} {G : ZG} {base z0 : Nat} {Q : Int32 → Mem → Prop} (A : ∀ d, Amb p R (s.setDrawn d) m args meth c G base z0 cX2_gather yX2_gather.cls 11 1 21) (hr : meth.sig.returnType = (some .int)) {K85 : Nat → Option Nat → Int32 → Int32 → Int32 → Int32 → Int32 → Mem → Prop} {K195 : Int32 → Mem → Prop} {d0 : Drawn} {H : Heap} {locs : List Loc} {cells slots : Nat} {ls : Array Slot} {x0 : Nat} {x3 : Nat} {x6 : Int32} {x7 : Int32} {x8 : Int32} {x9 : Int32} {x10 : Int32} {M : Mem} (ho_x0 : isO M x0 2) (ho_x3 : isA M x3 .long) (hd0 : s.drawn.sameBut d0 lw_cs) (hZ : ZH G true base s.heap M H locs) (hl : lv_has ls 11 [(0, .ref (base + x0)), (3, .ref (base + x3)), (6, .int x6), (7, .int x7), (8, .int x8), (9, .int x9), (10, .int x10)]) (h : wp_X2_gather_158 x0 x3 x6 x7 x8 x9 x10 M Q K85 K195) (hK85 : ∀ {d0 : Drawn} {H : Heap} {locs : List Loc} {cells slots : Nat} {ls : Array Slot} {x0 : Nat} {x3 : Option Nat} {x6 : Int32} {x7 : Int32} {x8 : Int32} {x9 : Int32} {x10 : Int32} {M : Mem} (ho_x0 : isO M x0 2), s.drawn.sameBut d0 lw_cs → ZH G true base s.heap M H locs → lv_has ls 11 [(0, .ref (base + x0)), (3, vr base x3), (6, .int x6), (7, .int x7), (8, .int x8), (9, .int x9), (10, .int x10)] → K85 x0 x3 x6 x7 x8 x9 x10 M → W p l e R (s.setDrawn d0) m args below meth c H locs cells slots (ZEnd below G true base z0 (qI Q) args s) (F0 m 85 ls [])) (hK195 : ∀ {d0 : Drawn} {H : Heap} {locs : List Loc} {cells slots : Nat} {ls : Array Slot} {x10 : Int32} {M : Mem}, s.drawn.sameBut d0 lw_cs → ZH G true base s.heap M H locs → lv_has ls 11 [(10, .int x10)] → K195 x10 M → W p l e R (s.setDrawn d0) m args below meth c H locs cells slots (ZEnd below G true base z0 (qI Q) args s) (F0 m 195 ls [])) : W p l e R (s.setDrawn d0) m args below meth c H locs cells slots (ZEnd below G true base z0 (qI Q) args s) (F0 m 158 ls []) := by
  have hx := (A d0).1
  have hb := (A d0).2.1
  unfold wp_X2_gather_158 at h
  refine lv_aload_n hx hb dX2_gather_158 rfl (lv_at hl 1 rfl) ?_
  refine lv_iload hx hb dX2_gather_159 (lv_at hl 6 rfl) ?_
  refine lv_aload_n hx hb dX2_gather_161 rfl (lv_at hl 0 rfl) ?_
  refine z_get (A d0) hZ (ci := 2) (j := 0) ho_x0.1 ho_x0.2 (by decide) (by decide) k_fl_RX2_21 (v := .ref (base + (x0 + 1))) (zv_fin (zf2_0 ho_x0) rfl) dX2_gather_162 ?_
  refine lv_iload hx hb dX2_gather_165 (lv_at hl 4 rfl) ?_
  obtain ⟨hin, h⟩ := h
  refine z_lald (A d0) hZ (isA_T1 hZ.k0 ho_x0) hin dX2_gather_167 ?_
  obtain ⟨hin, h⟩ := h
  obtain ⟨M5, eM5⟩ : ∃ y : Mem, y = sL M x3 x10.toNatClampNeg (mL M (x0 + 1) x8.toNatClampNeg) := ⟨_, rfl⟩
  refine z_last (A d0) hZ ho_x3 hin dX2_gather_168 (fun H locs hZ => ?_)
  rw [← eM5] at hZ
  have hm : mz M5 = mz M := by rw [eM5] <;> rfl
  have ho_x0 := isO_le (Nat.le_of_eq hm.symm) ho_x0
  have ho_x3 := isA_le (Nat.le_of_eq hm.symm) ho_x3
  replace h := h M5 eM5
  refine lv_iload hx hb dX2_gather_169 (lv_at hl 6 rfl) ?_
  refine lv_aload_n hx hb dX2_gather_171 rfl (lv_at hl 0 rfl) ?_
  refine z_get (A d0) hZ (ci := 2) (j := 1) ho_x0.1 ho_x0.2 (by decide) (by decide) k_fl_RX2_25 (v := .ref (base + (x0 + 2))) (zv_fin (zf2_1 ho_x0) rfl) dX2_gather_172 ?_
  refine lv_iload hx hb dX2_gather_175 (lv_at hl 4 rfl) ?_
  obtain ⟨hin, h⟩ := h
  refine z_zald (A d0) hZ (isA_T2 hZ.k0 ho_x0) hin dX2_gather_177 ?_
  refine lv_if_eq (tgt := 185) hx hb dX2_gather_178 (by decide) (fun hc => ?_) (fun hc => ?_)
  · replace h := h.1 hc
    refine lv_iconst (v := (1 : Int32)) hx hb dX2_gather_185 (by decide) ?_
    exact (zb_X2_gather_186 A hr ho_x0 ho_x3 hd0 hZ (lv_sub hl [0, 1, 2, 3, 4, 5] rfl) h hK85 hK195)
  · replace h := h.2 hc
    refine lv_iconst (v := (0 : Int32)) hx hb dX2_gather_181 (by decide) ?_
    refine lv_goto (tgt := 186) hx hb dX2_gather_182 (by decide) ?_
    exact (zb_X2_gather_186 A hr ho_x0 ho_x3 hd0 hZ (lv_sub hl [0, 1, 2, 3, 4, 5] rfl) h hK85 hK195)
set_option maxRecDepth 100000 in
set_option maxHeartbeats 4000000 in
theorem zb_X2_gather_99 {p : Program} {l : Launch} {e : Env} {R : Room} {s : State} {m : MethodId} {args : Array Value} {below : List Frame} {meth : Method} {c : Code} {G : ZG} {base z0 : Nat} {Q : Int32 → Mem → Prop} (A : ∀ d, Amb p R (s.setDrawn d) m args meth c G base z0 cX2_gather yX2_gather.cls 11 1 21) (hr : meth.sig.returnType = (some .int)) {K85 : Nat → Option Nat → Int32 → Int32 → Int32 → Int32 → Int32 → Mem → Prop} {K195 : Int32 → Mem → Prop} {d0 : Drawn} {H : Heap} {locs : List Loc} {cells slots : Nat} {ls : Array Slot} {x0 : Nat} {x3 : Option Nat} {x6 : Int32} {x7 : Int32} {x8 : Int32} {x9 : Int32} {x10 : Int32} {M : Mem} (ho_x0 : isO M x0 2) (hd0 : s.drawn.sameBut d0 lw_cs) (hZ : ZH G true base s.heap M H locs) (hl : lv_has ls 11 [(0, .ref (base + x0)), (3, vr base x3), (6, .int x6), (7, .int x7), (8, .int x8), (9, .int x9), (10, .int x10)]) (h : wp_X2_gather_99 x0 x3 x6 x7 x8 x9 x10 M Q K85 K195) (hK85 : ∀ {d0 : Drawn} {H : Heap} {locs : List Loc} {cells slots : Nat} {ls : Array Slot} {x0 : Nat} {x3 : Option Nat} {x6 : Int32} {x7 : Int32} {x8 : Int32} {x9 : Int32} {x10 : Int32} {M : Mem} (ho_x0 : isO M x0 2), s.drawn.sameBut d0 lw_cs → ZH G true base s.heap M H locs → lv_has ls 11 [(0, .ref (base + x0)), (3, vr base x3), (6, .int x6), (7, .int x7), (8, .int x8), (9, .int x9), (10, .int x10)] → K85 x0 x3 x6 x7 x8 x9 x10 M → W p l e R (s.setDrawn d0) m args below meth c H locs cells slots (ZEnd below G true base z0 (qI Q) args s) (F0 m 85 ls [])) (hK195 : ∀ {d0 : Drawn} {H : Heap} {locs : List Loc} {cells slots : Nat} {ls : Array Slot} {x10 : Int32} {M : Mem}, s.drawn.sameBut d0 lw_cs → ZH G true base s.heap M H locs → lv_has ls 11 [(10, .int x10)] → K195 x10 M → W p l e R (s.setDrawn d0) m args below meth c H locs cells slots (ZEnd below G true base z0 (qI Q) args s) (F0 m 195 ls [])) : W p l e R (s.setDrawn d0) m args below meth c H locs cells slots (ZEnd below G true base z0 (qI Q) args s) (F0 m 99 ls []) := by
  have hx := (A d0).1
  have hb := (A d0).2.1
  unfold wp_X2_gather_99 at h
  refine lv_iload hx hb dX2_gather_99 (lv_at hl 6 rfl) ?_
  refine z_aload_n (base := base) hx hb dX2_gather_101 rfl (lv_at hl 1 rfl) ?_
  obtain ⟨a1, rfl, ho_a1, h⟩ := h
  refine z_alen (A d0) hZ ho_a1 1 rfl dX2_gather_102 ?_
  refine lv_icmp_ge (tgt := 195) hx hb dX2_gather_103 (by decide) (fun hc => ?_) (fun hc => ?_)
  · replace h := h.1 hc
    exact hK195 hd0 hZ (lv_sub hl [6] rfl) h
  · replace h := h.2 hc
    refine lv_iload hx hb dX2_gather_106 (lv_at hl 4 rfl) ?_
    refine lv_iload hx hb dX2_gather_108 (lv_at hl 3 rfl) ?_
    refine lv_icmp_ge (tgt := 138) hx hb dX2_gather_110 (by decide) (fun hc => ?_) (fun hc => ?_)
    · replace h := h.1 hc
      exact (zb_X2_gather_138 A hr ho_x0 ho_a1 hd0 hZ (lv_sub hl [0, 1, 2, 3, 4, 5, 6] rfl) h hK85 hK195)
    · replace h := h.2 hc
      refine lv_iload hx hb dX2_gather_113 (lv_at hl 5 rfl) ?_
      refine lv_iload hx hb dX2_gather_115 (lv_at hl 2 rfl) ?_
      refine lv_icmp_ge (tgt := 158) hx hb dX2_gather_117 (by decide) (fun hc => ?_) (fun hc => ?_)
      · replace h := h.1 hc
        exact (zb_X2_gather_158 A hr ho_x0 ho_a1 hd0 hZ (lv_sub hl [0, 1, 2, 3, 4, 5, 6] rfl) h hK85 hK195)
      · replace h := h.2 hc
        refine lv_aload_n hx hb dX2_gather_120 rfl (lv_at hl 0 rfl) ?_
        refine z_get (A d0) hZ (ci := 2) (j := 2) ho_x0.1 ho_x0.2 (by decide) (by decide) k_fl_RX2_29 (v := .ref (base + (x0 + 3))) (zv_fin (zf2_2 ho_x0) rfl) dX2_gather_121 ?_
        refine lv_iload hx hb dX2_gather_124 (lv_at hl 5 rfl) ?_
        obtain ⟨hin, h⟩ := h
        refine z_lald (A d0) hZ (isA_T3 hZ.k0 ho_x0) hin dX2_gather_126 ?_
        refine lv_aload_n hx hb dX2_gather_127 rfl (lv_at hl 0 rfl) ?_
        refine z_get (A d0) hZ (ci := 2) (j := 0) ho_x0.1 ho_x0.2 (by decide) (by decide) k_fl_RX2_21 (v := .ref (base + (x0 + 1))) (zv_fin (zf2_0 ho_x0) rfl) dX2_gather_128 ?_
        refine lv_iload hx hb dX2_gather_131 (lv_at hl 4 rfl) ?_
        obtain ⟨hin, h⟩ := h
        refine z_lald (A d0) hZ (isA_T1 hZ.k0 ho_x0) hin dX2_gather_133 ?_
        refine z_lc_ge (tgt := 158) hx hb dX2_gather_134 dX2_gather_135 (by decide) (fun hc => ?_) (fun hc => ?_)
        · replace h := h.1 hc
          exact (zb_X2_gather_158 A hr ho_x0 ho_a1 hd0 hZ (lv_sub hl [0, 1, 2, 3, 4, 5, 6] rfl) h hK85 hK195)
        · replace h := h.2 hc
          exact (zb_X2_gather_138 A hr ho_x0 ho_a1 hd0 hZ (lv_sub hl [0, 1, 2, 3, 4, 5, 6] rfl) h hK85 hK195)
set_option maxRecDepth 100000 in
set_option maxHeartbeats 4000000 in
theorem zb_X2_gather_85 {p : Program} {l : Launch} {e : Env} {R : Room} {s : State} {m : MethodId} {args : Array Value} {below : List Frame} {meth : Method} {c : Code} {G : ZG} {base z0 : Nat} {Q : Int32 → Mem → Prop} (A : ∀ d, Amb p R (s.setDrawn d) m args meth c G base z0 cX2_gather yX2_gather.cls 11 1 21) (hr : meth.sig.returnType = (some .int)) {K195 : Int32 → Mem → Prop} :
  ∀ (n : Nat) {d0 : Drawn} {H : Heap} {locs : List Loc} {cells slots : Nat} {ls : Array Slot} {x0 : Nat} {x3 : Option Nat} {x6 : Int32} {x7 : Int32} {x8 : Int32} {x9 : Int32} {x10 : Int32} {M : Mem} (ho_x0 : isO M x0 2) (hd0 : s.drawn.sameBut d0 lw_cs) (hZ : ZH G true base s.heap M H locs) (hl : lv_has ls 11 [(0, .ref (base + x0)), (3, vr base x3), (6, .int x6), (7, .int x7), (8, .int x8), (9, .int x9), (10, .int x10)]) (h : wp_X2_gather_85 n x0 x3 x6 x7 x8 x9 x10 M Q K195) (hK195 : ∀ {d0 : Drawn} {H : Heap} {locs : List Loc} {cells slots : Nat} {ls : Array Slot} {x10 : Int32} {M : Mem}, s.drawn.sameBut d0 lw_cs → ZH G true base s.heap M H locs → lv_has ls 11 [(10, .int x10)] → K195 x10 M → W p l e R (s.setDrawn d0) m args below meth c H locs cells slots (ZEnd below G true base z0 (qI Q) args s) (F0 m 195 ls [])), W p l e R (s.setDrawn d0) m args below meth c H locs cells slots (ZEnd below G true base z0 (qI Q) args s) (F0 m 85 ls []) := by
  have hx := (A default).1
  have hb := (A default).2.1
  intro n
  induction n with
  | zero => intro d0 H locs cells slots ls x0 x3 x6 x7 x8 x9 x10 M ho_x0 hd0 hZ hl h hK195; exact h.elim
  | succ n ih =>
    intro d0 H locs cells slots ls x0 x3 x6 x7 x8 x9 x10 M ho_x0 hd0 hZ hl h hK195
    unfold wp_X2_gather_85 at h
    refine lv_iload hx hb dX2_gather_85 (lv_at hl 4 rfl) ?_
    refine lv_iload hx hb dX2_gather_87 (lv_at hl 3 rfl) ?_
    refine lv_icmp_lt (tgt := 99) hx hb dX2_gather_89 (by decide) (fun hc => ?_) (fun hc => ?_)
    · replace h := h.1 hc
      exact (zb_X2_gather_99 A hr ho_x0 hd0 hZ (lv_sub hl [0, 1, 2, 3, 4, 5, 6] rfl) h (fun ho_x0 hd0 hZ hl h => ih ho_x0 hd0 hZ hl h hK195) hK195)
    · replace h := h.2 hc
      refine lv_iload hx hb dX2_gather_92 (lv_at hl 5 rfl) ?_
      refine lv_iload hx hb dX2_gather_94 (lv_at hl 2 rfl) ?_
      refine lv_icmp_ge (tgt := 195) hx hb dX2_gather_96 (by decide) (fun hc => ?_) (fun hc => ?_)
      · replace h := h.1 hc
        exact hK195 hd0 hZ (lv_sub hl [6] rfl) h
      · replace h := h.2 hc
        exact (zb_X2_gather_99 A hr ho_x0 hd0 hZ (lv_sub hl [0, 1, 2, 3, 4, 5, 6] rfl) h (fun ho_x0 hd0 hZ hl h => ih ho_x0 hd0 hZ hl h hK195) hK195)
set_option maxRecDepth 100000 in
set_option maxHeartbeats 4000000 in
theorem c_X2_gather (l : Launch) (G : ZG) (base : Nat) (M : Mem) (x0 : Nat) (x1 : Int32) (x2 : Int32) (x3 : Option Nat) (Q : Int32 → Mem → Prop) (h : wp_X2_gather x0 x1 x2 x3 M Q) : ZMet l yX2_gather cX2_gather 11 (some .int) 1 21 G true base M [.ref (base + x0), .int x1, .int x2, vr base x3] (qI Q) := by
  refine z_start (by decide) (by simp [lg_sl, cat_vr, cat_r, cat_i, cat_l, cat_d]) k_co_yX2_gather ?_
  intro p e s m below meth c R d0 H locs cells slots ls A hr hn hd0 hZ hl
  have hx := (A d0).1
  have hb := (A d0).2.1
  have hl : lv_has ls 11 [(0, .ref (base + x0)), (1, .int x1), (2, .int x2), (3, vr base x3)] := by simpa [lv_args, cat_vr, cat_r, cat_i, cat_l, cat_d] using hl
  unfold wp_X2_gather at h
  obtain ⟨ho_x0, h⟩ := h
  refine lv_aload_n hx hb dX2_gather_0 rfl (lv_at hl 0 rfl) ?_
  refine lv_iload_n hx hb dX2_gather_1 rfl (lv_at hl 1 rfl) ?_
  refine z_callV A hd0 hZ (ci := 2) (nA := 1) (As := [.int x1]) (by decide) ho_x0 (c_X2_pieceAt l G base M x0 x1 _ h) k_ml_RX2_70 k_im_yX2_pieceAt k_se_yX2_pieceAt k_in_RX2 k_co_yX2_pieceAt (by decide +kernel) ⟨by decide, by decide⟩ rfl rfl (Nat.le_of_ble_eq_true rfl) hl dX2_gather_2 (fun v M8 H locs d0 cells slots hq hd0 hZ hm => ?_)
  clear h
  obtain ⟨r9, rfl, h⟩ := hq
  have ho_x0 := isO_le hm ho_x0
  refine z_astore (lv' := [(4, vr base r9), (0, .ref (base + x0)), (1, .int x1), (2, .int x2), (3, vr base x3)]) hx hb dX2_gather_5 hl (by decide) (by simp [cat_vr, cat_r, cat_i, cat_l, cat_d]) (fun ls hl2 => ?_)
  replace hl := hl2
  refine lv_aload_n hx hb dX2_gather_7 rfl (lv_at hl 1 rfl) ?_
  refine lv_iload_n hx hb dX2_gather_8 rfl (lv_at hl 3 rfl) ?_
  refine lv_iconst (v := (1 : Int32)) hx hb dX2_gather_9 (by decide) ?_
  refine lv_isub hx hb dX2_gather_10 ?_
  refine z_callV A hd0 hZ (ci := 2) (nA := 1) (As := [.int (x2 - (1 : Int32))]) (by decide) ho_x0 (c_X2_pieceAt l G base M8 x0 (x2 - (1 : Int32)) _ h) k_ml_RX2_70 k_im_yX2_pieceAt k_se_yX2_pieceAt k_in_RX2 k_co_yX2_pieceAt (by decide +kernel) ⟨by decide, by decide⟩ rfl rfl (Nat.le_of_ble_eq_true rfl) hl dX2_gather_11 (fun v M10 H locs d0 cells slots hq hd0 hZ hm => ?_)
  clear h
  obtain ⟨r11, rfl, h⟩ := hq
  have ho_x0 := isO_le hm ho_x0
  refine z_astore (lv' := [(5, vr base r11), (4, vr base r9), (0, .ref (base + x0)), (1, .int x1), (2, .int x2), (3, vr base x3)]) hx hb dX2_gather_14 hl (by decide) (by simp [cat_vr, cat_r, cat_i, cat_l, cat_d]) (fun ls hl2 => ?_)
  replace hl := hl2
  refine z_aload (base := base) hx hb dX2_gather_16 (lv_at hl 1 rfl) ?_
  refine z_ifnull (base := base) (tgt := 26) hx hb dX2_gather_18 (by decide) (fun hc => ?_) (fun a12 hc => ?_)
  · replace h := h.1 hc
    subst hc
    exact (zb_X2_gather_26 A hr hd0 hZ (lv_sub hl [] rfl) h)
  · replace h := h.2 a12 hc
    subst hc
    refine z_aload (base := base) hx hb dX2_gather_21 (lv_at hl 0 rfl) ?_
    refine z_ifnonnull (base := base) (tgt := 28) hx hb dX2_gather_23 (by decide) (fun a13 hc => ?_) (fun hc => ?_)
    · replace h := h.2 a13 hc
      subst hc
      refine lv_aload hx hb dX2_gather_28 (lv_at hl 0 rfl) ?_
      obtain ⟨ho_14, h⟩ := h
      refine z_getN (A d0) hZ (ci := 0) (j := 4) ho_14.1 ho_14.2 (by decide) (by decide) k_fn_RX2_44 (v := .int (mI M10 a13 4)) rfl dX2_gather_30 ?_
      refine lv_aload hx hb dX2_gather_33 (lv_at hl 0 rfl) ?_
      refine z_getN (A d0) hZ (ci := 0) (j := 5) ho_14.1 ho_14.2 (by decide) (by decide) k_fn_RX2_47 (v := .int (mI M10 a13 5)) rfl dX2_gather_35 ?_
      refine lv_iadd hx hb dX2_gather_38 ?_
      refine lv_aload_n hx hb dX2_gather_39 rfl (lv_at hl 2 rfl) ?_
      refine z_get (A d0) hZ (ci := 2) (j := 5) ho_x0.1 ho_x0.2 (by decide) (by decide) k_fl_RX2_15 (v := .int (mI M10 x0 5)) rfl dX2_gather_40 ?_
      refine z_callS A hd0 hZ (nA := 2) (As := [.int ((mI M10 a13 4) + (mI M10 a13 5)), .int (mI M10 x0 5)]) (c_J9_min_7cf53 l G base M10 ((mI M10 a13 4) + (mI M10 a13 5)) (mI M10 x0 5) _ h) k_ml_RX2_74 k_st_yJ9_min_7cf53 k_in_RJ9 k_co_yJ9_min_7cf53 (by decide +kernel) ⟨by decide, by decide⟩ rfl rfl (Nat.le_of_ble_eq_true rfl) hl dX2_gather_43 (fun v M15 H locs d0 cells slots hq hd0 hZ hm => ?_)
      clear h
      obtain ⟨i16, rfl, h⟩ := hq
      have ho_x0 := isO_le hm ho_x0
      have ho_14 := isO_le hm ho_14
      refine lv_istore (lv' := [(6, .int i16), (5, .ref (base + a13)), (4, .ref (base + a12)), (0, .ref (base + x0)), (1, .int x1), (2, .int x2), (3, vr base x3)]) hx hb dX2_gather_46 hl (by decide) rfl (fun ls hl2 => ?_)
      replace hl := hl2
      refine lv_aload hx hb dX2_gather_48 (lv_at hl 1 rfl) ?_
      refine z_getN (A d0) hZ (ci := 0) (j := 2) ho_14.1 ho_14.2 (by decide) (by decide) k_fn_RX2_38 (v := .int (mI M15 a13 2)) rfl dX2_gather_50 ?_
      refine lv_aload hx hb dX2_gather_53 (lv_at hl 1 rfl) ?_
      refine z_getN (A d0) hZ (ci := 0) (j := 3) ho_14.1 ho_14.2 (by decide) (by decide) k_fn_RX2_41 (v := .int (mI M15 a13 3)) rfl dX2_gather_55 ?_
      refine lv_iadd hx hb dX2_gather_58 ?_
      refine lv_aload_n hx hb dX2_gather_59 rfl (lv_at hl 3 rfl) ?_
      refine z_get (A d0) hZ (ci := 2) (j := 4) ho_x0.1 ho_x0.2 (by decide) (by decide) k_fl_RX2_9 (v := .int (mI M15 x0 4)) rfl dX2_gather_60 ?_
      refine z_callS A hd0 hZ (nA := 2) (As := [.int ((mI M15 a13 2) + (mI M15 a13 3)), .int (mI M15 x0 4)]) (c_J9_min_7cf53 l G base M15 ((mI M15 a13 2) + (mI M15 a13 3)) (mI M15 x0 4) _ h) k_ml_RX2_74 k_st_yJ9_min_7cf53 k_in_RJ9 k_co_yJ9_min_7cf53 (by decide +kernel) ⟨by decide, by decide⟩ rfl rfl (Nat.le_of_ble_eq_true rfl) hl dX2_gather_63 (fun v M17 H locs d0 cells slots hq hd0 hZ hm => ?_)
      clear h
      obtain ⟨i18, rfl, h⟩ := hq
      have ho_14 := isO_le hm ho_14
      have ho_x0 := isO_le hm ho_x0
      refine lv_istore (lv' := [(7, .int i18), (6, .int i16), (5, .ref (base + a13)), (4, .ref (base + a12)), (0, .ref (base + x0)), (1, .int x1), (2, .int x2), (3, vr base x3)]) hx hb dX2_gather_66 hl (by decide) rfl (fun ls hl2 => ?_)
      replace hl := hl2
      refine lv_aload hx hb dX2_gather_68 (lv_at hl 3 rfl) ?_
      obtain ⟨ho_19, h⟩ := h
      refine z_getN (A d0) hZ (ci := 0) (j := 2) ho_19.1 ho_19.2 (by decide) (by decide) k_fn_RX2_38 (v := .int (mI M17 a12 2)) rfl dX2_gather_70 ?_
      obtain ⟨i20, ei20⟩ : ∃ y : Int32, y = mI M17 a12 2 := ⟨_, rfl⟩
      rw [← ei20]
      replace h := h i20 ei20
      refine lv_istore (lv' := [(8, .int i20), (7, .int i18), (6, .int i16), (5, .ref (base + a13)), (4, .ref (base + a12)), (0, .ref (base + x0)), (1, .int x1), (2, .int x2), (3, vr base x3)]) hx hb dX2_gather_73 hl (by decide) rfl (fun ls hl2 => ?_)
      replace hl := hl2
      refine lv_aload hx hb dX2_gather_75 (lv_at hl 4 rfl) ?_
      refine z_getN (A d0) hZ (ci := 0) (j := 4) ho_19.1 ho_19.2 (by decide) (by decide) k_fn_RX2_44 (v := .int (mI M17 a12 4)) rfl dX2_gather_77 ?_
      obtain ⟨i21, ei21⟩ : ∃ y : Int32, y = mI M17 a12 4 := ⟨_, rfl⟩
      rw [← ei21]
      replace h := h i21 ei21
      refine lv_istore (lv' := [(9, .int i21), (8, .int i20), (7, .int i18), (6, .int i16), (5, .ref (base + a13)), (4, .ref (base + a12)), (0, .ref (base + x0)), (1, .int x1), (2, .int x2), (3, vr base x3)]) hx hb dX2_gather_80 hl (by decide) rfl (fun ls hl2 => ?_)
      replace hl := hl2
      refine lv_iconst (v := (0 : Int32)) hx hb dX2_gather_82 (by decide) ?_
      refine lv_istore (lv' := [(10, .int (0 : Int32)), (9, .int i21), (8, .int i20), (7, .int i18), (6, .int i16), (5, .ref (base + a13)), (4, .ref (base + a12)), (0, .ref (base + x0)), (1, .int x1), (2, .int x2), (3, vr base x3)]) hx hb dX2_gather_83 hl (by decide) rfl (fun ls hl2 => ?_)
      replace hl := hl2
      exact (Exists.elim h fun kk h => zb_X2_gather_85 A hr kk ho_x0 hd0 hZ (lv_sub hl [7, 10, 4, 3, 2, 1, 0] rfl) h (fun hd0 hZ hl h => (zb_X2_gather_195 A hr hd0 hZ hl h)))
    · replace h := h.1 hc
      subst hc
      exact (zb_X2_gather_26 A hr hd0 hZ (lv_sub hl [] rfl) h)
/-! cX2_append -/
set_option maxRecDepth 100000 in
set_option maxHeartbeats 4000000 in
theorem zb_X2_append_54 {p : Program} {l : Launch} {e : Env} {R : Room} {s : State} {m : MethodId} {args : Array Value} {below : List Frame} {meth : Method} {c : Code} {G : ZG} {base z0 : Nat} {Q : Option Nat → Mem → Prop} (A : ∀ d, Amb p R (s.setDrawn d) m args meth c G base z0 cX2_append yX2_append.cls 7 2 32) (hr : meth.sig.returnType = (some (.object "LeaningIndex$Piece"))) {d0 : Drawn} {H : Heap} {locs : List Loc} {cells slots : Nat} {ls : Array Slot}  {M : Mem} (hd0 : s.drawn.sameBut d0 lw_cs) (hZ : ZH G true base s.heap M H locs) (hl : lv_has ls 7 []) (h : wp_X2_append_54 M Q) : W p l e R (s.setDrawn d0) m args below meth c H locs cells slots (ZEnd below G true base z0 (qR base Q) args s) (F0 m 54 ls []) := by
  have hx := (A d0).1
  have hb := (A d0).2.1
  unfold wp_X2_append_54 at h
  refine z_null (base := base) hx hb dX2_append_54 ?_
  exact z_aret (r := none) A hd0 hZ hr ⟨_, rfl, h⟩ dX2_append_55
set_option maxRecDepth 100000 in
set_option maxHeartbeats 4000000 in
theorem zb_X2_append_128 {p : Program} {l : Launch} {e : Env} {R : Room} {s : State} {m : MethodId} {args : Array Value} {below : List Frame} {meth : Method} {c : Code} {G : ZG} {base z0 : Nat} {Q : Option Nat → Mem → Prop} (A : ∀ d, Amb p R (s.setDrawn d) m args meth c G base z0 cX2_append yX2_append.cls 7 2 32) (hr : meth.sig.returnType = (some (.object "LeaningIndex$Piece"))) {K171 : Nat → Int32 → Nat → Mem → Prop} :
  ∀ (n : Nat) {d0 : Drawn} {H : Heap} {locs : List Loc} {cells slots : Nat} {ls : Array Slot} {x0 : Nat} {x1 : Option Nat} {x2 : Int32} {x3 : Int32} {x5 : Nat} {x6 : Int32} {M : Mem} (ho_x0 : isO M x0 2) (ho_x5 : isO M x5 0) (hd0 : s.drawn.sameBut d0 lw_cs) (hZ : ZH G true base s.heap M H locs) (hl : lv_has ls 7 [(0, .ref (base + x0)), (1, vr base x1), (2, .int x2), (3, .int x3), (5, .ref (base + x5)), (6, .int x6)]) (h : wp_X2_append_128 n x0 x1 x2 x3 x5 x6 M Q K171) (hK171 : ∀ {d0 : Drawn} {H : Heap} {locs : List Loc} {cells slots : Nat} {ls : Array Slot} {x0 : Nat} {x3 : Int32} {x5 : Nat} {M : Mem} (ho_x0 : isO M x0 2) (ho_x5 : isO M x5 0), s.drawn.sameBut d0 lw_cs → ZH G true base s.heap M H locs → lv_has ls 7 [(0, .ref (base + x0)), (3, .int x3), (5, .ref (base + x5))] → K171 x0 x3 x5 M → W p l e R (s.setDrawn d0) m args below meth c H locs cells slots (ZEnd below G true base z0 (qR base Q) args s) (F0 m 171 ls [])), W p l e R (s.setDrawn d0) m args below meth c H locs cells slots (ZEnd below G true base z0 (qR base Q) args s) (F0 m 128 ls []) := by
  have hx := (A default).1
  have hb := (A default).2.1
  intro n
  induction n with
  | zero => intro d0 H locs cells slots ls x0 x1 x2 x3 x5 x6 M ho_x0 ho_x5 hd0 hZ hl h hK171; exact h.elim
  | succ n ih =>
    intro d0 H locs cells slots ls x0 x1 x2 x3 x5 x6 M ho_x0 ho_x5 hd0 hZ hl h hK171
    unfold wp_X2_append_128 at h
    refine lv_iload hx hb dX2_append_128 (lv_at hl 5 rfl) ?_
    refine lv_iload_n hx hb dX2_append_130 rfl (lv_at hl 3 rfl) ?_
    refine lv_icmp_ge (tgt := 171) hx hb dX2_append_131 (by decide) (fun hc => ?_) (fun hc => ?_)
    · replace h := h.1 hc
      exact hK171 ho_x0 ho_x5 hd0 hZ (lv_sub hl [0, 3, 4] rfl) h
    · replace h := h.2 hc
      refine lv_aload_n hx hb dX2_append_134 rfl (lv_at hl 0 rfl) ?_
      refine z_get (A d0) hZ (ci := 2) (j := 0) ho_x0.1 ho_x0.2 (by decide) (by decide) k_fl_RX2_21 (v := .ref (base + (x0 + 1))) (zv_fin (zf2_0 ho_x0) rfl) dX2_append_135 ?_
      refine lv_aload_n hx hb dX2_append_138 rfl (lv_at hl 0 rfl) ?_
      refine z_get (A d0) hZ (ci := 2) (j := 4) ho_x0.1 ho_x0.2 (by decide) (by decide) k_fl_RX2_9 (v := .int (mI M x0 4)) rfl dX2_append_139 ?_
      refine lv_iload hx hb dX2_append_142 (lv_at hl 5 rfl) ?_
      refine lv_iadd hx hb dX2_append_144 ?_
      refine z_aload_n (base := base) hx hb dX2_append_145 rfl (lv_at hl 1 rfl) ?_
      refine lv_iload_n hx hb dX2_append_146 rfl (lv_at hl 2 rfl) ?_
      refine lv_iload hx hb dX2_append_147 (lv_at hl 5 rfl) ?_
      refine lv_iadd hx hb dX2_append_149 ?_
      obtain ⟨a13, rfl, ho_a13, h⟩ := h
      obtain ⟨hin, h⟩ := h
      refine z_lald (A d0) hZ ho_a13 hin dX2_append_150 ?_
      obtain ⟨hin, h⟩ := h
      obtain ⟨M14, eM14⟩ : ∃ y : Mem, y = sL M (x0 + 1) ((mI M x0 4) + x6).toNatClampNeg (mL M a13 (x2 + x6).toNatClampNeg) := ⟨_, rfl⟩
      refine z_last (A d0) hZ (isA_T1 hZ.k0 ho_x0) hin dX2_append_151 (fun H locs hZ => ?_)
      rw [← eM14] at hZ
      have hm : mz M14 = mz M := by rw [eM14] <;> rfl
      have ho_x0 := isO_le (Nat.le_of_eq hm.symm) ho_x0
      have ho_a13 := isA_le (Nat.le_of_eq hm.symm) ho_a13
      have ho_x5 := isO_le (Nat.le_of_eq hm.symm) ho_x5
      replace h := h M14 eM14
      refine lv_aload_n hx hb dX2_append_152 rfl (lv_at hl 0 rfl) ?_
      refine z_get (A d0) hZ (ci := 2) (j := 1) ho_x0.1 ho_x0.2 (by decide) (by decide) k_fl_RX2_25 (v := .ref (base + (x0 + 2))) (zv_fin (zf2_1 ho_x0) rfl) dX2_append_153 ?_
      refine lv_aload_n hx hb dX2_append_156 rfl (lv_at hl 0 rfl) ?_
      refine z_get (A d0) hZ (ci := 2) (j := 4) ho_x0.1 ho_x0.2 (by decide) (by decide) k_fl_RX2_9 (v := .int (mI M14 x0 4)) rfl dX2_append_157 ?_
      refine lv_iload hx hb dX2_append_160 (lv_at hl 5 rfl) ?_
      refine lv_iadd hx hb dX2_append_162 ?_
      refine lv_iconst (v := (0 : Int32)) hx hb dX2_append_163 (by decide) ?_
      obtain ⟨hin, h⟩ := h
      obtain ⟨M15, eM15⟩ : ∃ y : Mem, y = sI M14 (x0 + 2) ((mI M14 x0 4) + x6).toNatClampNeg (0 : Int32) := ⟨_, rfl⟩
      refine z_zast (A d0) hZ (isA_T2 hZ.k0 ho_x0) hin (Or.inl rfl) dX2_append_164 (fun H locs hZ => ?_)
      rw [← eM15] at hZ
      have hm : mz M15 = mz M14 := by rw [eM15] <;> rfl
      have ho_x0 := isO_le (Nat.le_of_eq hm.symm) ho_x0
      have ho_a13 := isA_le (Nat.le_of_eq hm.symm) ho_a13
      have ho_x5 := isO_le (Nat.le_of_eq hm.symm) ho_x5
      replace h := h M15 eM15
      obtain ⟨i16, ei16⟩ : ∃ y : Int32, y = x6 + (1 : Int32) := ⟨_, rfl⟩
      replace h := h i16 ei16
      refine lv_iinc (v := i16) (lv' := [(6, .int i16), (0, .ref (base + x0)), (1, .ref (base + a13)), (2, .int x2), (3, .int x3), (5, .ref (base + x5))]) hx hb dX2_append_165 hl (k := 5) rfl (by rw [ei16]; rfl) (by decide) rfl (fun ls hl2 => ?_)
      replace hl := hl2
      refine lv_goto (tgt := 128) hx hb dX2_append_168 (by decide) ?_
      exact ih ho_x0 ho_x5 hd0 hZ (lv_sub hl [1, 2, 3, 4, 5, 0] rfl) h hK171
set_option maxRecDepth 100000 in
set_option maxHeartbeats 4000000 in
theorem zb_X2_append_171 {p : Program} {l : Launch} {e : Env} {R : Room} {s : State} {m : MethodId} {args : Array Value} {below : List Frame} {meth : Method} {c : Code} {G : ZG} {base z0 : Nat} {Q : Option Nat → Mem → Prop} (A : ∀ d, Amb p R (s.setDrawn d) m args meth c G base z0 cX2_append yX2_append.cls 7 2 32) (hr : meth.sig.returnType = (some (.object "LeaningIndex$Piece"))) {d0 : Drawn} {H : Heap} {locs : List Loc} {cells slots : Nat} {ls : Array Slot} {x0 : Nat} {x3 : Int32} {x5 : Nat} {M : Mem} (ho_x0 : isO M x0 2) (ho_x5 : isO M x5 0) (hd0 : s.drawn.sameBut d0 lw_cs) (hZ : ZH G true base s.heap M H locs) (hl : lv_has ls 7 [(0, .ref (base + x0)), (3, .int x3), (5, .ref (base + x5))]) (h : wp_X2_append_171 x0 x3 x5 M Q) : W p l e R (s.setDrawn d0) m args below meth c H locs cells slots (ZEnd below G true base z0 (qR base Q) args s) (F0 m 171 ls []) := by
  have hx := (A d0).1
  have hb := (A d0).2.1
  unfold wp_X2_append_171 at h
  refine lv_aload_n hx hb dX2_append_171 rfl (lv_at hl 0 rfl) ?_
  refine lv_dup hx hb dX2_append_172 rfl ?_
  refine z_get (A d0) hZ (ci := 2) (j := 4) ho_x0.1 ho_x0.2 (by decide) (by decide) k_fl_RX2_9 (v := .int (mI M x0 4)) rfl dX2_append_173 ?_
  refine lv_iload_n hx hb dX2_append_176 rfl (lv_at hl 1 rfl) ?_
  refine lv_iadd hx hb dX2_append_177 ?_
  obtain ⟨M17, eM17⟩ : ∃ y : Mem, y = sI M x0 4 ((mI M x0 4) + x3) := ⟨_, rfl⟩
  refine z_put (A d0) hZ (ci := 2) (j := 4) (M' := M17) ho_x0.1 ho_x0.2 (by decide) (by decide) k_fl_RX2_9 rfl (by rw [eM17]; exact zUpd_I) rfl rfl dX2_append_178 (fun H locs hZ => ?_)
  have hm : mz M17 = mz M := by rw [eM17] <;> rfl
  have ho_x0 := isO_le (Nat.le_of_eq hm.symm) ho_x0
  have ho_x5 := isO_le (Nat.le_of_eq hm.symm) ho_x5
  replace h := h M17 eM17
  refine lv_aload_n hx hb dX2_append_181 rfl (lv_at hl 0 rfl) ?_
  refine lv_dup hx hb dX2_append_182 rfl ?_
  refine z_get (A d0) hZ (ci := 2) (j := 6) ho_x0.1 ho_x0.2 (by decide) (by decide) k_fl_RX2_18 (v := .int (mI M17 x0 6)) rfl dX2_append_183 ?_
  refine lv_iconst (v := (1 : Int32)) hx hb dX2_append_186 (by decide) ?_
  refine lv_iadd hx hb dX2_append_187 ?_
  obtain ⟨M18, eM18⟩ : ∃ y : Mem, y = sI M17 x0 6 ((mI M17 x0 6) + (1 : Int32)) := ⟨_, rfl⟩
  refine z_put (A d0) hZ (ci := 2) (j := 6) (M' := M18) ho_x0.1 ho_x0.2 (by decide) (by decide) k_fl_RX2_18 rfl (by rw [eM18]; exact zUpd_I) rfl rfl dX2_append_188 (fun H locs hZ => ?_)
  have hm : mz M18 = mz M17 := by rw [eM18] <;> rfl
  have ho_x0 := isO_le (Nat.le_of_eq hm.symm) ho_x0
  have ho_x5 := isO_le (Nat.le_of_eq hm.symm) ho_x5
  replace h := h M18 eM18
  refine lv_aload hx hb dX2_append_191 (lv_at hl 2 rfl) ?_
  exact z_aret (r := (some x5)) A hd0 hZ hr ⟨_, rfl, h⟩ dX2_append_193
set_option maxRecDepth 100000 in
set_option maxHeartbeats 4000000 in
theorem zb_X2_append_84 {p : Program} {l : Launch} {e : Env} {R : Room} {s : State} {m : MethodId} {args : Array Value} {below : List Frame} {meth : Method} {c : Code} {G : ZG} {base z0 : Nat} {Q : Option Nat → Mem → Prop} (A : ∀ d, Amb p R (s.setDrawn d) m args meth c G base z0 cX2_append yX2_append.cls 7 2 32) (hr : meth.sig.returnType = (some (.object "LeaningIndex$Piece"))) {d0 : Drawn} {H : Heap} {locs : List Loc} {cells slots : Nat} {ls : Array Slot} {x0 : Nat} {x1 : Option Nat} {x2 : Int32} {x3 : Int32} {M : Mem} (ho_x0 : isO M x0 2) (hd0 : s.drawn.sameBut d0 lw_cs) (hZ : ZH G true base s.heap M H locs) (hl : lv_has ls 7 [(0, .ref (base + x0)), (1, vr base x1), (2, .int x2), (3, .int x3)]) (h : wp_X2_append_84 x0 x1 x2 x3 M Q) : W p l e R (s.setDrawn d0) m args below meth c H locs cells slots (ZEnd below G true base z0 (qR base Q) args s) (F0 m 84 ls []) := by
  have hx := (A d0).1
  have hb := (A d0).2.1
  unfold wp_X2_append_84 at h
  refine lv_aload_n hx hb dX2_append_84 rfl (lv_at hl 0 rfl) ?_
  refine z_get (A d0) hZ (ci := 2) (j := 3) ho_x0.1 ho_x0.2 (by decide) (by decide) k_fl_RX2_34 (v := .ref (base + (x0 + 4))) (zv_fin (zf2_3 ho_x0) rfl) dX2_append_85 ?_
  refine lv_aload_n hx hb dX2_append_88 rfl (lv_at hl 0 rfl) ?_
  refine z_get (A d0) hZ (ci := 2) (j := 6) ho_x0.1 ho_x0.2 (by decide) (by decide) k_fl_RX2_18 (v := .int (mI M x0 6)) rfl dX2_append_89 ?_
  obtain ⟨hin, h⟩ := h
  refine z_aaldP (A d0) hZ (isA_T4 hZ.k0 ho_x0) hin dX2_append_92 ?_
  obtain ⟨r7, er7⟩ : ∃ y : Option Nat, y = mR M (x0 + 4) (mI M x0 6).toNatClampNeg := ⟨_, rfl⟩
  rw [← er7]
  replace h := h r7 er7
  refine z_astore (lv' := [(5, vr base r7), (0, .ref (base + x0)), (1, vr base x1), (2, .int x2), (3, .int x3)]) hx hb dX2_append_93 hl (by decide) rfl (fun ls hl2 => ?_)
  replace hl := hl2
  refine z_aload (base := base) hx hb dX2_append_95 (lv_at hl 0 rfl) ?_
  refine lv_aload_n hx hb dX2_append_97 rfl (lv_at hl 1 rfl) ?_
  refine z_get (A d0) hZ (ci := 2) (j := 4) ho_x0.1 ho_x0.2 (by decide) (by decide) k_fl_RX2_9 (v := .int (mI M x0 4)) rfl dX2_append_98 ?_
  obtain ⟨a8, rfl, ho_a8, h⟩ := h
  obtain ⟨M9, eM9⟩ : ∃ y : Mem, y = sI M a8 2 (mI M x0 4) := ⟨_, rfl⟩
  refine z_putN (A d0) hZ (ci := 0) (j := 2) (M' := M9) ho_a8.1 ho_a8.2 (by decide) (by decide) k_fn_RX2_38 rfl (by rw [eM9]; exact zUpd_I) rfl rfl dX2_append_101 (fun H locs hZ => ?_)
  have hm : mz M9 = mz M := by rw [eM9] <;> rfl
  have ho_x0 := isO_le (Nat.le_of_eq hm.symm) ho_x0
  have ho_a8 := isO_le (Nat.le_of_eq hm.symm) ho_a8
  replace h := h M9 eM9
  refine lv_aload hx hb dX2_append_104 (lv_at hl 0 rfl) ?_
  refine lv_iload_n hx hb dX2_append_106 rfl (lv_at hl 4 rfl) ?_
  obtain ⟨M10, eM10⟩ : ∃ y : Mem, y = sI M9 a8 3 x3 := ⟨_, rfl⟩
  refine z_putN (A d0) hZ (ci := 0) (j := 3) (M' := M10) ho_a8.1 ho_a8.2 (by decide) (by decide) k_fn_RX2_41 rfl (by rw [eM10]; exact zUpd_I) rfl rfl dX2_append_107 (fun H locs hZ => ?_)
  have hm : mz M10 = mz M9 := by rw [eM10] <;> rfl
  have ho_x0 := isO_le (Nat.le_of_eq hm.symm) ho_x0
  have ho_a8 := isO_le (Nat.le_of_eq hm.symm) ho_a8
  replace h := h M10 eM10
  refine lv_aload hx hb dX2_append_110 (lv_at hl 0 rfl) ?_
  refine lv_aload_n hx hb dX2_append_112 rfl (lv_at hl 1 rfl) ?_
  refine z_get (A d0) hZ (ci := 2) (j := 5) ho_x0.1 ho_x0.2 (by decide) (by decide) k_fl_RX2_15 (v := .int (mI M10 x0 5)) rfl dX2_append_113 ?_
  obtain ⟨M11, eM11⟩ : ∃ y : Mem, y = sI M10 a8 4 (mI M10 x0 5) := ⟨_, rfl⟩
  refine z_putN (A d0) hZ (ci := 0) (j := 4) (M' := M11) ho_a8.1 ho_a8.2 (by decide) (by decide) k_fn_RX2_44 rfl (by rw [eM11]; exact zUpd_I) rfl rfl dX2_append_116 (fun H locs hZ => ?_)
  have hm : mz M11 = mz M10 := by rw [eM11] <;> rfl
  have ho_x0 := isO_le (Nat.le_of_eq hm.symm) ho_x0
  have ho_a8 := isO_le (Nat.le_of_eq hm.symm) ho_a8
  replace h := h M11 eM11
  refine lv_aload hx hb dX2_append_119 (lv_at hl 0 rfl) ?_
  refine lv_iconst (v := (0 : Int32)) hx hb dX2_append_121 (by decide) ?_
  obtain ⟨M12, eM12⟩ : ∃ y : Mem, y = sI M11 a8 5 (0 : Int32) := ⟨_, rfl⟩
  refine z_putN (A d0) hZ (ci := 0) (j := 5) (M' := M12) ho_a8.1 ho_a8.2 (by decide) (by decide) k_fn_RX2_47 rfl (by rw [eM12]; exact zUpd_I) rfl rfl dX2_append_122 (fun H locs hZ => ?_)
  have hm : mz M12 = mz M11 := by rw [eM12] <;> rfl
  have ho_x0 := isO_le (Nat.le_of_eq hm.symm) ho_x0
  have ho_a8 := isO_le (Nat.le_of_eq hm.symm) ho_a8
  replace h := h M12 eM12
  refine lv_iconst (v := (0 : Int32)) hx hb dX2_append_125 (by decide) ?_
  refine lv_istore (lv' := [(6, .int (0 : Int32)), (5, .ref (base + a8)), (0, .ref (base + x0)), (1, vr base x1), (2, .int x2), (3, .int x3)]) hx hb dX2_append_126 hl (by decide) rfl (fun ls hl2 => ?_)
  replace hl := hl2
  exact (Exists.elim h fun kk h => zb_X2_append_128 A hr kk ho_x0 ho_a8 hd0 hZ (lv_sub hl [2, 3, 4, 5, 1, 0] rfl) h (fun ho_x0 ho_x5 hd0 hZ hl h => (zb_X2_append_171 A hr ho_x0 ho_x5 hd0 hZ hl h)))
set_option maxRecDepth 100000 in
set_option maxHeartbeats 4000000 in
theorem zb_X2_append_21 {p : Program} {l : Launch} {e : Env} {R : Room} {s : State} {m : MethodId} {args : Array Value} {below : List Frame} {meth : Method} {c : Code} {G : ZG} {base z0 : Nat} {Q : Option Nat → Mem → Prop} (A : ∀ d, Amb p R (s.setDrawn d) m args meth c G base z0 cX2_append yX2_append.cls 7 2 32) (hr : meth.sig.returnType = (some (.object "LeaningIndex$Piece"))) {d0 : Drawn} {H : Heap} {locs : List Loc} {cells slots : Nat} {ls : Array Slot} {x0 : Nat} {x1 : Option Nat} {x2 : Int32} {x3 : Int32} {t0 : Int32} {M : Mem} (ho_x0 : isO M x0 2) (hd0 : s.drawn.sameBut d0 lw_cs) (hZ : ZH G true base s.heap M H locs) (hl : lv_has ls 7 [(0, .ref (base + x0)), (1, vr base x1), (2, .int x2), (3, .int x3)]) (h : wp_X2_append_21 x0 x1 x2 x3 t0 M Q) : W p l e R (s.setDrawn d0) m args below meth c H locs cells slots (ZEnd below G true base z0 (qR base Q) args s) (F0 m 21 ls [.int t0]) := by
  have hx := (A d0).1
  have hb := (A d0).2.1
  unfold wp_X2_append_21 at h
  refine lv_istore (lv' := [(4, .int t0), (0, .ref (base + x0)), (1, vr base x1), (2, .int x2), (3, .int x3)]) hx hb dX2_append_21 hl (by decide) rfl (fun ls hl2 => ?_)
  replace hl := hl2
  refine lv_iload hx hb dX2_append_23 (lv_at hl 0 rfl) ?_
  refine lv_if_eq (tgt := 54) hx hb dX2_append_25 (by decide) (fun hc => ?_) (fun hc => ?_)
  · replace h := h.1 hc
    exact (zb_X2_append_54 A hr hd0 hZ (lv_sub hl [] rfl) h)
  · replace h := h.2 hc
    refine lv_aload_n hx hb dX2_append_28 rfl (lv_at hl 1 rfl) ?_
    refine z_get (A d0) hZ (ci := 2) (j := 4) ho_x0.1 ho_x0.2 (by decide) (by decide) k_fl_RX2_9 (v := .int (mI M x0 4)) rfl dX2_append_29 ?_
    refine lv_aload_n hx hb dX2_append_32 rfl (lv_at hl 1 rfl) ?_
    refine z_get (A d0) hZ (ci := 2) (j := 0) ho_x0.1 ho_x0.2 (by decide) (by decide) k_fl_RX2_21 (v := .ref (base + (x0 + 1))) (zv_fin (zf2_0 ho_x0) rfl) dX2_append_33 ?_
    refine z_alen (A d0) hZ (isA_T1 hZ.k0 ho_x0) 1 rfl dX2_append_36 ?_
    refine lv_iload_n hx hb dX2_append_37 rfl (lv_at hl 4 rfl) ?_
    refine lv_isub hx hb dX2_append_38 ?_
    refine lv_icmp_gt (tgt := 54) hx hb dX2_append_39 (by decide) (fun hc => ?_) (fun hc => ?_)
    · replace h := h.1 hc
      exact (zb_X2_append_54 A hr hd0 hZ (lv_sub hl [] rfl) h)
    · replace h := h.2 hc
      refine lv_aload_n hx hb dX2_append_42 rfl (lv_at hl 1 rfl) ?_
      refine z_get (A d0) hZ (ci := 2) (j := 6) ho_x0.1 ho_x0.2 (by decide) (by decide) k_fl_RX2_18 (v := .int (mI M x0 6)) rfl dX2_append_43 ?_
      refine lv_aload_n hx hb dX2_append_46 rfl (lv_at hl 1 rfl) ?_
      refine z_get (A d0) hZ (ci := 2) (j := 3) ho_x0.1 ho_x0.2 (by decide) (by decide) k_fl_RX2_34 (v := .ref (base + (x0 + 4))) (zv_fin (zf2_3 ho_x0) rfl) dX2_append_47 ?_
      refine z_alen (A d0) hZ (isA_T4 hZ.k0 ho_x0) 3 rfl dX2_append_50 ?_
      refine lv_icmp_lt (tgt := 56) hx hb dX2_append_51 (by decide) (fun hc => ?_) (fun hc => ?_)
      · replace h := h.1 hc
        refine lv_aload_n hx hb dX2_append_56 rfl (lv_at hl 1 rfl) ?_
        refine z_get (A d0) hZ (ci := 2) (j := 3) ho_x0.1 ho_x0.2 (by decide) (by decide) k_fl_RX2_34 (v := .ref (base + (x0 + 4))) (zv_fin (zf2_3 ho_x0) rfl) dX2_append_57 ?_
        refine lv_aload_n hx hb dX2_append_60 rfl (lv_at hl 1 rfl) ?_
        refine z_get (A d0) hZ (ci := 2) (j := 6) ho_x0.1 ho_x0.2 (by decide) (by decide) k_fl_RX2_18 (v := .int (mI M x0 6)) rfl dX2_append_61 ?_
        obtain ⟨hin, h⟩ := h
        refine z_aaldP (A d0) hZ (isA_T4 hZ.k0 ho_x0) hin dX2_append_64 ?_
        obtain ⟨r1, er1⟩ : ∃ y : Option Nat, y = mR M (x0 + 4) (mI M x0 6).toNatClampNeg := ⟨_, rfl⟩
        rw [← er1]
        replace h := h r1 er1
        refine z_ifnonnull (base := base) (tgt := 84) hx hb dX2_append_65 (by decide) (fun a2 hc => ?_) (fun hc => ?_)
        · replace h := h.2 a2 hc
          subst hc
          exact (zb_X2_append_84 A hr ho_x0 hd0 hZ (lv_sub hl [1, 2, 3, 4] rfl) h)
        · replace h := h.1 hc
          subst hc
          refine lv_aload_n hx hb dX2_append_68 rfl (lv_at hl 1 rfl) ?_
          refine z_get (A d0) hZ (ci := 2) (j := 3) ho_x0.1 ho_x0.2 (by decide) (by decide) k_fl_RX2_34 (v := .ref (base + (x0 + 4))) (zv_fin (zf2_3 ho_x0) rfl) dX2_append_69 ?_
          refine lv_aload_n hx hb dX2_append_72 rfl (lv_at hl 1 rfl) ?_
          refine z_get (A d0) hZ (ci := 2) (j := 6) ho_x0.1 ho_x0.2 (by decide) (by decide) k_fl_RX2_18 (v := .int (mI M x0 6)) rfl dX2_append_73 ?_
          obtain ⟨hlt, h⟩ := h
          obtain ⟨M4, eM4⟩ : ∃ y : Mem, y = nw M := ⟨_, rfl⟩
          obtain ⟨a3, ea3⟩ : ∃ y : Nat, y = mz M := ⟨_, rfl⟩
          have ho_a3 : isO M4 a3 0 := ⟨by rw [ea3]; exact (shp_big hZ.k0), by rw [eM4, ea3]; exact Nat.lt_succ_self _⟩
          refine z_new (A d0) hZ ea3 (ci := 0) (by decide) (shp_big hZ.k0) hlt k_cl_RX2_32 k_is_RX0 k_in_RX0 (fun _ _ => zfin_big hZ.k0) (nofl _ (by decide)) dX2_append_76 (fun H cells slots hZ => ?_)
          rw [← eM4] at hZ
          have hm : mz M ≤ mz M4 := by rw [eM4]; exact Nat.le_succ _
          have ho_x0 := isO_le hm ho_x0
          replace h := h a3 M4 ea3 eM4
          refine lv_dup hx hb dX2_append_79 rfl ?_
          refine z_callIN A hd0 hZ (nA := 0) (As := []) (c_X0_init l G base M4 a3 _ h) rfl k_mn_RX2_126 k_im_yX0_init k_in_RX0 k_co_yX0_init (by decide +kernel) ⟨by decide, by decide⟩ rfl rfl (Nat.le_of_ble_eq_true rfl) hl dX2_append_80 (fun v M5 H locs d0 cells slots hq hd0 hZ hm => ?_)
          clear h
          obtain ⟨rfl, h⟩ := hq
          have ho_x0 := isO_le hm ho_x0
          have ho_a3 := isO_le hm ho_a3
          obtain ⟨hin, h⟩ := h
          obtain ⟨M6, eM6⟩ : ∃ y : Mem, y = sR M5 (x0 + 4) (mI M x0 6).toNatClampNeg (some a3) := ⟨_, rfl⟩
          refine z_aast (A d0) hZ (ci := 0) 3 rfl (by decide) rfl (isA_T4 hZ.k0 ho_x0) ho_a3 hin (fun _ => zfin_P (isA_T4 hZ.k0 ho_x0)) dX2_append_83 (fun H locs hZ => ?_)
          rw [← eM6] at hZ
          have hm : mz M6 = mz M5 := by rw [eM6] <;> rfl
          have ho_x0 := isO_le (Nat.le_of_eq hm.symm) ho_x0
          replace h := h M6 eM6
          exact (zb_X2_append_84 A hr ho_x0 hd0 hZ (lv_sub hl [1, 2, 3, 4] rfl) h)
      · replace h := h.2 hc
        exact (zb_X2_append_54 A hr hd0 hZ (lv_sub hl [] rfl) h)
set_option maxRecDepth 100000 in
set_option maxHeartbeats 4000000 in
theorem zb_X2_append_20 {p : Program} {l : Launch} {e : Env} {R : Room} {s : State} {m : MethodId} {args : Array Value} {below : List Frame} {meth : Method} {c : Code} {G : ZG} {base z0 : Nat} {Q : Option Nat → Mem → Prop} (A : ∀ d, Amb p R (s.setDrawn d) m args meth c G base z0 cX2_append yX2_append.cls 7 2 32) (hr : meth.sig.returnType = (some (.object "LeaningIndex$Piece"))) {d0 : Drawn} {H : Heap} {locs : List Loc} {cells slots : Nat} {ls : Array Slot} {x0 : Nat} {x1 : Option Nat} {x2 : Int32} {x3 : Int32} {M : Mem} (ho_x0 : isO M x0 2) (hd0 : s.drawn.sameBut d0 lw_cs) (hZ : ZH G true base s.heap M H locs) (hl : lv_has ls 7 [(0, .ref (base + x0)), (1, vr base x1), (2, .int x2), (3, .int x3)]) (h : wp_X2_append_20 x0 x1 x2 x3 M Q) : W p l e R (s.setDrawn d0) m args below meth c H locs cells slots (ZEnd below G true base z0 (qR base Q) args s) (F0 m 20 ls []) := by
  have hx := (A d0).1
  have hb := (A d0).2.1
  unfold wp_X2_append_20 at h
  refine lv_iconst (v := (0 : Int32)) hx hb dX2_append_20 (by decide) ?_
  exact (zb_X2_append_21 A hr ho_x0 hd0 hZ (lv_sub hl [0, 1, 2, 3] rfl) h)
set_option maxRecDepth 100000 in
set_option maxHeartbeats 4000000 in
theorem c_X2_append (l : Launch) (G : ZG) (base : Nat) (M : Mem) (x0 : Nat) (x1 : Option Nat) (x2 : Int32) (x3 : Int32) (Q : Option Nat → Mem → Prop) (h : wp_X2_append x0 x1 x2 x3 M Q) : ZMet l yX2_append cX2_append 7 (some (.object "LeaningIndex$Piece")) 2 32 G true base M [.ref (base + x0), vr base x1, .int x2, .int x3] (qR base Q) := by
  refine z_start (by decide) (by simp [lg_sl, cat_vr, cat_r, cat_i, cat_l, cat_d]) k_co_yX2_append ?_
  intro p e s m below meth c R d0 H locs cells slots ls A hr hn hd0 hZ hl
  have hx := (A d0).1
  have hb := (A d0).2.1
  have hl : lv_has ls 7 [(0, .ref (base + x0)), (1, vr base x1), (2, .int x2), (3, .int x3)] := by simpa [lv_args, cat_vr, cat_r, cat_i, cat_l, cat_d] using hl
  unfold wp_X2_append at h
  obtain ⟨ho_x0, h⟩ := h
  refine lv_iload_n hx hb dX2_append_0 rfl (lv_at hl 2 rfl) ?_
  refine lv_if_lt (tgt := 20) hx hb dX2_append_1 (by decide) (fun hc => ?_) (fun hc => ?_)
  · replace h := h.1 hc
    exact (zb_X2_append_20 A hr ho_x0 hd0 hZ (lv_sub hl [0, 1, 2, 3] rfl) h)
  · replace h := h.2 hc
    refine lv_iload_n hx hb dX2_append_4 rfl (lv_at hl 3 rfl) ?_
    refine lv_if_le (tgt := 20) hx hb dX2_append_5 (by decide) (fun hc => ?_) (fun hc => ?_)
    · replace h := h.1 hc
      exact (zb_X2_append_20 A hr ho_x0 hd0 hZ (lv_sub hl [0, 1, 2, 3] rfl) h)
    · replace h := h.2 hc
      refine lv_iload_n hx hb dX2_append_8 rfl (lv_at hl 2 rfl) ?_
      refine z_aload_n (base := base) hx hb dX2_append_9 rfl (lv_at hl 1 rfl) ?_
      obtain ⟨a19, rfl, ho_a19, h⟩ := h
      refine z_alen (A d0) hZ ho_a19 1 rfl dX2_append_10 ?_
      refine lv_iload_n hx hb dX2_append_11 rfl (lv_at hl 3 rfl) ?_
      refine lv_isub hx hb dX2_append_12 ?_
      refine lv_icmp_gt (tgt := 20) hx hb dX2_append_13 (by decide) (fun hc => ?_) (fun hc => ?_)
      · replace h := h.1 hc
        exact (zb_X2_append_20 A hr ho_x0 hd0 hZ (lv_sub hl [0, 1, 2, 3] rfl) h)
      · replace h := h.2 hc
        refine lv_iconst (v := (1 : Int32)) hx hb dX2_append_16 (by decide) ?_
        refine lv_goto (tgt := 21) hx hb dX2_append_17 (by decide) ?_
        exact (zb_X2_append_21 A hr ho_x0 hd0 hZ (lv_sub hl [0, 1, 2, 3] rfl) h)
/-! cX2_makePieces -/
set_option maxRecDepth 100000 in
set_option maxHeartbeats 4000000 in
theorem zb_X2_makePieces_49 {p : Program} {l : Launch} {e : Env} {R : Room} {s : State} {m : MethodId} {args : Array Value} {below : List Frame} {meth : Method} {c : Code} {G : ZG} {base z0 : Nat} {Q : Int32 → Mem → Prop} (A : ∀ d, Amb p R (s.setDrawn d) m args meth c G base z0 cX2_makePieces yX2_makePieces.cls 10 3 85) (hr : meth.sig.returnType = (some .int)) {d0 : Drawn} {H : Heap} {locs : List Loc} {cells slots : Nat} {ls : Array Slot} {x6 : Int32} {M : Mem} (hd0 : s.drawn.sameBut d0 lw_cs) (hZ : ZH G true base s.heap M H locs) (hl : lv_has ls 10 [(6, .int x6)]) (h : wp_X2_makePieces_49 x6 M Q) : W p l e R (s.setDrawn d0) m args below meth c H locs cells slots (ZEnd below G true base z0 (qI Q) args s) (F0 m 49 ls []) := by
  have hx := (A d0).1
  have hb := (A d0).2.1
  unfold wp_X2_makePieces_49 at h
  refine lv_iload hx hb dX2_makePieces_49 (lv_at hl 0 rfl) ?_
  exact z_iret A hd0 hZ hr ⟨_, rfl, h⟩ dX2_makePieces_51
set_option maxRecDepth 100000 in
set_option maxHeartbeats 4000000 in
theorem zb_X2_makePieces_85 {p : Program} {l : Launch} {e : Env} {R : Room} {s : State} {m : MethodId} {args : Array Value} {below : List Frame} {meth : Method} {c : Code} {G : ZG} {base z0 : Nat} {Q : Int32 → Mem → Prop} (A : ∀ d, Amb p R (s.setDrawn d) m args meth c G base z0 cX2_makePieces yX2_makePieces.cls 10 3 85) (hr : meth.sig.returnType = (some .int)) {K6 : Nat → Option Nat → Int32 → Int32 → Int32 → Option Nat → Int32 → Int32 → Mem → Prop} {K49 : Int32 → Mem → Prop} {K95 : Int32 → Mem → Prop} {d0 : Drawn} {H : Heap} {locs : List Loc} {cells slots : Nat} {ls : Array Slot} {x0 : Nat} {x1 : Option Nat} {x2 : Int32} {x3 : Int32} {x4 : Int32} {x5 : Nat} {x6 : Int32} {x8 : Int32} {M : Mem} (ho_x0 : isO M x0 2) (ho_x5 : isO M x5 1) (hd0 : s.drawn.sameBut d0 lw_cs) (hZ : ZH G true base s.heap M H locs) (hl : lv_has ls 10 [(0, .ref (base + x0)), (1, vr base x1), (2, .int x2), (3, .int x3), (4, .int x4), (5, .ref (base + x5)), (6, .int x6), (8, .int x8)]) (h : wp_X2_makePieces_85 x0 x1 x2 x3 x4 x5 x6 x8 M Q K6 K49 K95) (hK6 : ∀ {d0 : Drawn} {H : Heap} {locs : List Loc} {cells slots : Nat} {ls : Array Slot} {x0 : Nat} {x1 : Option Nat} {x2 : Int32} {x3 : Int32} {x4 : Int32} {x5 : Option Nat} {x6 : Int32} {x7 : Int32} {M : Mem} (ho_x0 : isO M x0 2), s.drawn.sameBut d0 lw_cs → ZH G true base s.heap M H locs → lv_has ls 10 [(0, .ref (base + x0)), (1, vr base x1), (2, .int x2), (3, .int x3), (4, .int x4), (5, vr base x5), (6, .int x6), (7, .int x7)] → K6 x0 x1 x2 x3 x4 x5 x6 x7 M → W p l e R (s.setDrawn d0) m args below meth c H locs cells slots (ZEnd below G true base z0 (qI Q) args s) (F0 m 6 ls [])) (hK49 : ∀ {d0 : Drawn} {H : Heap} {locs : List Loc} {cells slots : Nat} {ls : Array Slot} {x6 : Int32} {M : Mem}, s.drawn.sameBut d0 lw_cs → ZH G true base s.heap M H locs → lv_has ls 10 [(6, .int x6)] → K49 x6 M → W p l e R (s.setDrawn d0) m args below meth c H locs cells slots (ZEnd below G true base z0 (qI Q) args s) (F0 m 49 ls [])) (hK95 : ∀ {d0 : Drawn} {H : Heap} {locs : List Loc} {cells slots : Nat} {ls : Array Slot} {x6 : Int32} {M : Mem}, s.drawn.sameBut d0 lw_cs → ZH G true base s.heap M H locs → lv_has ls 10 [(6, .int x6)] → K95 x6 M → W p l e R (s.setDrawn d0) m args below meth c H locs cells slots (ZEnd below G true base z0 (qI Q) args s) (F0 m 95 ls [])) : W p l e R (s.setDrawn d0) m args below meth c H locs cells slots (ZEnd below G true base z0 (qI Q) args s) (F0 m 85 ls []) := by
  have hx := (A d0).1
  have hb := (A d0).2.1
  unfold wp_X2_makePieces_85 at h
  obtain ⟨i11, ei11⟩ : ∃ y : Int32, y = x6 + (1 : Int32) := ⟨_, rfl⟩
  replace h := h i11 ei11
  refine lv_iinc (v := i11) (lv' := [(6, .int i11), (0, .ref (base + x0)), (1, vr base x1), (2, .int x2), (3, .int x3), (4, .int x4), (5, .ref (base + x5)), (8, .int x8)]) hx hb dX2_makePieces_85 hl (k := 6) rfl (by rw [ei11]; rfl) (by decide) rfl (fun ls hl2 => ?_)
  replace hl := hl2
  refine lv_iload hx hb dX2_makePieces_88 (lv_at hl 7 rfl) ?_
  refine lv_istore (lv' := [(7, .int x8), (6, .int i11), (0, .ref (base + x0)), (1, vr base x1), (2, .int x2), (3, .int x3), (4, .int x4), (5, .ref (base + x5)), (8, .int x8)]) hx hb dX2_makePieces_90 hl (by decide) rfl (fun ls hl2 => ?_)
  replace hl := hl2
  refine lv_goto (tgt := 6) hx hb dX2_makePieces_92 (by decide) ?_
  exact hK6 ho_x0 hd0 hZ (lv_sub hl [2, 3, 4, 5, 6, 7, 1, 0] rfl) h
set_option maxRecDepth 100000 in
set_option maxHeartbeats 4000000 in
theorem zb_X2_makePieces_95 {p : Program} {l : Launch} {e : Env} {R : Room} {s : State} {m : MethodId} {args : Array Value} {below : List Frame} {meth : Method} {c : Code} {G : ZG} {base z0 : Nat} {Q : Int32 → Mem → Prop} (A : ∀ d, Amb p R (s.setDrawn d) m args meth c G base z0 cX2_makePieces yX2_makePieces.cls 10 3 85) (hr : meth.sig.returnType = (some .int)) {d0 : Drawn} {H : Heap} {locs : List Loc} {cells slots : Nat} {ls : Array Slot} {x6 : Int32} {M : Mem} (hd0 : s.drawn.sameBut d0 lw_cs) (hZ : ZH G true base s.heap M H locs) (hl : lv_has ls 10 [(6, .int x6)]) (h : wp_X2_makePieces_95 x6 M Q) : W p l e R (s.setDrawn d0) m args below meth c H locs cells slots (ZEnd below G true base z0 (qI Q) args s) (F0 m 95 ls []) := by
  have hx := (A d0).1
  have hb := (A d0).2.1
  unfold wp_X2_makePieces_95 at h
  refine lv_iload hx hb dX2_makePieces_95 (lv_at hl 0 rfl) ?_
  exact z_iret A hd0 hZ hr ⟨_, rfl, h⟩ dX2_makePieces_97
set_option maxRecDepth 100000 in
set_option maxHeartbeats 4000000 in
theorem zb_X2_makePieces_6 {p : Program} {l : Launch} {e : Env} {R : Room} {s : State} {m : MethodId} {args : Array Value} {below : List Frame} {meth : Method} {c : Code} {G : ZG} {base z0 : Nat} {Q : Int32 → Mem → Prop} (A : ∀ d, Amb p R (s.setDrawn d) m args meth c G base z0 cX2_makePieces yX2_makePieces.cls 10 3 85) (hr : meth.sig.returnType = (some .int)) {K49 : Int32 → Mem → Prop} {K95 : Int32 → Mem → Prop} :
  ∀ (n : Nat) {d0 : Drawn} {H : Heap} {locs : List Loc} {cells slots : Nat} {ls : Array Slot} {x0 : Nat} {x1 : Option Nat} {x2 : Int32} {x3 : Int32} {x4 : Int32} {x5 : Option Nat} {x6 : Int32} {x7 : Int32} {M : Mem} (ho_x0 : isO M x0 2) (hd0 : s.drawn.sameBut d0 lw_cs) (hZ : ZH G true base s.heap M H locs) (hl : lv_has ls 10 [(0, .ref (base + x0)), (1, vr base x1), (2, .int x2), (3, .int x3), (4, .int x4), (5, vr base x5), (6, .int x6), (7, .int x7)]) (h : wp_X2_makePieces_6 n x0 x1 x2 x3 x4 x5 x6 x7 M Q K49 K95) (hK49 : ∀ {d0 : Drawn} {H : Heap} {locs : List Loc} {cells slots : Nat} {ls : Array Slot} {x6 : Int32} {M : Mem}, s.drawn.sameBut d0 lw_cs → ZH G true base s.heap M H locs → lv_has ls 10 [(6, .int x6)] → K49 x6 M → W p l e R (s.setDrawn d0) m args below meth c H locs cells slots (ZEnd below G true base z0 (qI Q) args s) (F0 m 49 ls [])) (hK95 : ∀ {d0 : Drawn} {H : Heap} {locs : List Loc} {cells slots : Nat} {ls : Array Slot} {x6 : Int32} {M : Mem}, s.drawn.sameBut d0 lw_cs → ZH G true base s.heap M H locs → lv_has ls 10 [(6, .int x6)] → K95 x6 M → W p l e R (s.setDrawn d0) m args below meth c H locs cells slots (ZEnd below G true base z0 (qI Q) args s) (F0 m 95 ls [])), W p l e R (s.setDrawn d0) m args below meth c H locs cells slots (ZEnd below G true base z0 (qI Q) args s) (F0 m 6 ls []) := by
  have hx := (A default).1
  have hb := (A default).2.1
  intro n
  induction n with
  | zero => intro d0 H locs cells slots ls x0 x1 x2 x3 x4 x5 x6 x7 M ho_x0 hd0 hZ hl h hK49 hK95; exact h.elim
  | succ n ih =>
    intro d0 H locs cells slots ls x0 x1 x2 x3 x4 x5 x6 x7 M ho_x0 hd0 hZ hl h hK49 hK95
    unfold wp_X2_makePieces_6 at h
    refine lv_iload hx hb dX2_makePieces_6 (lv_at hl 7 rfl) ?_
    refine lv_iload_n hx hb dX2_makePieces_8 rfl (lv_at hl 2 rfl) ?_
    refine lv_icmp_ge (tgt := 95) hx hb dX2_makePieces_9 (by decide) (fun hc => ?_) (fun hc => ?_)
    · replace h := h.1 hc
      exact hK95 hd0 hZ (lv_sub hl [6] rfl) h
    · replace h := h.2 hc
      refine lv_iload hx hb dX2_makePieces_12 (lv_at hl 6 rfl) ?_
      refine lv_iload_n hx hb dX2_makePieces_14 rfl (lv_at hl 2 rfl) ?_
      refine lv_icmp_ge (tgt := 95) hx hb dX2_makePieces_15 (by decide) (fun hc => ?_) (fun hc => ?_)
      · replace h := h.1 hc
        exact hK95 hd0 hZ (lv_sub hl [6] rfl) h
      · replace h := h.2 hc
        refine z_aload (base := base) hx hb dX2_makePieces_18 (lv_at hl 5 rfl) ?_
        refine z_aload_n (base := base) hx hb dX2_makePieces_20 rfl (lv_at hl 1 rfl) ?_
        refine lv_iload hx hb dX2_makePieces_21 (lv_at hl 7 rfl) ?_
        refine lv_iload_n hx hb dX2_makePieces_23 rfl (lv_at hl 2 rfl) ?_
        refine lv_iload_n hx hb dX2_makePieces_24 rfl (lv_at hl 3 rfl) ?_
        obtain ⟨a1, rfl, ho_a1, h⟩ := h
        refine z_callV A hd0 hZ (ci := 1) (nA := 4) (As := [vr base x1, .int x7, .int x2, .int x3]) (by decide) ho_a1 (c_X1_endOfSpan l G base M a1 x1 x7 x2 x3 _ h) k_ml_RX2_77 k_im_yX1_endOfSpan k_se_yX1_endOfSpan k_in_RX1 k_co_yX1_endOfSpan (by decide +kernel) ⟨by decide, by decide⟩ rfl rfl (Nat.le_of_ble_eq_true rfl) hl dX2_makePieces_25 (fun v M2 H locs d0 cells slots hq hd0 hZ hm => ?_)
        clear h
        obtain ⟨i3, rfl, h⟩ := hq
        have ho_x0 := isO_le hm ho_x0
        have ho_a1 := isO_le hm ho_a1
        refine lv_istore (lv' := [(8, .int i3), (0, .ref (base + x0)), (1, vr base x1), (2, .int x2), (3, .int x3), (4, .int x4), (5, .ref (base + a1)), (6, .int x6), (7, .int x7)]) hx hb dX2_makePieces_28 hl (by decide) rfl (fun ls hl2 => ?_)
        replace hl := hl2
        refine lv_aload_n hx hb dX2_makePieces_30 rfl (lv_at hl 1 rfl) ?_
        refine z_aload_n (base := base) hx hb dX2_makePieces_31 rfl (lv_at hl 2 rfl) ?_
        refine lv_iload hx hb dX2_makePieces_32 (lv_at hl 8 rfl) ?_
        refine lv_iload hx hb dX2_makePieces_34 (lv_at hl 0 rfl) ?_
        refine lv_iload hx hb dX2_makePieces_36 (lv_at hl 8 rfl) ?_
        refine lv_isub hx hb dX2_makePieces_38 ?_
        refine z_callV A hd0 hZ (ci := 2) (nA := 3) (As := [vr base x1, .int x7, .int (i3 - x7)]) (by decide) ho_x0 (c_X2_append l G base M2 x0 x1 x7 (i3 - x7) _ h) k_ml_RX2_83 k_im_yX2_append k_se_yX2_append k_in_RX2 k_co_yX2_append (by decide +kernel) ⟨by decide, by decide⟩ rfl rfl (Nat.le_of_ble_eq_true rfl) hl dX2_makePieces_39 (fun v M4 H locs d0 cells slots hq hd0 hZ hm => ?_)
        clear h
        obtain ⟨r5, rfl, h⟩ := hq
        have ho_x0 := isO_le hm ho_x0
        have ho_a1 := isO_le hm ho_a1
        refine z_astore (lv' := [(9, vr base r5), (8, .int i3), (0, .ref (base + x0)), (1, vr base x1), (2, .int x2), (3, .int x3), (4, .int x4), (5, .ref (base + a1)), (6, .int x6), (7, .int x7)]) hx hb dX2_makePieces_42 hl (by decide) rfl (fun ls hl2 => ?_)
        replace hl := hl2
        refine z_aload (base := base) hx hb dX2_makePieces_44 (lv_at hl 0 rfl) ?_
        refine z_ifnonnull (base := base) (tgt := 52) hx hb dX2_makePieces_46 (by decide) (fun a6 hc => ?_) (fun hc => ?_)
        · replace h := h.2 a6 hc
          subst hc
          refine lv_aload hx hb dX2_makePieces_52 (lv_at hl 0 rfl) ?_
          refine lv_iload hx hb dX2_makePieces_54 (lv_at hl 6 rfl) ?_
          obtain ⟨ho_7, h⟩ := h
          refine z_callV A hd0 hZ (ci := 0) (nA := 1) (As := [.int x4]) (by decide) ho_7 (c_X0_beFlat l G base M4 a6 x4 _ h) k_ml_RX2_87 k_im_yX0_beFlat k_se_yX0_beFlat k_in_RX0 k_co_yX0_beFlat (by decide +kernel) ⟨by decide, by decide⟩ rfl rfl (Nat.le_of_ble_eq_true rfl) hl dX2_makePieces_56 (fun v M8 H locs d0 cells slots hq hd0 hZ hm => ?_)
          clear h
          obtain ⟨rfl, h⟩ := hq
          have ho_x0 := isO_le hm ho_x0
          have ho_a1 := isO_le hm ho_a1
          have ho_7 := isO_le hm ho_7
          refine lv_iload hx hb dX2_makePieces_59 (lv_at hl 1 rfl) ?_
          refine lv_iload hx hb dX2_makePieces_61 (lv_at hl 9 rfl) ?_
          refine lv_isub hx hb dX2_makePieces_63 ?_
          refine lv_iconst (v := (1 : Int32)) hx hb dX2_makePieces_64 (by decide) ?_
          refine lv_icmp_le (tgt := 85) hx hb dX2_makePieces_65 (by decide) (fun hc => ?_) (fun hc => ?_)
          · replace h := h.1 hc
            exact (zb_X2_makePieces_85 A hr ho_x0 ho_a1 hd0 hZ (lv_sub hl [2, 3, 4, 5, 6, 7, 8, 1] rfl) h (fun ho_x0 hd0 hZ hl h => ih ho_x0 hd0 hZ hl h hK49 hK95) hK49 hK95)
          · replace h := h.2 hc
            refine lv_aload hx hb dX2_makePieces_68 (lv_at hl 0 rfl) ?_
            refine lv_iconst (v := (1 : Int32)) hx hb dX2_makePieces_70 (by decide) ?_
            obtain ⟨M9, eM9⟩ : ∃ y : Mem, y = sI M8 a6 0 (1 : Int32) := ⟨_, rfl⟩
            refine z_putN (A d0) hZ (ci := 0) (j := 0) (M' := M9) ho_7.1 ho_7.2 (by decide) (by decide) k_fn_RX2_91 rfl (by rw [eM9]; exact zUpd_I) rfl rfl dX2_makePieces_71 (fun H locs hZ => ?_)
            have hm : mz M9 = mz M8 := by rw [eM9] <;> rfl
            have ho_x0 := isO_le (Nat.le_of_eq hm.symm) ho_x0
            have ho_a1 := isO_le (Nat.le_of_eq hm.symm) ho_a1
            have ho_7 := isO_le (Nat.le_of_eq hm.symm) ho_7
            replace h := h M9 eM9
            refine lv_aload hx hb dX2_makePieces_74 (lv_at hl 7 rfl) ?_
            refine lv_aload hx hb dX2_makePieces_76 (lv_at hl 0 rfl) ?_
            refine z_aload_n (base := base) hx hb dX2_makePieces_78 rfl (lv_at hl 3 rfl) ?_
            refine lv_iload hx hb dX2_makePieces_79 (lv_at hl 9 rfl) ?_
            refine lv_iload_n hx hb dX2_makePieces_81 rfl (lv_at hl 5 rfl) ?_
            refine z_callV A hd0 hZ (ci := 1) (nA := 4) (As := [vr base (some a6), vr base x1, .int x7, .int x3]) (by decide) ho_a1 (c_X1_tellLine l G base M9 a1 (some a6) x1 x7 x3 _ h) k_ml_RX2_94 k_im_yX1_tellLine k_se_yX1_tellLine k_in_RX1 k_co_yX1_tellLine (by decide +kernel) ⟨by decide, by decide⟩ rfl rfl (Nat.le_of_ble_eq_true rfl) hl dX2_makePieces_82 (fun v M10 H locs d0 cells slots hq hd0 hZ hm => ?_)
            clear h
            obtain ⟨rfl, h⟩ := hq
            have ho_x0 := isO_le hm ho_x0
            have ho_a1 := isO_le hm ho_a1
            have ho_7 := isO_le hm ho_7
            exact (zb_X2_makePieces_85 A hr ho_x0 ho_a1 hd0 hZ (lv_sub hl [2, 3, 4, 5, 6, 7, 8, 1] rfl) h (fun ho_x0 hd0 hZ hl h => ih ho_x0 hd0 hZ hl h hK49 hK95) hK49 hK95)
        · replace h := h.1 hc
          subst hc
          exact hK49 hd0 hZ (lv_sub hl [8] rfl) h
set_option maxRecDepth 100000 in
set_option maxHeartbeats 4000000 in
theorem c_X2_makePieces (l : Launch) (G : ZG) (base : Nat) (M : Mem) (x0 : Nat) (x1 : Option Nat) (x2 : Int32) (x3 : Int32) (x4 : Int32) (x5 : Option Nat) (Q : Int32 → Mem → Prop) (h : wp_X2_makePieces x0 x1 x2 x3 x4 x5 M Q) : ZMet l yX2_makePieces cX2_makePieces 10 (some .int) 3 85 G true base M [.ref (base + x0), vr base x1, .int x2, .int x3, .int x4, vr base x5] (qI Q) := by
  refine z_start (by decide) (by simp [lg_sl, cat_vr, cat_r, cat_i, cat_l, cat_d]) k_co_yX2_makePieces ?_
  intro p e s m below meth c R d0 H locs cells slots ls A hr hn hd0 hZ hl
  have hx := (A d0).1
  have hb := (A d0).2.1
  have hl : lv_has ls 10 [(0, .ref (base + x0)), (1, vr base x1), (2, .int x2), (3, .int x3), (4, .int x4), (5, vr base x5)] := by simpa [lv_args, cat_vr, cat_r, cat_i, cat_l, cat_d] using hl
  unfold wp_X2_makePieces at h
  obtain ⟨ho_x0, h⟩ := h
  refine lv_iconst (v := (0 : Int32)) hx hb dX2_makePieces_0 (by decide) ?_
  refine lv_istore (lv' := [(6, .int (0 : Int32)), (0, .ref (base + x0)), (1, vr base x1), (2, .int x2), (3, .int x3), (4, .int x4), (5, vr base x5)]) hx hb dX2_makePieces_1 hl (by decide) (by simp [cat_vr, cat_r, cat_i, cat_l, cat_d]) (fun ls hl2 => ?_)
  replace hl := hl2
  refine lv_iconst (v := (0 : Int32)) hx hb dX2_makePieces_3 (by decide) ?_
  refine lv_istore (lv' := [(7, .int (0 : Int32)), (6, .int (0 : Int32)), (0, .ref (base + x0)), (1, vr base x1), (2, .int x2), (3, .int x3), (4, .int x4), (5, vr base x5)]) hx hb dX2_makePieces_4 hl (by decide) rfl (fun ls hl2 => ?_)
  replace hl := hl2
  exact (Exists.elim h fun kk h => zb_X2_makePieces_6 A hr kk ho_x0 hd0 hZ (lv_sub hl [2, 3, 4, 5, 6, 7, 1, 0] rfl) h (fun hd0 hZ hl h => (zb_X2_makePieces_49 A hr hd0 hZ hl h)) (fun hd0 hZ hl h => (zb_X2_makePieces_95 A hr hd0 hZ hl h)))
/-! cX2_turnRounded -/
set_option maxRecDepth 100000 in
set_option maxHeartbeats 4000000 in
theorem c_X2_turnRounded (l : Launch) (G : ZG) (base : Nat) (M : Mem) (x0 : Nat) (x1 : Option Nat) (Q : Int32 → Mem → Prop) (h : wp_X2_turnRounded x0 x1 M Q) : ZMet l yX2_turnRounded cX2_turnRounded 2 (some .boolean) 3 75 G true base M [.ref (base + x0), vr base x1] (qI Q) := by
  refine z_start (by decide) (by simp [lg_sl, cat_vr, cat_r, cat_i, cat_l, cat_d]) k_co_yX2_turnRounded ?_
  intro p e s m below meth c R d0 H locs cells slots ls A hr hn hd0 hZ hl
  have hx := (A d0).1
  have hb := (A d0).2.1
  have hl : lv_has ls 2 [(0, .ref (base + x0)), (1, vr base x1)] := by simpa [lv_args, cat_vr, cat_r, cat_i, cat_l, cat_d] using hl
  unfold wp_X2_turnRounded at h
  obtain ⟨ho_x0, h⟩ := h
  refine z_aload_n (base := base) hx hb dX2_turnRounded_0 rfl (lv_at hl 1 rfl) ?_
  obtain ⟨a1, rfl, ho_a1, h⟩ := h
  refine z_getN (A d0) hZ (ci := 0) (j := 7) ho_a1.1 ho_a1.2 (by decide) (by decide) k_fn_RX2_102 (v := .long (mL M a1 7)) rfl dX2_turnRounded_1 ?_
  refine lv_lconst (v := (1 : Int64)) hx hb dX2_turnRounded_4 (by decide) ?_
  refine z_lc_ge (tgt := 11) hx hb dX2_turnRounded_5 dX2_turnRounded_6 (by decide) (fun hc => ?_) (fun hc => ?_)
  · replace h := h.1 hc
    refine lv_aload_n hx hb dX2_turnRounded_11 rfl (lv_at hl 1 rfl) ?_
    refine lv_iconst (v := (2 : Int32)) hx hb dX2_turnRounded_12 (by decide) ?_
    obtain ⟨M2, eM2⟩ : ∃ y : Mem, y = sI M a1 0 (2 : Int32) := ⟨_, rfl⟩
    refine z_putN (A d0) hZ (ci := 0) (j := 0) (M' := M2) ho_a1.1 ho_a1.2 (by decide) (by decide) k_fn_RX2_91 rfl (by rw [eM2]; exact zUpd_I) rfl rfl dX2_turnRounded_13 (fun H locs hZ => ?_)
    have hm : mz M2 = mz M := by rw [eM2] <;> rfl
    have ho_x0 := isO_le (Nat.le_of_eq hm.symm) ho_x0
    have ho_a1 := isO_le (Nat.le_of_eq hm.symm) ho_a1
    replace h := h M2 eM2
    refine lv_aload_n hx hb dX2_turnRounded_16 rfl (lv_at hl 1 rfl) ?_
    refine lv_aload_n hx hb dX2_turnRounded_17 rfl (lv_at hl 1 rfl) ?_
    refine z_getN (A d0) hZ (ci := 0) (j := 6) ho_a1.1 ho_a1.2 (by decide) (by decide) k_fn_RX2_106 (v := .long (mL M2 a1 6)) rfl dX2_turnRounded_18 ?_
    refine lv_l2d hx hb dX2_turnRounded_21 ?_
    refine lv_aload_n hx hb dX2_turnRounded_22 rfl (lv_at hl 1 rfl) ?_
    refine z_getN (A d0) hZ (ci := 0) (j := 7) ho_a1.1 ho_a1.2 (by decide) (by decide) k_fn_RX2_102 (v := .long (mL M2 a1 7)) rfl dX2_turnRounded_23 ?_
    refine lv_l2d hx hb dX2_turnRounded_26 ?_
    refine lv_ddiv_any hd0 lw_bits hx hb dX2_turnRounded_27 (fun f3 d0 hal hd0 => ?_)
    replace h := h f3 hal
    obtain ⟨M4, eM4⟩ : ∃ y : Mem, y = sD M2 a1 9 f3 := ⟨_, rfl⟩
    refine z_putN (A d0) hZ (ci := 0) (j := 9) (M' := M4) ho_a1.1 ho_a1.2 (by decide) (by decide) k_fn_RX2_109 rfl (by rw [eM4]; exact zUpd_D) rfl rfl dX2_turnRounded_28 (fun H locs hZ => ?_)
    have hm : mz M4 = mz M2 := by rw [eM4] <;> rfl
    have ho_x0 := isO_le (Nat.le_of_eq hm.symm) ho_x0
    have ho_a1 := isO_le (Nat.le_of_eq hm.symm) ho_a1
    replace h := h M4 eM4
    refine lv_aload_n hx hb dX2_turnRounded_31 rfl (lv_at hl 1 rfl) ?_
    refine lv_aload_n hx hb dX2_turnRounded_32 rfl (lv_at hl 1 rfl) ?_
    refine z_getN (A d0) hZ (ci := 0) (j := 8) ho_a1.1 ho_a1.2 (by decide) (by decide) k_fn_RX2_113 (v := .long (mL M4 a1 8)) rfl dX2_turnRounded_33 ?_
    refine lv_l2d hx hb dX2_turnRounded_36 ?_
    refine lv_aload_n hx hb dX2_turnRounded_37 rfl (lv_at hl 1 rfl) ?_
    refine z_getN (A d0) hZ (ci := 0) (j := 7) ho_a1.1 ho_a1.2 (by decide) (by decide) k_fn_RX2_102 (v := .long (mL M4 a1 7)) rfl dX2_turnRounded_38 ?_
    refine lv_l2d hx hb dX2_turnRounded_41 ?_
    refine lv_ddiv_any hd0 lw_bits hx hb dX2_turnRounded_42 (fun f5 d0 hal hd0 => ?_)
    replace h := h f5 hal
    obtain ⟨M6, eM6⟩ : ∃ y : Mem, y = sD M4 a1 10 f5 := ⟨_, rfl⟩
    refine z_putN (A d0) hZ (ci := 0) (j := 10) (M' := M6) ho_a1.1 ho_a1.2 (by decide) (by decide) k_fn_RX2_116 rfl (by rw [eM6]; exact zUpd_D) rfl rfl dX2_turnRounded_43 (fun H locs hZ => ?_)
    have hm : mz M6 = mz M4 := by rw [eM6] <;> rfl
    have ho_x0 := isO_le (Nat.le_of_eq hm.symm) ho_x0
    have ho_a1 := isO_le (Nat.le_of_eq hm.symm) ho_a1
    replace h := h M6 eM6
    refine lv_aload_n hx hb dX2_turnRounded_46 rfl (lv_at hl 0 rfl) ?_
    refine lv_aload_n hx hb dX2_turnRounded_47 rfl (lv_at hl 1 rfl) ?_
    refine z_callV A hd0 hZ (ci := 2) (nA := 1) (As := [vr base (some a1)]) (by decide) ho_x0 (c_X2_greatestMiss l G base M6 x0 (some a1) _ h) k_ml_RX2_119 k_im_yX2_greatestMiss k_se_yX2_greatestMiss k_in_RX2 k_co_yX2_greatestMiss (by decide +kernel) ⟨by decide, by decide⟩ rfl rfl (Nat.le_of_ble_eq_true rfl) hl dX2_turnRounded_48 (fun v M7 H locs d0 cells slots hq hd0 hZ hm => ?_)
    clear h
    obtain ⟨i8, rfl, h⟩ := hq
    have ho_x0 := isO_le hm ho_x0
    have ho_a1 := isO_le hm ho_a1
    refine lv_aload_n hx hb dX2_turnRounded_51 rfl (lv_at hl 1 rfl) ?_
    refine z_getN (A d0) hZ (ci := 0) (j := 1) ho_a1.1 ho_a1.2 (by decide) (by decide) k_fn_RX2_123 (v := .int (mI M7 a1 1)) rfl dX2_turnRounded_52 ?_
    refine lv_icmp_le (tgt := 65) hx hb dX2_turnRounded_55 (by decide) (fun hc => ?_) (fun hc => ?_)
    · replace h := h.1 hc
      refine lv_iconst (v := (1 : Int32)) hx hb dX2_turnRounded_65 (by decide) ?_
      exact z_zret A hd0 hZ hr (Or.inr rfl) ⟨_, rfl, h⟩ dX2_turnRounded_66
    · replace h := h.2 hc
      refine lv_aload_n hx hb dX2_turnRounded_58 rfl (lv_at hl 1 rfl) ?_
      refine lv_iconst (v := (1 : Int32)) hx hb dX2_turnRounded_59 (by decide) ?_
      obtain ⟨M9, eM9⟩ : ∃ y : Mem, y = sI M7 a1 0 (1 : Int32) := ⟨_, rfl⟩
      refine z_putN (A d0) hZ (ci := 0) (j := 0) (M' := M9) ho_a1.1 ho_a1.2 (by decide) (by decide) k_fn_RX2_91 rfl (by rw [eM9]; exact zUpd_I) rfl rfl dX2_turnRounded_60 (fun H locs hZ => ?_)
      have hm : mz M9 = mz M7 := by rw [eM9] <;> rfl
      have ho_x0 := isO_le (Nat.le_of_eq hm.symm) ho_x0
      have ho_a1 := isO_le (Nat.le_of_eq hm.symm) ho_a1
      replace h := h M9 eM9
      refine lv_iconst (v := (0 : Int32)) hx hb dX2_turnRounded_63 (by decide) ?_
      exact z_zret A hd0 hZ hr (Or.inl rfl) ⟨_, rfl, h⟩ dX2_turnRounded_64
  · replace h := h.2 hc
    refine lv_iconst (v := (0 : Int32)) hx hb dX2_turnRounded_9 (by decide) ?_
    exact z_zret A hd0 hZ hr (Or.inl rfl) ⟨_, rfl, h⟩ dX2_turnRounded_10
/-! cX2_roundPieces -/
set_option maxRecDepth 100000 in
set_option maxHeartbeats 4000000 in
theorem zb_X2_roundPieces_35 {p : Program} {l : Launch} {e : Env} {R : Room} {s : State} {m : MethodId} {args : Array Value} {below : List Frame} {meth : Method} {c : Code} {G : ZG} {base z0 : Nat} {Q : Mem → Prop} (A : ∀ d, Amb p R (s.setDrawn d) m args meth c G base z0 cX2_roundPieces yX2_roundPieces.cls 5 4 96) (hr : meth.sig.returnType = none) {K2 : Nat → Int32 → Int32 → Mem → Prop} {K41 : Mem → Prop} {d0 : Drawn} {H : Heap} {locs : List Loc} {cells slots : Nat} {ls : Array Slot} {x0 : Nat} {x2 : Int32} {x3 : Int32} {M : Mem} (ho_x0 : isO M x0 2) (hd0 : s.drawn.sameBut d0 lw_cs) (hZ : ZH G true base s.heap M H locs) (hl : lv_has ls 5 [(0, .ref (base + x0)), (2, .int x2), (3, .int x3)]) (h : wp_X2_roundPieces_35 x0 x2 x3 M Q K2 K41) (hK2 : ∀ {d0 : Drawn} {H : Heap} {locs : List Loc} {cells slots : Nat} {ls : Array Slot} {x0 : Nat} {x2 : Int32} {x3 : Int32} {M : Mem} (ho_x0 : isO M x0 2), s.drawn.sameBut d0 lw_cs → ZH G true base s.heap M H locs → lv_has ls 5 [(0, .ref (base + x0)), (2, .int x2), (3, .int x3)] → K2 x0 x2 x3 M → W p l e R (s.setDrawn d0) m args below meth c H locs cells slots (ZEnd below G true base z0 (qV Q) args s) (F0 m 2 ls [])) (hK41 : ∀ {d0 : Drawn} {H : Heap} {locs : List Loc} {cells slots : Nat} {ls : Array Slot} {M : Mem}, s.drawn.sameBut d0 lw_cs → ZH G true base s.heap M H locs → lv_has ls 5 [] → K41 M → W p l e R (s.setDrawn d0) m args below meth c H locs cells slots (ZEnd below G true base z0 (qV Q) args s) (F0 m 41 ls [])) : W p l e R (s.setDrawn d0) m args below meth c H locs cells slots (ZEnd below G true base z0 (qV Q) args s) (F0 m 35 ls []) := by
  have hx := (A d0).1
  have hb := (A d0).2.1
  unfold wp_X2_roundPieces_35 at h
  obtain ⟨i7, ei7⟩ : ∃ y : Int32, y = x3 + (1 : Int32) := ⟨_, rfl⟩
  replace h := h i7 ei7
  refine lv_iinc (v := i7) (lv' := [(3, .int i7), (0, .ref (base + x0)), (2, .int x2)]) hx hb dX2_roundPieces_35 hl (k := 2) rfl (by rw [ei7]; rfl) (by decide) rfl (fun ls hl2 => ?_)
  replace hl := hl2
  refine lv_goto (tgt := 2) hx hb dX2_roundPieces_38 (by decide) ?_
  exact hK2 ho_x0 hd0 hZ (lv_sub hl [1, 2, 0] rfl) h
set_option maxRecDepth 100000 in
set_option maxHeartbeats 4000000 in
theorem zb_X2_roundPieces_41 {p : Program} {l : Launch} {e : Env} {R : Room} {s : State} {m : MethodId} {args : Array Value} {below : List Frame} {meth : Method} {c : Code} {G : ZG} {base z0 : Nat} {Q : Mem → Prop} (A : ∀ d, Amb p R (s.setDrawn d) m args meth c G base z0 cX2_roundPieces yX2_roundPieces.cls 5 4 96) (hr : meth.sig.returnType = none) {d0 : Drawn} {H : Heap} {locs : List Loc} {cells slots : Nat} {ls : Array Slot}  {M : Mem} (hd0 : s.drawn.sameBut d0 lw_cs) (hZ : ZH G true base s.heap M H locs) (hl : lv_has ls 5 []) (h : wp_X2_roundPieces_41 M Q) : W p l e R (s.setDrawn d0) m args below meth c H locs cells slots (ZEnd below G true base z0 (qV Q) args s) (F0 m 41 ls []) := by
  have hx := (A d0).1
  have hb := (A d0).2.1
  unfold wp_X2_roundPieces_41 at h
  exact z_vret A hd0 hZ hr ⟨rfl, h⟩ dX2_roundPieces_41
set_option maxRecDepth 100000 in
set_option maxHeartbeats 4000000 in
theorem zb_X2_roundPieces_2 {p : Program} {l : Launch} {e : Env} {R : Room} {s : State} {m : MethodId} {args : Array Value} {below : List Frame} {meth : Method} {c : Code} {G : ZG} {base z0 : Nat} {Q : Mem → Prop} (A : ∀ d, Amb p R (s.setDrawn d) m args meth c G base z0 cX2_roundPieces yX2_roundPieces.cls 5 4 96) (hr : meth.sig.returnType = none) {K41 : Mem → Prop} :
  ∀ (n : Nat) {d0 : Drawn} {H : Heap} {locs : List Loc} {cells slots : Nat} {ls : Array Slot} {x0 : Nat} {x2 : Int32} {x3 : Int32} {M : Mem} (ho_x0 : isO M x0 2) (hd0 : s.drawn.sameBut d0 lw_cs) (hZ : ZH G true base s.heap M H locs) (hl : lv_has ls 5 [(0, .ref (base + x0)), (2, .int x2), (3, .int x3)]) (h : wp_X2_roundPieces_2 n x0 x2 x3 M Q K41) (hK41 : ∀ {d0 : Drawn} {H : Heap} {locs : List Loc} {cells slots : Nat} {ls : Array Slot} {M : Mem}, s.drawn.sameBut d0 lw_cs → ZH G true base s.heap M H locs → lv_has ls 5 [] → K41 M → W p l e R (s.setDrawn d0) m args below meth c H locs cells slots (ZEnd below G true base z0 (qV Q) args s) (F0 m 41 ls [])), W p l e R (s.setDrawn d0) m args below meth c H locs cells slots (ZEnd below G true base z0 (qV Q) args s) (F0 m 2 ls []) := by
  have hx := (A default).1
  have hb := (A default).2.1
  intro n
  induction n with
  | zero => intro d0 H locs cells slots ls x0 x2 x3 M ho_x0 hd0 hZ hl h hK41; exact h.elim
  | succ n ih =>
    intro d0 H locs cells slots ls x0 x2 x3 M ho_x0 hd0 hZ hl h hK41
    unfold wp_X2_roundPieces_2 at h
    refine lv_iload_n hx hb dX2_roundPieces_2 rfl (lv_at hl 2 rfl) ?_
    refine lv_iload_n hx hb dX2_roundPieces_3 rfl (lv_at hl 1 rfl) ?_
    refine lv_icmp_ge (tgt := 41) hx hb dX2_roundPieces_4 (by decide) (fun hc => ?_) (fun hc => ?_)
    · replace h := h.1 hc
      exact hK41 hd0 hZ (lv_sub hl [] rfl) h
    · replace h := h.2 hc
      refine lv_aload_n hx hb dX2_roundPieces_7 rfl (lv_at hl 0 rfl) ?_
      refine lv_iload_n hx hb dX2_roundPieces_8 rfl (lv_at hl 2 rfl) ?_
      refine z_callV A hd0 hZ (ci := 2) (nA := 1) (As := [.int x3]) (by decide) ho_x0 (c_X2_pieceAt l G base M x0 x3 _ h) k_ml_RX2_70 k_im_yX2_pieceAt k_se_yX2_pieceAt k_in_RX2 k_co_yX2_pieceAt (by decide +kernel) ⟨by decide, by decide⟩ rfl rfl (Nat.le_of_ble_eq_true rfl) hl dX2_roundPieces_9 (fun v M1 H locs d0 cells slots hq hd0 hZ hm => ?_)
      clear h
      obtain ⟨r2, rfl, h⟩ := hq
      have ho_x0 := isO_le hm ho_x0
      refine z_astore (lv' := [(4, vr base r2), (0, .ref (base + x0)), (2, .int x2), (3, .int x3)]) hx hb dX2_roundPieces_12 hl (by decide) rfl (fun ls hl2 => ?_)
      replace hl := hl2
      refine z_aload (base := base) hx hb dX2_roundPieces_14 (lv_at hl 0 rfl) ?_
      refine z_ifnull (base := base) (tgt := 35) hx hb dX2_roundPieces_16 (by decide) (fun hc => ?_) (fun a3 hc => ?_)
      · replace h := h.1 hc
        subst hc
        exact (zb_X2_roundPieces_35 A hr ho_x0 hd0 hZ (lv_sub hl [1, 2, 3] rfl) h (fun ho_x0 hd0 hZ hl h => ih ho_x0 hd0 hZ hl h hK41) hK41)
      · replace h := h.2 a3 hc
        subst hc
        refine lv_aload hx hb dX2_roundPieces_19 (lv_at hl 0 rfl) ?_
        obtain ⟨ho_4, h⟩ := h
        refine z_getN (A d0) hZ (ci := 0) (j := 0) ho_4.1 ho_4.2 (by decide) (by decide) k_fn_RX2_91 (v := .int (mI M1 a3 0)) rfl dX2_roundPieces_21 ?_
        refine lv_iconst (v := (1 : Int32)) hx hb dX2_roundPieces_24 (by decide) ?_
        refine lv_icmp_ne (tgt := 35) hx hb dX2_roundPieces_25 (by decide) (fun hc => ?_) (fun hc => ?_)
        · replace h := h.1 hc
          exact (zb_X2_roundPieces_35 A hr ho_x0 hd0 hZ (lv_sub hl [1, 2, 3] rfl) h (fun ho_x0 hd0 hZ hl h => ih ho_x0 hd0 hZ hl h hK41) hK41)
        · replace h := h.2 hc
          refine lv_aload_n hx hb dX2_roundPieces_28 rfl (lv_at hl 1 rfl) ?_
          refine lv_aload hx hb dX2_roundPieces_29 (lv_at hl 0 rfl) ?_
          refine z_callV A hd0 hZ (ci := 2) (nA := 1) (As := [vr base (some a3)]) (by decide) ho_x0 (c_X2_turnRounded l G base M1 x0 (some a3) _ h) k_ml_RX2_98 k_im_yX2_turnRounded k_se_yX2_turnRounded k_in_RX2 k_co_yX2_turnRounded (by decide +kernel) ⟨by decide, by decide⟩ rfl rfl (Nat.le_of_ble_eq_true rfl) hl dX2_roundPieces_31 (fun v M5 H locs d0 cells slots hq hd0 hZ hm => ?_)
          clear h
          obtain ⟨i6, rfl, h⟩ := hq
          have ho_x0 := isO_le hm ho_x0
          have ho_4 := isO_le hm ho_4
          refine lv_pop hx hb dX2_roundPieces_34 rfl ?_
          exact (zb_X2_roundPieces_35 A hr ho_x0 hd0 hZ (lv_sub hl [1, 2, 3] rfl) h (fun ho_x0 hd0 hZ hl h => ih ho_x0 hd0 hZ hl h hK41) hK41)
set_option maxRecDepth 100000 in
set_option maxHeartbeats 4000000 in
theorem c_X2_roundPieces (l : Launch) (G : ZG) (base : Nat) (M : Mem) (x0 : Nat) (x1 : Int32) (x2 : Int32) (Q : Mem → Prop) (h : wp_X2_roundPieces x0 x1 x2 M Q) : ZMet l yX2_roundPieces cX2_roundPieces 5 none 4 96 G true base M [.ref (base + x0), .int x1, .int x2] (qV Q) := by
  refine z_start (by decide) (Nat.le_of_ble_eq_true rfl) k_co_yX2_roundPieces ?_
  intro p e s m below meth c R d0 H locs cells slots ls A hr hn hd0 hZ hl
  have hx := (A d0).1
  have hb := (A d0).2.1
  have hl : lv_has ls 5 [(0, .ref (base + x0)), (1, .int x1), (2, .int x2)] := hl
  unfold wp_X2_roundPieces at h
  obtain ⟨ho_x0, h⟩ := h
  refine lv_iload_n hx hb dX2_roundPieces_0 rfl (lv_at hl 1 rfl) ?_
  refine lv_istore_n (lv' := [(3, .int x1), (0, .ref (base + x0)), (1, .int x1), (2, .int x2)]) hx hb dX2_roundPieces_1 rfl hl (by decide) rfl (fun ls hl2 => ?_)
  replace hl := hl2
  exact (Exists.elim h fun kk h => zb_X2_roundPieces_2 A hr kk ho_x0 hd0 hZ (lv_sub hl [1, 3, 0] rfl) h (fun hd0 hZ hl h => (zb_X2_roundPieces_41 A hr hd0 hZ hl h)))
/-! cX2_takeOver -/
set_option maxRecDepth 100000 in
set_option maxHeartbeats 4000000 in
theorem zb_X2_takeOver_56 {p : Program} {l : Launch} {e : Env} {R : Room} {s : State} {m : MethodId} {args : Array Value} {below : List Frame} {meth : Method} {c : Code} {G : ZG} {base z0 : Nat} {Q : Mem → Prop} (A : ∀ d, Amb p R (s.setDrawn d) m args meth c G base z0 cX2_takeOver yX2_takeOver.cls 8 3 58) (hr : meth.sig.returnType = none) {d0 : Drawn} {H : Heap} {locs : List Loc} {cells slots : Nat} {ls : Array Slot}  {M : Mem} (hd0 : s.drawn.sameBut d0 lw_cs) (hZ : ZH G true base s.heap M H locs) (hl : lv_has ls 8 []) (h : wp_X2_takeOver_56 M Q) : W p l e R (s.setDrawn d0) m args below meth c H locs cells slots (ZEnd below G true base z0 (qV Q) args s) (F0 m 56 ls []) := by
  have hx := (A d0).1
  have hb := (A d0).2.1
  unfold wp_X2_takeOver_56 at h
  exact z_vret A hd0 hZ hr ⟨rfl, h⟩ dX2_takeOver_56
set_option maxRecDepth 100000 in
set_option maxHeartbeats 4000000 in
theorem zb_X2_takeOver_67 {p : Program} {l : Launch} {e : Env} {R : Room} {s : State} {m : MethodId} {args : Array Value} {below : List Frame} {meth : Method} {c : Code} {G : ZG} {base z0 : Nat} {Q : Mem → Prop} (A : ∀ d, Amb p R (s.setDrawn d) m args meth c G base z0 cX2_takeOver yX2_takeOver.cls 8 3 58) (hr : meth.sig.returnType = none) {K104 : Nat → Nat → Int32 → Int32 → Nat → Nat → Mem → Prop} :
  ∀ (n : Nat) {d0 : Drawn} {H : Heap} {locs : List Loc} {cells slots : Nat} {ls : Array Slot} {x0 : Nat} {x1 : Nat} {x3 : Int32} {x4 : Int32} {x5 : Nat} {x6 : Nat} {x7 : Int32} {M : Mem} (ho_x0 : isO M x0 2) (ho_x1 : isO M x1 2) (ho_x6 : isO M x6 0) (hd0 : s.drawn.sameBut d0 lw_cs) (hZ : ZH G true base s.heap M H locs) (hl : lv_has ls 8 [(0, .ref (base + x0)), (1, .ref (base + x1)), (3, .int x3), (4, .int x4), (5, .ref (base + x5)), (6, .ref (base + x6)), (7, .int x7)]) (h : wp_X2_takeOver_67 n x0 x1 x3 x4 x5 x6 x7 M Q K104) (hK104 : ∀ {d0 : Drawn} {H : Heap} {locs : List Loc} {cells slots : Nat} {ls : Array Slot} {x0 : Nat} {x1 : Nat} {x3 : Int32} {x4 : Int32} {x5 : Nat} {x6 : Nat} {M : Mem} (ho_x0 : isO M x0 2) (ho_x1 : isO M x1 2) (ho_x5 : isO M x5 0) (ho_x6 : isO M x6 0), s.drawn.sameBut d0 lw_cs → ZH G true base s.heap M H locs → lv_has ls 8 [(0, .ref (base + x0)), (1, .ref (base + x1)), (3, .int x3), (4, .int x4), (5, .ref (base + x5)), (6, .ref (base + x6))] → K104 x0 x1 x3 x4 x5 x6 M → W p l e R (s.setDrawn d0) m args below meth c H locs cells slots (ZEnd below G true base z0 (qV Q) args s) (F0 m 104 ls [])), W p l e R (s.setDrawn d0) m args below meth c H locs cells slots (ZEnd below G true base z0 (qV Q) args s) (F0 m 67 ls []) := by
  have hx := (A default).1
  have hb := (A default).2.1
  intro n
  induction n with
  | zero => intro d0 H locs cells slots ls x0 x1 x3 x4 x5 x6 x7 M ho_x0 ho_x1 ho_x6 hd0 hZ hl h hK104; exact h.elim
  | succ n ih =>
    intro d0 H locs cells slots ls x0 x1 x3 x4 x5 x6 x7 M ho_x0 ho_x1 ho_x6 hd0 hZ hl h hK104
    unfold wp_X2_takeOver_67 at h
    refine lv_iload hx hb dX2_takeOver_67 (lv_at hl 6 rfl) ?_
    refine lv_aload hx hb dX2_takeOver_69 (lv_at hl 4 rfl) ?_
    obtain ⟨ho_12, h⟩ := h
    refine z_getN (A d0) hZ (ci := 0) (j := 3) ho_12.1 ho_12.2 (by decide) (by decide) k_fn_RX2_41 (v := .int (mI M x5 3)) rfl dX2_takeOver_71 ?_
    refine lv_icmp_ge (tgt := 104) hx hb dX2_takeOver_74 (by decide) (fun hc => ?_) (fun hc => ?_)
    · replace h := h.1 hc
      exact hK104 ho_x0 ho_x1 ho_12 ho_x6 hd0 hZ (lv_sub hl [0, 1, 2, 3, 4, 5] rfl) h
    · replace h := h.2 hc
      refine lv_aload_n hx hb dX2_takeOver_77 rfl (lv_at hl 0 rfl) ?_
      refine z_get (A d0) hZ (ci := 2) (j := 1) ho_x0.1 ho_x0.2 (by decide) (by decide) k_fl_RX2_25 (v := .ref (base + (x0 + 2))) (zv_fin (zf2_1 ho_x0) rfl) dX2_takeOver_78 ?_
      refine lv_aload hx hb dX2_takeOver_81 (lv_at hl 5 rfl) ?_
      refine z_getN (A d0) hZ (ci := 0) (j := 2) ho_x6.1 ho_x6.2 (by decide) (by decide) k_fn_RX2_38 (v := .int (mI M x6 2)) rfl dX2_takeOver_83 ?_
      refine lv_iload hx hb dX2_takeOver_86 (lv_at hl 6 rfl) ?_
      refine lv_iadd hx hb dX2_takeOver_88 ?_
      refine lv_aload_n hx hb dX2_takeOver_89 rfl (lv_at hl 1 rfl) ?_
      refine lv_aload hx hb dX2_takeOver_90 (lv_at hl 4 rfl) ?_
      refine lv_iload hx hb dX2_takeOver_92 (lv_at hl 6 rfl) ?_
      refine z_callV A hd0 hZ (ci := 2) (nA := 2) (As := [vr base (some x5), .int x7]) (by decide) ho_x1 (c_X2_isDropped l G base M x1 (some x5) x7 _ h) k_ml_RX2_48 k_im_yX2_isDropped k_se_yX2_isDropped k_in_RX2 k_co_yX2_isDropped (by decide +kernel) ⟨by decide, by decide⟩ rfl rfl (Nat.le_of_ble_eq_true rfl) hl dX2_takeOver_94 (fun v M13 H locs d0 cells slots hq hd0 hZ hm => ?_)
      clear h
      obtain ⟨i14, rfl, h⟩ := hq
      have ho_x0 := isO_le hm ho_x0
      have ho_x1 := isO_le hm ho_x1
      have ho_12 := isO_le hm ho_12
      have ho_x6 := isO_le hm ho_x6
      obtain ⟨hin, h⟩ := h
      obtain ⟨hbo, h⟩ := h
      obtain ⟨M15, eM15⟩ : ∃ y : Mem, y = sI M13 (x0 + 2) ((mI M x6 2) + x7).toNatClampNeg i14 := ⟨_, rfl⟩
      refine z_zast (A d0) hZ (isA_T2 hZ.k0 ho_x0) hin hbo dX2_takeOver_97 (fun H locs hZ => ?_)
      rw [← eM15] at hZ
      have hm : mz M15 = mz M13 := by rw [eM15] <;> rfl
      have ho_x0 := isO_le (Nat.le_of_eq hm.symm) ho_x0
      have ho_x1 := isO_le (Nat.le_of_eq hm.symm) ho_x1
      have ho_12 := isO_le (Nat.le_of_eq hm.symm) ho_12
      have ho_x6 := isO_le (Nat.le_of_eq hm.symm) ho_x6
      replace h := h M15 eM15
      obtain ⟨i16, ei16⟩ : ∃ y : Int32, y = x7 + (1 : Int32) := ⟨_, rfl⟩
      replace h := h i16 ei16
      refine lv_iinc (v := i16) (lv' := [(7, .int i16), (0, .ref (base + x0)), (1, .ref (base + x1)), (3, .int x3), (4, .int x4), (5, .ref (base + x5)), (6, .ref (base + x6))]) hx hb dX2_takeOver_98 hl (k := 6) rfl (by rw [ei16]; rfl) (by decide) rfl (fun ls hl2 => ?_)
      replace hl := hl2
      refine lv_goto (tgt := 67) hx hb dX2_takeOver_101 (by decide) ?_
      exact ih ho_x0 ho_x1 ho_x6 hd0 hZ (lv_sub hl [1, 2, 3, 4, 5, 6, 0] rfl) h hK104
set_option maxRecDepth 100000 in
set_option maxHeartbeats 4000000 in
theorem zb_X2_takeOver_107 {p : Program} {l : Launch} {e : Env} {R : Room} {s : State} {m : MethodId} {args : Array Value} {below : List Frame} {meth : Method} {c : Code} {G : ZG} {base z0 : Nat} {Q : Mem → Prop} (A : ∀ d, Amb p R (s.setDrawn d) m args meth c G base z0 cX2_takeOver yX2_takeOver.cls 8 3 58) (hr : meth.sig.returnType = none) {K173 : Nat → Nat → Int32 → Int32 → Mem → Prop} :
  ∀ (n : Nat) {d0 : Drawn} {H : Heap} {locs : List Loc} {cells slots : Nat} {ls : Array Slot} {x0 : Nat} {x1 : Nat} {x3 : Int32} {x4 : Int32} {x5 : Nat} {x6 : Nat} {x7 : Int32} {M : Mem} (ho_x0 : isO M x0 2) (ho_x1 : isO M x1 2) (ho_x5 : isO M x5 0) (ho_x6 : isO M x6 0) (hd0 : s.drawn.sameBut d0 lw_cs) (hZ : ZH G true base s.heap M H locs) (hl : lv_has ls 8 [(0, .ref (base + x0)), (1, .ref (base + x1)), (3, .int x3), (4, .int x4), (5, .ref (base + x5)), (6, .ref (base + x6)), (7, .int x7)]) (h : wp_X2_takeOver_107 n x0 x1 x3 x4 x5 x6 x7 M Q K173) (hK173 : ∀ {d0 : Drawn} {H : Heap} {locs : List Loc} {cells slots : Nat} {ls : Array Slot} {x0 : Nat} {x1 : Nat} {x3 : Int32} {x4 : Int32} {M : Mem} (ho_x0 : isO M x0 2) (ho_x1 : isO M x1 2), s.drawn.sameBut d0 lw_cs → ZH G true base s.heap M H locs → lv_has ls 8 [(0, .ref (base + x0)), (1, .ref (base + x1)), (3, .int x3), (4, .int x4)] → K173 x0 x1 x3 x4 M → W p l e R (s.setDrawn d0) m args below meth c H locs cells slots (ZEnd below G true base z0 (qV Q) args s) (F0 m 173 ls [])), W p l e R (s.setDrawn d0) m args below meth c H locs cells slots (ZEnd below G true base z0 (qV Q) args s) (F0 m 107 ls []) := by
  have hx := (A default).1
  have hb := (A default).2.1
  intro n
  induction n with
  | zero => intro d0 H locs cells slots ls x0 x1 x3 x4 x5 x6 x7 M ho_x0 ho_x1 ho_x5 ho_x6 hd0 hZ hl h hK173; exact h.elim
  | succ n ih =>
    intro d0 H locs cells slots ls x0 x1 x3 x4 x5 x6 x7 M ho_x0 ho_x1 ho_x5 ho_x6 hd0 hZ hl h hK173
    unfold wp_X2_takeOver_107 at h
    refine lv_iload hx hb dX2_takeOver_107 (lv_at hl 6 rfl) ?_
    refine lv_aload hx hb dX2_takeOver_109 (lv_at hl 4 rfl) ?_
    refine z_getN (A d0) hZ (ci := 0) (j := 5) ho_x5.1 ho_x5.2 (by decide) (by decide) k_fn_RX2_47 (v := .int (mI M x5 5)) rfl dX2_takeOver_111 ?_
    refine lv_icmp_ge (tgt := 173) hx hb dX2_takeOver_114 (by decide) (fun hc => ?_) (fun hc => ?_)
    · replace h := h.1 hc
      exact hK173 ho_x0 ho_x1 hd0 hZ (lv_sub hl [0, 1, 2, 3] rfl) h
    · replace h := h.2 hc
      refine lv_aload_n hx hb dX2_takeOver_117 rfl (lv_at hl 0 rfl) ?_
      refine z_get (A d0) hZ (ci := 2) (j := 5) ho_x0.1 ho_x0.2 (by decide) (by decide) k_fl_RX2_15 (v := .int (mI M x0 5)) rfl dX2_takeOver_118 ?_
      refine lv_aload_n hx hb dX2_takeOver_121 rfl (lv_at hl 0 rfl) ?_
      refine z_get (A d0) hZ (ci := 2) (j := 2) ho_x0.1 ho_x0.2 (by decide) (by decide) k_fl_RX2_29 (v := .ref (base + (x0 + 3))) (zv_fin (zf2_2 ho_x0) rfl) dX2_takeOver_122 ?_
      refine z_alen (A d0) hZ (isA_T3 hZ.k0 ho_x0) 1 rfl dX2_takeOver_125 ?_
      refine lv_icmp_ge (tgt := 173) hx hb dX2_takeOver_126 (by decide) (fun hc => ?_) (fun hc => ?_)
      · replace h := h.1 hc
        exact hK173 ho_x0 ho_x1 hd0 hZ (lv_sub hl [0, 1, 2, 3] rfl) h
      · replace h := h.2 hc
        refine lv_aload_n hx hb dX2_takeOver_129 rfl (lv_at hl 0 rfl) ?_
        refine z_get (A d0) hZ (ci := 2) (j := 2) ho_x0.1 ho_x0.2 (by decide) (by decide) k_fl_RX2_29 (v := .ref (base + (x0 + 3))) (zv_fin (zf2_2 ho_x0) rfl) dX2_takeOver_130 ?_
        refine lv_aload_n hx hb dX2_takeOver_133 rfl (lv_at hl 0 rfl) ?_
        refine z_get (A d0) hZ (ci := 2) (j := 5) ho_x0.1 ho_x0.2 (by decide) (by decide) k_fl_RX2_15 (v := .int (mI M x0 5)) rfl dX2_takeOver_134 ?_
        refine lv_aload_n hx hb dX2_takeOver_137 rfl (lv_at hl 1 rfl) ?_
        refine lv_aload hx hb dX2_takeOver_138 (lv_at hl 4 rfl) ?_
        refine lv_iload hx hb dX2_takeOver_140 (lv_at hl 6 rfl) ?_
        refine z_callV A hd0 hZ (ci := 2) (nA := 2) (As := [vr base (some x5), .int x7]) (by decide) ho_x1 (c_X2_lateOf l G base M x1 (some x5) x7 _ h) k_ml_RX2_131 k_im_yX2_lateOf k_se_yX2_lateOf k_in_RX2 k_co_yX2_lateOf (by decide +kernel) ⟨by decide, by decide⟩ rfl rfl (Nat.le_of_ble_eq_true rfl) hl dX2_takeOver_142 (fun v M17 H locs d0 cells slots hq hd0 hZ hm => ?_)
        clear h
        obtain ⟨j18, rfl, h⟩ := hq
        have ho_x0 := isO_le hm ho_x0
        have ho_x1 := isO_le hm ho_x1
        have ho_x5 := isO_le hm ho_x5
        have ho_x6 := isO_le hm ho_x6
        obtain ⟨hin, h⟩ := h
        obtain ⟨M19, eM19⟩ : ∃ y : Mem, y = sL M17 (x0 + 3) (mI M x0 5).toNatClampNeg j18 := ⟨_, rfl⟩
        refine z_last (A d0) hZ (isA_T3 hZ.k0 ho_x0) hin dX2_takeOver_145 (fun H locs hZ => ?_)
        rw [← eM19] at hZ
        have hm : mz M19 = mz M17 := by rw [eM19] <;> rfl
        have ho_x0 := isO_le (Nat.le_of_eq hm.symm) ho_x0
        have ho_x1 := isO_le (Nat.le_of_eq hm.symm) ho_x1
        have ho_x5 := isO_le (Nat.le_of_eq hm.symm) ho_x5
        have ho_x6 := isO_le (Nat.le_of_eq hm.symm) ho_x6
        replace h := h M19 eM19
        refine lv_aload_n hx hb dX2_takeOver_146 rfl (lv_at hl 0 rfl) ?_
        refine lv_dup hx hb dX2_takeOver_147 rfl ?_
        refine z_get (A d0) hZ (ci := 2) (j := 5) ho_x0.1 ho_x0.2 (by decide) (by decide) k_fl_RX2_15 (v := .int (mI M19 x0 5)) rfl dX2_takeOver_148 ?_
        refine lv_iconst (v := (1 : Int32)) hx hb dX2_takeOver_151 (by decide) ?_
        refine lv_iadd hx hb dX2_takeOver_152 ?_
        obtain ⟨M20, eM20⟩ : ∃ y : Mem, y = sI M19 x0 5 ((mI M19 x0 5) + (1 : Int32)) := ⟨_, rfl⟩
        refine z_put (A d0) hZ (ci := 2) (j := 5) (M' := M20) ho_x0.1 ho_x0.2 (by decide) (by decide) k_fl_RX2_15 rfl (by rw [eM20]; exact zUpd_I) rfl rfl dX2_takeOver_153 (fun H locs hZ => ?_)
        have hm : mz M20 = mz M19 := by rw [eM20] <;> rfl
        have ho_x0 := isO_le (Nat.le_of_eq hm.symm) ho_x0
        have ho_x1 := isO_le (Nat.le_of_eq hm.symm) ho_x1
        have ho_x5 := isO_le (Nat.le_of_eq hm.symm) ho_x5
        have ho_x6 := isO_le (Nat.le_of_eq hm.symm) ho_x6
        replace h := h M20 eM20
        refine lv_aload hx hb dX2_takeOver_156 (lv_at hl 5 rfl) ?_
        refine lv_dup hx hb dX2_takeOver_158 rfl ?_
        refine z_getN (A d0) hZ (ci := 0) (j := 5) ho_x6.1 ho_x6.2 (by decide) (by decide) k_fn_RX2_47 (v := .int (mI M20 x6 5)) rfl dX2_takeOver_159 ?_
        refine lv_iconst (v := (1 : Int32)) hx hb dX2_takeOver_162 (by decide) ?_
        refine lv_iadd hx hb dX2_takeOver_163 ?_
        obtain ⟨M21, eM21⟩ : ∃ y : Mem, y = sI M20 x6 5 ((mI M20 x6 5) + (1 : Int32)) := ⟨_, rfl⟩
        refine z_putN (A d0) hZ (ci := 0) (j := 5) (M' := M21) ho_x6.1 ho_x6.2 (by decide) (by decide) k_fn_RX2_47 rfl (by rw [eM21]; exact zUpd_I) rfl rfl dX2_takeOver_164 (fun H locs hZ => ?_)
        have hm : mz M21 = mz M20 := by rw [eM21] <;> rfl
        have ho_x0 := isO_le (Nat.le_of_eq hm.symm) ho_x0
        have ho_x1 := isO_le (Nat.le_of_eq hm.symm) ho_x1
        have ho_x5 := isO_le (Nat.le_of_eq hm.symm) ho_x5
        have ho_x6 := isO_le (Nat.le_of_eq hm.symm) ho_x6
        replace h := h M21 eM21
        obtain ⟨i22, ei22⟩ : ∃ y : Int32, y = x7 + (1 : Int32) := ⟨_, rfl⟩
        replace h := h i22 ei22
        refine lv_iinc (v := i22) (lv' := [(7, .int i22), (0, .ref (base + x0)), (1, .ref (base + x1)), (3, .int x3), (4, .int x4), (5, .ref (base + x5)), (6, .ref (base + x6))]) hx hb dX2_takeOver_167 hl (k := 6) rfl (by rw [ei22]; rfl) (by decide) rfl (fun ls hl2 => ?_)
        replace hl := hl2
        refine lv_goto (tgt := 107) hx hb dX2_takeOver_170 (by decide) ?_
        exact ih ho_x0 ho_x1 ho_x5 ho_x6 hd0 hZ (lv_sub hl [1, 2, 3, 4, 5, 6, 0] rfl) h hK173
set_option maxRecDepth 100000 in
set_option maxHeartbeats 4000000 in
theorem zb_X2_takeOver_173 {p : Program} {l : Launch} {e : Env} {R : Room} {s : State} {m : MethodId} {args : Array Value} {below : List Frame} {meth : Method} {c : Code} {G : ZG} {base z0 : Nat} {Q : Mem → Prop} (A : ∀ d, Amb p R (s.setDrawn d) m args meth c G base z0 cX2_takeOver yX2_takeOver.cls 8 3 58) (hr : meth.sig.returnType = none) {K3 : Nat → Option Nat → Int32 → Int32 → Mem → Prop} {K56 : Mem → Prop} {K179 : Mem → Prop} {d0 : Drawn} {H : Heap} {locs : List Loc} {cells slots : Nat} {ls : Array Slot} {x0 : Nat} {x1 : Nat} {x3 : Int32} {x4 : Int32} {M : Mem} (ho_x0 : isO M x0 2) (ho_x1 : isO M x1 2) (hd0 : s.drawn.sameBut d0 lw_cs) (hZ : ZH G true base s.heap M H locs) (hl : lv_has ls 8 [(0, .ref (base + x0)), (1, .ref (base + x1)), (3, .int x3), (4, .int x4)]) (h : wp_X2_takeOver_173 x0 x1 x3 x4 M Q K3 K56 K179) (hK3 : ∀ {d0 : Drawn} {H : Heap} {locs : List Loc} {cells slots : Nat} {ls : Array Slot} {x0 : Nat} {x1 : Option Nat} {x3 : Int32} {x4 : Int32} {M : Mem} (ho_x0 : isO M x0 2), s.drawn.sameBut d0 lw_cs → ZH G true base s.heap M H locs → lv_has ls 8 [(0, .ref (base + x0)), (1, vr base x1), (3, .int x3), (4, .int x4)] → K3 x0 x1 x3 x4 M → W p l e R (s.setDrawn d0) m args below meth c H locs cells slots (ZEnd below G true base z0 (qV Q) args s) (F0 m 3 ls [])) (hK56 : ∀ {d0 : Drawn} {H : Heap} {locs : List Loc} {cells slots : Nat} {ls : Array Slot} {M : Mem}, s.drawn.sameBut d0 lw_cs → ZH G true base s.heap M H locs → lv_has ls 8 [] → K56 M → W p l e R (s.setDrawn d0) m args below meth c H locs cells slots (ZEnd below G true base z0 (qV Q) args s) (F0 m 56 ls [])) (hK179 : ∀ {d0 : Drawn} {H : Heap} {locs : List Loc} {cells slots : Nat} {ls : Array Slot} {M : Mem}, s.drawn.sameBut d0 lw_cs → ZH G true base s.heap M H locs → lv_has ls 8 [] → K179 M → W p l e R (s.setDrawn d0) m args below meth c H locs cells slots (ZEnd below G true base z0 (qV Q) args s) (F0 m 179 ls [])) : W p l e R (s.setDrawn d0) m args below meth c H locs cells slots (ZEnd below G true base z0 (qV Q) args s) (F0 m 173 ls []) := by
  have hx := (A d0).1
  have hb := (A d0).2.1
  unfold wp_X2_takeOver_173 at h
  obtain ⟨i23, ei23⟩ : ∃ y : Int32, y = x4 + (1 : Int32) := ⟨_, rfl⟩
  replace h := h i23 ei23
  refine lv_iinc (v := i23) (lv' := [(4, .int i23), (0, .ref (base + x0)), (1, .ref (base + x1)), (3, .int x3)]) hx hb dX2_takeOver_173 hl (k := 3) rfl (by rw [ei23]; rfl) (by decide) rfl (fun ls hl2 => ?_)
  replace hl := hl2
  refine lv_goto (tgt := 3) hx hb dX2_takeOver_176 (by decide) ?_
  exact hK3 ho_x0 hd0 hZ (lv_sub hl [1, 2, 3, 0] rfl) h
set_option maxRecDepth 100000 in
set_option maxHeartbeats 4000000 in
theorem zb_X2_takeOver_179 {p : Program} {l : Launch} {e : Env} {R : Room} {s : State} {m : MethodId} {args : Array Value} {below : List Frame} {meth : Method} {c : Code} {G : ZG} {base z0 : Nat} {Q : Mem → Prop} (A : ∀ d, Amb p R (s.setDrawn d) m args meth c G base z0 cX2_takeOver yX2_takeOver.cls 8 3 58) (hr : meth.sig.returnType = none) {d0 : Drawn} {H : Heap} {locs : List Loc} {cells slots : Nat} {ls : Array Slot}  {M : Mem} (hd0 : s.drawn.sameBut d0 lw_cs) (hZ : ZH G true base s.heap M H locs) (hl : lv_has ls 8 []) (h : wp_X2_takeOver_179 M Q) : W p l e R (s.setDrawn d0) m args below meth c H locs cells slots (ZEnd below G true base z0 (qV Q) args s) (F0 m 179 ls []) := by
  have hx := (A d0).1
  have hb := (A d0).2.1
  unfold wp_X2_takeOver_179 at h
  exact z_vret A hd0 hZ hr ⟨rfl, h⟩ dX2_takeOver_179
set_option maxRecDepth 100000 in
set_option maxHeartbeats 4000000 in
theorem zb_X2_takeOver_104 {p : Program} {l : Launch} {e : Env} {R : Room} {s : State} {m : MethodId} {args : Array Value} {below : List Frame} {meth : Method} {c : Code} {G : ZG} {base z0 : Nat} {Q : Mem → Prop} (A : ∀ d, Amb p R (s.setDrawn d) m args meth c G base z0 cX2_takeOver yX2_takeOver.cls 8 3 58) (hr : meth.sig.returnType = none) {K3 : Nat → Option Nat → Int32 → Int32 → Mem → Prop} {K56 : Mem → Prop} {K179 : Mem → Prop} {d0 : Drawn} {H : Heap} {locs : List Loc} {cells slots : Nat} {ls : Array Slot} {x0 : Nat} {x1 : Nat} {x3 : Int32} {x4 : Int32} {x5 : Nat} {x6 : Nat} {M : Mem} (ho_x0 : isO M x0 2) (ho_x1 : isO M x1 2) (ho_x5 : isO M x5 0) (ho_x6 : isO M x6 0) (hd0 : s.drawn.sameBut d0 lw_cs) (hZ : ZH G true base s.heap M H locs) (hl : lv_has ls 8 [(0, .ref (base + x0)), (1, .ref (base + x1)), (3, .int x3), (4, .int x4), (5, .ref (base + x5)), (6, .ref (base + x6))]) (h : wp_X2_takeOver_104 x0 x1 x3 x4 x5 x6 M Q K3 K56 K179) (hK3 : ∀ {d0 : Drawn} {H : Heap} {locs : List Loc} {cells slots : Nat} {ls : Array Slot} {x0 : Nat} {x1 : Option Nat} {x3 : Int32} {x4 : Int32} {M : Mem} (ho_x0 : isO M x0 2), s.drawn.sameBut d0 lw_cs → ZH G true base s.heap M H locs → lv_has ls 8 [(0, .ref (base + x0)), (1, vr base x1), (3, .int x3), (4, .int x4)] → K3 x0 x1 x3 x4 M → W p l e R (s.setDrawn d0) m args below meth c H locs cells slots (ZEnd below G true base z0 (qV Q) args s) (F0 m 3 ls [])) (hK56 : ∀ {d0 : Drawn} {H : Heap} {locs : List Loc} {cells slots : Nat} {ls : Array Slot} {M : Mem}, s.drawn.sameBut d0 lw_cs → ZH G true base s.heap M H locs → lv_has ls 8 [] → K56 M → W p l e R (s.setDrawn d0) m args below meth c H locs cells slots (ZEnd below G true base z0 (qV Q) args s) (F0 m 56 ls [])) (hK179 : ∀ {d0 : Drawn} {H : Heap} {locs : List Loc} {cells slots : Nat} {ls : Array Slot} {M : Mem}, s.drawn.sameBut d0 lw_cs → ZH G true base s.heap M H locs → lv_has ls 8 [] → K179 M → W p l e R (s.setDrawn d0) m args below meth c H locs cells slots (ZEnd below G true base z0 (qV Q) args s) (F0 m 179 ls [])) : W p l e R (s.setDrawn d0) m args below meth c H locs cells slots (ZEnd below G true base z0 (qV Q) args s) (F0 m 104 ls []) := by
  have hx := (A d0).1
  have hb := (A d0).2.1
  unfold wp_X2_takeOver_104 at h
  refine lv_iconst (v := (0 : Int32)) hx hb dX2_takeOver_104 (by decide) ?_
  refine lv_istore (lv' := [(7, .int (0 : Int32)), (0, .ref (base + x0)), (1, .ref (base + x1)), (3, .int x3), (4, .int x4), (5, .ref (base + x5)), (6, .ref (base + x6))]) hx hb dX2_takeOver_105 hl (by decide) rfl (fun ls hl2 => ?_)
  replace hl := hl2
  exact (Exists.elim h fun kk h => zb_X2_takeOver_107 A hr kk ho_x0 ho_x1 ho_x5 ho_x6 hd0 hZ (lv_sub hl [1, 2, 3, 4, 5, 6, 0] rfl) h (fun ho_x0 ho_x1 hd0 hZ hl h => (zb_X2_takeOver_173 A hr ho_x0 ho_x1 hd0 hZ hl h hK3 hK56 hK179)))
set_option maxRecDepth 100000 in
set_option maxHeartbeats 4000000 in
theorem zb_X2_takeOver_44 {p : Program} {l : Launch} {e : Env} {R : Room} {s : State} {m : MethodId} {args : Array Value} {below : List Frame} {meth : Method} {c : Code} {G : ZG} {base z0 : Nat} {Q : Mem → Prop} (A : ∀ d, Amb p R (s.setDrawn d) m args meth c G base z0 cX2_takeOver yX2_takeOver.cls 8 3 58) (hr : meth.sig.returnType = none) {K3 : Nat → Option Nat → Int32 → Int32 → Mem → Prop} {K56 : Mem → Prop} {K179 : Mem → Prop} {d0 : Drawn} {H : Heap} {locs : List Loc} {cells slots : Nat} {ls : Array Slot} {x0 : Nat} {x1 : Nat} {x3 : Int32} {x4 : Int32} {x5 : Option Nat} {t0 : Option Nat} {M : Mem} (ho_x0 : isO M x0 2) (ho_x1 : isO M x1 2) (hd0 : s.drawn.sameBut d0 lw_cs) (hZ : ZH G true base s.heap M H locs) (hl : lv_has ls 8 [(0, .ref (base + x0)), (1, .ref (base + x1)), (3, .int x3), (4, .int x4), (5, vr base x5)]) (h : wp_X2_takeOver_44 x0 x1 x3 x4 x5 t0 M Q K3 K56 K179) (hK3 : ∀ {d0 : Drawn} {H : Heap} {locs : List Loc} {cells slots : Nat} {ls : Array Slot} {x0 : Nat} {x1 : Option Nat} {x3 : Int32} {x4 : Int32} {M : Mem} (ho_x0 : isO M x0 2), s.drawn.sameBut d0 lw_cs → ZH G true base s.heap M H locs → lv_has ls 8 [(0, .ref (base + x0)), (1, vr base x1), (3, .int x3), (4, .int x4)] → K3 x0 x1 x3 x4 M → W p l e R (s.setDrawn d0) m args below meth c H locs cells slots (ZEnd below G true base z0 (qV Q) args s) (F0 m 3 ls [])) (hK56 : ∀ {d0 : Drawn} {H : Heap} {locs : List Loc} {cells slots : Nat} {ls : Array Slot} {M : Mem}, s.drawn.sameBut d0 lw_cs → ZH G true base s.heap M H locs → lv_has ls 8 [] → K56 M → W p l e R (s.setDrawn d0) m args below meth c H locs cells slots (ZEnd below G true base z0 (qV Q) args s) (F0 m 56 ls [])) (hK179 : ∀ {d0 : Drawn} {H : Heap} {locs : List Loc} {cells slots : Nat} {ls : Array Slot} {M : Mem}, s.drawn.sameBut d0 lw_cs → ZH G true base s.heap M H locs → lv_has ls 8 [] → K179 M → W p l e R (s.setDrawn d0) m args below meth c H locs cells slots (ZEnd below G true base z0 (qV Q) args s) (F0 m 179 ls [])) : W p l e R (s.setDrawn d0) m args below meth c H locs cells slots (ZEnd below G true base z0 (qV Q) args s) (F0 m 44 ls [vr base t0]) := by
  have hx := (A d0).1
  have hb := (A d0).2.1
  unfold wp_X2_takeOver_44 at h
  refine z_astore (lv' := [(6, vr base t0), (0, .ref (base + x0)), (1, .ref (base + x1)), (3, .int x3), (4, .int x4), (5, vr base x5)]) hx hb dX2_takeOver_44 hl (by decide) (by simp [cat_vr, cat_r, cat_i, cat_l, cat_d]) (fun ls hl2 => ?_)
  replace hl := hl2
  refine z_aload (base := base) hx hb dX2_takeOver_46 (lv_at hl 5 rfl) ?_
  refine z_ifnull (base := base) (tgt := 56) hx hb dX2_takeOver_48 (by decide) (fun hc => ?_) (fun a8 hc => ?_)
  · replace h := h.1 hc
    subst hc
    exact hK56 hd0 hZ (lv_sub hl [] rfl) h
  · replace h := h.2 a8 hc
    subst hc
    refine z_aload (base := base) hx hb dX2_takeOver_51 (lv_at hl 0 rfl) ?_
    refine z_ifnonnull (base := base) (tgt := 57) hx hb dX2_takeOver_53 (by decide) (fun a9 hc => ?_) (fun hc => ?_)
    · replace h := h.2 a9 hc
      subst hc
      refine lv_aload hx hb dX2_takeOver_57 (lv_at hl 0 rfl) ?_
      refine lv_aload hx hb dX2_takeOver_59 (lv_at hl 5 rfl) ?_
      obtain ⟨ho_10, h⟩ := h
      refine z_callV A hd0 hZ (ci := 0) (nA := 1) (As := [vr base (some a8)]) (by decide) ho_10 (c_X0_beLike l G base M a9 (some a8) _ h) k_ml_RX2_127 k_im_yX0_beLike k_se_yX0_beLike k_in_RX0 k_co_yX0_beLike (by decide +kernel) ⟨by decide, by decide⟩ rfl rfl (Nat.le_of_ble_eq_true rfl) hl dX2_takeOver_61 (fun v M11 H locs d0 cells slots hq hd0 hZ hm => ?_)
      clear h
      obtain ⟨rfl, h⟩ := hq
      have ho_x0 := isO_le hm ho_x0
      have ho_x1 := isO_le hm ho_x1
      have ho_10 := isO_le hm ho_10
      refine lv_iconst (v := (0 : Int32)) hx hb dX2_takeOver_64 (by decide) ?_
      refine lv_istore (lv' := [(7, .int (0 : Int32)), (6, .ref (base + a9)), (0, .ref (base + x0)), (1, .ref (base + x1)), (3, .int x3), (4, .int x4), (5, .ref (base + a8))]) hx hb dX2_takeOver_65 hl (by decide) rfl (fun ls hl2 => ?_)
      replace hl := hl2
      exact (Exists.elim h fun kk h => zb_X2_takeOver_67 A hr kk ho_x0 ho_x1 ho_10 hd0 hZ (lv_sub hl [2, 3, 4, 5, 6, 1, 0] rfl) h (fun ho_x0 ho_x1 ho_x5 ho_x6 hd0 hZ hl h => (zb_X2_takeOver_104 A hr ho_x0 ho_x1 ho_x5 ho_x6 hd0 hZ hl h hK3 hK56 hK179)))
    · replace h := h.1 hc
      subst hc
      exact hK56 hd0 hZ (lv_sub hl [] rfl) h
set_option maxRecDepth 100000 in
set_option maxHeartbeats 4000000 in
theorem zb_X2_takeOver_3 {p : Program} {l : Launch} {e : Env} {R : Room} {s : State} {m : MethodId} {args : Array Value} {below : List Frame} {meth : Method} {c : Code} {G : ZG} {base z0 : Nat} {Q : Mem → Prop} (A : ∀ d, Amb p R (s.setDrawn d) m args meth c G base z0 cX2_takeOver yX2_takeOver.cls 8 3 58) (hr : meth.sig.returnType = none) {K56 : Mem → Prop} {K179 : Mem → Prop} :
  ∀ (n : Nat) {d0 : Drawn} {H : Heap} {locs : List Loc} {cells slots : Nat} {ls : Array Slot} {x0 : Nat} {x1 : Option Nat} {x3 : Int32} {x4 : Int32} {M : Mem} (ho_x0 : isO M x0 2) (hd0 : s.drawn.sameBut d0 lw_cs) (hZ : ZH G true base s.heap M H locs) (hl : lv_has ls 8 [(0, .ref (base + x0)), (1, vr base x1), (3, .int x3), (4, .int x4)]) (h : wp_X2_takeOver_3 n x0 x1 x3 x4 M Q K56 K179) (hK56 : ∀ {d0 : Drawn} {H : Heap} {locs : List Loc} {cells slots : Nat} {ls : Array Slot} {M : Mem}, s.drawn.sameBut d0 lw_cs → ZH G true base s.heap M H locs → lv_has ls 8 [] → K56 M → W p l e R (s.setDrawn d0) m args below meth c H locs cells slots (ZEnd below G true base z0 (qV Q) args s) (F0 m 56 ls [])) (hK179 : ∀ {d0 : Drawn} {H : Heap} {locs : List Loc} {cells slots : Nat} {ls : Array Slot} {M : Mem}, s.drawn.sameBut d0 lw_cs → ZH G true base s.heap M H locs → lv_has ls 8 [] → K179 M → W p l e R (s.setDrawn d0) m args below meth c H locs cells slots (ZEnd below G true base z0 (qV Q) args s) (F0 m 179 ls [])), W p l e R (s.setDrawn d0) m args below meth c H locs cells slots (ZEnd below G true base z0 (qV Q) args s) (F0 m 3 ls []) := by
  have hx := (A default).1
  have hb := (A default).2.1
  intro n
  induction n with
  | zero => intro d0 H locs cells slots ls x0 x1 x3 x4 M ho_x0 hd0 hZ hl h hK56 hK179; exact h.elim
  | succ n ih =>
    intro d0 H locs cells slots ls x0 x1 x3 x4 M ho_x0 hd0 hZ hl h hK56 hK179
    unfold wp_X2_takeOver_3 at h
    refine lv_iload hx hb dX2_takeOver_3 (lv_at hl 3 rfl) ?_
    refine lv_iload_n hx hb dX2_takeOver_5 rfl (lv_at hl 2 rfl) ?_
    refine lv_icmp_ge (tgt := 179) hx hb dX2_takeOver_6 (by decide) (fun hc => ?_) (fun hc => ?_)
    · replace h := h.1 hc
      exact hK179 hd0 hZ (lv_sub hl [] rfl) h
    · replace h := h.2 hc
      refine z_aload_n (base := base) hx hb dX2_takeOver_9 rfl (lv_at hl 1 rfl) ?_
      refine lv_iload hx hb dX2_takeOver_10 (lv_at hl 3 rfl) ?_
      obtain ⟨a1, rfl, ho_a1, h⟩ := h
      refine z_callV A hd0 hZ (ci := 2) (nA := 1) (As := [.int x4]) (by decide) ho_a1 (c_X2_pieceAt l G base M a1 x4 _ h) k_ml_RX2_70 k_im_yX2_pieceAt k_se_yX2_pieceAt k_in_RX2 k_co_yX2_pieceAt (by decide +kernel) ⟨by decide, by decide⟩ rfl rfl (Nat.le_of_ble_eq_true rfl) hl dX2_takeOver_12 (fun v M2 H locs d0 cells slots hq hd0 hZ hm => ?_)
      clear h
      obtain ⟨r3, rfl, h⟩ := hq
      have ho_x0 := isO_le hm ho_x0
      have ho_a1 := isO_le hm ho_a1
      refine z_astore (lv' := [(5, vr base r3), (0, .ref (base + x0)), (1, .ref (base + a1)), (3, .int x3), (4, .int x4)]) hx hb dX2_takeOver_15 hl (by decide) rfl (fun ls hl2 => ?_)
      replace hl := hl2
      refine z_aload (base := base) hx hb dX2_takeOver_17 (lv_at hl 0 rfl) ?_
      refine z_ifnonnull (base := base) (tgt := 26) hx hb dX2_takeOver_19 (by decide) (fun a4 hc => ?_) (fun hc => ?_)
      · replace h := h.2 a4 hc
        subst hc
        refine lv_aload_n hx hb dX2_takeOver_26 rfl (lv_at hl 1 rfl) ?_
        refine lv_aload_n hx hb dX2_takeOver_27 rfl (lv_at hl 2 rfl) ?_
        refine z_get (A d0) hZ (ci := 2) (j := 0) ho_a1.1 ho_a1.2 (by decide) (by decide) k_fl_RX2_21 (v := .ref (base + (a1 + 1))) (zv_fin (zf2_0 ho_a1) rfl) dX2_takeOver_28 ?_
        refine lv_aload hx hb dX2_takeOver_31 (lv_at hl 0 rfl) ?_
        obtain ⟨ho_5, h⟩ := h
        refine z_getN (A d0) hZ (ci := 0) (j := 2) ho_5.1 ho_5.2 (by decide) (by decide) k_fn_RX2_38 (v := .int (mI M2 a4 2)) rfl dX2_takeOver_33 ?_
        refine lv_aload hx hb dX2_takeOver_36 (lv_at hl 0 rfl) ?_
        refine z_getN (A d0) hZ (ci := 0) (j := 3) ho_5.1 ho_5.2 (by decide) (by decide) k_fn_RX2_41 (v := .int (mI M2 a4 3)) rfl dX2_takeOver_38 ?_
        refine z_callV A hd0 hZ (ci := 2) (nA := 3) (As := [vr base (some (a1 + 1)), .int (mI M2 a4 2), .int (mI M2 a4 3)]) (by decide) ho_x0 (c_X2_append l G base M2 x0 (some (a1 + 1)) (mI M2 a4 2) (mI M2 a4 3) _ h) k_ml_RX2_83 k_im_yX2_append k_se_yX2_append k_in_RX2 k_co_yX2_append (by decide +kernel) ⟨by decide, by decide⟩ rfl rfl (Nat.le_of_ble_eq_true rfl) hl dX2_takeOver_41 (fun v M6 H locs d0 cells slots hq hd0 hZ hm => ?_)
        clear h
        obtain ⟨r7, rfl, h⟩ := hq
        have ho_x0 := isO_le hm ho_x0
        have ho_a1 := isO_le hm ho_a1
        have ho_5 := isO_le hm ho_5
        exact (zb_X2_takeOver_44 A hr ho_x0 ho_a1 hd0 hZ (lv_sub hl [1, 2, 3, 4, 0] rfl) h (fun ho_x0 hd0 hZ hl h => ih ho_x0 hd0 hZ hl h hK56 hK179) hK56 hK179)
      · replace h := h.1 hc
        subst hc
        refine z_null (base := base) hx hb dX2_takeOver_22 ?_
        refine lv_goto (tgt := 44) hx hb dX2_takeOver_23 (by decide) ?_
        exact (zb_X2_takeOver_44 A hr ho_x0 ho_a1 hd0 hZ (lv_sub hl [1, 2, 3, 4, 0] rfl) h (fun ho_x0 hd0 hZ hl h => ih ho_x0 hd0 hZ hl h hK56 hK179) hK56 hK179)
set_option maxRecDepth 100000 in
set_option maxHeartbeats 4000000 in
theorem c_X2_takeOver (l : Launch) (G : ZG) (base : Nat) (M : Mem) (x0 : Nat) (x1 : Option Nat) (x2 : Int32) (x3 : Int32) (Q : Mem → Prop) (h : wp_X2_takeOver x0 x1 x2 x3 M Q) : ZMet l yX2_takeOver cX2_takeOver 8 none 3 58 G true base M [.ref (base + x0), vr base x1, .int x2, .int x3] (qV Q) := by
  refine z_start (by decide) (by simp [lg_sl, cat_vr, cat_r, cat_i, cat_l, cat_d]) k_co_yX2_takeOver ?_
  intro p e s m below meth c R d0 H locs cells slots ls A hr hn hd0 hZ hl
  have hx := (A d0).1
  have hb := (A d0).2.1
  have hl : lv_has ls 8 [(0, .ref (base + x0)), (1, vr base x1), (2, .int x2), (3, .int x3)] := by simpa [lv_args, cat_vr, cat_r, cat_i, cat_l, cat_d] using hl
  unfold wp_X2_takeOver at h
  obtain ⟨ho_x0, h⟩ := h
  refine lv_iload_n hx hb dX2_takeOver_0 rfl (lv_at hl 2 rfl) ?_
  refine lv_istore (lv' := [(4, .int x2), (0, .ref (base + x0)), (1, vr base x1), (2, .int x2), (3, .int x3)]) hx hb dX2_takeOver_1 hl (by decide) rfl (fun ls hl2 => ?_)
  replace hl := hl2
  exact (Exists.elim h fun kk h => zb_X2_takeOver_3 A hr kk ho_x0 hd0 hZ (lv_sub hl [1, 2, 4, 0] rfl) h (fun hd0 hZ hl h => (zb_X2_takeOver_56 A hr hd0 hZ hl h)) (fun hd0 hZ hl h => (zb_X2_takeOver_179 A hr hd0 hZ hl h)))
