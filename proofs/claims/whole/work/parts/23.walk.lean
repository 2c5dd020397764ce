/-! cX2_holds -/
set_option maxRecDepth 100000 in
set_option maxHeartbeats 4000000 in
theorem zb_X2_holds_37 {p : Program} {l : Launch} {e : Env} {R : Room} {s : State} {m : MethodId} {args : Array Value} {below : List Frame} {meth : Method} {c : Code} {G : ZG} {base z0 : Nat} {Q : Int32 → Mem → Prop} (A : ∀ d, Amb p R (s.setDrawn d) m args meth c G base z0 cX2_holds yX2_holds.cls 4 0 0) (hr : meth.sig.returnType = (some .boolean)) {d0 : Drawn} {H : Heap} {locs : List Loc} {cells slots : Nat} {ls : Array Slot} {t0 : Int32} {M : Mem} (hd0 : s.drawn.sameBut d0 lw_cs) (hZ : ZH G true base s.heap M H locs) (hl : lv_has ls 4 []) (h : wp_X2_holds_37 t0 M Q) : W p l e R (s.setDrawn d0) m args below meth c H locs cells slots (ZEnd below G true base z0 (qI Q) args s) (F0 m 37 ls [.int t0]) := by
  have hx := (A d0).1
  have hb := (A d0).2.1
  unfold wp_X2_holds_37 at h
  exact z_zret A hd0 hZ hr h.1 ⟨_, rfl, h.2⟩ dX2_holds_37
set_option maxRecDepth 100000 in
set_option maxHeartbeats 4000000 in
theorem zb_X2_holds_36 {p : Program} {l : Launch} {e : Env} {R : Room} {s : State} {m : MethodId} {args : Array Value} {below : List Frame} {meth : Method} {c : Code} {G : ZG} {base z0 : Nat} {Q : Int32 → Mem → Prop} (A : ∀ d, Amb p R (s.setDrawn d) m args meth c G base z0 cX2_holds yX2_holds.cls 4 0 0) (hr : meth.sig.returnType = (some .boolean)) {d0 : Drawn} {H : Heap} {locs : List Loc} {cells slots : Nat} {ls : Array Slot}  {M : Mem} (hd0 : s.drawn.sameBut d0 lw_cs) (hZ : ZH G true base s.heap M H locs) (hl : lv_has ls 4 []) (h : wp_X2_holds_36 M Q) : W p l e R (s.setDrawn d0) m args below meth c H locs cells slots (ZEnd below G true base z0 (qI Q) args s) (F0 m 36 ls []) := by
  have hx := (A d0).1
  have hb := (A d0).2.1
  unfold wp_X2_holds_36 at h
  refine lv_iconst (v := (0 : Int32)) hx hb dX2_holds_36 (by decide) ?_
  exact (zb_X2_holds_37 A hr hd0 hZ (lv_sub hl [] rfl) h)
set_option maxRecDepth 100000 in
set_option maxHeartbeats 4000000 in
theorem c_X2_holds (l : Launch) (G : ZG) (base : Nat) (M : Mem) (x0 : Nat) (x1 : Int32) (x2 : Int64) (Q : Int32 → Mem → Prop) (h : wp_X2_holds x0 x1 x2 M Q) : ZMet l yX2_holds cX2_holds 4 (some .boolean) 0 0 G true base M [.ref (base + x0), .int x1, .long x2] (qI Q) := by
  refine z_start (by decide) (Nat.le_of_ble_eq_true rfl) k_co_yX2_holds ?_
  intro p e s m below meth c R d0 H locs cells slots ls A hr hn hd0 hZ hl
  have hx := (A d0).1
  have hb := (A d0).2.1
  have hl : lv_has ls 4 [(0, .ref (base + x0)), (1, .int x1), (2, .long x2)] := hl
  unfold wp_X2_holds at h
  obtain ⟨ho_x0, h⟩ := h
  refine lv_iload_n hx hb dX2_holds_0 rfl (lv_at hl 1 rfl) ?_
  refine lv_if_lt (tgt := 36) hx hb dX2_holds_1 (by decide) (fun hc => ?_) (fun hc => ?_)
  · replace h := h.1 hc
    exact (zb_X2_holds_36 A hr hd0 hZ (lv_sub hl [] rfl) h)
  · replace h := h.2 hc
    refine lv_iload_n hx hb dX2_holds_4 rfl (lv_at hl 1 rfl) ?_
    refine lv_aload_n hx hb dX2_holds_5 rfl (lv_at hl 0 rfl) ?_
    refine z_get (A d0) hZ (ci := 2) (j := 4) ho_x0.1 ho_x0.2 (by decide) (by decide) k_fl_RX2_9 (v := .int (mI M x0 4)) rfl dX2_holds_6 ?_
    refine lv_icmp_ge (tgt := 36) hx hb dX2_holds_9 (by decide) (fun hc => ?_) (fun hc => ?_)
    · replace h := h.1 hc
      exact (zb_X2_holds_36 A hr hd0 hZ (lv_sub hl [] rfl) h)
    · replace h := h.2 hc
      refine lv_aload_n hx hb dX2_holds_12 rfl (lv_at hl 0 rfl) ?_
      refine z_get (A d0) hZ (ci := 2) (j := 0) ho_x0.1 ho_x0.2 (by decide) (by decide) k_fl_RX2_21 (v := .ref (base + (x0 + 1))) (zv_fin (zf2_0 ho_x0) rfl) dX2_holds_13 ?_
      refine lv_iload_n hx hb dX2_holds_16 rfl (lv_at hl 1 rfl) ?_
      obtain ⟨hin, h⟩ := h
      refine z_lald (A d0) hZ (isA_T1 hZ.k0 ho_x0) hin dX2_holds_17 ?_
      refine lv_lload_n hx hb dX2_holds_18 rfl (lv_at hl 2 rfl) ?_
      refine z_lc_ne (tgt := 36) hx hb dX2_holds_19 dX2_holds_20 (by decide) (fun hc => ?_) (fun hc => ?_)
      · replace h := h.1 hc
        exact (zb_X2_holds_36 A hr hd0 hZ (lv_sub hl [] rfl) h)
      · replace h := h.2 hc
        refine lv_aload_n hx hb dX2_holds_23 rfl (lv_at hl 0 rfl) ?_
        refine z_get (A d0) hZ (ci := 2) (j := 1) ho_x0.1 ho_x0.2 (by decide) (by decide) k_fl_RX2_25 (v := .ref (base + (x0 + 2))) (zv_fin (zf2_1 ho_x0) rfl) dX2_holds_24 ?_
        refine lv_iload_n hx hb dX2_holds_27 rfl (lv_at hl 1 rfl) ?_
        obtain ⟨hin, h⟩ := h
        refine z_zald (A d0) hZ (isA_T2 hZ.k0 ho_x0) hin dX2_holds_28 ?_
        refine lv_if_ne (tgt := 36) hx hb dX2_holds_29 (by decide) (fun hc => ?_) (fun hc => ?_)
        · replace h := h.1 hc
          exact (zb_X2_holds_36 A hr hd0 hZ (lv_sub hl [] rfl) h)
        · replace h := h.2 hc
          refine lv_iconst (v := (1 : Int32)) hx hb dX2_holds_32 (by decide) ?_
          refine lv_goto (tgt := 37) hx hb dX2_holds_33 (by decide) ?_
          exact (zb_X2_holds_37 A hr hd0 hZ (lv_sub hl [] rfl) h)
/-! cX2_restore -/
set_option maxRecDepth 100000 in
set_option maxHeartbeats 4000000 in
theorem zb_X2_restore_32 {p : Program} {l : Launch} {e : Env} {R : Room} {s : State} {m : MethodId} {args : Array Value} {below : List Frame} {meth : Method} {c : Code} {G : ZG} {base z0 : Nat} {Q : Int32 → Mem → Prop} (A : ∀ d, Amb p R (s.setDrawn d) m args meth c G base z0 cX2_restore yX2_restore.cls 4 0 0) (hr : meth.sig.returnType = (some .boolean)) {d0 : Drawn} {H : Heap} {locs : List Loc} {cells slots : Nat} {ls : Array Slot}  {M : Mem} (hd0 : s.drawn.sameBut d0 lw_cs) (hZ : ZH G true base s.heap M H locs) (hl : lv_has ls 4 []) (h : wp_X2_restore_32 M Q) : W p l e R (s.setDrawn d0) m args below meth c H locs cells slots (ZEnd below G true base z0 (qI Q) args s) (F0 m 32 ls []) := by
  have hx := (A d0).1
  have hb := (A d0).2.1
  unfold wp_X2_restore_32 at h
  refine lv_iconst (v := (0 : Int32)) hx hb dX2_restore_32 (by decide) ?_
  exact z_zret A hd0 hZ hr (Or.inl rfl) ⟨_, rfl, h⟩ dX2_restore_33
set_option maxRecDepth 100000 in
set_option maxHeartbeats 4000000 in
theorem c_X2_restore (l : Launch) (G : ZG) (base : Nat) (M : Mem) (x0 : Nat) (x1 : Int32) (x2 : Int64) (Q : Int32 → Mem → Prop) (h : wp_X2_restore x0 x1 x2 M Q) : ZMet l yX2_restore cX2_restore 4 (some .boolean) 0 0 G true base M [.ref (base + x0), .int x1, .long x2] (qI Q) := by
  refine z_start (by decide) (Nat.le_of_ble_eq_true rfl) k_co_yX2_restore ?_
  intro p e s m below meth c R d0 H locs cells slots ls A hr hn hd0 hZ hl
  have hx := (A d0).1
  have hb := (A d0).2.1
  have hl : lv_has ls 4 [(0, .ref (base + x0)), (1, .int x1), (2, .long x2)] := hl
  unfold wp_X2_restore at h
  obtain ⟨ho_x0, h⟩ := h
  refine lv_iload_n hx hb dX2_restore_0 rfl (lv_at hl 1 rfl) ?_
  refine lv_if_lt (tgt := 32) hx hb dX2_restore_1 (by decide) (fun hc => ?_) (fun hc => ?_)
  · replace h := h.1 hc
    exact (zb_X2_restore_32 A hr hd0 hZ (lv_sub hl [] rfl) h)
  · replace h := h.2 hc
    refine lv_iload_n hx hb dX2_restore_4 rfl (lv_at hl 1 rfl) ?_
    refine lv_aload_n hx hb dX2_restore_5 rfl (lv_at hl 0 rfl) ?_
    refine z_get (A d0) hZ (ci := 2) (j := 4) ho_x0.1 ho_x0.2 (by decide) (by decide) k_fl_RX2_9 (v := .int (mI M x0 4)) rfl dX2_restore_6 ?_
    refine lv_icmp_ge (tgt := 32) hx hb dX2_restore_9 (by decide) (fun hc => ?_) (fun hc => ?_)
    · replace h := h.1 hc
      exact (zb_X2_restore_32 A hr hd0 hZ (lv_sub hl [] rfl) h)
    · replace h := h.2 hc
      refine lv_aload_n hx hb dX2_restore_12 rfl (lv_at hl 0 rfl) ?_
      refine z_get (A d0) hZ (ci := 2) (j := 0) ho_x0.1 ho_x0.2 (by decide) (by decide) k_fl_RX2_21 (v := .ref (base + (x0 + 1))) (zv_fin (zf2_0 ho_x0) rfl) dX2_restore_13 ?_
      refine lv_iload_n hx hb dX2_restore_16 rfl (lv_at hl 1 rfl) ?_
      obtain ⟨hin, h⟩ := h
      refine z_lald (A d0) hZ (isA_T1 hZ.k0 ho_x0) hin dX2_restore_17 ?_
      refine lv_lload_n hx hb dX2_restore_18 rfl (lv_at hl 2 rfl) ?_
      refine z_lc_ne (tgt := 32) hx hb dX2_restore_19 dX2_restore_20 (by decide) (fun hc => ?_) (fun hc => ?_)
      · replace h := h.1 hc
        exact (zb_X2_restore_32 A hr hd0 hZ (lv_sub hl [] rfl) h)
      · replace h := h.2 hc
        refine lv_aload_n hx hb dX2_restore_23 rfl (lv_at hl 0 rfl) ?_
        refine z_get (A d0) hZ (ci := 2) (j := 1) ho_x0.1 ho_x0.2 (by decide) (by decide) k_fl_RX2_25 (v := .ref (base + (x0 + 2))) (zv_fin (zf2_1 ho_x0) rfl) dX2_restore_24 ?_
        refine lv_iload_n hx hb dX2_restore_27 rfl (lv_at hl 1 rfl) ?_
        obtain ⟨hin, h⟩ := h
        refine z_zald (A d0) hZ (isA_T2 hZ.k0 ho_x0) hin dX2_restore_28 ?_
        refine lv_if_ne (tgt := 34) hx hb dX2_restore_29 (by decide) (fun hc => ?_) (fun hc => ?_)
        · replace h := h.1 hc
          refine lv_aload_n hx hb dX2_restore_34 rfl (lv_at hl 0 rfl) ?_
          refine z_get (A d0) hZ (ci := 2) (j := 1) ho_x0.1 ho_x0.2 (by decide) (by decide) k_fl_RX2_25 (v := .ref (base + (x0 + 2))) (zv_fin (zf2_1 ho_x0) rfl) dX2_restore_35 ?_
          refine lv_iload_n hx hb dX2_restore_38 rfl (lv_at hl 1 rfl) ?_
          refine lv_iconst (v := (0 : Int32)) hx hb dX2_restore_39 (by decide) ?_
          obtain ⟨hin, h⟩ := h
          obtain ⟨M1, eM1⟩ : ∃ y : Mem, y = sI M (x0 + 2) x1.toNatClampNeg (0 : Int32) := ⟨_, rfl⟩
          refine z_zast (A d0) hZ (isA_T2 hZ.k0 ho_x0) hin (Or.inl rfl) dX2_restore_40 (fun H locs hZ => ?_)
          rw [← eM1] at hZ
          have hm : mz M1 = mz M := by rw [eM1] <;> rfl
          have ho_x0 := isO_le (Nat.le_of_eq hm.symm) ho_x0
          replace h := h M1 eM1
          refine lv_iconst (v := (1 : Int32)) hx hb dX2_restore_41 (by decide) ?_
          exact z_zret A hd0 hZ hr (Or.inr rfl) ⟨_, rfl, h⟩ dX2_restore_42
        · replace h := h.2 hc
          exact (zb_X2_restore_32 A hr hd0 hZ (lv_sub hl [] rfl) h)
/-! cX2_markDropped -/
set_option maxRecDepth 100000 in
set_option maxHeartbeats 4000000 in
theorem zb_X2_markDropped_19 {p : Program} {l : Launch} {e : Env} {R : Room} {s : State} {m : MethodId} {args : Array Value} {below : List Frame} {meth : Method} {c : Code} {G : ZG} {base z0 : Nat} {Q : Mem → Prop} (A : ∀ d, Amb p R (s.setDrawn d) m args meth c G base z0 cX2_markDropped yX2_markDropped.cls 2 0 0) (hr : meth.sig.returnType = none) {d0 : Drawn} {H : Heap} {locs : List Loc} {cells slots : Nat} {ls : Array Slot}  {M : Mem} (hd0 : s.drawn.sameBut d0 lw_cs) (hZ : ZH G true base s.heap M H locs) (hl : lv_has ls 2 []) (h : wp_X2_markDropped_19 M Q) : W p l e R (s.setDrawn d0) m args below meth c H locs cells slots (ZEnd below G true base z0 (qV Q) args s) (F0 m 19 ls []) := by
  have hx := (A d0).1
  have hb := (A d0).2.1
  unfold wp_X2_markDropped_19 at h
  exact z_vret A hd0 hZ hr ⟨rfl, h⟩ dX2_markDropped_19
set_option maxRecDepth 100000 in
set_option maxHeartbeats 4000000 in
theorem c_X2_markDropped (l : Launch) (G : ZG) (base : Nat) (M : Mem) (x0 : Nat) (x1 : Int32) (Q : Mem → Prop) (h : wp_X2_markDropped x0 x1 M Q) : ZMet l yX2_markDropped cX2_markDropped 2 none 0 0 G true base M [.ref (base + x0), .int x1] (qV Q) := by
  refine z_start (by decide) (Nat.le_of_ble_eq_true rfl) k_co_yX2_markDropped ?_
  intro p e s m below meth c R d0 H locs cells slots ls A hr hn hd0 hZ hl
  have hx := (A d0).1
  have hb := (A d0).2.1
  have hl : lv_has ls 2 [(0, .ref (base + x0)), (1, .int x1)] := hl
  unfold wp_X2_markDropped at h
  obtain ⟨ho_x0, h⟩ := h
  refine lv_iload_n hx hb dX2_markDropped_0 rfl (lv_at hl 1 rfl) ?_
  refine lv_if_lt (tgt := 19) hx hb dX2_markDropped_1 (by decide) (fun hc => ?_) (fun hc => ?_)
  · replace h := h.1 hc
    exact (zb_X2_markDropped_19 A hr hd0 hZ (lv_sub hl [] rfl) h)
  · replace h := h.2 hc
    refine lv_iload_n hx hb dX2_markDropped_4 rfl (lv_at hl 1 rfl) ?_
    refine lv_aload_n hx hb dX2_markDropped_5 rfl (lv_at hl 0 rfl) ?_
    refine z_get (A d0) hZ (ci := 2) (j := 4) ho_x0.1 ho_x0.2 (by decide) (by decide) k_fl_RX2_9 (v := .int (mI M x0 4)) rfl dX2_markDropped_6 ?_
    refine lv_icmp_ge (tgt := 19) hx hb dX2_markDropped_9 (by decide) (fun hc => ?_) (fun hc => ?_)
    · replace h := h.1 hc
      exact (zb_X2_markDropped_19 A hr hd0 hZ (lv_sub hl [] rfl) h)
    · replace h := h.2 hc
      refine lv_aload_n hx hb dX2_markDropped_12 rfl (lv_at hl 0 rfl) ?_
      refine z_get (A d0) hZ (ci := 2) (j := 1) ho_x0.1 ho_x0.2 (by decide) (by decide) k_fl_RX2_25 (v := .ref (base + (x0 + 2))) (zv_fin (zf2_1 ho_x0) rfl) dX2_markDropped_13 ?_
      refine lv_iload_n hx hb dX2_markDropped_16 rfl (lv_at hl 1 rfl) ?_
      refine lv_iconst (v := (1 : Int32)) hx hb dX2_markDropped_17 (by decide) ?_
      obtain ⟨hin, h⟩ := h
      obtain ⟨M1, eM1⟩ : ∃ y : Mem, y = sI M (x0 + 2) x1.toNatClampNeg (1 : Int32) := ⟨_, rfl⟩
      refine z_zast (A d0) hZ (isA_T2 hZ.k0 ho_x0) hin (Or.inr rfl) dX2_markDropped_18 (fun H locs hZ => ?_)
      rw [← eM1] at hZ
      have hm : mz M1 = mz M := by rw [eM1] <;> rfl
      have ho_x0 := isO_le (Nat.le_of_eq hm.symm) ho_x0
      replace h := h M1 eM1
      exact (zb_X2_markDropped_19 A hr hd0 hZ (lv_sub hl [] rfl) h)
/-! cX2_changeLate -/
set_option maxRecDepth 100000 in
set_option maxHeartbeats 4000000 in
theorem zb_X2_changeLate_62 {p : Program} {l : Launch} {e : Env} {R : Room} {s : State} {m : MethodId} {args : Array Value} {below : List Frame} {meth : Method} {c : Code} {G : ZG} {base z0 : Nat} {Q : Mem → Prop} (A : ∀ d, Amb p R (s.setDrawn d) m args meth c G base z0 cX2_changeLate yX2_changeLate.cls 5 1 21) (hr : meth.sig.returnType = none) {K2 : Nat → Int32 → Int32 → Int32 → Mem → Prop} {K68 : Mem → Prop} {d0 : Drawn} {H : Heap} {locs : List Loc} {cells slots : Nat} {ls : Array Slot} {x0 : Nat} {x1 : Int32} {x2 : Int32} {x3 : Int32} {M : Mem} (ho_x0 : isO M x0 2) (hd0 : s.drawn.sameBut d0 lw_cs) (hZ : ZH G true base s.heap M H locs) (hl : lv_has ls 5 [(0, .ref (base + x0)), (1, .int x1), (2, .int x2), (3, .int x3)]) (h : wp_X2_changeLate_62 x0 x1 x2 x3 M Q K2 K68) (hK2 : ∀ {d0 : Drawn} {H : Heap} {locs : List Loc} {cells slots : Nat} {ls : Array Slot} {x0 : Nat} {x1 : Int32} {x2 : Int32} {x3 : Int32} {M : Mem} (ho_x0 : isO M x0 2), s.drawn.sameBut d0 lw_cs → ZH G true base s.heap M H locs → lv_has ls 5 [(0, .ref (base + x0)), (1, .int x1), (2, .int x2), (3, .int x3)] → K2 x0 x1 x2 x3 M → W p l e R (s.setDrawn d0) m args below meth c H locs cells slots (ZEnd below G true base z0 (qV Q) args s) (F0 m 2 ls [])) (hK68 : ∀ {d0 : Drawn} {H : Heap} {locs : List Loc} {cells slots : Nat} {ls : Array Slot} {M : Mem}, s.drawn.sameBut d0 lw_cs → ZH G true base s.heap M H locs → lv_has ls 5 [] → K68 M → W p l e R (s.setDrawn d0) m args below meth c H locs cells slots (ZEnd below G true base z0 (qV Q) args s) (F0 m 68 ls [])) : W p l e R (s.setDrawn d0) m args below meth c H locs cells slots (ZEnd below G true base z0 (qV Q) args s) (F0 m 62 ls []) := by
  have hx := (A d0).1
  have hb := (A d0).2.1
  unfold wp_X2_changeLate_62 at h
  obtain ⟨i7, ei7⟩ : ∃ y : Int32, y = x3 + (1 : Int32) := ⟨_, rfl⟩
  replace h := h i7 ei7
  refine lv_iinc (v := i7) (lv' := [(3, .int i7), (0, .ref (base + x0)), (1, .int x1), (2, .int x2)]) hx hb dX2_changeLate_62 hl (k := 3) rfl (by rw [ei7]; rfl) (by decide) rfl (fun ls hl2 => ?_)
  replace hl := hl2
  refine lv_goto (tgt := 2) hx hb dX2_changeLate_65 (by decide) ?_
  exact hK2 ho_x0 hd0 hZ (lv_sub hl [1, 2, 3, 0] rfl) h
set_option maxRecDepth 100000 in
set_option maxHeartbeats 4000000 in
theorem zb_X2_changeLate_68 {p : Program} {l : Launch} {e : Env} {R : Room} {s : State} {m : MethodId} {args : Array Value} {below : List Frame} {meth : Method} {c : Code} {G : ZG} {base z0 : Nat} {Q : Mem → Prop} (A : ∀ d, Amb p R (s.setDrawn d) m args meth c G base z0 cX2_changeLate yX2_changeLate.cls 5 1 21) (hr : meth.sig.returnType = none) {d0 : Drawn} {H : Heap} {locs : List Loc} {cells slots : Nat} {ls : Array Slot}  {M : Mem} (hd0 : s.drawn.sameBut d0 lw_cs) (hZ : ZH G true base s.heap M H locs) (hl : lv_has ls 5 []) (h : wp_X2_changeLate_68 M Q) : W p l e R (s.setDrawn d0) m args below meth c H locs cells slots (ZEnd below G true base z0 (qV Q) args s) (F0 m 68 ls []) := by
  have hx := (A d0).1
  have hb := (A d0).2.1
  unfold wp_X2_changeLate_68 at h
  exact z_vret A hd0 hZ hr ⟨rfl, h⟩ dX2_changeLate_68
set_option maxRecDepth 100000 in
set_option maxHeartbeats 4000000 in
theorem zb_X2_changeLate_58 {p : Program} {l : Launch} {e : Env} {R : Room} {s : State} {m : MethodId} {args : Array Value} {below : List Frame} {meth : Method} {c : Code} {G : ZG} {base z0 : Nat} {Q : Mem → Prop} (A : ∀ d, Amb p R (s.setDrawn d) m args meth c G base z0 cX2_changeLate yX2_changeLate.cls 5 1 21) (hr : meth.sig.returnType = none) {K2 : Nat → Int32 → Int32 → Int32 → Mem → Prop} {K68 : Mem → Prop} {d0 : Drawn} {H : Heap} {locs : List Loc} {cells slots : Nat} {ls : Array Slot} {x0 : Nat} {x1 : Int32} {x2 : Int32} {x3 : Int32} {t0 : Int32} {t1 : Int32} {t2 : Nat} {M : Mem} (ho_x0 : isO M x0 2) (ho_t2 : isO M t2 0) (hd0 : s.drawn.sameBut d0 lw_cs) (hZ : ZH G true base s.heap M H locs) (hl : lv_has ls 5 [(0, .ref (base + x0)), (1, .int x1), (2, .int x2), (3, .int x3)]) (h : wp_X2_changeLate_58 x0 x1 x2 x3 t0 t1 t2 M Q K2 K68) (hK2 : ∀ {d0 : Drawn} {H : Heap} {locs : List Loc} {cells slots : Nat} {ls : Array Slot} {x0 : Nat} {x1 : Int32} {x2 : Int32} {x3 : Int32} {M : Mem} (ho_x0 : isO M x0 2), s.drawn.sameBut d0 lw_cs → ZH G true base s.heap M H locs → lv_has ls 5 [(0, .ref (base + x0)), (1, .int x1), (2, .int x2), (3, .int x3)] → K2 x0 x1 x2 x3 M → W p l e R (s.setDrawn d0) m args below meth c H locs cells slots (ZEnd below G true base z0 (qV Q) args s) (F0 m 2 ls [])) (hK68 : ∀ {d0 : Drawn} {H : Heap} {locs : List Loc} {cells slots : Nat} {ls : Array Slot} {M : Mem}, s.drawn.sameBut d0 lw_cs → ZH G true base s.heap M H locs → lv_has ls 5 [] → K68 M → W p l e R (s.setDrawn d0) m args below meth c H locs cells slots (ZEnd below G true base z0 (qV Q) args s) (F0 m 68 ls [])) : W p l e R (s.setDrawn d0) m args below meth c H locs cells slots (ZEnd below G true base z0 (qV Q) args s) (F0 m 58 ls [.int t0, .int t1, .ref (base + t2)]) := by
  have hx := (A d0).1
  have hb := (A d0).2.1
  unfold wp_X2_changeLate_58 at h
  refine lv_iadd hx hb dX2_changeLate_58 ?_
  obtain ⟨M6, eM6⟩ : ∃ y : Mem, y = sI M t2 4 (t1 + t0) := ⟨_, rfl⟩
  refine z_putN (A d0) hZ (ci := 0) (j := 4) (M' := M6) ho_t2.1 ho_t2.2 (by decide) (by decide) k_fn_RX2_44 rfl (by rw [eM6]; exact zUpd_I) rfl rfl dX2_changeLate_59 (fun H locs hZ => ?_)
  have hm : mz M6 = mz M := by rw [eM6] <;> rfl
  have ho_x0 := isO_le (Nat.le_of_eq hm.symm) ho_x0
  replace h := h M6 eM6
  exact (zb_X2_changeLate_62 A hr ho_x0 hd0 hZ (lv_sub hl [0, 1, 2, 3] rfl) h hK2 hK68)
set_option maxRecDepth 100000 in
set_option maxHeartbeats 4000000 in
theorem zb_X2_changeLate_38 {p : Program} {l : Launch} {e : Env} {R : Room} {s : State} {m : MethodId} {args : Array Value} {below : List Frame} {meth : Method} {c : Code} {G : ZG} {base z0 : Nat} {Q : Mem → Prop} (A : ∀ d, Amb p R (s.setDrawn d) m args meth c G base z0 cX2_changeLate yX2_changeLate.cls 5 1 21) (hr : meth.sig.returnType = none) {K2 : Nat → Int32 → Int32 → Int32 → Mem → Prop} {K68 : Mem → Prop} {d0 : Drawn} {H : Heap} {locs : List Loc} {cells slots : Nat} {ls : Array Slot} {x0 : Nat} {x1 : Int32} {x2 : Int32} {x3 : Int32} {x4 : Nat} {t0 : Int32} {t1 : Int32} {t2 : Nat} {M : Mem} (ho_x0 : isO M x0 2) (ho_x4 : isO M x4 0) (ho_t2 : isO M t2 0) (hd0 : s.drawn.sameBut d0 lw_cs) (hZ : ZH G true base s.heap M H locs) (hl : lv_has ls 5 [(0, .ref (base + x0)), (1, .int x1), (2, .int x2), (3, .int x3), (4, .ref (base + x4))]) (h : wp_X2_changeLate_38 x0 x1 x2 x3 x4 t0 t1 t2 M Q K2 K68) (hK2 : ∀ {d0 : Drawn} {H : Heap} {locs : List Loc} {cells slots : Nat} {ls : Array Slot} {x0 : Nat} {x1 : Int32} {x2 : Int32} {x3 : Int32} {M : Mem} (ho_x0 : isO M x0 2), s.drawn.sameBut d0 lw_cs → ZH G true base s.heap M H locs → lv_has ls 5 [(0, .ref (base + x0)), (1, .int x1), (2, .int x2), (3, .int x3)] → K2 x0 x1 x2 x3 M → W p l e R (s.setDrawn d0) m args below meth c H locs cells slots (ZEnd below G true base z0 (qV Q) args s) (F0 m 2 ls [])) (hK68 : ∀ {d0 : Drawn} {H : Heap} {locs : List Loc} {cells slots : Nat} {ls : Array Slot} {M : Mem}, s.drawn.sameBut d0 lw_cs → ZH G true base s.heap M H locs → lv_has ls 5 [] → K68 M → W p l e R (s.setDrawn d0) m args below meth c H locs cells slots (ZEnd below G true base z0 (qV Q) args s) (F0 m 68 ls [])) : W p l e R (s.setDrawn d0) m args below meth c H locs cells slots (ZEnd below G true base z0 (qV Q) args s) (F0 m 38 ls [.int t0, .int t1, .ref (base + t2)]) := by
  have hx := (A d0).1
  have hb := (A d0).2.1
  unfold wp_X2_changeLate_38 at h
  refine lv_iadd hx hb dX2_changeLate_38 ?_
  obtain ⟨M5, eM5⟩ : ∃ y : Mem, y = sI M t2 5 (t1 + t0) := ⟨_, rfl⟩
  refine z_putN (A d0) hZ (ci := 0) (j := 5) (M' := M5) ho_t2.1 ho_t2.2 (by decide) (by decide) k_fn_RX2_47 rfl (by rw [eM5]; exact zUpd_I) rfl rfl dX2_changeLate_39 (fun H locs hZ => ?_)
  have hm : mz M5 = mz M := by rw [eM5] <;> rfl
  have ho_x0 := isO_le (Nat.le_of_eq hm.symm) ho_x0
  have ho_x4 := isO_le (Nat.le_of_eq hm.symm) ho_x4
  replace h := h M5 eM5
  refine lv_aload hx hb dX2_changeLate_42 (lv_at hl 4 rfl) ?_
  refine lv_dup hx hb dX2_changeLate_44 rfl ?_
  refine z_getN (A d0) hZ (ci := 0) (j := 4) ho_x4.1 ho_x4.2 (by decide) (by decide) k_fn_RX2_44 (v := .int (mI M5 x4 4)) rfl dX2_changeLate_45 ?_
  refine lv_iload_n hx hb dX2_changeLate_48 rfl (lv_at hl 3 rfl) ?_
  refine lv_iload_n hx hb dX2_changeLate_49 rfl (lv_at hl 1 rfl) ?_
  refine lv_icmp_ne (tgt := 57) hx hb dX2_changeLate_50 (by decide) (fun hc => ?_) (fun hc => ?_)
  · replace h := h.1 hc
    refine lv_iload_n hx hb dX2_changeLate_57 rfl (lv_at hl 2 rfl) ?_
    exact (zb_X2_changeLate_58 A hr ho_x0 ho_x4 hd0 hZ (lv_sub hl [0, 1, 2, 3] rfl) h hK2 hK68)
  · replace h := h.2 hc
    refine lv_iconst (v := (0 : Int32)) hx hb dX2_changeLate_53 (by decide) ?_
    refine lv_goto (tgt := 58) hx hb dX2_changeLate_54 (by decide) ?_
    exact (zb_X2_changeLate_58 A hr ho_x0 ho_x4 hd0 hZ (lv_sub hl [0, 1, 2, 3] rfl) h hK2 hK68)
set_option maxRecDepth 100000 in
set_option maxHeartbeats 4000000 in
theorem zb_X2_changeLate_2 {p : Program} {l : Launch} {e : Env} {R : Room} {s : State} {m : MethodId} {args : Array Value} {below : List Frame} {meth : Method} {c : Code} {G : ZG} {base z0 : Nat} {Q : Mem → Prop} (A : ∀ d, Amb p R (s.setDrawn d) m args meth c G base z0 cX2_changeLate yX2_changeLate.cls 5 1 21) (hr : meth.sig.returnType = none) {K68 : Mem → Prop} :
  ∀ (n : Nat) {d0 : Drawn} {H : Heap} {locs : List Loc} {cells slots : Nat} {ls : Array Slot} {x0 : Nat} {x1 : Int32} {x2 : Int32} {x3 : Int32} {M : Mem} (ho_x0 : isO M x0 2) (hd0 : s.drawn.sameBut d0 lw_cs) (hZ : ZH G true base s.heap M H locs) (hl : lv_has ls 5 [(0, .ref (base + x0)), (1, .int x1), (2, .int x2), (3, .int x3)]) (h : wp_X2_changeLate_2 n x0 x1 x2 x3 M Q K68) (hK68 : ∀ {d0 : Drawn} {H : Heap} {locs : List Loc} {cells slots : Nat} {ls : Array Slot} {M : Mem}, s.drawn.sameBut d0 lw_cs → ZH G true base s.heap M H locs → lv_has ls 5 [] → K68 M → W p l e R (s.setDrawn d0) m args below meth c H locs cells slots (ZEnd below G true base z0 (qV Q) args s) (F0 m 68 ls [])), W p l e R (s.setDrawn d0) m args below meth c H locs cells slots (ZEnd below G true base z0 (qV Q) args s) (F0 m 2 ls []) := by
  have hx := (A default).1
  have hb := (A default).2.1
  intro n
  induction n with
  | zero => intro d0 H locs cells slots ls x0 x1 x2 x3 M ho_x0 hd0 hZ hl h hK68; exact h.elim
  | succ n ih =>
    intro d0 H locs cells slots ls x0 x1 x2 x3 M ho_x0 hd0 hZ hl h hK68
    unfold wp_X2_changeLate_2 at h
    refine lv_iload_n hx hb dX2_changeLate_2 rfl (lv_at hl 3 rfl) ?_
    refine lv_aload_n hx hb dX2_changeLate_3 rfl (lv_at hl 0 rfl) ?_
    refine z_get (A d0) hZ (ci := 2) (j := 6) ho_x0.1 ho_x0.2 (by decide) (by decide) k_fl_RX2_18 (v := .int (mI M x0 6)) rfl dX2_changeLate_4 ?_
    refine lv_icmp_ge (tgt := 68) hx hb dX2_changeLate_7 (by decide) (fun hc => ?_) (fun hc => ?_)
    · replace h := h.1 hc
      exact hK68 hd0 hZ (lv_sub hl [] rfl) h
    · replace h := h.2 hc
      refine lv_aload_n hx hb dX2_changeLate_10 rfl (lv_at hl 0 rfl) ?_
      refine lv_iload_n hx hb dX2_changeLate_11 rfl (lv_at hl 3 rfl) ?_
      refine z_callV A hd0 hZ (ci := 2) (nA := 1) (As := [.int x3]) (by decide) ho_x0 (c_X2_pieceAt l G base M x0 x3 _ h) k_ml_RX2_70 k_im_yX2_pieceAt k_se_yX2_pieceAt k_in_RX2 k_co_yX2_pieceAt (by decide +kernel) ⟨by decide, by decide⟩ rfl rfl (Nat.le_of_ble_eq_true rfl) hl dX2_changeLate_12 (fun v M1 H locs d0 cells slots hq hd0 hZ hm => ?_)
      clear h
      obtain ⟨r2, rfl, h⟩ := hq
      have ho_x0 := isO_le hm ho_x0
      refine z_astore (lv' := [(4, vr base r2), (0, .ref (base + x0)), (1, .int x1), (2, .int x2), (3, .int x3)]) hx hb dX2_changeLate_15 hl (by decide) rfl (fun ls hl2 => ?_)
      replace hl := hl2
      refine z_aload (base := base) hx hb dX2_changeLate_17 (lv_at hl 0 rfl) ?_
      refine z_ifnull (base := base) (tgt := 62) hx hb dX2_changeLate_19 (by decide) (fun hc => ?_) (fun a3 hc => ?_)
      · replace h := h.1 hc
        subst hc
        exact (zb_X2_changeLate_62 A hr ho_x0 hd0 hZ (lv_sub hl [1, 2, 3, 4] rfl) h (fun ho_x0 hd0 hZ hl h => ih ho_x0 hd0 hZ hl h hK68) hK68)
      · replace h := h.2 a3 hc
        subst hc
        refine lv_aload hx hb dX2_changeLate_22 (lv_at hl 0 rfl) ?_
        refine lv_dup hx hb dX2_changeLate_24 rfl ?_
        obtain ⟨ho_4, h⟩ := h
        refine z_getN (A d0) hZ (ci := 0) (j := 5) ho_4.1 ho_4.2 (by decide) (by decide) k_fn_RX2_47 (v := .int (mI M1 a3 5)) rfl dX2_changeLate_25 ?_
        refine lv_iload_n hx hb dX2_changeLate_28 rfl (lv_at hl 4 rfl) ?_
        refine lv_iload_n hx hb dX2_changeLate_29 rfl (lv_at hl 2 rfl) ?_
        refine lv_icmp_ne (tgt := 37) hx hb dX2_changeLate_30 (by decide) (fun hc => ?_) (fun hc => ?_)
        · replace h := h.1 hc
          refine lv_iconst (v := (0 : Int32)) hx hb dX2_changeLate_37 (by decide) ?_
          exact (zb_X2_changeLate_38 A hr ho_x0 ho_4 ho_4 hd0 hZ (lv_sub hl [1, 2, 3, 4, 0] rfl) h (fun ho_x0 hd0 hZ hl h => ih ho_x0 hd0 hZ hl h hK68) hK68)
        · replace h := h.2 hc
          refine lv_iload_n hx hb dX2_changeLate_33 rfl (lv_at hl 3 rfl) ?_
          refine lv_goto (tgt := 38) hx hb dX2_changeLate_34 (by decide) ?_
          exact (zb_X2_changeLate_38 A hr ho_x0 ho_4 ho_4 hd0 hZ (lv_sub hl [1, 2, 3, 4, 0] rfl) h (fun ho_x0 hd0 hZ hl h => ih ho_x0 hd0 hZ hl h hK68) hK68)
set_option maxRecDepth 100000 in
set_option maxHeartbeats 4000000 in
theorem c_X2_changeLate (l : Launch) (G : ZG) (base : Nat) (M : Mem) (x0 : Nat) (x1 : Int32) (x2 : Int32) (Q : Mem → Prop) (h : wp_X2_changeLate x0 x1 x2 M Q) : ZMet l yX2_changeLate cX2_changeLate 5 none 1 21 G true base M [.ref (base + x0), .int x1, .int x2] (qV Q) := by
  refine z_start (by decide) (Nat.le_of_ble_eq_true rfl) k_co_yX2_changeLate ?_
  intro p e s m below meth c R d0 H locs cells slots ls A hr hn hd0 hZ hl
  have hx := (A d0).1
  have hb := (A d0).2.1
  have hl : lv_has ls 5 [(0, .ref (base + x0)), (1, .int x1), (2, .int x2)] := hl
  unfold wp_X2_changeLate at h
  obtain ⟨ho_x0, h⟩ := h
  refine lv_iload_n hx hb dX2_changeLate_0 rfl (lv_at hl 1 rfl) ?_
  refine lv_istore_n (lv' := [(3, .int x1), (0, .ref (base + x0)), (1, .int x1), (2, .int x2)]) hx hb dX2_changeLate_1 rfl hl (by decide) rfl (fun ls hl2 => ?_)
  replace hl := hl2
  exact (Exists.elim h fun kk h => zb_X2_changeLate_2 A hr kk ho_x0 hd0 hZ (lv_sub hl [1, 2, 3, 0] rfl) h (fun hd0 hZ hl h => (zb_X2_changeLate_68 A hr hd0 hZ hl h)))
/-! cX2_putLate -/
set_option maxRecDepth 100000 in
set_option maxHeartbeats 4000000 in
theorem zb_X2_putLate_36 {p : Program} {l : Launch} {e : Env} {R : Room} {s : State} {m : MethodId} {args : Array Value} {below : List Frame} {meth : Method} {c : Code} {G : ZG} {base z0 : Nat} {Q : Int32 → Mem → Prop} (A : ∀ d, Amb p R (s.setDrawn d) m args meth c G base z0 cX2_putLate yX2_putLate.cls 7 2 45) (hr : meth.sig.returnType = (some .int)) {d0 : Drawn} {H : Heap} {locs : List Loc} {cells slots : Nat} {ls : Array Slot}  {M : Mem} (hd0 : s.drawn.sameBut d0 lw_cs) (hZ : ZH G true base s.heap M H locs) (hl : lv_has ls 7 []) (h : wp_X2_putLate_36 M Q) : W p l e R (s.setDrawn d0) m args below meth c H locs cells slots (ZEnd below G true base z0 (qI Q) args s) (F0 m 36 ls []) := by
  have hx := (A d0).1
  have hb := (A d0).2.1
  unfold wp_X2_putLate_36 at h
  refine lv_iconst (v := (0 : Int32)) hx hb dX2_putLate_36 (by decide) ?_
  exact z_iret A hd0 hZ hr ⟨_, rfl, h⟩ dX2_putLate_37
set_option maxRecDepth 100000 in
set_option maxHeartbeats 4000000 in
theorem zb_X2_putLate_44 {p : Program} {l : Launch} {e : Env} {R : Room} {s : State} {m : MethodId} {args : Array Value} {below : List Frame} {meth : Method} {c : Code} {G : ZG} {base z0 : Nat} {Q : Int32 → Mem → Prop} (A : ∀ d, Amb p R (s.setDrawn d) m args meth c G base z0 cX2_putLate yX2_putLate.cls 7 2 45) (hr : meth.sig.returnType = (some .int)) {K72 : Nat → Int32 → Int32 → Int64 → Nat → Mem → Prop} :
  ∀ (n : Nat) {d0 : Drawn} {H : Heap} {locs : List Loc} {cells slots : Nat} {ls : Array Slot} {x0 : Nat} {x1 : Int32} {x2 : Int32} {x3 : Int64} {x5 : Nat} {x6 : Int32} {M : Mem} (ho_x0 : isO M x0 2) (hd0 : s.drawn.sameBut d0 lw_cs) (hZ : ZH G true base s.heap M H locs) (hl : lv_has ls 7 [(0, .ref (base + x0)), (1, .int x1), (2, .int x2), (3, .long x3), (5, .ref (base + x5)), (6, .int x6)]) (h : wp_X2_putLate_44 n x0 x1 x2 x3 x5 x6 M Q K72) (hK72 : ∀ {d0 : Drawn} {H : Heap} {locs : List Loc} {cells slots : Nat} {ls : Array Slot} {x0 : Nat} {x1 : Int32} {x2 : Int32} {x3 : Int64} {x5 : Nat} {M : Mem} (ho_x0 : isO M x0 2), s.drawn.sameBut d0 lw_cs → ZH G true base s.heap M H locs → lv_has ls 7 [(0, .ref (base + x0)), (1, .int x1), (2, .int x2), (3, .long x3), (5, .ref (base + x5))] → K72 x0 x1 x2 x3 x5 M → W p l e R (s.setDrawn d0) m args below meth c H locs cells slots (ZEnd below G true base z0 (qI Q) args s) (F0 m 72 ls [])), W p l e R (s.setDrawn d0) m args below meth c H locs cells slots (ZEnd below G true base z0 (qI Q) args s) (F0 m 44 ls []) := by
  have hx := (A default).1
  have hb := (A default).2.1
  intro n
  induction n with
  | zero => intro d0 H locs cells slots ls x0 x1 x2 x3 x5 x6 M ho_x0 hd0 hZ hl h hK72; exact h.elim
  | succ n ih =>
    intro d0 H locs cells slots ls x0 x1 x2 x3 x5 x6 M ho_x0 hd0 hZ hl h hK72
    unfold wp_X2_putLate_44 at h
    refine lv_iload hx hb dX2_putLate_44 (lv_at hl 5 rfl) ?_
    refine lv_iload_n hx hb dX2_putLate_46 rfl (lv_at hl 2 rfl) ?_
    refine lv_icmp_le (tgt := 72) hx hb dX2_putLate_47 (by decide) (fun hc => ?_) (fun hc => ?_)
    · replace h := h.1 hc
      exact hK72 ho_x0 hd0 hZ (lv_sub hl [0, 1, 2, 3, 4] rfl) h
    · replace h := h.2 hc
      refine lv_aload_n hx hb dX2_putLate_50 rfl (lv_at hl 0 rfl) ?_
      refine z_get (A d0) hZ (ci := 2) (j := 2) ho_x0.1 ho_x0.2 (by decide) (by decide) k_fl_RX2_29 (v := .ref (base + (x0 + 3))) (zv_fin (zf2_2 ho_x0) rfl) dX2_putLate_51 ?_
      refine lv_iload hx hb dX2_putLate_54 (lv_at hl 5 rfl) ?_
      refine lv_aload_n hx hb dX2_putLate_56 rfl (lv_at hl 0 rfl) ?_
      refine z_get (A d0) hZ (ci := 2) (j := 2) ho_x0.1 ho_x0.2 (by decide) (by decide) k_fl_RX2_29 (v := .ref (base + (x0 + 3))) (zv_fin (zf2_2 ho_x0) rfl) dX2_putLate_57 ?_
      refine lv_iload hx hb dX2_putLate_60 (lv_at hl 5 rfl) ?_
      refine lv_iconst (v := (1 : Int32)) hx hb dX2_putLate_62 (by decide) ?_
      refine lv_isub hx hb dX2_putLate_63 ?_
      obtain ⟨hin, h⟩ := h
      refine z_lald (A d0) hZ (isA_T3 hZ.k0 ho_x0) hin dX2_putLate_64 ?_
      obtain ⟨hin, h⟩ := h
      obtain ⟨M1, eM1⟩ : ∃ y : Mem, y = sL M (x0 + 3) x6.toNatClampNeg (mL M (x0 + 3) (x6 - (1 : Int32)).toNatClampNeg) := ⟨_, rfl⟩
      refine z_last (A d0) hZ (isA_T3 hZ.k0 ho_x0) hin dX2_putLate_65 (fun H locs hZ => ?_)
      rw [← eM1] at hZ
      have hm : mz M1 = mz M := by rw [eM1] <;> rfl
      have ho_x0 := isO_le (Nat.le_of_eq hm.symm) ho_x0
      replace h := h M1 eM1
      obtain ⟨i2, ei2⟩ : ∃ y : Int32, y = x6 + (-1 : Int32) := ⟨_, rfl⟩
      replace h := h i2 ei2
      refine lv_iinc (v := i2) (lv' := [(6, .int i2), (0, .ref (base + x0)), (1, .int x1), (2, .int x2), (3, .long x3), (5, .ref (base + x5))]) hx hb dX2_putLate_66 hl (k := 5) rfl (by rw [ei2]; rfl) (by decide) rfl (fun ls hl2 => ?_)
      replace hl := hl2
      refine lv_goto (tgt := 44) hx hb dX2_putLate_69 (by decide) ?_
      exact ih ho_x0 hd0 hZ (lv_sub hl [1, 2, 3, 4, 5, 0] rfl) h hK72
set_option maxRecDepth 100000 in
set_option maxHeartbeats 4000000 in
theorem zb_X2_putLate_72 {p : Program} {l : Launch} {e : Env} {R : Room} {s : State} {m : MethodId} {args : Array Value} {below : List Frame} {meth : Method} {c : Code} {G : ZG} {base z0 : Nat} {Q : Int32 → Mem → Prop} (A : ∀ d, Amb p R (s.setDrawn d) m args meth c G base z0 cX2_putLate yX2_putLate.cls 7 2 45) (hr : meth.sig.returnType = (some .int)) {d0 : Drawn} {H : Heap} {locs : List Loc} {cells slots : Nat} {ls : Array Slot} {x0 : Nat} {x1 : Int32} {x2 : Int32} {x3 : Int64} {x5 : Nat} {M : Mem} (ho_x0 : isO M x0 2) (hd0 : s.drawn.sameBut d0 lw_cs) (hZ : ZH G true base s.heap M H locs) (hl : lv_has ls 7 [(0, .ref (base + x0)), (1, .int x1), (2, .int x2), (3, .long x3), (5, .ref (base + x5))]) (h : wp_X2_putLate_72 x0 x1 x2 x3 x5 M Q) : W p l e R (s.setDrawn d0) m args below meth c H locs cells slots (ZEnd below G true base z0 (qI Q) args s) (F0 m 72 ls []) := by
  have hx := (A d0).1
  have hb := (A d0).2.1
  unfold wp_X2_putLate_72 at h
  refine lv_aload_n hx hb dX2_putLate_72 rfl (lv_at hl 0 rfl) ?_
  refine z_get (A d0) hZ (ci := 2) (j := 2) ho_x0.1 ho_x0.2 (by decide) (by decide) k_fl_RX2_29 (v := .ref (base + (x0 + 3))) (zv_fin (zf2_2 ho_x0) rfl) dX2_putLate_73 ?_
  refine lv_iload_n hx hb dX2_putLate_76 rfl (lv_at hl 2 rfl) ?_
  refine lv_lload_n hx hb dX2_putLate_77 rfl (lv_at hl 3 rfl) ?_
  obtain ⟨hin, h⟩ := h
  obtain ⟨M3, eM3⟩ : ∃ y : Mem, y = sL M (x0 + 3) x2.toNatClampNeg x3 := ⟨_, rfl⟩
  refine z_last (A d0) hZ (isA_T3 hZ.k0 ho_x0) hin dX2_putLate_78 (fun H locs hZ => ?_)
  rw [← eM3] at hZ
  have hm : mz M3 = mz M := by rw [eM3] <;> rfl
  have ho_x0 := isO_le (Nat.le_of_eq hm.symm) ho_x0
  replace h := h M3 eM3
  refine lv_aload_n hx hb dX2_putLate_79 rfl (lv_at hl 0 rfl) ?_
  refine lv_dup hx hb dX2_putLate_80 rfl ?_
  refine z_get (A d0) hZ (ci := 2) (j := 5) ho_x0.1 ho_x0.2 (by decide) (by decide) k_fl_RX2_15 (v := .int (mI M3 x0 5)) rfl dX2_putLate_81 ?_
  refine lv_iconst (v := (1 : Int32)) hx hb dX2_putLate_84 (by decide) ?_
  refine lv_iadd hx hb dX2_putLate_85 ?_
  obtain ⟨M4, eM4⟩ : ∃ y : Mem, y = sI M3 x0 5 ((mI M3 x0 5) + (1 : Int32)) := ⟨_, rfl⟩
  refine z_put (A d0) hZ (ci := 2) (j := 5) (M' := M4) ho_x0.1 ho_x0.2 (by decide) (by decide) k_fl_RX2_15 rfl (by rw [eM4]; exact zUpd_I) rfl rfl dX2_putLate_86 (fun H locs hZ => ?_)
  have hm : mz M4 = mz M3 := by rw [eM4] <;> rfl
  have ho_x0 := isO_le (Nat.le_of_eq hm.symm) ho_x0
  replace h := h M4 eM4
  refine lv_aload_n hx hb dX2_putLate_89 rfl (lv_at hl 0 rfl) ?_
  refine lv_iload_n hx hb dX2_putLate_90 rfl (lv_at hl 1 rfl) ?_
  refine lv_iconst (v := (1 : Int32)) hx hb dX2_putLate_91 (by decide) ?_
  refine z_callV A hd0 hZ (ci := 2) (nA := 2) (As := [.int x1, .int (1 : Int32)]) (by decide) ho_x0 (c_X2_changeLate l G base M4 x0 x1 (1 : Int32) _ h) k_ml_RX2_134 k_im_yX2_changeLate k_se_yX2_changeLate k_in_RX2 k_co_yX2_changeLate (by decide +kernel) ⟨by decide, by decide⟩ rfl rfl (Nat.le_of_ble_eq_true rfl) hl dX2_putLate_92 (fun v M5 H locs d0 cells slots hq hd0 hZ hm => ?_)
  clear h
  obtain ⟨rfl, h⟩ := hq
  have ho_x0 := isO_le hm ho_x0
  refine lv_aload hx hb dX2_putLate_95 (lv_at hl 4 rfl) ?_
  obtain ⟨ho_6, h⟩ := h
  refine z_getN (A d0) hZ (ci := 0) (j := 5) ho_6.1 ho_6.2 (by decide) (by decide) k_fn_RX2_47 (v := .int (mI M5 x5 5)) rfl dX2_putLate_97 ?_
  exact z_iret A hd0 hZ hr ⟨_, rfl, h⟩ dX2_putLate_100
set_option maxRecDepth 100000 in
set_option maxHeartbeats 4000000 in
theorem c_X2_putLate (l : Launch) (G : ZG) (base : Nat) (M : Mem) (x0 : Nat) (x1 : Int32) (x2 : Int32) (x3 : Int64) (Q : Int32 → Mem → Prop) (h : wp_X2_putLate x0 x1 x2 x3 M Q) : ZMet l yX2_putLate cX2_putLate 7 (some .int) 2 45 G true base M [.ref (base + x0), .int x1, .int x2, .long x3] (qI Q) := by
  refine z_start (by decide) (Nat.le_of_ble_eq_true rfl) k_co_yX2_putLate ?_
  intro p e s m below meth c R d0 H locs cells slots ls A hr hn hd0 hZ hl
  have hx := (A d0).1
  have hb := (A d0).2.1
  have hl : lv_has ls 7 [(0, .ref (base + x0)), (1, .int x1), (2, .int x2), (3, .long x3)] := hl
  unfold wp_X2_putLate at h
  obtain ⟨ho_x0, h⟩ := h
  refine lv_aload_n hx hb dX2_putLate_0 rfl (lv_at hl 0 rfl) ?_
  refine lv_iload_n hx hb dX2_putLate_1 rfl (lv_at hl 1 rfl) ?_
  refine z_callV A hd0 hZ (ci := 2) (nA := 1) (As := [.int x1]) (by decide) ho_x0 (c_X2_pieceAt l G base M x0 x1 _ h) k_ml_RX2_70 k_im_yX2_pieceAt k_se_yX2_pieceAt k_in_RX2 k_co_yX2_pieceAt (by decide +kernel) ⟨by decide, by decide⟩ rfl rfl (Nat.le_of_ble_eq_true rfl) hl dX2_putLate_2 (fun v M7 H locs d0 cells slots hq hd0 hZ hm => ?_)
  clear h
  obtain ⟨r8, rfl, h⟩ := hq
  have ho_x0 := isO_le hm ho_x0
  refine z_astore (lv' := [(5, vr base r8), (0, .ref (base + x0)), (1, .int x1), (2, .int x2), (3, .long x3)]) hx hb dX2_putLate_5 hl (by decide) rfl (fun ls hl2 => ?_)
  replace hl := hl2
  refine z_aload (base := base) hx hb dX2_putLate_7 (lv_at hl 0 rfl) ?_
  refine z_ifnull (base := base) (tgt := 36) hx hb dX2_putLate_9 (by decide) (fun hc => ?_) (fun a9 hc => ?_)
  · replace h := h.1 hc
    subst hc
    exact (zb_X2_putLate_36 A hr hd0 hZ (lv_sub hl [] rfl) h)
  · replace h := h.2 a9 hc
    subst hc
    refine lv_iload_n hx hb dX2_putLate_12 rfl (lv_at hl 3 rfl) ?_
    refine lv_if_lt (tgt := 36) hx hb dX2_putLate_13 (by decide) (fun hc => ?_) (fun hc => ?_)
    · replace h := h.1 hc
      exact (zb_X2_putLate_36 A hr hd0 hZ (lv_sub hl [] rfl) h)
    · replace h := h.2 hc
      refine lv_iload_n hx hb dX2_putLate_16 rfl (lv_at hl 3 rfl) ?_
      refine lv_aload_n hx hb dX2_putLate_17 rfl (lv_at hl 1 rfl) ?_
      refine z_get (A d0) hZ (ci := 2) (j := 5) ho_x0.1 ho_x0.2 (by decide) (by decide) k_fl_RX2_15 (v := .int (mI M7 x0 5)) rfl dX2_putLate_18 ?_
      refine lv_icmp_gt (tgt := 36) hx hb dX2_putLate_21 (by decide) (fun hc => ?_) (fun hc => ?_)
      · replace h := h.1 hc
        exact (zb_X2_putLate_36 A hr hd0 hZ (lv_sub hl [] rfl) h)
      · replace h := h.2 hc
        refine lv_aload_n hx hb dX2_putLate_24 rfl (lv_at hl 1 rfl) ?_
        refine z_get (A d0) hZ (ci := 2) (j := 5) ho_x0.1 ho_x0.2 (by decide) (by decide) k_fl_RX2_15 (v := .int (mI M7 x0 5)) rfl dX2_putLate_25 ?_
        refine lv_aload_n hx hb dX2_putLate_28 rfl (lv_at hl 1 rfl) ?_
        refine z_get (A d0) hZ (ci := 2) (j := 2) ho_x0.1 ho_x0.2 (by decide) (by decide) k_fl_RX2_29 (v := .ref (base + (x0 + 3))) (zv_fin (zf2_2 ho_x0) rfl) dX2_putLate_29 ?_
        refine z_alen (A d0) hZ (isA_T3 hZ.k0 ho_x0) 1 rfl dX2_putLate_32 ?_
        refine lv_icmp_lt (tgt := 38) hx hb dX2_putLate_33 (by decide) (fun hc => ?_) (fun hc => ?_)
        · replace h := h.1 hc
          refine lv_aload_n hx hb dX2_putLate_38 rfl (lv_at hl 1 rfl) ?_
          refine z_get (A d0) hZ (ci := 2) (j := 5) ho_x0.1 ho_x0.2 (by decide) (by decide) k_fl_RX2_15 (v := .int (mI M7 x0 5)) rfl dX2_putLate_39 ?_
          obtain ⟨i10, ei10⟩ : ∃ y : Int32, y = mI M7 x0 5 := ⟨_, rfl⟩
          rw [← ei10]
          replace h := h i10 ei10
          refine lv_istore (lv' := [(6, .int i10), (5, .ref (base + a9)), (0, .ref (base + x0)), (1, .int x1), (2, .int x2), (3, .long x3)]) hx hb dX2_putLate_42 hl (by decide) rfl (fun ls hl2 => ?_)
          replace hl := hl2
          exact (Exists.elim h fun kk h => zb_X2_putLate_44 A hr kk ho_x0 hd0 hZ (lv_sub hl [2, 3, 4, 5, 1, 0] rfl) h (fun ho_x0 hd0 hZ hl h => (zb_X2_putLate_72 A hr ho_x0 hd0 hZ hl h)))
        · replace h := h.2 hc
          exact (zb_X2_putLate_36 A hr hd0 hZ (lv_sub hl [] rfl) h)
/-! cX2_takeLate -/
set_option maxRecDepth 100000 in
set_option maxHeartbeats 4000000 in
theorem zb_X2_takeLate_12 {p : Program} {l : Launch} {e : Env} {R : Room} {s : State} {m : MethodId} {args : Array Value} {below : List Frame} {meth : Method} {c : Code} {G : ZG} {base z0 : Nat} {Q : Mem → Prop} (A : ∀ d, Amb p R (s.setDrawn d) m args meth c G base z0 cX2_takeLate yX2_takeLate.cls 4 2 45) (hr : meth.sig.returnType = none) {d0 : Drawn} {H : Heap} {locs : List Loc} {cells slots : Nat} {ls : Array Slot}  {M : Mem} (hd0 : s.drawn.sameBut d0 lw_cs) (hZ : ZH G true base s.heap M H locs) (hl : lv_has ls 4 []) (h : wp_X2_takeLate_12 M Q) : W p l e R (s.setDrawn d0) m args below meth c H locs cells slots (ZEnd below G true base z0 (qV Q) args s) (F0 m 12 ls []) := by
  have hx := (A d0).1
  have hb := (A d0).2.1
  unfold wp_X2_takeLate_12 at h
  exact z_vret A hd0 hZ hr ⟨rfl, h⟩ dX2_takeLate_12
set_option maxRecDepth 100000 in
set_option maxHeartbeats 4000000 in
theorem zb_X2_takeLate_25 {p : Program} {l : Launch} {e : Env} {R : Room} {s : State} {m : MethodId} {args : Array Value} {below : List Frame} {meth : Method} {c : Code} {G : ZG} {base z0 : Nat} {Q : Mem → Prop} (A : ∀ d, Amb p R (s.setDrawn d) m args meth c G base z0 cX2_takeLate yX2_takeLate.cls 4 2 45) (hr : meth.sig.returnType = none) {K53 : Nat → Int32 → Mem → Prop} :
  ∀ (n : Nat) {d0 : Drawn} {H : Heap} {locs : List Loc} {cells slots : Nat} {ls : Array Slot} {x0 : Nat} {x1 : Int32} {x3 : Int32} {M : Mem} (ho_x0 : isO M x0 2) (hd0 : s.drawn.sameBut d0 lw_cs) (hZ : ZH G true base s.heap M H locs) (hl : lv_has ls 4 [(0, .ref (base + x0)), (1, .int x1), (3, .int x3)]) (h : wp_X2_takeLate_25 n x0 x1 x3 M Q K53) (hK53 : ∀ {d0 : Drawn} {H : Heap} {locs : List Loc} {cells slots : Nat} {ls : Array Slot} {x0 : Nat} {x1 : Int32} {M : Mem} (ho_x0 : isO M x0 2), s.drawn.sameBut d0 lw_cs → ZH G true base s.heap M H locs → lv_has ls 4 [(0, .ref (base + x0)), (1, .int x1)] → K53 x0 x1 M → W p l e R (s.setDrawn d0) m args below meth c H locs cells slots (ZEnd below G true base z0 (qV Q) args s) (F0 m 53 ls [])), W p l e R (s.setDrawn d0) m args below meth c H locs cells slots (ZEnd below G true base z0 (qV Q) args s) (F0 m 25 ls []) := by
  have hx := (A default).1
  have hb := (A default).2.1
  intro n
  induction n with
  | zero => intro d0 H locs cells slots ls x0 x1 x3 M ho_x0 hd0 hZ hl h hK53; exact h.elim
  | succ n ih =>
    intro d0 H locs cells slots ls x0 x1 x3 M ho_x0 hd0 hZ hl h hK53
    unfold wp_X2_takeLate_25 at h
    refine lv_iload_n hx hb dX2_takeLate_25 rfl (lv_at hl 2 rfl) ?_
    refine lv_aload_n hx hb dX2_takeLate_26 rfl (lv_at hl 0 rfl) ?_
    refine z_get (A d0) hZ (ci := 2) (j := 5) ho_x0.1 ho_x0.2 (by decide) (by decide) k_fl_RX2_15 (v := .int (mI M x0 5)) rfl dX2_takeLate_27 ?_
    refine lv_icmp_ge (tgt := 53) hx hb dX2_takeLate_30 (by decide) (fun hc => ?_) (fun hc => ?_)
    · replace h := h.1 hc
      exact hK53 ho_x0 hd0 hZ (lv_sub hl [0, 1] rfl) h
    · replace h := h.2 hc
      refine lv_aload_n hx hb dX2_takeLate_33 rfl (lv_at hl 0 rfl) ?_
      refine z_get (A d0) hZ (ci := 2) (j := 2) ho_x0.1 ho_x0.2 (by decide) (by decide) k_fl_RX2_29 (v := .ref (base + (x0 + 3))) (zv_fin (zf2_2 ho_x0) rfl) dX2_takeLate_34 ?_
      refine lv_iload_n hx hb dX2_takeLate_37 rfl (lv_at hl 2 rfl) ?_
      refine lv_aload_n hx hb dX2_takeLate_38 rfl (lv_at hl 0 rfl) ?_
      refine z_get (A d0) hZ (ci := 2) (j := 2) ho_x0.1 ho_x0.2 (by decide) (by decide) k_fl_RX2_29 (v := .ref (base + (x0 + 3))) (zv_fin (zf2_2 ho_x0) rfl) dX2_takeLate_39 ?_
      refine lv_iload_n hx hb dX2_takeLate_42 rfl (lv_at hl 2 rfl) ?_
      refine lv_iconst (v := (1 : Int32)) hx hb dX2_takeLate_43 (by decide) ?_
      refine lv_iadd hx hb dX2_takeLate_44 ?_
      obtain ⟨hin, h⟩ := h
      refine z_lald (A d0) hZ (isA_T3 hZ.k0 ho_x0) hin dX2_takeLate_45 ?_
      obtain ⟨hin, h⟩ := h
      obtain ⟨M1, eM1⟩ : ∃ y : Mem, y = sL M (x0 + 3) x3.toNatClampNeg (mL M (x0 + 3) (x3 + (1 : Int32)).toNatClampNeg) := ⟨_, rfl⟩
      refine z_last (A d0) hZ (isA_T3 hZ.k0 ho_x0) hin dX2_takeLate_46 (fun H locs hZ => ?_)
      rw [← eM1] at hZ
      have hm : mz M1 = mz M := by rw [eM1] <;> rfl
      have ho_x0 := isO_le (Nat.le_of_eq hm.symm) ho_x0
      replace h := h M1 eM1
      obtain ⟨i2, ei2⟩ : ∃ y : Int32, y = x3 + (1 : Int32) := ⟨_, rfl⟩
      replace h := h i2 ei2
      refine lv_iinc (v := i2) (lv' := [(3, .int i2), (0, .ref (base + x0)), (1, .int x1)]) hx hb dX2_takeLate_47 hl (k := 2) rfl (by rw [ei2]; rfl) (by decide) rfl (fun ls hl2 => ?_)
      replace hl := hl2
      refine lv_goto (tgt := 25) hx hb dX2_takeLate_50 (by decide) ?_
      exact ih ho_x0 hd0 hZ (lv_sub hl [1, 2, 0] rfl) h hK53
set_option maxRecDepth 100000 in
set_option maxHeartbeats 4000000 in
theorem zb_X2_takeLate_53 {p : Program} {l : Launch} {e : Env} {R : Room} {s : State} {m : MethodId} {args : Array Value} {below : List Frame} {meth : Method} {c : Code} {G : ZG} {base z0 : Nat} {Q : Mem → Prop} (A : ∀ d, Amb p R (s.setDrawn d) m args meth c G base z0 cX2_takeLate yX2_takeLate.cls 4 2 45) (hr : meth.sig.returnType = none) {d0 : Drawn} {H : Heap} {locs : List Loc} {cells slots : Nat} {ls : Array Slot} {x0 : Nat} {x1 : Int32} {M : Mem} (ho_x0 : isO M x0 2) (hd0 : s.drawn.sameBut d0 lw_cs) (hZ : ZH G true base s.heap M H locs) (hl : lv_has ls 4 [(0, .ref (base + x0)), (1, .int x1)]) (h : wp_X2_takeLate_53 x0 x1 M Q) : W p l e R (s.setDrawn d0) m args below meth c H locs cells slots (ZEnd below G true base z0 (qV Q) args s) (F0 m 53 ls []) := by
  have hx := (A d0).1
  have hb := (A d0).2.1
  unfold wp_X2_takeLate_53 at h
  refine lv_aload_n hx hb dX2_takeLate_53 rfl (lv_at hl 0 rfl) ?_
  refine lv_iload_n hx hb dX2_takeLate_54 rfl (lv_at hl 1 rfl) ?_
  refine lv_iconst (v := (-1 : Int32)) hx hb dX2_takeLate_55 (by decide) ?_
  refine z_callV A hd0 hZ (ci := 2) (nA := 2) (As := [.int x1, .int (-1 : Int32)]) (by decide) ho_x0 (c_X2_changeLate l G base M x0 x1 (-1 : Int32) _ h) k_ml_RX2_134 k_im_yX2_changeLate k_se_yX2_changeLate k_in_RX2 k_co_yX2_changeLate (by decide +kernel) ⟨by decide, by decide⟩ rfl rfl (Nat.le_of_ble_eq_true rfl) hl dX2_takeLate_56 (fun v M3 H locs d0 cells slots hq hd0 hZ hm => ?_)
  clear h
  obtain ⟨rfl, h⟩ := hq
  have ho_x0 := isO_le hm ho_x0
  exact z_vret A hd0 hZ hr ⟨rfl, h⟩ dX2_takeLate_59
set_option maxRecDepth 100000 in
set_option maxHeartbeats 4000000 in
theorem c_X2_takeLate (l : Launch) (G : ZG) (base : Nat) (M : Mem) (x0 : Nat) (x1 : Int32) (x2 : Int32) (Q : Mem → Prop) (h : wp_X2_takeLate x0 x1 x2 M Q) : ZMet l yX2_takeLate cX2_takeLate 4 none 2 45 G true base M [.ref (base + x0), .int x1, .int x2] (qV Q) := by
  refine z_start (by decide) (Nat.le_of_ble_eq_true rfl) k_co_yX2_takeLate ?_
  intro p e s m below meth c R d0 H locs cells slots ls A hr hn hd0 hZ hl
  have hx := (A d0).1
  have hb := (A d0).2.1
  have hl : lv_has ls 4 [(0, .ref (base + x0)), (1, .int x1), (2, .int x2)] := hl
  unfold wp_X2_takeLate at h
  obtain ⟨ho_x0, h⟩ := h
  refine lv_iload_n hx hb dX2_takeLate_0 rfl (lv_at hl 2 rfl) ?_
  refine lv_if_lt (tgt := 12) hx hb dX2_takeLate_1 (by decide) (fun hc => ?_) (fun hc => ?_)
  · replace h := h.1 hc
    exact (zb_X2_takeLate_12 A hr hd0 hZ (lv_sub hl [] rfl) h)
  · replace h := h.2 hc
    refine lv_iload_n hx hb dX2_takeLate_4 rfl (lv_at hl 2 rfl) ?_
    refine lv_aload_n hx hb dX2_takeLate_5 rfl (lv_at hl 0 rfl) ?_
    refine z_get (A d0) hZ (ci := 2) (j := 5) ho_x0.1 ho_x0.2 (by decide) (by decide) k_fl_RX2_15 (v := .int (mI M x0 5)) rfl dX2_takeLate_6 ?_
    refine lv_icmp_lt (tgt := 13) hx hb dX2_takeLate_9 (by decide) (fun hc => ?_) (fun hc => ?_)
    · replace h := h.1 hc
      refine lv_aload_n hx hb dX2_takeLate_13 rfl (lv_at hl 0 rfl) ?_
      refine lv_dup hx hb dX2_takeLate_14 rfl ?_
      refine z_get (A d0) hZ (ci := 2) (j := 5) ho_x0.1 ho_x0.2 (by decide) (by decide) k_fl_RX2_15 (v := .int (mI M x0 5)) rfl dX2_takeLate_15 ?_
      refine lv_iconst (v := (1 : Int32)) hx hb dX2_takeLate_18 (by decide) ?_
      refine lv_isub hx hb dX2_takeLate_19 ?_
      obtain ⟨M4, eM4⟩ : ∃ y : Mem, y = sI M x0 5 ((mI M x0 5) - (1 : Int32)) := ⟨_, rfl⟩
      refine z_put (A d0) hZ (ci := 2) (j := 5) (M' := M4) ho_x0.1 ho_x0.2 (by decide) (by decide) k_fl_RX2_15 rfl (by rw [eM4]; exact zUpd_I) rfl rfl dX2_takeLate_20 (fun H locs hZ => ?_)
      have hm : mz M4 = mz M := by rw [eM4] <;> rfl
      have ho_x0 := isO_le (Nat.le_of_eq hm.symm) ho_x0
      replace h := h M4 eM4
      refine lv_iload_n hx hb dX2_takeLate_23 rfl (lv_at hl 2 rfl) ?_
      refine lv_istore_n (lv' := [(3, .int x2), (0, .ref (base + x0)), (1, .int x1), (2, .int x2)]) hx hb dX2_takeLate_24 rfl hl (by decide) rfl (fun ls hl2 => ?_)
      replace hl := hl2
      exact (Exists.elim h fun kk h => zb_X2_takeLate_25 A hr kk ho_x0 hd0 hZ (lv_sub hl [1, 2, 0] rfl) h (fun ho_x0 hd0 hZ hl h => (zb_X2_takeLate_53 A hr ho_x0 hd0 hZ hl h)))
    · replace h := h.2 hc
      exact (zb_X2_takeLate_12 A hr hd0 hZ (lv_sub hl [] rfl) h)
/-! cX3_init -/
set_option maxRecDepth 100000 in
set_option maxHeartbeats 4000000 in
theorem c_X3_init (l : Launch) (G : ZG) (base : Nat) (M : Mem) (x0 : Nat) (Q : Mem → Prop) (h : wp_X3_init x0 M Q) : ZMet l yX3_init cX3_init 1 none 1 12 G false base M [.ref (base + x0)] (qV Q) := by
  refine z_start (by decide) (Nat.le_of_ble_eq_true rfl) k_co_yX3_init ?_
  intro p e s m below meth c R d0 H locs cells slots ls A hr hn hd0 hZ hl
  have hx := (A d0).1
  have hb := (A d0).2.1
  have hl : lv_has ls 1 [(0, .ref (base + x0))] := hl
  have hn : meth.name = "<init>" := hn
  unfold wp_X3_init at h
  obtain ⟨ho_x0, h⟩ := h
  refine lv_aload_n hx hb dX3_init_0 rfl (lv_at hl 0 rfl) ?_
  refine z_objInit (A d0) k_ml_RX3_3 hl dX3_init_1 (by decide) (Nat.le_of_ble_eq_true rfl) ?_
  refine lv_aload_n hx hb dX3_init_4 rfl (lv_at hl 0 rfl) ?_
  refine lv_bipush (v := (34 : Int32)) hx hb dX3_init_5 (by decide) ?_
  obtain ⟨hn0, hlt, hs, hby, h⟩ := h
  obtain ⟨M2, eM2⟩ : ∃ y : Mem, y = nw M := ⟨_, rfl⟩
  obtain ⟨a1, ea1⟩ : ∃ y : Nat, y = mz M := ⟨_, rfl⟩
  have ho_a1 : isA M2 a1 .int := ⟨⟨_, by rw [ea1]; exact hs⟩, by rw [eM2, ea1]; exact Nat.lt_succ_self _⟩
  refine z_newa (t := .int) (A d0) hZ ea1 rfl 0 rfl (Or.inl rfl) hs hlt k_ac_int (fun _ q => by cases q) hn0 rfl (Nat.le_trans (Nat.mul_le_mul_left _ (by decide)) hby) dX3_init_7 (fun H cells slots hZ => ?_)
  rw [← eM2] at hZ
  have hm : mz M ≤ mz M2 := by rw [eM2]; exact Nat.le_succ _
  have ho_x0 := isO_le hm ho_x0
  replace h := h a1 M2 ea1 eM2
  obtain ⟨M3, eM3⟩ : ∃ y : Mem, y = sR M2 x0 0 (some a1) := ⟨_, rfl⟩
  refine z_putF (A d0) hZ (ci := 3) (j := 0) (M' := M3) ho_x0.1 ho_x0.2 (by decide) (by decide) k_fl_RX3_9 rfl rfl hn (by rw [eM3]; exact zUpd_A (fun q => (by cases q))) rfl rfl dX3_init_9 (fun H locs hZ => ?_)
  have hm : mz M3 = mz M2 := by rw [eM3] <;> rfl
  have ho_x0 := isO_le (Nat.le_of_eq hm.symm) ho_x0
  replace h := h M3 eM3
  refine lv_aload_n hx hb dX3_init_12 rfl (lv_at hl 0 rfl) ?_
  refine lv_iconst (v := (0 : Int32)) hx hb dX3_init_13 (by decide) ?_
  obtain ⟨M4, eM4⟩ : ∃ y : Mem, y = sI M3 x0 1 (0 : Int32) := ⟨_, rfl⟩
  refine z_put (A d0) hZ (ci := 3) (j := 1) (M' := M4) ho_x0.1 ho_x0.2 (by decide) (by decide) k_fl_RX3_15 rfl (by rw [eM4]; exact zUpd_I) rfl rfl dX3_init_14 (fun H locs hZ => ?_)
  have hm : mz M4 = mz M3 := by rw [eM4] <;> rfl
  have ho_x0 := isO_le (Nat.le_of_eq hm.symm) ho_x0
  replace h := h M4 eM4
  refine lv_aload_n hx hb dX3_init_17 rfl (lv_at hl 0 rfl) ?_
  refine lv_iconst (v := (0 : Int32)) hx hb dX3_init_18 (by decide) ?_
  obtain ⟨M5, eM5⟩ : ∃ y : Mem, y = sI M4 x0 2 (0 : Int32) := ⟨_, rfl⟩
  refine z_put (A d0) hZ (ci := 3) (j := 2) (M' := M5) ho_x0.1 ho_x0.2 (by decide) (by decide) k_fl_RX3_19 rfl (by rw [eM5]; exact zUpd_I) rfl rfl dX3_init_19 (fun H locs hZ => ?_)
  have hm : mz M5 = mz M4 := by rw [eM5] <;> rfl
  have ho_x0 := isO_le (Nat.le_of_eq hm.symm) ho_x0
  replace h := h M5 eM5
  refine lv_aload_n hx hb dX3_init_22 rfl (lv_at hl 0 rfl) ?_
  refine lv_iconst (v := (0 : Int32)) hx hb dX3_init_23 (by decide) ?_
  obtain ⟨M6, eM6⟩ : ∃ y : Mem, y = sI M5 x0 3 (0 : Int32) := ⟨_, rfl⟩
  refine z_put (A d0) hZ (ci := 3) (j := 3) (M' := M6) ho_x0.1 ho_x0.2 (by decide) (by decide) k_fl_RX3_22 rfl (by rw [eM6]; exact zUpd_I) rfl rfl dX3_init_24 (fun H locs hZ => ?_)
  have hm : mz M6 = mz M5 := by rw [eM6] <;> rfl
  have ho_x0 := isO_le (Nat.le_of_eq hm.symm) ho_x0
  replace h := h M6 eM6
  refine lv_aload_n hx hb dX3_init_27 rfl (lv_at hl 0 rfl) ?_
  refine lv_iconst (v := (0 : Int32)) hx hb dX3_init_28 (by decide) ?_
  obtain ⟨M7, eM7⟩ : ∃ y : Mem, y = sI M6 x0 4 (0 : Int32) := ⟨_, rfl⟩
  refine z_put (A d0) hZ (ci := 3) (j := 4) (M' := M7) ho_x0.1 ho_x0.2 (by decide) (by decide) k_fl_RX3_25 rfl (by rw [eM7]; exact zUpd_I) rfl rfl dX3_init_29 (fun H locs hZ => ?_)
  have hm : mz M7 = mz M6 := by rw [eM7] <;> rfl
  have ho_x0 := isO_le (Nat.le_of_eq hm.symm) ho_x0
  replace h := h M7 eM7
  refine lv_aload_n hx hb dX3_init_32 rfl (lv_at hl 0 rfl) ?_
  refine lv_iconst (v := (0 : Int32)) hx hb dX3_init_33 (by decide) ?_
  obtain ⟨M8, eM8⟩ : ∃ y : Mem, y = sI M7 x0 5 (0 : Int32) := ⟨_, rfl⟩
  refine z_put (A d0) hZ (ci := 3) (j := 5) (M' := M8) ho_x0.1 ho_x0.2 (by decide) (by decide) k_fl_RX3_28 rfl (by rw [eM8]; exact zUpd_I) rfl rfl dX3_init_34 (fun H locs hZ => ?_)
  have hm : mz M8 = mz M7 := by rw [eM8] <;> rfl
  have ho_x0 := isO_le (Nat.le_of_eq hm.symm) ho_x0
  replace h := h M8 eM8
  refine lv_aload_n hx hb dX3_init_37 rfl (lv_at hl 0 rfl) ?_
  refine lv_iconst (v := (0 : Int32)) hx hb dX3_init_38 (by decide) ?_
  obtain ⟨M9, eM9⟩ : ∃ y : Mem, y = sI M8 x0 6 (0 : Int32) := ⟨_, rfl⟩
  refine z_put (A d0) hZ (ci := 3) (j := 6) (M' := M9) ho_x0.1 ho_x0.2 (by decide) (by decide) k_fl_RX3_31 rfl (by rw [eM9]; exact zUpd_I) rfl rfl dX3_init_39 (fun H locs hZ => ?_)
  have hm : mz M9 = mz M8 := by rw [eM9] <;> rfl
  have ho_x0 := isO_le (Nat.le_of_eq hm.symm) ho_x0
  replace h := h M9 eM9
  exact z_vret A hd0 hZ hr ⟨rfl, h⟩ dX3_init_42
/-! cX3_tell -/
set_option maxRecDepth 100000 in
set_option maxHeartbeats 4000000 in
theorem zb_X3_tell_32 {p : Program} {l : Launch} {e : Env} {R : Room} {s : State} {m : MethodId} {args : Array Value} {below : List Frame} {meth : Method} {c : Code} {G : ZG} {base z0 : Nat} {Q : Mem → Prop} (A : ∀ d, Amb p R (s.setDrawn d) m args meth c G base z0 cX3_tell yX3_tell.cls 2 0 0) (hr : meth.sig.returnType = none) {d0 : Drawn} {H : Heap} {locs : List Loc} {cells slots : Nat} {ls : Array Slot}  {M : Mem} (hd0 : s.drawn.sameBut d0 lw_cs) (hZ : ZH G true base s.heap M H locs) (hl : lv_has ls 2 []) (h : wp_X3_tell_32 M Q) : W p l e R (s.setDrawn d0) m args below meth c H locs cells slots (ZEnd below G true base z0 (qV Q) args s) (F0 m 32 ls []) := by
  have hx := (A d0).1
  have hb := (A d0).2.1
  unfold wp_X3_tell_32 at h
  exact z_vret A hd0 hZ hr ⟨rfl, h⟩ dX3_tell_32
set_option maxRecDepth 100000 in
set_option maxHeartbeats 4000000 in
theorem c_X3_tell (l : Launch) (G : ZG) (base : Nat) (M : Mem) (x0 : Nat) (x1 : Int32) (Q : Mem → Prop) (h : wp_X3_tell x0 x1 M Q) : ZMet l yX3_tell cX3_tell 2 none 0 0 G true base M [.ref (base + x0), .int x1] (qV Q) := by
  refine z_start (by decide) (Nat.le_of_ble_eq_true rfl) k_co_yX3_tell ?_
  intro p e s m below meth c R d0 H locs cells slots ls A hr hn hd0 hZ hl
  have hx := (A d0).1
  have hb := (A d0).2.1
  have hl : lv_has ls 2 [(0, .ref (base + x0)), (1, .int x1)] := hl
  unfold wp_X3_tell at h
  obtain ⟨ho_x0, h⟩ := h
  refine lv_aload_n hx hb dX3_tell_0 rfl (lv_at hl 0 rfl) ?_
  refine z_get (A d0) hZ (ci := 3) (j := 1) ho_x0.1 ho_x0.2 (by decide) (by decide) k_fl_RX3_15 (v := .int (mI M x0 1)) rfl dX3_tell_1 ?_
  refine lv_aload_n hx hb dX3_tell_4 rfl (lv_at hl 0 rfl) ?_
  refine z_get (A d0) hZ (ci := 3) (j := 0) ho_x0.1 ho_x0.2 (by decide) (by decide) k_fl_RX3_9 (v := .ref (base + (x0 + 1))) (zv_fin (zf3_0 ho_x0) rfl) dX3_tell_5 ?_
  refine z_alen (A d0) hZ (isA_W1 hZ.k0 ho_x0) 0 rfl dX3_tell_8 ?_
  refine lv_icmp_ge (tgt := 32) hx hb dX3_tell_9 (by decide) (fun hc => ?_) (fun hc => ?_)
  · replace h := h.1 hc
    exact (zb_X3_tell_32 A hr hd0 hZ (lv_sub hl [] rfl) h)
  · replace h := h.2 hc
    refine lv_aload_n hx hb dX3_tell_12 rfl (lv_at hl 0 rfl) ?_
    refine z_get (A d0) hZ (ci := 3) (j := 0) ho_x0.1 ho_x0.2 (by decide) (by decide) k_fl_RX3_9 (v := .ref (base + (x0 + 1))) (zv_fin (zf3_0 ho_x0) rfl) dX3_tell_13 ?_
    refine lv_aload_n hx hb dX3_tell_16 rfl (lv_at hl 0 rfl) ?_
    refine z_get (A d0) hZ (ci := 3) (j := 1) ho_x0.1 ho_x0.2 (by decide) (by decide) k_fl_RX3_15 (v := .int (mI M x0 1)) rfl dX3_tell_17 ?_
    refine lv_iload_n hx hb dX3_tell_20 rfl (lv_at hl 1 rfl) ?_
    obtain ⟨hin, h⟩ := h
    obtain ⟨M1, eM1⟩ : ∃ y : Mem, y = sI M (x0 + 1) (mI M x0 1).toNatClampNeg x1 := ⟨_, rfl⟩
    refine z_iast (A d0) hZ (isA_W1 hZ.k0 ho_x0) hin dX3_tell_21 (fun H locs hZ => ?_)
    rw [← eM1] at hZ
    have hm : mz M1 = mz M := by rw [eM1] <;> rfl
    have ho_x0 := isO_le (Nat.le_of_eq hm.symm) ho_x0
    replace h := h M1 eM1
    refine lv_aload_n hx hb dX3_tell_22 rfl (lv_at hl 0 rfl) ?_
    refine lv_dup hx hb dX3_tell_23 rfl ?_
    refine z_get (A d0) hZ (ci := 3) (j := 1) ho_x0.1 ho_x0.2 (by decide) (by decide) k_fl_RX3_15 (v := .int (mI M1 x0 1)) rfl dX3_tell_24 ?_
    refine lv_iconst (v := (1 : Int32)) hx hb dX3_tell_27 (by decide) ?_
    refine lv_iadd hx hb dX3_tell_28 ?_
    obtain ⟨M2, eM2⟩ : ∃ y : Mem, y = sI M1 x0 1 ((mI M1 x0 1) + (1 : Int32)) := ⟨_, rfl⟩
    refine z_put (A d0) hZ (ci := 3) (j := 1) (M' := M2) ho_x0.1 ho_x0.2 (by decide) (by decide) k_fl_RX3_15 rfl (by rw [eM2]; exact zUpd_I) rfl rfl dX3_tell_29 (fun H locs hZ => ?_)
    have hm : mz M2 = mz M1 := by rw [eM2] <;> rfl
    have ho_x0 := isO_le (Nat.le_of_eq hm.symm) ho_x0
    replace h := h M2 eM2
    exact (zb_X3_tell_32 A hr hd0 hZ (lv_sub hl [] rfl) h)
/-! cX3_descend -/
set_option maxRecDepth 100000 in
set_option maxHeartbeats 4000000 in
theorem zb_X3_descend_105 {p : Program} {l : Launch} {e : Env} {R : Room} {s : State} {m : MethodId} {args : Array Value} {below : List Frame} {meth : Method} {c : Code} {G : ZG} {base z0 : Nat} {Q : Int32 → Mem → Prop} (A : ∀ d, Amb p R (s.setDrawn d) m args meth c G base z0 cX3_descend yX3_descend.cls 9 2 49) (hr : meth.sig.returnType = (some .int)) {K53 : Nat → Nat → Int32 → Int64 → Nat → Int32 → Int32 → Int32 → Mem → Prop} {K111 : Nat → Int32 → Nat → Int32 → Int32 → Mem → Prop} {d0 : Drawn} {H : Heap} {locs : List Loc} {cells slots : Nat} {ls : Array Slot} {x0 : Nat} {x1 : Nat} {x2 : Int32} {x3 : Int64} {x5 : Nat} {x6 : Int32} {x8 : Int32} {t0 : Int32} {t1 : Int32} {M : Mem} (ho_x0 : isO M x0 3) (ho_x1 : isO M x1 2) (ho_x5 : isO M x5 0) (hd0 : s.drawn.sameBut d0 lw_cs) (hZ : ZH G true base s.heap M H locs) (hl : lv_has ls 9 [(0, .ref (base + x0)), (1, .ref (base + x1)), (2, .int x2), (3, .long x3), (5, .ref (base + x5)), (6, .int x6), (8, .int x8)]) (h : wp_X3_descend_105 x0 x1 x2 x3 x5 x6 x8 t0 t1 M Q K53 K111) (hK53 : ∀ {d0 : Drawn} {H : Heap} {locs : List Loc} {cells slots : Nat} {ls : Array Slot} {x0 : Nat} {x1 : Nat} {x2 : Int32} {x3 : Int64} {x5 : Nat} {x6 : Int32} {x7 : Int32} {x8 : Int32} {M : Mem} (ho_x0 : isO M x0 3) (ho_x1 : isO M x1 2) (ho_x5 : isO M x5 0), s.drawn.sameBut d0 lw_cs → ZH G true base s.heap M H locs → lv_has ls 9 [(0, .ref (base + x0)), (1, .ref (base + x1)), (2, .int x2), (3, .long x3), (5, .ref (base + x5)), (6, .int x6), (7, .int x7), (8, .int x8)] → K53 x0 x1 x2 x3 x5 x6 x7 x8 M → W p l e R (s.setDrawn d0) m args below meth c H locs cells slots (ZEnd below G true base z0 (qI Q) args s) (F0 m 53 ls [])) (hK111 : ∀ {d0 : Drawn} {H : Heap} {locs : List Loc} {cells slots : Nat} {ls : Array Slot} {x0 : Nat} {x2 : Int32} {x5 : Nat} {x6 : Int32} {x7 : Int32} {M : Mem} (ho_x0 : isO M x0 3) (ho_x5 : isO M x5 0), s.drawn.sameBut d0 lw_cs → ZH G true base s.heap M H locs → lv_has ls 9 [(0, .ref (base + x0)), (2, .int x2), (5, .ref (base + x5)), (6, .int x6), (7, .int x7)] → K111 x0 x2 x5 x6 x7 M → W p l e R (s.setDrawn d0) m args below meth c H locs cells slots (ZEnd below G true base z0 (qI Q) args s) (F0 m 111 ls [])) : W p l e R (s.setDrawn d0) m args below meth c H locs cells slots (ZEnd below G true base z0 (qI Q) args s) (F0 m 105 ls [.int t0, .int t1]) := by
  have hx := (A d0).1
  have hb := (A d0).2.1
  unfold wp_X3_descend_105 at h
  refine lv_isub hx hb dX3_descend_105 ?_
  obtain ⟨i4, ei4⟩ : ∃ y : Int32, y = t1 - t0 := ⟨_, rfl⟩
  rw [← ei4]
  replace h := h i4 ei4
  refine lv_istore (lv' := [(7, .int i4), (0, .ref (base + x0)), (1, .ref (base + x1)), (2, .int x2), (3, .long x3), (5, .ref (base + x5)), (6, .int x6), (8, .int x8)]) hx hb dX3_descend_106 hl (by decide) rfl (fun ls hl2 => ?_)
  replace hl := hl2
  refine lv_goto (tgt := 53) hx hb dX3_descend_108 (by decide) ?_
  exact hK53 ho_x0 ho_x1 ho_x5 hd0 hZ (lv_sub hl [1, 2, 3, 4, 5, 6, 0, 7] rfl) h
set_option maxRecDepth 100000 in
set_option maxHeartbeats 4000000 in
theorem zb_X3_descend_111 {p : Program} {l : Launch} {e : Env} {R : Room} {s : State} {m : MethodId} {args : Array Value} {below : List Frame} {meth : Method} {c : Code} {G : ZG} {base z0 : Nat} {Q : Int32 → Mem → Prop} (A : ∀ d, Amb p R (s.setDrawn d) m args meth c G base z0 cX3_descend yX3_descend.cls 9 2 49) (hr : meth.sig.returnType = (some .int)) {d0 : Drawn} {H : Heap} {locs : List Loc} {cells slots : Nat} {ls : Array Slot} {x0 : Nat} {x2 : Int32} {x5 : Nat} {x6 : Int32} {x7 : Int32} {M : Mem} (ho_x0 : isO M x0 3) (ho_x5 : isO M x5 0) (hd0 : s.drawn.sameBut d0 lw_cs) (hZ : ZH G true base s.heap M H locs) (hl : lv_has ls 9 [(0, .ref (base + x0)), (2, .int x2), (5, .ref (base + x5)), (6, .int x6), (7, .int x7)]) (h : wp_X3_descend_111 x0 x2 x5 x6 x7 M Q) : W p l e R (s.setDrawn d0) m args below meth c H locs cells slots (ZEnd below G true base z0 (qI Q) args s) (F0 m 111 ls []) := by
  have hx := (A d0).1
  have hb := (A d0).2.1
  unfold wp_X3_descend_111 at h
  refine lv_aload_n hx hb dX3_descend_111 rfl (lv_at hl 0 rfl) ?_
  refine lv_iload_n hx hb dX3_descend_112 rfl (lv_at hl 1 rfl) ?_
  refine z_callV A hd0 hZ (ci := 3) (nA := 1) (As := [.int x2]) (by decide) ho_x0 (c_X3_tell l G base M x0 x2 _ h) k_ml_RX3_48 k_im_yX3_tell k_se_yX3_tell k_in_RX3 k_co_yX3_tell (by decide +kernel) ⟨by decide, by decide⟩ rfl rfl (Nat.le_of_ble_eq_true rfl) hl dX3_descend_113 (fun v M5 H locs d0 cells slots hq hd0 hZ hm => ?_)
  clear h
  obtain ⟨rfl, h⟩ := hq
  have ho_x0 := isO_le hm ho_x0
  have ho_x5 := isO_le hm ho_x5
  refine lv_aload_n hx hb dX3_descend_116 rfl (lv_at hl 0 rfl) ?_
  refine lv_iload hx hb dX3_descend_117 (lv_at hl 3 rfl) ?_
  refine z_callV A hd0 hZ (ci := 3) (nA := 1) (As := [.int x6]) (by decide) ho_x0 (c_X3_tell l G base M5 x0 x6 _ h) k_ml_RX3_48 k_im_yX3_tell k_se_yX3_tell k_in_RX3 k_co_yX3_tell (by decide +kernel) ⟨by decide, by decide⟩ rfl rfl (Nat.le_of_ble_eq_true rfl) hl dX3_descend_119 (fun v M6 H locs d0 cells slots hq hd0 hZ hm => ?_)
  clear h
  obtain ⟨rfl, h⟩ := hq
  have ho_x0 := isO_le hm ho_x0
  have ho_x5 := isO_le hm ho_x5
  refine lv_aload_n hx hb dX3_descend_122 rfl (lv_at hl 0 rfl) ?_
  refine lv_iload hx hb dX3_descend_123 (lv_at hl 4 rfl) ?_
  refine z_callV A hd0 hZ (ci := 3) (nA := 1) (As := [.int x7]) (by decide) ho_x0 (c_X3_tell l G base M6 x0 x7 _ h) k_ml_RX3_48 k_im_yX3_tell k_se_yX3_tell k_in_RX3 k_co_yX3_tell (by decide +kernel) ⟨by decide, by decide⟩ rfl rfl (Nat.le_of_ble_eq_true rfl) hl dX3_descend_125 (fun v M7 H locs d0 cells slots hq hd0 hZ hm => ?_)
  clear h
  obtain ⟨rfl, h⟩ := hq
  have ho_x0 := isO_le hm ho_x0
  have ho_x5 := isO_le hm ho_x5
  refine lv_aload hx hb dX3_descend_128 (lv_at hl 2 rfl) ?_
  refine z_getN (A d0) hZ (ci := 0) (j := 2) ho_x5.1 ho_x5.2 (by decide) (by decide) k_fn_RX3_76 (v := .int (mI M7 x5 2)) rfl dX3_descend_130 ?_
  refine lv_iload hx hb dX3_descend_133 (lv_at hl 4 rfl) ?_
  refine lv_iadd hx hb dX3_descend_135 ?_
  exact z_iret A hd0 hZ hr ⟨_, rfl, h⟩ dX3_descend_136
set_option maxRecDepth 100000 in
set_option maxHeartbeats 4000000 in
theorem zb_X3_descend_91 {p : Program} {l : Launch} {e : Env} {R : Room} {s : State} {m : MethodId} {args : Array Value} {below : List Frame} {meth : Method} {c : Code} {G : ZG} {base z0 : Nat} {Q : Int32 → Mem → Prop} (A : ∀ d, Amb p R (s.setDrawn d) m args meth c G base z0 cX3_descend yX3_descend.cls 9 2 49) (hr : meth.sig.returnType = (some .int)) {K53 : Nat → Nat → Int32 → Int64 → Nat → Int32 → Int32 → Int32 → Mem → Prop} {K111 : Nat → Int32 → Nat → Int32 → Int32 → Mem → Prop} {d0 : Drawn} {H : Heap} {locs : List Loc} {cells slots : Nat} {ls : Array Slot} {x0 : Nat} {x1 : Nat} {x2 : Int32} {x3 : Int64} {x5 : Nat} {x6 : Int32} {x7 : Int32} {t0 : Int32} {M : Mem} (ho_x0 : isO M x0 3) (ho_x1 : isO M x1 2) (ho_x5 : isO M x5 0) (hd0 : s.drawn.sameBut d0 lw_cs) (hZ : ZH G true base s.heap M H locs) (hl : lv_has ls 9 [(0, .ref (base + x0)), (1, .ref (base + x1)), (2, .int x2), (3, .long x3), (5, .ref (base + x5)), (6, .int x6), (7, .int x7)]) (h : wp_X3_descend_91 x0 x1 x2 x3 x5 x6 x7 t0 M Q K53 K111) (hK53 : ∀ {d0 : Drawn} {H : Heap} {locs : List Loc} {cells slots : Nat} {ls : Array Slot} {x0 : Nat} {x1 : Nat} {x2 : Int32} {x3 : Int64} {x5 : Nat} {x6 : Int32} {x7 : Int32} {x8 : Int32} {M : Mem} (ho_x0 : isO M x0 3) (ho_x1 : isO M x1 2) (ho_x5 : isO M x5 0), s.drawn.sameBut d0 lw_cs → ZH G true base s.heap M H locs → lv_has ls 9 [(0, .ref (base + x0)), (1, .ref (base + x1)), (2, .int x2), (3, .long x3), (5, .ref (base + x5)), (6, .int x6), (7, .int x7), (8, .int x8)] → K53 x0 x1 x2 x3 x5 x6 x7 x8 M → W p l e R (s.setDrawn d0) m args below meth c H locs cells slots (ZEnd below G true base z0 (qI Q) args s) (F0 m 53 ls [])) (hK111 : ∀ {d0 : Drawn} {H : Heap} {locs : List Loc} {cells slots : Nat} {ls : Array Slot} {x0 : Nat} {x2 : Int32} {x5 : Nat} {x6 : Int32} {x7 : Int32} {M : Mem} (ho_x0 : isO M x0 3) (ho_x5 : isO M x5 0), s.drawn.sameBut d0 lw_cs → ZH G true base s.heap M H locs → lv_has ls 9 [(0, .ref (base + x0)), (2, .int x2), (5, .ref (base + x5)), (6, .int x6), (7, .int x7)] → K111 x0 x2 x5 x6 x7 M → W p l e R (s.setDrawn d0) m args below meth c H locs cells slots (ZEnd below G true base z0 (qI Q) args s) (F0 m 111 ls [])) : W p l e R (s.setDrawn d0) m args below meth c H locs cells slots (ZEnd below G true base z0 (qI Q) args s) (F0 m 91 ls [.int t0]) := by
  have hx := (A d0).1
  have hb := (A d0).2.1
  unfold wp_X3_descend_91 at h
  refine lv_istore (lv' := [(8, .int t0), (0, .ref (base + x0)), (1, .ref (base + x1)), (2, .int x2), (3, .long x3), (5, .ref (base + x5)), (6, .int x6), (7, .int x7)]) hx hb dX3_descend_91 hl (by decide) rfl (fun ls hl2 => ?_)
  replace hl := hl2
  refine lv_iload hx hb dX3_descend_93 (lv_at hl 7 rfl) ?_
  refine lv_iload hx hb dX3_descend_95 (lv_at hl 0 rfl) ?_
  refine lv_if_eq (tgt := 104) hx hb dX3_descend_97 (by decide) (fun hc => ?_) (fun hc => ?_)
  · replace h := h.1 hc
    refine lv_iconst (v := (0 : Int32)) hx hb dX3_descend_104 (by decide) ?_
    exact (zb_X3_descend_105 A hr ho_x0 ho_x1 ho_x5 hd0 hZ (lv_sub hl [1, 2, 3, 4, 5, 6, 0] rfl) h hK53 hK111)
  · replace h := h.2 hc
    refine lv_iconst (v := (1 : Int32)) hx hb dX3_descend_100 (by decide) ?_
    refine lv_goto (tgt := 105) hx hb dX3_descend_101 (by decide) ?_
    exact (zb_X3_descend_105 A hr ho_x0 ho_x1 ho_x5 hd0 hZ (lv_sub hl [1, 2, 3, 4, 5, 6, 0] rfl) h hK53 hK111)
set_option maxRecDepth 100000 in
set_option maxHeartbeats 4000000 in
theorem zb_X3_descend_53 {p : Program} {l : Launch} {e : Env} {R : Room} {s : State} {m : MethodId} {args : Array Value} {below : List Frame} {meth : Method} {c : Code} {G : ZG} {base z0 : Nat} {Q : Int32 → Mem → Prop} (A : ∀ d, Amb p R (s.setDrawn d) m args meth c G base z0 cX3_descend yX3_descend.cls 9 2 49) (hr : meth.sig.returnType = (some .int)) {K111 : Nat → Int32 → Nat → Int32 → Int32 → Mem → Prop} :
  ∀ (n : Nat) {d0 : Drawn} {H : Heap} {locs : List Loc} {cells slots : Nat} {ls : Array Slot} {x0 : Nat} {x1 : Nat} {x2 : Int32} {x3 : Int64} {x5 : Nat} {x6 : Int32} {x7 : Int32} {x8 : Int32} {M : Mem} (ho_x0 : isO M x0 3) (ho_x1 : isO M x1 2) (ho_x5 : isO M x5 0) (hd0 : s.drawn.sameBut d0 lw_cs) (hZ : ZH G true base s.heap M H locs) (hl : lv_has ls 9 [(0, .ref (base + x0)), (1, .ref (base + x1)), (2, .int x2), (3, .long x3), (5, .ref (base + x5)), (6, .int x6), (7, .int x7), (8, .int x8)]) (h : wp_X3_descend_53 n x0 x1 x2 x3 x5 x6 x7 x8 M Q K111) (hK111 : ∀ {d0 : Drawn} {H : Heap} {locs : List Loc} {cells slots : Nat} {ls : Array Slot} {x0 : Nat} {x2 : Int32} {x5 : Nat} {x6 : Int32} {x7 : Int32} {M : Mem} (ho_x0 : isO M x0 3) (ho_x5 : isO M x5 0), s.drawn.sameBut d0 lw_cs → ZH G true base s.heap M H locs → lv_has ls 9 [(0, .ref (base + x0)), (2, .int x2), (5, .ref (base + x5)), (6, .int x6), (7, .int x7)] → K111 x0 x2 x5 x6 x7 M → W p l e R (s.setDrawn d0) m args below meth c H locs cells slots (ZEnd below G true base z0 (qI Q) args s) (F0 m 111 ls [])), W p l e R (s.setDrawn d0) m args below meth c H locs cells slots (ZEnd below G true base z0 (qI Q) args s) (F0 m 53 ls []) := by
  have hx := (A default).1
  have hb := (A default).2.1
  intro n
  induction n with
  | zero => intro d0 H locs cells slots ls x0 x1 x2 x3 x5 x6 x7 x8 M ho_x0 ho_x1 ho_x5 hd0 hZ hl h hK111; exact h.elim
  | succ n ih =>
    intro d0 H locs cells slots ls x0 x1 x2 x3 x5 x6 x7 x8 M ho_x0 ho_x1 ho_x5 hd0 hZ hl h hK111
    unfold wp_X3_descend_53 at h
    refine lv_iload hx hb dX3_descend_53 (lv_at hl 6 rfl) ?_
    refine lv_if_le (tgt := 111) hx hb dX3_descend_55 (by decide) (fun hc => ?_) (fun hc => ?_)
    · replace h := h.1 hc
      exact hK111 ho_x0 ho_x5 hd0 hZ (lv_sub hl [0, 2, 4, 5, 6] rfl) h
    · replace h := h.2 hc
      refine lv_iload hx hb dX3_descend_58 (lv_at hl 7 rfl) ?_
      refine lv_if_eq (tgt := 111) hx hb dX3_descend_60 (by decide) (fun hc => ?_) (fun hc => ?_)
      · replace h := h.1 hc
        exact hK111 ho_x0 ho_x5 hd0 hZ (lv_sub hl [0, 2, 4, 5, 6] rfl) h
      · replace h := h.2 hc
        refine lv_aload_n hx hb dX3_descend_63 rfl (lv_at hl 0 rfl) ?_
        refine lv_dup hx hb dX3_descend_64 rfl ?_
        refine z_get (A d0) hZ (ci := 3) (j := 2) ho_x0.1 ho_x0.2 (by decide) (by decide) k_fl_RX3_19 (v := .int (mI M x0 2)) rfl dX3_descend_65 ?_
        refine lv_iconst (v := (1 : Int32)) hx hb dX3_descend_68 (by decide) ?_
        refine lv_iadd hx hb dX3_descend_69 ?_
        obtain ⟨M1, eM1⟩ : ∃ y : Mem, y = sI M x0 2 ((mI M x0 2) + (1 : Int32)) := ⟨_, rfl⟩
        refine z_put (A d0) hZ (ci := 3) (j := 2) (M' := M1) ho_x0.1 ho_x0.2 (by decide) (by decide) k_fl_RX3_19 rfl (by rw [eM1]; exact zUpd_I) rfl rfl dX3_descend_70 (fun H locs hZ => ?_)
        have hm : mz M1 = mz M := by rw [eM1] <;> rfl
        have ho_x0 := isO_le (Nat.le_of_eq hm.symm) ho_x0
        have ho_x1 := isO_le (Nat.le_of_eq hm.symm) ho_x1
        have ho_x5 := isO_le (Nat.le_of_eq hm.symm) ho_x5
        replace h := h M1 eM1
        refine lv_aload_n hx hb dX3_descend_73 rfl (lv_at hl 1 rfl) ?_
        refine lv_aload hx hb dX3_descend_74 (lv_at hl 4 rfl) ?_
        refine lv_iload hx hb dX3_descend_76 (lv_at hl 6 rfl) ?_
        refine z_callV A hd0 hZ (ci := 2) (nA := 2) (As := [vr base (some x5), .int x7]) (by decide) ho_x1 (c_X2_keyOf l G base M1 x1 (some x5) x7 _ h) k_ml_RX3_56 k_im_yX2_keyOf k_se_yX2_keyOf k_in_RX2 k_co_yX2_keyOf (by decide +kernel) ⟨by decide, by decide⟩ rfl rfl (Nat.le_of_ble_eq_true rfl) hl dX3_descend_78 (fun v M2 H locs d0 cells slots hq hd0 hZ hm => ?_)
        clear h
        obtain ⟨j3, rfl, h⟩ := hq
        have ho_x0 := isO_le hm ho_x0
        have ho_x1 := isO_le hm ho_x1
        have ho_x5 := isO_le hm ho_x5
        refine lv_lload_n hx hb dX3_descend_81 rfl (lv_at hl 3 rfl) ?_
        refine z_lc_le (tgt := 90) hx hb dX3_descend_82 dX3_descend_83 (by decide) (fun hc => ?_) (fun hc => ?_)
        · replace h := h.1 hc
          refine lv_iconst (v := (0 : Int32)) hx hb dX3_descend_90 (by decide) ?_
          exact (zb_X3_descend_91 A hr ho_x0 ho_x1 ho_x5 hd0 hZ (lv_sub hl [0, 1, 2, 3, 4, 5, 6] rfl) h (fun ho_x0 ho_x1 ho_x5 hd0 hZ hl h => ih ho_x0 ho_x1 ho_x5 hd0 hZ hl h hK111) hK111)
        · replace h := h.2 hc
          refine lv_iconst (v := (1 : Int32)) hx hb dX3_descend_86 (by decide) ?_
          refine lv_goto (tgt := 91) hx hb dX3_descend_87 (by decide) ?_
          exact (zb_X3_descend_91 A hr ho_x0 ho_x1 ho_x5 hd0 hZ (lv_sub hl [0, 1, 2, 3, 4, 5, 6] rfl) h (fun ho_x0 ho_x1 ho_x5 hd0 hZ hl h => ih ho_x0 ho_x1 ho_x5 hd0 hZ hl h hK111) hK111)
set_option maxRecDepth 100000 in
set_option maxHeartbeats 4000000 in
theorem c_X3_descend (l : Launch) (G : ZG) (base : Nat) (M : Mem) (x0 : Nat) (x1 : Option Nat) (x2 : Int32) (x3 : Int64) (Q : Int32 → Mem → Prop) (h : wp_X3_descend x0 x1 x2 x3 M Q) : ZMet l yX3_descend cX3_descend 9 (some .int) 2 49 G true base M [.ref (base + x0), vr base x1, .int x2, .long x3] (qI Q) := by
  refine z_start (by decide) (by simp [lg_sl, cat_vr, cat_r, cat_i, cat_l, cat_d]) k_co_yX3_descend ?_
  intro p e s m below meth c R d0 H locs cells slots ls A hr hn hd0 hZ hl
  have hx := (A d0).1
  have hb := (A d0).2.1
  have hl : lv_has ls 9 [(0, .ref (base + x0)), (1, vr base x1), (2, .int x2), (3, .long x3)] := by simpa [lv_args, cat_vr, cat_r, cat_i, cat_l, cat_d] using hl
  unfold wp_X3_descend at h
  obtain ⟨ho_x0, h⟩ := h
  refine z_aload_n (base := base) hx hb dX3_descend_0 rfl (lv_at hl 1 rfl) ?_
  refine lv_iload_n hx hb dX3_descend_1 rfl (lv_at hl 2 rfl) ?_
  obtain ⟨a8, rfl, ho_a8, h⟩ := h
  refine z_callV A hd0 hZ (ci := 2) (nA := 1) (As := [.int x2]) (by decide) ho_a8 (c_X2_pieceAt l G base M a8 x2 _ h) k_ml_RX3_52 k_im_yX2_pieceAt k_se_yX2_pieceAt k_in_RX2 k_co_yX2_pieceAt (by decide +kernel) ⟨by decide, by decide⟩ rfl rfl (Nat.le_of_ble_eq_true rfl) hl dX3_descend_2 (fun v M9 H locs d0 cells slots hq hd0 hZ hm => ?_)
  clear h
  obtain ⟨r10, rfl, h⟩ := hq
  have ho_x0 := isO_le hm ho_x0
  have ho_a8 := isO_le hm ho_a8
  refine z_astore (lv' := [(5, vr base r10), (0, .ref (base + x0)), (1, .ref (base + a8)), (2, .int x2), (3, .long x3)]) hx hb dX3_descend_5 hl (by decide) rfl (fun ls hl2 => ?_)
  replace hl := hl2
  refine z_aload (base := base) hx hb dX3_descend_7 (lv_at hl 0 rfl) ?_
  refine z_ifnonnull (base := base) (tgt := 14) hx hb dX3_descend_9 (by decide) (fun a11 hc => ?_) (fun hc => ?_)
  · replace h := h.2 a11 hc
    subst hc
    refine lv_aload hx hb dX3_descend_14 (lv_at hl 0 rfl) ?_
    refine lv_lload_n hx hb dX3_descend_16 rfl (lv_at hl 4 rfl) ?_
    refine lv_aload_n hx hb dX3_descend_17 rfl (lv_at hl 2 rfl) ?_
    refine lv_aload hx hb dX3_descend_18 (lv_at hl 0 rfl) ?_
    refine lv_iconst (v := (0 : Int32)) hx hb dX3_descend_20 (by decide) ?_
    refine z_callV A hd0 hZ (ci := 2) (nA := 2) (As := [vr base (some a11), .int (0 : Int32)]) (by decide) ho_a8 (c_X2_keyOf l G base M9 a8 (some a11) (0 : Int32) _ h) k_ml_RX3_56 k_im_yX2_keyOf k_se_yX2_keyOf k_in_RX2 k_co_yX2_keyOf (by decide +kernel) ⟨by decide, by decide⟩ rfl rfl (Nat.le_of_ble_eq_true rfl) hl dX3_descend_21 (fun v M12 H locs d0 cells slots hq hd0 hZ hm => ?_)
    clear h
    obtain ⟨j13, rfl, h⟩ := hq
    have ho_x0 := isO_le hm ho_x0
    have ho_a8 := isO_le hm ho_a8
    refine lv_lsub hx hb dX3_descend_24 ?_
    obtain ⟨ho_14, h⟩ := h
    refine z_callV A hd0 hZ (ci := 0) (nA := 1) (As := [.long (x3 - j13)]) (by decide) ho_14 (c_X0_guessAway l G base M12 a11 (x3 - j13) _ h) k_ml_RX3_60 k_im_yX0_guessAway k_se_yX0_guessAway k_in_RX0 k_co_yX0_guessAway (by decide +kernel) ⟨by decide, by decide⟩ rfl rfl (Nat.le_of_ble_eq_true rfl) hl dX3_descend_25 (fun v M15 H locs d0 cells slots hq hd0 hZ hm => ?_)
    clear h
    obtain ⟨i16, rfl, h⟩ := hq
    have ho_x0 := isO_le hm ho_x0
    have ho_a8 := isO_le hm ho_a8
    have ho_14 := isO_le hm ho_14
    refine lv_istore (lv' := [(6, .int i16), (5, .ref (base + a11)), (0, .ref (base + x0)), (1, .ref (base + a8)), (2, .int x2), (3, .long x3)]) hx hb dX3_descend_28 hl (by decide) rfl (fun ls hl2 => ?_)
    replace hl := hl2
    refine lv_iload hx hb dX3_descend_30 (lv_at hl 0 rfl) ?_
    refine lv_aload hx hb dX3_descend_32 (lv_at hl 1 rfl) ?_
    refine z_getN (A d0) hZ (ci := 0) (j := 1) ho_14.1 ho_14.2 (by decide) (by decide) k_fn_RX3_66 (v := .int (mI M15 a11 1)) rfl dX3_descend_34 ?_
    refine lv_iadd hx hb dX3_descend_37 ?_
    refine lv_aload hx hb dX3_descend_38 (lv_at hl 1 rfl) ?_
    refine z_getN (A d0) hZ (ci := 0) (j := 3) ho_14.1 ho_14.2 (by decide) (by decide) k_fn_RX3_69 (v := .int (mI M15 a11 3)) rfl dX3_descend_40 ?_
    refine lv_iconst (v := (1 : Int32)) hx hb dX3_descend_43 (by decide) ?_
    refine lv_isub hx hb dX3_descend_44 ?_
    refine z_callS A hd0 hZ (nA := 2) (As := [.int (i16 + (mI M15 a11 1)), .int ((mI M15 a11 3) - (1 : Int32))]) (c_J9_min_7cf53 l G base M15 (i16 + (mI M15 a11 1)) ((mI M15 a11 3) - (1 : Int32)) _ h) k_ml_RX3_70 k_st_yJ9_min_7cf53 k_in_RJ9 k_co_yJ9_min_7cf53 (by decide +kernel) ⟨by decide, by decide⟩ rfl rfl (Nat.le_of_ble_eq_true rfl) hl dX3_descend_45 (fun v M17 H locs d0 cells slots hq hd0 hZ hm => ?_)
    clear h
    obtain ⟨i18, rfl, h⟩ := hq
    have ho_14 := isO_le hm ho_14
    have ho_x0 := isO_le hm ho_x0
    have ho_a8 := isO_le hm ho_a8
    refine lv_istore (lv' := [(7, .int i18), (6, .int i16), (5, .ref (base + a11)), (0, .ref (base + x0)), (1, .ref (base + a8)), (2, .int x2), (3, .long x3)]) hx hb dX3_descend_48 hl (by decide) rfl (fun ls hl2 => ?_)
    replace hl := hl2
    refine lv_iconst (v := (1 : Int32)) hx hb dX3_descend_50 (by decide) ?_
    refine lv_istore (lv' := [(8, .int (1 : Int32)), (7, .int i18), (6, .int i16), (5, .ref (base + a11)), (0, .ref (base + x0)), (1, .ref (base + a8)), (2, .int x2), (3, .long x3)]) hx hb dX3_descend_51 hl (by decide) rfl (fun ls hl2 => ?_)
    replace hl := hl2
    exact (Exists.elim h fun kk h => zb_X3_descend_53 A hr kk ho_x0 ho_a8 ho_14 hd0 hZ (lv_sub hl [4, 5, 6, 7, 3, 2, 1, 0] rfl) h (fun ho_x0 ho_x5 hd0 hZ hl h => (zb_X3_descend_111 A hr ho_x0 ho_x5 hd0 hZ hl h)))
  · replace h := h.1 hc
    subst hc
    refine lv_iconst (v := (0 : Int32)) hx hb dX3_descend_12 (by decide) ?_
    exact z_iret A hd0 hZ hr ⟨_, rfl, h⟩ dX3_descend_13
/-! cX3_seekLate -/
set_option maxRecDepth 100000 in
set_option maxHeartbeats 4000000 in
theorem zb_X3_seekLate_100 {p : Program} {l : Launch} {e : Env} {R : Room} {s : State} {m : MethodId} {args : Array Value} {below : List Frame} {meth : Method} {c : Code} {G : ZG} {base z0 : Nat} {Q : Mem → Prop} (A : ∀ d, Amb p R (s.setDrawn d) m args meth c G base z0 cX3_seekLate yX3_seekLate.cls 9 1 23) (hr : meth.sig.returnType = none) {K26 : Nat → Nat → Int64 → Nat → Int32 → Int32 → Mem → Prop} {K106 : Nat → Nat → Int32 → Mem → Prop} {d0 : Drawn} {H : Heap} {locs : List Loc} {cells slots : Nat} {ls : Array Slot} {x0 : Nat} {x1 : Nat} {x2 : Int64} {x4 : Nat} {x5 : Int32} {x6 : Int32} {t0 : Int32} {t1 : Nat} {M : Mem} (ho_x0 : isO M x0 3) (ho_x1 : isO M x1 2) (ho_x4 : isO M x4 0) (ho_t1 : isO M t1 3) (hd0 : s.drawn.sameBut d0 lw_cs) (hZ : ZH G true base s.heap M H locs) (hl : lv_has ls 9 [(0, .ref (base + x0)), (1, .ref (base + x1)), (2, .long x2), (4, .ref (base + x4)), (5, .int x5), (6, .int x6)]) (h : wp_X3_seekLate_100 x0 x1 x2 x4 x5 x6 t0 t1 M Q K26 K106) (hK26 : ∀ {d0 : Drawn} {H : Heap} {locs : List Loc} {cells slots : Nat} {ls : Array Slot} {x0 : Nat} {x1 : Nat} {x2 : Int64} {x4 : Nat} {x5 : Int32} {x6 : Int32} {M : Mem} (ho_x0 : isO M x0 3) (ho_x1 : isO M x1 2) (ho_x4 : isO M x4 0), s.drawn.sameBut d0 lw_cs → ZH G true base s.heap M H locs → lv_has ls 9 [(0, .ref (base + x0)), (1, .ref (base + x1)), (2, .long x2), (4, .ref (base + x4)), (5, .int x5), (6, .int x6)] → K26 x0 x1 x2 x4 x5 x6 M → W p l e R (s.setDrawn d0) m args below meth c H locs cells slots (ZEnd below G true base z0 (qV Q) args s) (F0 m 26 ls [])) (hK106 : ∀ {d0 : Drawn} {H : Heap} {locs : List Loc} {cells slots : Nat} {ls : Array Slot} {x0 : Nat} {x4 : Nat} {x5 : Int32} {M : Mem} (ho_x0 : isO M x0 3) (ho_x4 : isO M x4 0), s.drawn.sameBut d0 lw_cs → ZH G true base s.heap M H locs → lv_has ls 9 [(0, .ref (base + x0)), (4, .ref (base + x4)), (5, .int x5)] → K106 x0 x4 x5 M → W p l e R (s.setDrawn d0) m args below meth c H locs cells slots (ZEnd below G true base z0 (qV Q) args s) (F0 m 106 ls [])) : W p l e R (s.setDrawn d0) m args below meth c H locs cells slots (ZEnd below G true base z0 (qV Q) args s) (F0 m 100 ls [.int t0, .ref (base + t1)]) := by
  have hx := (A d0).1
  have hb := (A d0).2.1
  unfold wp_X3_seekLate_100 at h
  obtain ⟨M5, eM5⟩ : ∃ y : Mem, y = sI M t1 3 t0 := ⟨_, rfl⟩
  refine z_put (A d0) hZ (ci := 3) (j := 3) (M' := M5) ho_t1.1 ho_t1.2 (by decide) (by decide) k_fl_RX3_22 rfl (by rw [eM5]; exact zUpd_I) rfl rfl dX3_seekLate_100 (fun H locs hZ => ?_)
  have hm : mz M5 = mz M := by rw [eM5] <;> rfl
  have ho_x0 := isO_le (Nat.le_of_eq hm.symm) ho_x0
  have ho_x1 := isO_le (Nat.le_of_eq hm.symm) ho_x1
  have ho_x4 := isO_le (Nat.le_of_eq hm.symm) ho_x4
  replace h := h M5 eM5
  refine lv_goto (tgt := 26) hx hb dX3_seekLate_103 (by decide) ?_
  exact hK26 ho_x0 ho_x1 ho_x4 hd0 hZ (lv_sub hl [0, 1, 2, 3, 4, 5] rfl) h
set_option maxRecDepth 100000 in
set_option maxHeartbeats 4000000 in
theorem zb_X3_seekLate_106 {p : Program} {l : Launch} {e : Env} {R : Room} {s : State} {m : MethodId} {args : Array Value} {below : List Frame} {meth : Method} {c : Code} {G : ZG} {base z0 : Nat} {Q : Mem → Prop} (A : ∀ d, Amb p R (s.setDrawn d) m args meth c G base z0 cX3_seekLate yX3_seekLate.cls 9 1 23) (hr : meth.sig.returnType = none) {d0 : Drawn} {H : Heap} {locs : List Loc} {cells slots : Nat} {ls : Array Slot} {x0 : Nat} {x4 : Nat} {x5 : Int32} {M : Mem} (ho_x0 : isO M x0 3) (ho_x4 : isO M x4 0) (hd0 : s.drawn.sameBut d0 lw_cs) (hZ : ZH G true base s.heap M H locs) (hl : lv_has ls 9 [(0, .ref (base + x0)), (4, .ref (base + x4)), (5, .int x5)]) (h : wp_X3_seekLate_106 x0 x4 x5 M Q) : W p l e R (s.setDrawn d0) m args below meth c H locs cells slots (ZEnd below G true base z0 (qV Q) args s) (F0 m 106 ls []) := by
  have hx := (A d0).1
  have hb := (A d0).2.1
  unfold wp_X3_seekLate_106 at h
  refine lv_aload_n hx hb dX3_seekLate_106 rfl (lv_at hl 0 rfl) ?_
  refine lv_aload hx hb dX3_seekLate_107 (lv_at hl 1 rfl) ?_
  refine z_getN (A d0) hZ (ci := 0) (j := 4) ho_x4.1 ho_x4.2 (by decide) (by decide) k_fn_RX3_85 (v := .int (mI M x4 4)) rfl dX3_seekLate_109 ?_
  refine lv_iload hx hb dX3_seekLate_112 (lv_at hl 2 rfl) ?_
  refine lv_iadd hx hb dX3_seekLate_114 ?_
  obtain ⟨M6, eM6⟩ : ∃ y : Mem, y = sI M x0 6 ((mI M x4 4) + x5) := ⟨_, rfl⟩
  refine z_put (A d0) hZ (ci := 3) (j := 6) (M' := M6) ho_x0.1 ho_x0.2 (by decide) (by decide) k_fl_RX3_31 rfl (by rw [eM6]; exact zUpd_I) rfl rfl dX3_seekLate_115 (fun H locs hZ => ?_)
  have hm : mz M6 = mz M := by rw [eM6] <;> rfl
  have ho_x0 := isO_le (Nat.le_of_eq hm.symm) ho_x0
  have ho_x4 := isO_le (Nat.le_of_eq hm.symm) ho_x4
  replace h := h M6 eM6
  exact z_vret A hd0 hZ hr ⟨rfl, h⟩ dX3_seekLate_118
set_option maxRecDepth 100000 in
set_option maxHeartbeats 4000000 in
theorem zb_X3_seekLate_84 {p : Program} {l : Launch} {e : Env} {R : Room} {s : State} {m : MethodId} {args : Array Value} {below : List Frame} {meth : Method} {c : Code} {G : ZG} {base z0 : Nat} {Q : Mem → Prop} (A : ∀ d, Amb p R (s.setDrawn d) m args meth c G base z0 cX3_seekLate yX3_seekLate.cls 9 1 23) (hr : meth.sig.returnType = none) {K26 : Nat → Nat → Int64 → Nat → Int32 → Int32 → Mem → Prop} {K106 : Nat → Nat → Int32 → Mem → Prop} {d0 : Drawn} {H : Heap} {locs : List Loc} {cells slots : Nat} {ls : Array Slot} {x0 : Nat} {x1 : Nat} {x2 : Int64} {x4 : Nat} {x6 : Int32} {x7 : Int64} {t0 : Int32} {t1 : Int32} {M : Mem} (ho_x0 : isO M x0 3) (ho_x1 : isO M x1 2) (ho_x4 : isO M x4 0) (hd0 : s.drawn.sameBut d0 lw_cs) (hZ : ZH G true base s.heap M H locs) (hl : lv_has ls 9 [(0, .ref (base + x0)), (1, .ref (base + x1)), (2, .long x2), (4, .ref (base + x4)), (6, .int x6), (7, .long x7)]) (h : wp_X3_seekLate_84 x0 x1 x2 x4 x6 x7 t0 t1 M Q K26 K106) (hK26 : ∀ {d0 : Drawn} {H : Heap} {locs : List Loc} {cells slots : Nat} {ls : Array Slot} {x0 : Nat} {x1 : Nat} {x2 : Int64} {x4 : Nat} {x5 : Int32} {x6 : Int32} {M : Mem} (ho_x0 : isO M x0 3) (ho_x1 : isO M x1 2) (ho_x4 : isO M x4 0), s.drawn.sameBut d0 lw_cs → ZH G true base s.heap M H locs → lv_has ls 9 [(0, .ref (base + x0)), (1, .ref (base + x1)), (2, .long x2), (4, .ref (base + x4)), (5, .int x5), (6, .int x6)] → K26 x0 x1 x2 x4 x5 x6 M → W p l e R (s.setDrawn d0) m args below meth c H locs cells slots (ZEnd below G true base z0 (qV Q) args s) (F0 m 26 ls [])) (hK106 : ∀ {d0 : Drawn} {H : Heap} {locs : List Loc} {cells slots : Nat} {ls : Array Slot} {x0 : Nat} {x4 : Nat} {x5 : Int32} {M : Mem} (ho_x0 : isO M x0 3) (ho_x4 : isO M x4 0), s.drawn.sameBut d0 lw_cs → ZH G true base s.heap M H locs → lv_has ls 9 [(0, .ref (base + x0)), (4, .ref (base + x4)), (5, .int x5)] → K106 x0 x4 x5 M → W p l e R (s.setDrawn d0) m args below meth c H locs cells slots (ZEnd below G true base z0 (qV Q) args s) (F0 m 106 ls [])) : W p l e R (s.setDrawn d0) m args below meth c H locs cells slots (ZEnd below G true base z0 (qV Q) args s) (F0 m 84 ls [.int t0, .int t1]) := by
  have hx := (A d0).1
  have hb := (A d0).2.1
  unfold wp_X3_seekLate_84 at h
  refine lv_isub hx hb dX3_seekLate_84 ?_
  obtain ⟨i4, ei4⟩ : ∃ y : Int32, y = t1 - t0 := ⟨_, rfl⟩
  rw [← ei4]
  replace h := h i4 ei4
  refine lv_istore (lv' := [(5, .int i4), (0, .ref (base + x0)), (1, .ref (base + x1)), (2, .long x2), (4, .ref (base + x4)), (6, .int x6), (7, .long x7)]) hx hb dX3_seekLate_85 hl (by decide) rfl (fun ls hl2 => ?_)
  replace hl := hl2
  refine lv_aload_n hx hb dX3_seekLate_87 rfl (lv_at hl 1 rfl) ?_
  refine lv_lload hx hb dX3_seekLate_88 (lv_at hl 6 rfl) ?_
  refine lv_lload_n hx hb dX3_seekLate_90 rfl (lv_at hl 3 rfl) ?_
  refine z_lc_ne (tgt := 99) hx hb dX3_seekLate_91 dX3_seekLate_92 (by decide) (fun hc => ?_) (fun hc => ?_)
  · replace h := h.1 hc
    refine lv_iconst (v := (0 : Int32)) hx hb dX3_seekLate_99 (by decide) ?_
    exact (zb_X3_seekLate_100 A hr ho_x0 ho_x1 ho_x4 ho_x0 hd0 hZ (lv_sub hl [1, 2, 3, 4, 0, 5] rfl) h hK26 hK106)
  · replace h := h.2 hc
    refine lv_iconst (v := (1 : Int32)) hx hb dX3_seekLate_95 (by decide) ?_
    refine lv_goto (tgt := 100) hx hb dX3_seekLate_96 (by decide) ?_
    exact (zb_X3_seekLate_100 A hr ho_x0 ho_x1 ho_x4 ho_x0 hd0 hZ (lv_sub hl [1, 2, 3, 4, 0, 5] rfl) h hK26 hK106)
set_option maxRecDepth 100000 in
set_option maxHeartbeats 4000000 in
theorem zb_X3_seekLate_70 {p : Program} {l : Launch} {e : Env} {R : Room} {s : State} {m : MethodId} {args : Array Value} {below : List Frame} {meth : Method} {c : Code} {G : ZG} {base z0 : Nat} {Q : Mem → Prop} (A : ∀ d, Amb p R (s.setDrawn d) m args meth c G base z0 cX3_seekLate yX3_seekLate.cls 9 1 23) (hr : meth.sig.returnType = none) {K26 : Nat → Nat → Int64 → Nat → Int32 → Int32 → Mem → Prop} {K106 : Nat → Nat → Int32 → Mem → Prop} {d0 : Drawn} {H : Heap} {locs : List Loc} {cells slots : Nat} {ls : Array Slot} {x0 : Nat} {x1 : Nat} {x2 : Int64} {x4 : Nat} {x5 : Int32} {x7 : Int64} {t0 : Int32} {M : Mem} (ho_x0 : isO M x0 3) (ho_x1 : isO M x1 2) (ho_x4 : isO M x4 0) (hd0 : s.drawn.sameBut d0 lw_cs) (hZ : ZH G true base s.heap M H locs) (hl : lv_has ls 9 [(0, .ref (base + x0)), (1, .ref (base + x1)), (2, .long x2), (4, .ref (base + x4)), (5, .int x5), (7, .long x7)]) (h : wp_X3_seekLate_70 x0 x1 x2 x4 x5 x7 t0 M Q K26 K106) (hK26 : ∀ {d0 : Drawn} {H : Heap} {locs : List Loc} {cells slots : Nat} {ls : Array Slot} {x0 : Nat} {x1 : Nat} {x2 : Int64} {x4 : Nat} {x5 : Int32} {x6 : Int32} {M : Mem} (ho_x0 : isO M x0 3) (ho_x1 : isO M x1 2) (ho_x4 : isO M x4 0), s.drawn.sameBut d0 lw_cs → ZH G true base s.heap M H locs → lv_has ls 9 [(0, .ref (base + x0)), (1, .ref (base + x1)), (2, .long x2), (4, .ref (base + x4)), (5, .int x5), (6, .int x6)] → K26 x0 x1 x2 x4 x5 x6 M → W p l e R (s.setDrawn d0) m args below meth c H locs cells slots (ZEnd below G true base z0 (qV Q) args s) (F0 m 26 ls [])) (hK106 : ∀ {d0 : Drawn} {H : Heap} {locs : List Loc} {cells slots : Nat} {ls : Array Slot} {x0 : Nat} {x4 : Nat} {x5 : Int32} {M : Mem} (ho_x0 : isO M x0 3) (ho_x4 : isO M x4 0), s.drawn.sameBut d0 lw_cs → ZH G true base s.heap M H locs → lv_has ls 9 [(0, .ref (base + x0)), (4, .ref (base + x4)), (5, .int x5)] → K106 x0 x4 x5 M → W p l e R (s.setDrawn d0) m args below meth c H locs cells slots (ZEnd below G true base z0 (qV Q) args s) (F0 m 106 ls [])) : W p l e R (s.setDrawn d0) m args below meth c H locs cells slots (ZEnd below G true base z0 (qV Q) args s) (F0 m 70 ls [.int t0]) := by
  have hx := (A d0).1
  have hb := (A d0).2.1
  unfold wp_X3_seekLate_70 at h
  refine lv_istore (lv' := [(6, .int t0), (0, .ref (base + x0)), (1, .ref (base + x1)), (2, .long x2), (4, .ref (base + x4)), (5, .int x5), (7, .long x7)]) hx hb dX3_seekLate_70 hl (by decide) rfl (fun ls hl2 => ?_)
  replace hl := hl2
  refine lv_iload hx hb dX3_seekLate_72 (lv_at hl 5 rfl) ?_
  refine lv_iload hx hb dX3_seekLate_74 (lv_at hl 0 rfl) ?_
  refine lv_if_eq (tgt := 83) hx hb dX3_seekLate_76 (by decide) (fun hc => ?_) (fun hc => ?_)
  · replace h := h.1 hc
    refine lv_iconst (v := (0 : Int32)) hx hb dX3_seekLate_83 (by decide) ?_
    exact (zb_X3_seekLate_84 A hr ho_x0 ho_x1 ho_x4 hd0 hZ (lv_sub hl [1, 2, 3, 4, 0, 6] rfl) h hK26 hK106)
  · replace h := h.2 hc
    refine lv_iconst (v := (1 : Int32)) hx hb dX3_seekLate_79 (by decide) ?_
    refine lv_goto (tgt := 84) hx hb dX3_seekLate_80 (by decide) ?_
    exact (zb_X3_seekLate_84 A hr ho_x0 ho_x1 ho_x4 hd0 hZ (lv_sub hl [1, 2, 3, 4, 0, 6] rfl) h hK26 hK106)
set_option maxRecDepth 100000 in
set_option maxHeartbeats 4000000 in
theorem zb_X3_seekLate_26 {p : Program} {l : Launch} {e : Env} {R : Room} {s : State} {m : MethodId} {args : Array Value} {below : List Frame} {meth : Method} {c : Code} {G : ZG} {base z0 : Nat} {Q : Mem → Prop} (A : ∀ d, Amb p R (s.setDrawn d) m args meth c G base z0 cX3_seekLate yX3_seekLate.cls 9 1 23) (hr : meth.sig.returnType = none) {K106 : Nat → Nat → Int32 → Mem → Prop} :
  ∀ (n : Nat) {d0 : Drawn} {H : Heap} {locs : List Loc} {cells slots : Nat} {ls : Array Slot} {x0 : Nat} {x1 : Nat} {x2 : Int64} {x4 : Nat} {x5 : Int32} {x6 : Int32} {M : Mem} (ho_x0 : isO M x0 3) (ho_x1 : isO M x1 2) (ho_x4 : isO M x4 0) (hd0 : s.drawn.sameBut d0 lw_cs) (hZ : ZH G true base s.heap M H locs) (hl : lv_has ls 9 [(0, .ref (base + x0)), (1, .ref (base + x1)), (2, .long x2), (4, .ref (base + x4)), (5, .int x5), (6, .int x6)]) (h : wp_X3_seekLate_26 n x0 x1 x2 x4 x5 x6 M Q K106) (hK106 : ∀ {d0 : Drawn} {H : Heap} {locs : List Loc} {cells slots : Nat} {ls : Array Slot} {x0 : Nat} {x4 : Nat} {x5 : Int32} {M : Mem} (ho_x0 : isO M x0 3) (ho_x4 : isO M x4 0), s.drawn.sameBut d0 lw_cs → ZH G true base s.heap M H locs → lv_has ls 9 [(0, .ref (base + x0)), (4, .ref (base + x4)), (5, .int x5)] → K106 x0 x4 x5 M → W p l e R (s.setDrawn d0) m args below meth c H locs cells slots (ZEnd below G true base z0 (qV Q) args s) (F0 m 106 ls [])), W p l e R (s.setDrawn d0) m args below meth c H locs cells slots (ZEnd below G true base z0 (qV Q) args s) (F0 m 26 ls []) := by
  have hx := (A default).1
  have hb := (A default).2.1
  intro n
  induction n with
  | zero => intro d0 H locs cells slots ls x0 x1 x2 x4 x5 x6 M ho_x0 ho_x1 ho_x4 hd0 hZ hl h hK106; exact h.elim
  | succ n ih =>
    intro d0 H locs cells slots ls x0 x1 x2 x4 x5 x6 M ho_x0 ho_x1 ho_x4 hd0 hZ hl h hK106
    unfold wp_X3_seekLate_26 at h
    refine lv_iload hx hb dX3_seekLate_26 (lv_at hl 4 rfl) ?_
    refine lv_if_le (tgt := 106) hx hb dX3_seekLate_28 (by decide) (fun hc => ?_) (fun hc => ?_)
    · replace h := h.1 hc
      exact hK106 ho_x0 ho_x4 hd0 hZ (lv_sub hl [0, 3, 4] rfl) h
    · replace h := h.2 hc
      refine lv_iload hx hb dX3_seekLate_31 (lv_at hl 5 rfl) ?_
      refine lv_if_eq (tgt := 106) hx hb dX3_seekLate_33 (by decide) (fun hc => ?_) (fun hc => ?_)
      · replace h := h.1 hc
        exact hK106 ho_x0 ho_x4 hd0 hZ (lv_sub hl [0, 3, 4] rfl) h
      · replace h := h.2 hc
        refine lv_aload_n hx hb dX3_seekLate_36 rfl (lv_at hl 0 rfl) ?_
        refine lv_dup hx hb dX3_seekLate_37 rfl ?_
        refine z_get (A d0) hZ (ci := 3) (j := 2) ho_x0.1 ho_x0.2 (by decide) (by decide) k_fl_RX3_19 (v := .int (mI M x0 2)) rfl dX3_seekLate_38 ?_
        refine lv_iconst (v := (1 : Int32)) hx hb dX3_seekLate_41 (by decide) ?_
        refine lv_iadd hx hb dX3_seekLate_42 ?_
        obtain ⟨M1, eM1⟩ : ∃ y : Mem, y = sI M x0 2 ((mI M x0 2) + (1 : Int32)) := ⟨_, rfl⟩
        refine z_put (A d0) hZ (ci := 3) (j := 2) (M' := M1) ho_x0.1 ho_x0.2 (by decide) (by decide) k_fl_RX3_19 rfl (by rw [eM1]; exact zUpd_I) rfl rfl dX3_seekLate_43 (fun H locs hZ => ?_)
        have hm : mz M1 = mz M := by rw [eM1] <;> rfl
        have ho_x0 := isO_le (Nat.le_of_eq hm.symm) ho_x0
        have ho_x1 := isO_le (Nat.le_of_eq hm.symm) ho_x1
        have ho_x4 := isO_le (Nat.le_of_eq hm.symm) ho_x4
        replace h := h M1 eM1
        refine lv_aload_n hx hb dX3_seekLate_46 rfl (lv_at hl 1 rfl) ?_
        refine lv_aload hx hb dX3_seekLate_47 (lv_at hl 3 rfl) ?_
        refine lv_iload hx hb dX3_seekLate_49 (lv_at hl 4 rfl) ?_
        refine lv_iconst (v := (1 : Int32)) hx hb dX3_seekLate_51 (by decide) ?_
        refine lv_isub hx hb dX3_seekLate_52 ?_
        refine z_callV A hd0 hZ (ci := 2) (nA := 2) (As := [vr base (some x4), .int (x5 - (1 : Int32))]) (by decide) ho_x1 (c_X2_lateOf l G base M1 x1 (some x4) (x5 - (1 : Int32)) _ h) k_ml_RX3_82 k_im_yX2_lateOf k_se_yX2_lateOf k_in_RX2 k_co_yX2_lateOf (by decide +kernel) ⟨by decide, by decide⟩ rfl rfl (Nat.le_of_ble_eq_true rfl) hl dX3_seekLate_53 (fun v M2 H locs d0 cells slots hq hd0 hZ hm => ?_)
        clear h
        obtain ⟨j3, rfl, h⟩ := hq
        have ho_x0 := isO_le hm ho_x0
        have ho_x1 := isO_le hm ho_x1
        have ho_x4 := isO_le hm ho_x4
        refine lv_lstore (lv' := [(7, .long j3), (0, .ref (base + x0)), (1, .ref (base + x1)), (2, .long x2), (4, .ref (base + x4)), (5, .int x5), (6, .int x6)]) hx hb dX3_seekLate_56 hl (by decide) rfl (fun ls hl2 => ?_)
        replace hl := hl2
        refine lv_lload hx hb dX3_seekLate_58 (lv_at hl 0 rfl) ?_
        refine lv_lload_n hx hb dX3_seekLate_60 rfl (lv_at hl 3 rfl) ?_
        refine z_lc_le (tgt := 69) hx hb dX3_seekLate_61 dX3_seekLate_62 (by decide) (fun hc => ?_) (fun hc => ?_)
        · replace h := h.1 hc
          refine lv_iconst (v := (0 : Int32)) hx hb dX3_seekLate_69 (by decide) ?_
          exact (zb_X3_seekLate_70 A hr ho_x0 ho_x1 ho_x4 hd0 hZ (lv_sub hl [1, 2, 3, 4, 5, 0] rfl) h (fun ho_x0 ho_x1 ho_x4 hd0 hZ hl h => ih ho_x0 ho_x1 ho_x4 hd0 hZ hl h hK106) hK106)
        · replace h := h.2 hc
          refine lv_iconst (v := (1 : Int32)) hx hb dX3_seekLate_65 (by decide) ?_
          refine lv_goto (tgt := 70) hx hb dX3_seekLate_66 (by decide) ?_
          exact (zb_X3_seekLate_70 A hr ho_x0 ho_x1 ho_x4 hd0 hZ (lv_sub hl [1, 2, 3, 4, 5, 0] rfl) h (fun ho_x0 ho_x1 ho_x4 hd0 hZ hl h => ih ho_x0 ho_x1 ho_x4 hd0 hZ hl h hK106) hK106)
set_option maxRecDepth 100000 in
set_option maxHeartbeats 4000000 in
theorem c_X3_seekLate (l : Launch) (G : ZG) (base : Nat) (M : Mem) (x0 : Nat) (x1 : Option Nat) (x2 : Int64) (Q : Mem → Prop) (h : wp_X3_seekLate x0 x1 x2 M Q) : ZMet l yX3_seekLate cX3_seekLate 9 none 1 23 G true base M [.ref (base + x0), vr base x1, .long x2] (qV Q) := by
  refine z_start (by decide) (by simp [lg_sl, cat_vr, cat_r, cat_i, cat_l, cat_d]) k_co_yX3_seekLate ?_
  intro p e s m below meth c R d0 H locs cells slots ls A hr hn hd0 hZ hl
  have hx := (A d0).1
  have hb := (A d0).2.1
  have hl : lv_has ls 9 [(0, .ref (base + x0)), (1, vr base x1), (2, .long x2)] := by simpa [lv_args, cat_vr, cat_r, cat_i, cat_l, cat_d] using hl
  unfold wp_X3_seekLate at h
  obtain ⟨ho_x0, h⟩ := h
  refine z_aload_n (base := base) hx hb dX3_seekLate_0 rfl (lv_at hl 1 rfl) ?_
  refine lv_aload_n hx hb dX3_seekLate_1 rfl (lv_at hl 0 rfl) ?_
  refine z_get (A d0) hZ (ci := 3) (j := 4) ho_x0.1 ho_x0.2 (by decide) (by decide) k_fl_RX3_25 (v := .int (mI M x0 4)) rfl dX3_seekLate_2 ?_
  obtain ⟨a7, rfl, ho_a7, h⟩ := h
  refine z_callV A hd0 hZ (ci := 2) (nA := 1) (As := [.int (mI M x0 4)]) (by decide) ho_a7 (c_X2_pieceAt l G base M a7 (mI M x0 4) _ h) k_ml_RX3_52 k_im_yX2_pieceAt k_se_yX2_pieceAt k_in_RX2 k_co_yX2_pieceAt (by decide +kernel) ⟨by decide, by decide⟩ rfl rfl (Nat.le_of_ble_eq_true rfl) hl dX3_seekLate_5 (fun v M8 H locs d0 cells slots hq hd0 hZ hm => ?_)
  clear h
  obtain ⟨r9, rfl, h⟩ := hq
  have ho_x0 := isO_le hm ho_x0
  have ho_a7 := isO_le hm ho_a7
  refine z_astore (lv' := [(4, vr base r9), (0, .ref (base + x0)), (1, .ref (base + a7)), (2, .long x2)]) hx hb dX3_seekLate_8 hl (by decide) rfl (fun ls hl2 => ?_)
  replace hl := hl2
  refine z_aload (base := base) hx hb dX3_seekLate_10 (lv_at hl 0 rfl) ?_
  refine z_ifnonnull (base := base) (tgt := 16) hx hb dX3_seekLate_12 (by decide) (fun a10 hc => ?_) (fun hc => ?_)
  · replace h := h.2 a10 hc
    subst hc
    refine lv_aload hx hb dX3_seekLate_16 (lv_at hl 0 rfl) ?_
    obtain ⟨ho_11, h⟩ := h
    refine z_getN (A d0) hZ (ci := 0) (j := 5) ho_11.1 ho_11.2 (by decide) (by decide) k_fn_RX3_79 (v := .int (mI M8 a10 5)) rfl dX3_seekLate_18 ?_
    obtain ⟨i12, ei12⟩ : ∃ y : Int32, y = mI M8 a10 5 := ⟨_, rfl⟩
    rw [← ei12]
    replace h := h i12 ei12
    refine lv_istore (lv' := [(5, .int i12), (4, .ref (base + a10)), (0, .ref (base + x0)), (1, .ref (base + a7)), (2, .long x2)]) hx hb dX3_seekLate_21 hl (by decide) rfl (fun ls hl2 => ?_)
    replace hl := hl2
    refine lv_iconst (v := (1 : Int32)) hx hb dX3_seekLate_23 (by decide) ?_
    refine lv_istore (lv' := [(6, .int (1 : Int32)), (5, .int i12), (4, .ref (base + a10)), (0, .ref (base + x0)), (1, .ref (base + a7)), (2, .long x2)]) hx hb dX3_seekLate_24 hl (by decide) rfl (fun ls hl2 => ?_)
    replace hl := hl2
    exact (Exists.elim h fun kk h => zb_X3_seekLate_26 A hr kk ho_x0 ho_a7 ho_11 hd0 hZ (lv_sub hl [3, 4, 5, 2, 1, 0] rfl) h (fun ho_x0 ho_x4 hd0 hZ hl h => (zb_X3_seekLate_106 A hr ho_x0 ho_x4 hd0 hZ hl h)))
  · replace h := h.1 hc
    subst hc
    exact z_vret A hd0 hZ hr ⟨rfl, h⟩ dX3_seekLate_15
